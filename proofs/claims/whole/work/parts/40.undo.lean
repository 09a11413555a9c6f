/-! undo -/
theorem acC.re {σ σ' : zSo} {nx nx' : Nat} : ∀ {L : List paT} {i j : Nat} {p : paT}, acC σ nx i p L → pw p ≤ 6 → (∀ k, k < L.length → ∀ p q, pw p ≤ 6 → acU σ (acI nx (i + k)) p q → acU σ' (acI nx' (j + k)) p q) → acC σ' nx' j p L
  | [], _, _, _, _, _, _ => trivial
  | q :: t, i, j, p, h, hp, hu => by
    obtain ⟨h1, h2, h3⟩ := h
    refine ⟨hu 0 (by simp) p q hp h1, h2, h3.re h2.1.2.2.2.2.1 (fun k hk p q hpp hpq => ?_)⟩
    have := hu (k + 1) (by simp; omega) p q hpp
    rw [show i + (k + 1) = i + 1 + k from by omega, show j + (k + 1) = j + 1 + k from by omega] at this
    exact this hpq
set_option maxHeartbeats 4000000 in
set_option maxRecDepth 100000 in
theorem cl_takeBumpsBack {d e s : Nat} {σ : zSo} {Q : Option Value → zSo → Prop} (he : e < 24) (hs : s < 6) (hx : σ 57 1 = nI e)
    (hQ : ∀ σ', zFr [26, 27, 28] σ σ' → (∀ w, w < 6 → σ' 26 (6 * w + s) = σ 61 (6 * e + w) ∧ σ' 27 (6 * w + s) = σ 62 (6 * e + w) ∧ σ' 28 (6 * w + s) = σ 63 (6 * e + w)) →
      (∀ w t, t < 6 → t ≠ s → σ' 26 (6 * w + t) = σ 26 (6 * w + t) ∧ σ' 27 (6 * w + t) = σ 27 (6 * w + t) ∧ σ' 28 (6 * w + t) = σ 28 (6 * w + t)) → Q none σ') : zC (d + 1) 5 [.ref 57, .int (nI s), .ref 20] σ Q := by
  have lp : ∀ m k, k + m = 6 → ∀ σk : zSo, zFr [26, 27, 28] σ σk → (∀ w, w < k → σk 26 (6 * w + s) = σ 61 (6 * e + w) ∧ σk 27 (6 * w + s) = σ 62 (6 * e + w) ∧ σk 28 (6 * w + s) = σ 63 (6 * e + w)) →
      (∀ w t, t < 6 → t ≠ s → σk 26 (6 * w + t) = σ 26 (6 * w + t) ∧ σk 27 (6 * w + t) = σ 27 (6 * w + t) ∧ σk 28 (6 * w + t) = σ 28 (6 * w + t)) → ∀ i : Int32, i = nI k → zA (d + 1) 5 2 [(0, .ref 57), (1, .int (nI s)), (2, .ref 20), (3, .int i)] [] σk Q := by
    intro m
    induction m with
    | zero =>
      intro k hk σk hF h1 h2 i ei
      subst ei
      have : k = 6 := by omega
      subst this
      refine zA_s0 rfl ?_
      repeat refine zA_step rfl rfl ?_
      exact zA_ret rfl (hQ σk hF h1 h2)
    | succ m ih =>
      intro k hk σk hF h1 h2 i ei
      subst ei
      have hx' : σk 57 1 = nI e := by rw [hF 57 (by decide)]; exact hx
      refine zA_s0 rfl ?_
      repeat refine zA_step rfl rfl ?_
      refine zA_f (by simp (disch := omega) only [nu_lt, nu_le, nu_eq, nu_cmp_lt, nu_cmp_gt, nu_cmp_ge, nu_cmp_le, nu_wide, Int32.toInt_add, Int32.toInt_sub, Int32.toInt_mul, nu_I, Nat.reducePow, nu_bm, Int32.reduceToInt, Int64.reduceToInt]; omega) ?_
      repeat refine zA_step rfl rfl ?_
      refine zA_call rfl rfl (cl_placeOf (by omega) hs ?_)
      repeat refine zA_step rfl rfl ?_
      rw [hx']
      refine zA_ld (j := 6 * e + k) rfl (by rw [nu_eq]; simp (disch := omega) only [Int32.toInt_add, Int32.toInt_sub, Int32.toInt_mul, nu_I, Nat.reducePow, nu_bm, Int32.reduceToInt, Int64.reduceToInt]; omega) (by omega) (by decide) (v := σ 61 (6 * e + k)) (by rw [hF 61 (by decide)]) ?_
      refine zA_sto (j := 6 * k + s) rfl rfl (by omega) (by decide) ?_
      repeat refine zA_step rfl rfl ?_
      rw [show zup σk 26 (6 * k + s) (σ 61 (6 * e + k)) 57 1 = nI e from hx']
      refine zA_ld (j := 6 * e + k) rfl (by rw [nu_eq]; simp (disch := omega) only [Int32.toInt_add, Int32.toInt_sub, Int32.toInt_mul, nu_I, Nat.reducePow, nu_bm, Int32.reduceToInt, Int64.reduceToInt]; omega) (by omega) (by decide) (v := σ 62 (6 * e + k)) (by rw [zup_o _ _ _ (by decide), hF 62 (by decide)]) ?_
      refine zA_sto (j := 6 * k + s) rfl rfl (by omega) (by decide) ?_
      repeat refine zA_step rfl rfl ?_
      rw [show zup (zup σk 26 (6 * k + s) (σ 61 (6 * e + k))) 27 (6 * k + s) (σ 62 (6 * e + k)) 57 1 = nI e from hx']
      refine zA_ld (j := 6 * e + k) rfl (by rw [nu_eq]; simp (disch := omega) only [Int32.toInt_add, Int32.toInt_sub, Int32.toInt_mul, nu_I, Nat.reducePow, nu_bm, Int32.reduceToInt, Int64.reduceToInt]; omega) (by omega) (by decide) (v := σ 63 (6 * e + k)) (by rw [zup_o _ _ _ (by decide), zup_o _ _ _ (by decide), hF 63 (by decide)]) ?_
      refine zA_sto (j := 6 * k + s) rfl rfl (by omega) (by decide) ?_
      repeat refine zA_step rfl rfl ?_
      refine zA_dr rfl rfl rfl ?_
      refine ih (k + 1) (by omega) _ (((hF.up (by simp)).up (by simp)).up (by simp)) (fun w hw => ?_) (fun w t ht hts => ?_) _ (nI_1 k)
      · by_cases e1 : w = k
        · subst e1
          simp [zup, upd]
        · obtain ⟨a1, a2, a3⟩ := h1 w (by omega)
          have : ¬ 6 * w + s = 6 * k + s := by omega
          have h9 : ¬ 6 * w = 6 * k := by omega
          simp [zup, upd, this, h9, a1, a2, a3]
      · obtain ⟨a1, a2, a3⟩ := h2 w t ht hts
        have : ¬ 6 * w + t = 6 * k + s := by omega
        simp [zup, upd, this, a1, a2, a3]
  show zA (d + 1) _ 0 [(0, .ref 57), (1, .int (nI s)), (2, .ref 20)] [] σ Q
  repeat refine zA_step rfl rfl ?_
  exact lp 6 0 (by omega) σ zFr.rf (fun w hw => by omega) (fun w t _ _ => ⟨rfl, rfl, rfl⟩) 0 rfl
theorem PC.of {σ σ' : zSo} {p q : paT} (h : PC σ 20 p) (h0 : ∀ j, σ' 20 j = σ 20 j) (e1 : p.1 = q.1) (h5 : ∀ s, s < ps p → σ' (20 + 1) s = nI (pyd q s)) (h6 : ∀ w, w < pw p → σ' (20 + 2) w = nI (pk q w) ∧ σ' (20 + 3) w = nI (pa q w - py p) ∧ σ' (20 + 4) w = nI (pe q w) ∧ σ' (20 + 5) w = Int32.ofInt (pb q w))
    (h7 : ∀ w s, w < pw p → s < ps p → (pm q w s = none → σ' (20 + 7) (6 * w + s) = 0) ∧ ∀ b, pm q w s = some b → σ' (20 + 6) (6 * w + s) = nI b.1 ∧ σ' (20 + 7) (6 * w + s) = nI b.2.1 ∧ σ' (20 + 8) (6 * w + s) = nI b.2.2) : PC σ' 20 q := by
  obtain ⟨⟨a0, a1⟩, a2, a3, a4, -, -, -⟩ := h
  have f1 : pl p = pl q := by unfold pl; rw [e1]
  have f2 : pd p = pd q := by unfold pd; rw [e1]
  have f3 : py p = py q := by unfold py; rw [e1]
  have f4 : ps p = ps q := by unfold ps; rw [e1]
  have f5 : pw p = pw q := by unfold pw; rw [e1]
  unfold PC
  rw [← f1, ← f2, ← f3, ← f4, ← f5]
  simp only [h0]
  exact ⟨⟨a0, a1⟩, a2, a3, a4, h5, h6, h7⟩
set_option maxHeartbeats 4000000 in
set_option maxRecDepth 100000 in
theorem cl_takeBack {d : Nat} {σ : zSo} {Q : Option Value → zSo → Prop} {p q : paT} {t : List paT} (hC : PC σ 20 p) (hW : paW p 999) (hA : cActs σ p (q :: t))
    (hQ : ∀ σ', (∀ k, ¬ (20 ≤ k ∧ k ≤ 28) → k ≠ 57 → σ' k = σ k) → σ' 20 0 = σ 20 0 → PC σ' 20 q → cActs σ' q t → σ' 57 0 = nI t.length → Q none σ') : zC (d + 2) 3 [.ref 57, .ref 20] σ Q := by
  obtain ⟨hl, hsz, nx, hn, hx, hu, hq, hac⟩ := hA
  have ww6 := hW.2.2.2.2.1
  have ws6 := hW.2.2.2.1
  have hlt : t.length + 1 ≤ 24 := by simpa using hl
  have hsz : σ 57 0 = nI (t.length + 1) := by simpa using hsz
  generalize he : acI nx 0 = e at hu
  have he24 : e < 24 := by rw [← he]; exact Nat.mod_lt _ (by omega)
  have hen : e = if 0 < nx then nx - 1 else 23 := by
    rw [← he]
    unfold acI
    split <;> omega
  -- what holds behind size and next
  have key : ∀ σ1 : zSo, σ1 = zup (zup σ 57 0 (nI t.length)) 57 1 (nI e) → (∀ k, k ≠ 57 → σ1 k = σ k) ∧ σ1 57 1 = nI e ∧ σ1 57 0 = nI t.length := by
    intro σ1 e1
    subst e1
    refine ⟨fun k hk => by rw [zup_o _ _ _ hk, zup_o _ _ _ hk], by simp [zup_k, upd], by simp [zup_k, upd]⟩
  have fin : ∀ σ1 σ' : zSo, (∀ k, k ≠ 57 → σ1 k = σ k) → σ1 57 1 = nI e → σ1 57 0 = nI t.length → (∀ k, ¬ (20 ≤ k ∧ k ≤ 28) → σ' k = σ1 k) → σ' 20 0 = σ 20 0 → PC σ' 20 q → Q none σ' := by
    intro σ1 σ' g1 g2 g3 g4 g5 g6
    refine hQ σ' (fun k a1 a2 => by rw [g4 k a1, g1 k a2]) g5 g6 ⟨by omega, by rw [g4 _ (by omega)]; exact g3, e, he24, by rw [g4 _ (by omega)]; exact g2, hac.re hq.1.2.2.2.2.1 (fun k hk p2 q2 hp2 hpq => ?_)⟩ (by rw [g4 _ (by omega)]; exact g3)
    have : acI e (0 + k) = acI nx (0 + 1 + k) := by
      rw [hen]
      unfold acI
      split <;> omega
    rw [this]
    refine hpq.cong hp2 ?_ ?_ ?_ (fun w _ => ⟨?_, ?_, ?_⟩)
    all_goals rw [g4 _ (by omega), g1 _ (by omega)]
  -- the stretch behind
  have rest : ∀ σ1 : zSo, (∀ k, k ≠ 57 → σ1 k = σ k) → σ1 57 1 = nI e → σ1 57 0 = nI t.length → zA (d + 2) 3 40 [(0, .ref 57), (1, .ref 20)] [] σ1 Q := by
    intro σ1 g1 g2 g3
    have hC1 : PC σ1 20 p := hC.fr hW (fun k c1 c2 => g1 k (by omega))
    obtain ⟨⟨b0, b1⟩, b2, b3, b4, b5, b6, b7⟩ := id hC1
    rcases hu with ⟨u0, o, uo, u1, ⟨x1, x2, x3, x4⟩, u2⟩ | ⟨u0, o, uo, u1, ⟨x1, x2, x3, x4⟩, u2⟩ | ⟨u0, o, uo, u1, ⟨x1, x2, x3, x4⟩, u2⟩ | ⟨u0, x1, x2, x3, x4⟩
    · repeat refine zA_step rfl rfl ?_
      refine zA_ld (j := e) rfl g2 (by omega) (by decide) (v := nI o) (by rw [g1 _ (by decide)]; exact u1) ?_
      repeat refine zA_step rfl rfl ?_
      refine zA_ld (j := e) rfl g2 (by omega) (by decide) (v := 0) (by rw [g1 _ (by decide)]; exact u0) ?_
      repeat refine zA_step rfl rfl ?_
      refine zA_ld (j := e) rfl g2 (by omega) (by decide) (v := 0) (by rw [g1 _ (by decide)]; exact u0) ?_
      repeat refine zA_step rfl rfl ?_
      refine zA_ld (j := e) rfl g2 (by omega) (by decide) (v := 0) (by rw [g1 _ (by decide)]; exact u0) ?_
      repeat refine zA_step rfl rfl ?_
      refine zA_call rfl rfl (cl_takeBumpsBack he24 (by omega) g2 (fun σ2 hF c1 c2 => ?_))
      repeat refine zA_step rfl rfl ?_
      refine zA_ret rfl (fin σ1 σ2 g1 g2 g3 (fun k a => hF k (by simp only [List.mem_cons, List.not_mem_nil, or_false]; omega)) ?_ ?_)
      · rw [hF _ (by decide), g1 _ (by decide)]
      · have o2 : ∀ k, k ≤ 5 → σ2 (20 + k) = σ1 (20 + k) := fun k hk => hF _ (by simp only [List.mem_cons, List.not_mem_nil, or_false]; omega)
        refine hC1.of (fun j => by rw [show σ2 20 = σ1 20 from o2 0 (by omega)]) x1 (fun s hs => ?_) (fun w hw => ?_) (fun w s hw hs => ?_)
        · rw [o2 1 (by omega), b5 s hs, x2 s hs (fun z => z)]
        · obtain ⟨y1, y2, y3, y4⟩ := x3 w hw
          rw [o2 2 (by omega), o2 3 (by omega), o2 4 (by omega), o2 5 (by omega), ← y1, ← y2, ← y3, ← y4 (fun z => z)]
          exact b6 w hw
        · by_cases es : s = o
          · subst es
            obtain ⟨d1, d2, d3⟩ := c1 w (by omega)
            show (_ → σ2 27 _ = 0) ∧ ∀ b, _ → σ2 26 _ = _ ∧ σ2 27 _ = _ ∧ σ2 28 _ = _
            rw [d1, d2, d3, g1 _ (by decide), g1 _ (by decide), g1 _ (by decide)]
            exact u2 w hw
          · obtain ⟨d1, d2, d3⟩ := c2 w s (by omega) es
            show (_ → σ2 27 _ = 0) ∧ ∀ b, _ → σ2 26 _ = _ ∧ σ2 27 _ = _ ∧ σ2 28 _ = _
            rw [d1, d2, d3, ← x4 w s hw hs es]
            exact b7 w s hw hs
    · repeat refine zA_step rfl rfl ?_
      refine zA_ld (j := e) rfl g2 (by omega) (by decide) (v := nI o) (by rw [g1 _ (by decide)]; exact u1) ?_
      repeat refine zA_step rfl rfl ?_
      refine zA_ld (j := e) rfl g2 (by omega) (by decide) (v := 1) (by rw [g1 _ (by decide)]; exact u0) ?_
      repeat refine zA_step rfl rfl ?_
      refine zA_ld (j := e) rfl g2 (by omega) (by decide) (v := nI (pyd q o)) (by rw [g1 _ (by decide)]; exact u2) ?_
      refine zA_sto (j := o) rfl rfl (by omega) (by decide) ?_
      repeat refine zA_step rfl rfl ?_
      refine zA_ret rfl (fin σ1 _ g1 g2 g3 (fun k a => zup_o _ _ _ (by omega)) ?_ ?_)
      · rw [zup_o _ _ _ (by decide), g1 _ (by decide)]
      · have o2 : ∀ k, k ≠ 1 → zup σ1 21 o (nI (pyd q o)) (20 + k) = σ1 (20 + k) := fun k hk => zup_o _ _ _ (by omega)
        refine hC1.of (fun j => by rw [show zup σ1 21 o (nI (pyd q o)) 20 = σ1 20 from o2 0 (by omega)]) x1 (fun s hs => ?_) (fun w hw => ?_) (fun w s hw hs => ?_)
        · show zup σ1 21 o (nI (pyd q o)) 21 s = _
          rw [zup_k]
          simp only [upd]
          by_cases es : s = o
          · rw [if_pos es, es]
          · rw [if_neg es, ← x2 s hs es]; exact b5 s hs
        · obtain ⟨y1, y2, y3, y4⟩ := x3 w hw
          rw [o2 2 (by omega), o2 3 (by omega), o2 4 (by omega), o2 5 (by omega), ← y1, ← y2, ← y3, ← y4 (fun z => z)]
          exact b6 w hw
        · rw [o2 6 (by omega), o2 7 (by omega), o2 8 (by omega), ← x4 w s hw hs (fun z => z)]
          exact b7 w s hw hs
    · repeat refine zA_step rfl rfl ?_
      refine zA_ld (j := e) rfl g2 (by omega) (by decide) (v := nI o) (by rw [g1 _ (by decide)]; exact u1) ?_
      repeat refine zA_step rfl rfl ?_
      refine zA_ld (j := e) rfl g2 (by omega) (by decide) (v := 2) (by rw [g1 _ (by decide)]; exact u0) ?_
      repeat refine zA_step rfl rfl ?_
      refine zA_ld (j := e) rfl g2 (by omega) (by decide) (v := 2) (by rw [g1 _ (by decide)]; exact u0) ?_
      repeat refine zA_step rfl rfl ?_
      refine zA_ld (j := e) rfl g2 (by omega) (by decide) (v := Int32.ofInt (pb q o)) (by rw [g1 _ (by decide)]; exact u2) ?_
      refine zA_sto (j := o) rfl rfl (by omega) (by decide) ?_
      repeat refine zA_step rfl rfl ?_
      refine zA_ret rfl (fin σ1 _ g1 g2 g3 (fun k a => zup_o _ _ _ (by omega)) ?_ ?_)
      · rw [zup_o _ _ _ (by decide), g1 _ (by decide)]
      · have o2 : ∀ k, k ≠ 5 → zup σ1 25 o (Int32.ofInt (pb q o)) (20 + k) = σ1 (20 + k) := fun k hk => zup_o _ _ _ (by omega)
        refine hC1.of (fun j => by rw [show zup σ1 25 o (Int32.ofInt (pb q o)) 20 = σ1 20 from o2 0 (by omega)]) x1 (fun s hs => ?_) (fun w hw => ?_) (fun w s hw hs => ?_)
        · rw [o2 1 (by omega), ← x2 s hs (fun z => z)]; exact b5 s hs
        · obtain ⟨y1, y2, y3, y4⟩ := x3 w hw
          rw [o2 2 (by omega), o2 3 (by omega), o2 4 (by omega), ← y1, ← y2, ← y3]
          refine ⟨(b6 w hw).1, (b6 w hw).2.1, (b6 w hw).2.2.1, ?_⟩
          show zup σ1 25 o (Int32.ofInt (pb q o)) 25 w = _
          rw [zup_k]
          simp only [upd]
          by_cases es : w = o
          · rw [if_pos es, es]
          · rw [if_neg es, ← y4 es]; exact (b6 w hw).2.2.2
        · rw [o2 6 (by omega), o2 7 (by omega), o2 8 (by omega), ← x4 w s hw hs (fun z => z)]
          exact b7 w s hw hs
    · have f1 : pl p = pl q := by show p.1.1 = _; rw [x1]; rfl
      have f2 : pd p = pd q := by show p.1.2.1 = _; rw [x1]; rfl
      have f3 : py p = py q + 1 := by show p.1.2.2.1 = _; rw [x1]; rfl
      have f4 : ps p = ps q := by show p.1.2.2.2.1 = _; rw [x1]; rfl
      have f5 : pw p = pw q := by show p.1.2.2.2.2 = _; rw [x1]; rfl
      repeat refine zA_step rfl rfl ?_
      refine zA_ld (j := e) rfl g2 (by omega) (by decide) (v := σ 59 e) (by rw [g1 _ (by decide)]) ?_
      repeat refine zA_step rfl rfl ?_
      refine zA_ld (j := e) rfl g2 (by omega) (by decide) (v := 3) (by rw [g1 _ (by decide)]; exact u0) ?_
      repeat refine zA_step rfl rfl ?_
      refine zA_ld (j := e) rfl g2 (by omega) (by decide) (v := 3) (by rw [g1 _ (by decide)]; exact u0) ?_
      repeat refine zA_step rfl rfl ?_
      refine zA_ld (j := e) rfl g2 (by omega) (by decide) (v := 3) (by rw [g1 _ (by decide)]; exact u0) ?_
      repeat refine zA_step rfl rfl ?_
      rw [b4, f3, nI_pred]
      refine zA_ret rfl (fin σ1 _ g1 g2 g3 (fun k a => zup_o _ _ _ (by omega)) ?_ ?_)
      · rw [zup_k]
        show (if _ = _ then _ else σ1 20 0) = _
        rw [if_neg (by decide), g1 _ (by decide)]
      · have o2 : ∀ k, 1 ≤ k → zup σ1 20 3 (nI (py q)) (20 + k) = σ1 (20 + k) := fun k hk => zup_o _ _ _ (by omega)
        have o3 : ∀ j, j ≠ 3 → zup σ1 20 3 (nI (py q)) 20 j = σ1 20 j := fun j hj => by
          rw [zup_k]
          simp only [upd]
          rw [if_neg hj]
        unfold PC
        rw [o2 1 (by omega), o2 2 (by omega), o2 3 (by omega), o2 4 (by omega), o2 5 (by omega), o2 6 (by omega), o2 7 (by omega), o2 8 (by omega), o3 _ (by decide), o3 _ (by decide), o3 _ (by decide), o3 _ (by decide), ← f1, ← f2, ← f4, ← f5]
        refine ⟨⟨b0, b1⟩, b2, b3, by simp [zup_k, upd], fun s hs => ?_, fun w hw => ?_, fun w s hw hs => ?_⟩
        · have := x2 s hs (fun z => z)
          rw [show pyd q s = pyd p s from this.symm]
          exact b5 s hs
        · obtain ⟨y1, y2, y3, y4⟩ := x3 w hw
          obtain ⟨c1, c2, c3, c4⟩ := b6 w hw
          have y2 : pa p w = pa q w + 1 := y2
          rw [y2, f3, Nat.add_sub_add_right] at c2
          exact ⟨by rw [c1, y1]; rfl, c2, by rw [c3, y3]; rfl, by rw [c4, y4 (fun z => z)]; rfl⟩
        · have := x4 w s hw hs (fun z => z)
          rw [show pm q w s = pm p w s from this.symm]
          exact b7 w s hw hs
  show zA (d + 2) _ 0 [(0, .ref 57), (1, .ref 20)] [] σ Q
  have k0 := key _ rfl
  repeat refine zA_step rfl rfl ?_
  rw [hsz]
  refine zA_f (by simp (disch := omega) only [nu_lt, nu_le, nu_eq, nu_cmp_lt, nu_cmp_gt, nu_cmp_ge, nu_cmp_le, nu_wide, Int32.toInt_add, Int32.toInt_sub, Int32.toInt_mul, nu_I, Nat.reducePow, nu_bm, Int32.reduceToInt, Int64.reduceToInt]; omega) ?_
  repeat refine zA_step rfl rfl ?_
  rw [hsz, nI_pred, show zup σ 57 0 (nI t.length) 57 1 = nI nx from hx]
  by_cases h0 : 0 < nx
  · rw [if_pos h0] at hen
    refine zA_f (by simp (disch := omega) only [nu_lt, nu_le, nu_eq, nu_cmp_lt, nu_cmp_gt, nu_cmp_ge, nu_cmp_le, nu_wide, Int32.toInt_add, Int32.toInt_sub, Int32.toInt_mul, nu_I, Nat.reducePow, nu_bm, Int32.reduceToInt, Int64.reduceToInt]; omega) ?_
    iterate 6 refine zA_s0 rfl ?_
    rw [show zup σ 57 0 (nI t.length) 57 1 = nI nx from hx, show nI nx - 1 = nI e from by rw [hen, show nx = nx - 1 + 1 from by omega, nI_pred, show nx - 1 + 1 - 1 = nx - 1 from by omega]]
    exact rest _ k0.1 k0.2.1 k0.2.2
  · rw [if_neg h0] at hen
    refine zA_t (by simp (disch := omega) only [nu_lt, nu_le, nu_eq, nu_cmp_lt, nu_cmp_gt, nu_cmp_ge, nu_cmp_le, nu_wide, Int32.toInt_add, Int32.toInt_sub, Int32.toInt_mul, nu_I, Nat.reducePow, nu_bm, Int32.reduceToInt, Int64.reduceToInt]; omega) ?_
    iterate 2 refine zA_s0 rfl ?_
    rw [hen] at k0
    have r := rest _ k0.1 (by rw [hen]; exact k0.2.1) k0.2.2
    exact r
