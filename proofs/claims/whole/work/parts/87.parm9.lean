/-! the text of a parish: the whole of the reference -/
def qP (v : pT) : paT := ((v.1, v.2.1, 0, v.2.2.1.length, v.2.2.2.length), (fun s => v.2.2.1.getD s 0), (fun w => (v.2.2.2.getD w (1, 0, 0)).1), (fun w => (v.2.2.2.getD w (1, 0, 0)).2.1), (fun w => (v.2.2.2.getD w (1, 0, 0)).2.2), (fun _ => 0), fun _ _ => none)
theorem gD {α : Type} {l : List α} {i : Nat} {x d : α} (h : l[i]? = some x) : l.getD i d = x := by
  rw [List.getD_eq_getElem?_getD, h]; rfl
theorem qP_W {v : pT} (h1 : 1 ≤ v.1 ∧ v.1 ≤ 30) (h2 : 1 ≤ v.2.1 ∧ v.2.1 ≤ 30) (h3 : v.2.2.1.length ≤ 6) (h4 : v.2.2.2.length ≤ 6) (h5 : ∀ y ∈ v.2.2.1, y ≤ 99) (h6 : ∀ q ∈ v.2.2.2, okW q) : paW (qP v) 999 := by
  refine ⟨h1, h2, Nat.zero_le _, h3, h4, fun s hs => ?_, fun w hw => ?_, fun w s hw hs q hq => by cases hq⟩
  · obtain ⟨y, hy⟩ := tk_get (show s < v.2.2.1.length from hs)
    show v.2.2.1.getD s 0 ≤ 99
    rw [gD hy]
    exact h5 y (List.mem_of_getElem? hy)
  · obtain ⟨q, hq⟩ := tk_get (show w < v.2.2.2.length from hw)
    have ok := h6 q (List.mem_of_getElem? hq)
    show (1 ≤ (v.2.2.2.getD w (1, 0, 0)).1 ∧ (v.2.2.2.getD w (1, 0, 0)).1 ≤ 5) ∧ (0 ≤ (v.2.2.2.getD w (1, 0, 0)).2.1 ∧ (v.2.2.2.getD w (1, 0, 0)).2.1 ≤ 60 + 0) ∧ (v.2.2.2.getD w (1, 0, 0)).2.2 ≤ 99 ∧ ((-20 : Int) ≤ 0 ∧ (0 : Int) ≤ 20)
    rw [gD hq]
    exact ⟨ok.1, ⟨Nat.zero_le _, ok.2.1⟩, ok.2.2, by decide⟩
theorem PM_TQ {σ : zSo} {u : Nat → Int32} {v : pT} (h : TQ σ v.2.2.1 v.2.2.2) (h0 : σ 75 0 = nI v.1) (h1 : σ 75 1 = nI v.2.1) (h3 : v.2.2.1.length ≤ 6) (h4 : v.2.2.2.length ≤ 6) (hu : ∀ j, j < 143 → u j = σ 75 j) : PM u (qP v) := by
  obtain ⟨g2, g3, g4, g5, g6, g7, g8⟩ := h
  refine ⟨fun _ => ⟨by rw [hu 0 (by omega)]; exact h0, by rw [hu 1 (by omega)]; exact h1⟩, by rw [hu 2 (by omega)]; exact g2, by rw [hu 3 (by omega)]; exact g3, by rw [hu 4 (by omega)]; exact g4, fun s hs => ?_, fun w hw => ?_, fun w s hw hs j hj => ?_⟩
  · have hs : s < v.2.2.1.length := hs
    obtain ⟨y, hy⟩ := tk_get hs
    rw [hu _ (by omega), g5 s y hy]
    show nI y = nI (v.2.2.1.getD s 0)
    rw [gD hy]
  · have hw : w < v.2.2.2.length := hw
    obtain ⟨q, hq⟩ := tk_get hw
    obtain ⟨c1, c2, c3⟩ := g6 w q hq
    rw [hu _ (by omega), hu _ (by omega), hu _ (by omega), hu _ (by omega), c1, c2, c3, g7 w (by omega)]
    show nI q.1 = nI (v.2.2.2.getD w (1, 0, 0)).1 ∧ nI q.2.1 = nI (v.2.2.2.getD w (1, 0, 0)).2.1 ∧ nI q.2.2 = nI (v.2.2.2.getD w (1, 0, 0)).2.2 ∧ (0 : Int32) = Int32.ofInt 0
    rw [gD hq]
    exact ⟨rfl, rfl, rfl, rfl⟩
  · have hw : w < v.2.2.2.length := hw
    have hs : s < v.2.2.1.length := hs
    rw [hu _ (by omega), g8 _ (by omega) (by omega)]
    rfl
theorem law_chain {b : Nat → Nat} {n x1 : Nat} : sb (nuX b n 1 30 (sb (nuX b n 1 30 (paR b n 119 0)) (paR b n 44))) (paR b n 59) = sb (lawR b n) fun v => .inr v.2.2 := by
  unfold lawR
  cases h0 : paR b n 119 0 with
  | inl e => rfl
  | inr j =>
    show sb (nuX b n 1 30 (sb (sb (nuR b n 1 30 j) _) (paR b n 44))) (paR b n 59) = sb (sb (nuR b n 1 30 j) _) _
    cases h1 : nuR b n 1 30 j with
    | inl e => rfl
    | inr v =>
      show sb (nuX b n 1 30 (paR b n 44 v.2)) (paR b n 59) = sb (sb (paR b n 44 v.2) _) _
      cases h2 : paR b n 44 v.2 with
      | inl e => rfl
      | inr j2 =>
        show sb (sb (nuR b n 1 30 j2) _) (paR b n 59) = sb (sb (nuR b n 1 30 j2) _) _
        cases h3 : nuR b n 1 30 j2 with
        | inl e => rfl
        | inr u =>
          show paR b n 59 u.2 = sb (sb (paR b n 59 u.2) _) _
          cases h4 : paR b n 59 u.2 with
          | inl e => rfl
          | inr j4 => rfl
theorem law_vals {b : Nat → Nat} {n x1 x2 : Nat} (h1 : ∀ j v, paR b n 119 0 = .inr j → nuR b n 1 30 j = .inr v → x1 = v.1) (h2 : ∀ j v, sb (nuX b n 1 30 (paR b n 119 0)) (paR b n 44) = .inr j → nuR b n 1 30 j = .inr v → x2 = v.1) {v : Nat × Nat × Nat} (h : lawR b n = .inr v) : x1 = v.1 ∧ x2 = v.2.1 := by
  unfold lawR at h
  obtain ⟨j, a1, h⟩ := sb_ok h
  obtain ⟨x, a2, h⟩ := sb_ok h
  obtain ⟨j2, a3, h⟩ := sb_ok h
  obtain ⟨u, a4, h⟩ := sb_ok h
  obtain ⟨j4, a5, h⟩ := sb_ok h
  cases h
  refine ⟨h1 j x a1 a2, h2 j2 u ?_ a4⟩
  show sb (sb (paR b n 119 0) _) (paR b n 44) = _
  rw [a1]
  show sb (sb (nuR b n 1 30 j) _) (paR b n 44) = _
  rw [a2]
  exact a3
def EndP (σ τ : zSo) : Prop := (∀ k, k ≠ 70 → k ≠ 75 → τ k = σ k) ∧ τ 70 11 = 0 ∧ ∀ i, i ≠ 0 → i < 11 ∨ 18 < i → τ 70 i = σ 70 i
def EndQ (σ τ : zSo) : Prop := (∀ k, k ≠ 70 → k ≠ 75 → k ≠ 74 → τ k = σ k) ∧ τ 70 11 = 0 ∧ τ 70 9 = 0 ∧ ∀ i, i ≠ 0 → i ≠ 9 → i < 11 ∨ 18 < i → τ 70 i = σ 70 i
set_option maxHeartbeats 4000000 in
set_option maxRecDepth 100000 in
theorem mo_parish {d n : Nat} {b : Nat → Nat} {σ : zSo} {Q : Option Value → zSo → Prop} (hT : TMm σ b n)
    (hf : ∀ e, parR b n = .inl e → ∀ τ', EndP σ τ' → τ' 70 18 = nI e.1 → Q (some (.int (-1000100 - nI e.2))) τ')
    (ht : ∀ v, parR b n = .inr v → ∀ τ', EndQ σ τ' → τ' 70 18 = σ 70 18 → PM (τ' 74) (qP v) → Q (some (.int (nI v.2.2.2.length))) τ') : zC (d + 10) 128 [.ref 70] σ Q := by
  have hT1 : TMm (zup σ 70 0 0) b n := hT
  -- the end
  have kE : ∀ (σ' τ' : zSo), zFr [75] (zup σ 70 0 0) σ' → EndS σ' τ' → EndP σ τ' := by
    intro σ' τ' hF hE
    refine ⟨fun k h1 h2 => ?_, hE.2.1, fun i h0 hi => ?_⟩
    · rw [hE.1 k h1, hF k (by simp only [List.mem_singleton]; exact h2), zup_o _ _ _ h1]
    · rw [hE.2.2 i hi, hF 70 (by decide), zup_k]
      simp only [upd]
      rw [if_neg h0]
  have bad : ∀ (e : Nat × Nat) (σ' τ' : zSo) (X : Sum (Nat × Nat) Nat), parR b n = .inl e → zFr [75] (zup σ 70 0 0) σ' → XS b n σ' X τ' → (X = .inl e ∨ ∃ j', X = .inr j' ∧ n ≠ j' ∧ e = (1, j')) → zA (d + 10) 128 146 [(0, .ref 70)] [] τ' Q := by
    intro e σ' τ' X he hF hX hx
    repeat refine zA_step rfl rfl ?_
    refine zA_call rfl rfl (mo_failed hX (fun e' hx' τ2 hE h1 h2 => ?_) (fun hn τ2 hE h1 => ?_))
    · have ee : e' = e := by
        rcases hx with rfl | ⟨j, rfl, h3, h4⟩
        · rcases hx' with h5 | ⟨j, h5, _⟩
          · cases h5; rfl
          · cases h5
        · rcases hx' with h5 | ⟨j', h5, h6, h7⟩
          · cases h5
          · cases h5; rw [h4, h7]
      subst ee
      repeat refine zA_step rfl rfl ?_
      rw [h2]
      exact zA_ret rfl (hf e' he τ2 (kE σ' τ2 hF hE) h1)
    · exfalso
      rcases hx with rfl | ⟨j, rfl, h3, h4⟩
      · cases hn
      · cases hn; exact h3 rfl
  have okE : ∀ (v : pT) (σ' τ' : zSo), parR b n = .inr v → zFr [75] (zup σ 70 0 0) σ' → XS b n σ' (.inr n) τ' → TQ σ' v.2.2.1 v.2.2.2 → σ' 75 0 = nI v.1 ∧ σ' 75 1 = nI v.2.1 → v.2.2.1.length ≤ 6 → v.2.2.2.length ≤ 6 → zA (d + 10) 128 146 [(0, .ref 70)] [] τ' Q := by
    intro v σ' τ' hv hF hX hP h01 l1 l2
    repeat refine zA_step rfl rfl ?_
    refine zA_call rfl rfl (mo_failed hX (fun e' hx' τ2 hE h1 h2 => ?_) (fun hn τ2 hE h1 => ?_))
    · exfalso
      rcases hx' with h5 | ⟨j, h5, h6, _⟩
      · cases h5
      · cases h5; exact h6 rfl
    have hE2 := kE σ' τ2 hF hE
    have hl : τ2 70 18 = σ 70 18 := by
      rw [h1, hF 70 (by decide)]; rfl
    have hfr : τ2 75 = σ' 75 := hE.1 _ (by decide)
    have lp : ∀ m k, k + m = 143 → ∀ τ3 : zSo, (∀ q, q ≠ 74 → q ≠ 70 → τ3 q = τ2 q) → (∀ i, i ≠ 9 → τ3 70 i = τ2 70 i) → τ3 70 9 = 0 → (∀ j, j < k → τ3 74 j = σ' 75 j) → ∀ i : Int32, i = nI k → zA (d + 10) 128 168 [(0, .ref 70), (1, .int i)] [] τ3 Q := by
      intro m
      induction m with
      | zero =>
        intro k hk τ3 q1 q2 q3 q4 i ei
        subst ei
        have : k = 143 := by omega
        subst this
        have hpm : PM (τ3 74) (qP v) := PM_TQ hP h01.1 h01.2 l1 l2 q4
        refine zA_s0 rfl ?_
        repeat refine zA_step rfl rfl ?_
        simp only [nu_c3, hpm.2.2.1]
        refine zA_ret rfl (ht v hv τ3 ⟨fun k h1 h2 h3 => ?_, ?_, q3, fun i h0 h9 hi => ?_⟩ ?_ hpm)
        · rw [q1 k h3 h1]; exact hE2.1 k h1 h2
        · rw [q2 _ (by decide)]; exact hE2.2.1
        · rw [q2 _ h9]; exact hE2.2.2 i h0 hi
        · rw [q2 _ (by decide)]; exact hl
      | succ m ih =>
        intro k hk τ3 q1 q2 q3 q4 i ei
        subst ei
        refine zA_s0 rfl ?_
        repeat refine zA_step rfl rfl ?_
        refine zA_f (by simp (disch := omega) only [nu_lt, nu_le, nu_eq, nu_cmp_lt, nu_cmp_gt, nu_cmp_ge, nu_cmp_le, nu_wide, Int32.toInt_add, Int32.toInt_sub, Int32.toInt_mul, nu_I, Nat.reducePow, nu_bm, Int32.reduceToInt, Int64.reduceToInt]; omega) ?_
        repeat refine zA_step rfl rfl ?_
        refine zA_ld (j := k) rfl rfl (by omega) (by decide) rfl ?_
        refine zA_sto (j := k) rfl rfl (by omega) (by decide) ?_
        repeat refine zA_step rfl rfl ?_
        refine ih (k + 1) (by omega) (zup τ3 74 k (τ3 75 k)) (fun q h1 h2 => by rw [zup_o _ _ _ h1]; exact q1 q h1 h2) q2 q3 (fun j hj => ?_) _ (nI_1 k)
        rw [zup_k]
        simp only [upd]
        by_cases e : j = k
        · rw [if_pos e, e, q1 75 (by decide) (by decide), hfr]
        · rw [if_neg e]; exact q4 j (by omega)
    repeat refine zA_step rfl rfl ?_
    refine lp 143 0 (by omega) _ (fun q h1 h2 => zup_o _ _ _ h2) (fun i hi => ?_) (by simp [zup, upd]) (fun j hj => by omega) 0 rfl
    rw [zup_k]
    simp only [upd]
    rw [if_neg hi]
  -- a fault goes through
  have f132 : ∀ (e : Nat × Nat) (σ' τ' : zSo), TMm σ' b n → parR b n = .inl e → zFr [75] (zup σ 70 0 0) σ' → XS b n σ' (.inl e) τ' → zA (d + 10) 128 132 [(0, .ref 70)] [] τ' Q := by
    intro e σ' τ' hT' he hF hX
    refine zA_s0 rfl ?_
    refine zA_call rfl rfl (mo_isSort hT' hX (fun j z => by cases z) (fun _ => ?_))
    refine zA_s0 rfl ?_
    exact bad e σ' τ' _ he hF hX (Or.inl rfl)
  have f120 : ∀ (e : Nat × Nat) (σ' τ' : zSo), TMm σ' b n → parR b n = .inl e → zFr [75] (zup σ 70 0 0) σ' → XS b n σ' (.inl e) τ' → zA (d + 10) 128 120 [(0, .ref 70)] [] τ' Q := by
    intro e σ' τ' hT' he hF hX
    repeat refine zA_step rfl rfl ?_
    refine zA_call rfl rfl (mo_isSort hT' hX (fun j z => by cases z) (fun _ => ?_))
    repeat refine zA_step rfl rfl ?_
    refine zA_call rfl rfl (mo_bad (k := 1) (by omega) hX (fun τ2 hX2 => ?_))
    exact f132 e σ' τ2 hT' he hF hX2
  have f104 : ∀ (e : Nat × Nat) (σ' τ' : zSo), TMm σ' b n → parR b n = .inl e → zFr [75] (zup σ 70 0 0) σ' → XS b n σ' (.inl e) τ' → zA (d + 10) 128 104 [(0, .ref 70)] [] τ' Q := by
    intro e σ' τ' hT' he hF hX
    refine zA_s0 rfl ?_
    refine zA_s0 rfl ?_
    refine zA_call rfl rfl (mo_isLetter (x := 115) hT' (by omega) hX (fun j z => by cases z) (fun _ => ?_))
    refine zA_s0 rfl ?_
    exact f120 e σ' τ' hT' he hF hX
  show zA (d + 10) _ 0 [(0, .ref 70)] [] σ Q
  repeat refine zA_step rfl rfl ?_
  refine zA_call rfl rfl (mo_begin hT1 (fun τ0 hX0 => ?_))
  repeat refine zA_step rfl rfl ?_
  refine mo_init hX0 (fun σ2 τ2 i hF2 hX2 hP2 => ?_)
  have hT2 := hT1.fr hF2
  have go1 : ∀ τ1, XS b n σ2 (paR b n 119 0) τ1 → zA (d + 10) 128 52 [(0, .ref 70), (1, .int i)] [] τ1 Q := by
    intro τ1 hX1
    repeat refine zA_step rfl rfl ?_
    refine zA_call rfl rfl (mo_num (lo := 1) (hi := 30) hT2 (by omega) (by omega) hX1 (fun τ3 x1 hX3 hx1 hv1 => ?_))
    repeat refine zA_step rfl rfl ?_
    simp only [nu_c0]
    have hX3' := hX3.fr 0 (nI x1)
    have hF3 := zFr_f1 (i := 0) (x := nI x1) hF2
    have hT3 := hT1.fr hF3
    refine zA_call rfl rfl (mo_mustSign (x := 44) hT3 (Or.inl rfl) hX3' (fun τ4 hX4 => ?_))
    repeat refine zA_step rfl rfl ?_
    refine zA_call rfl rfl (mo_num (lo := 1) (hi := 30) hT3 (by omega) (by omega) hX4 (fun τ5 x2 hX5 hx2 hv2 => ?_))
    repeat refine zA_step rfl rfl ?_
    simp only [nu_c1]
    have hX5' := hX5.fr 1 (nI x2)
    have hF5 := zFr_f1 (i := 1) (x := nI x2) hF3
    have hT5 := hT1.fr hF5
    refine zA_call rfl rfl (mo_mustSign (x := 59) hT5 (Or.inr rfl) hX5' (fun τ6 hX6 => ?_))
    rw [law_chain (x1 := 0)] at hX6
    have hP5 : TQ (zup (zup σ2 75 0 (nI x1)) 75 1 (nI x2)) [] [] := (hP2.lo (by omega)).lo (by omega)
    cases hlw : lawR b n with
    | inl e =>
      rw [hlw] at hX6
      have hX6' : XS b n _ (.inl e) τ6 := hX6
      have he : parR b n = .inl e := by unfold parR; rw [hlw]; rfl
      repeat refine zA_step rfl rfl ?_
      refine zA_call rfl rfl (mo_isLetter (x := 115) hT5 (by omega) hX6' (fun j z => by cases z) (fun _ => ?_))
      repeat refine zA_step rfl rfl ?_
      refine zA_call rfl rfl (mo_bad (k := 1) (by omega) hX6' (fun τ7 hX7 => ?_))
      refine zA_dr rfl rfl rfl ?_
      exact f104 e _ τ7 hT5 he hF5 hX7
    | inr v =>
      rw [hlw] at hX6
      have hX6' : XS b n _ (.inr v.2.2) τ6 := hX6
      obtain ⟨e1, e2⟩ := law_vals hv1 hv2 hlw
      have lok := lawR_ok hlw
      have hpr : parR b n = sb (stR b n 7 v.2.2 []) fun u => sb (wiR b n 7 u.1 []) fun ks => .inr (v.1, v.2.1, u.2, ks) := by unfold parR; rw [hlw]; rfl
      have h01 : zup (zup σ2 75 0 (nI x1)) 75 1 (nI x2) 75 0 = nI v.1 ∧ zup (zup σ2 75 0 (nI x1)) 75 1 (nI x2) 75 1 = nI v.2.1 := by
        rw [e1, e2]
        exact ⟨rfl, rfl⟩
      repeat refine zA_step rfl rfl ?_
      refine zA_call rfl rfl (mo_isLetter (x := 115) hT5 (by omega) hX6' (fun j z hc => ?_) (fun hc => ?_))
      rotate_left
      · have hc' := hc v.2.2 rfl
        have he : parR b n = .inl (1, v.2.2) := by
          rw [hpr, stR, if_neg (fun z => z.1 rfl), if_neg (by simp), sb_pf hc']
          rfl
        repeat refine zA_step rfl rfl ?_
        refine zA_call rfl rfl (mo_bad (k := 1) (by omega) hX6' (fun τ7 hX7 => ?_))
        refine zA_dr rfl rfl rfl ?_
        exact f104 (1, v.2.2) _ τ7 hT5 he hF5 hX7
      cases z
      repeat refine zA_step rfl rfl ?_
      refine zA_dr rfl rfl rfl ?_
      refine mo_stones (d := d + 2) 7 [] rfl (by simp) v.2.2 _ τ6 hF5 hT5 hX6' hP5 h01 (Or.inr hc) (fun σ7 τ7 hF7 h017 => ⟨fun e he hX7 => ?_, fun u hu hX7 hP7 => ?_⟩)
      · exact f120 e σ7 τ7 (hT1.fr hF7) (by rw [hpr, he]; rfl) hF7 hX7
      · have hT7 := hT1.fr hF7
        have uok := stR_ok hu (by simp) (by simp) lok.2.2 (by simp)
        rw [hu] at hpr
        have hpr' : parR b n = sb (wiR b n 7 u.1 []) fun ks => .inr (v.1, v.2.1, u.2, ks) := hpr
        repeat refine zA_step rfl rfl ?_
        refine zA_call rfl rfl (mo_isSort hT7 hX7 (fun j z hk => ?_) (fun hk => ?_))
        · cases z
          repeat refine zA_step rfl rfl ?_
          refine mo_wits (d := d + 2) uok.1.2 7 [] rfl (by simp) u.1 σ7 τ7 hF7 hT7 hX7 hP7 h017 (Or.inr hk) (fun σ8 τ8 hF8 h018 => ⟨fun e he X hX8 hx => ?_, fun ks hks hX8 hP8 => ?_⟩)
          · exact bad e σ8 τ8 X (by rw [hpr', he]; rfl) hF8 hX8 hx
          · have kok := wiR_ok hks (by simp) (by simp) (by simp)
            exact okE (v.1, v.2.1, u.2, ks) σ8 τ8 (by rw [hpr', hks]; rfl) hF8 hX8 hP8 h018 uok.1.2 kok.1.2
        · have hk' := hk u.1 rfl
          have he : parR b n = .inl (1, u.1) := by
            rw [hpr', wiR, if_neg (fun z => z.1 rfl), if_pos hk']
            rfl
          repeat refine zA_step rfl rfl ?_
          refine zA_call rfl rfl (mo_bad (k := 1) (by omega) hX7 (fun τ8 hX8 => ?_))
          exact f132 (1, u.1) σ7 τ8 hT7 he hF7 hX8
  repeat refine zA_step rfl rfl ?_
  refine zA_call rfl rfl (mo_isLetter (x := 119) hT2 (by omega) hX2 (fun j z hc => ?_) (fun hc => ?_))
  · cases z
    repeat refine zA_step rfl rfl ?_
    refine zA_call rfl rfl (mo_must (x := 119) hT2 (by omega) hX2 (fun _ _ _ => rfl) (fun j' e hn => by cases e; exact absurd hc hn) (fun τ1 hX1 => ?_))
    exact go1 τ1 hX1
  · have hc' := hc 0 rfl
    repeat refine zA_step rfl rfl ?_
    refine zA_call rfl rfl (mo_must (x := 119) hT2 (by omega) hX2 (fun j' e hn => by cases e; exact absurd hn hc') (fun _ _ _ => rfl) (fun τ1 hX1 => ?_))
    exact go1 τ1 hX1
