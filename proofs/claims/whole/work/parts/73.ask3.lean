/-! ask: the reference, the pair -/
def TAm (σ : zSo) (l : List Int32) : Prop := l.length ≤ 16 ∧ σ 70 24 = nI l.length ∧ ∀ j b, l[j]? = some b → σ 83 j = b
def zTr (σ σ' : zSo) : Prop := (∀ k, k ≠ 70 → k ≠ 83 → σ' k = σ k) ∧ ∀ j, j ≠ 24 → σ' 70 j = σ 70 j
theorem zTr.rf {σ : zSo} : zTr σ σ := ⟨fun _ _ _ => rfl, fun _ _ => rfl⟩
theorem zTr.tr {σ σ' σ'' : zSo} (h1 : zTr σ σ') (h2 : zTr σ' σ'') : zTr σ σ'' := ⟨fun k a b => (h2.1 k a b).trans (h1.1 k a b), fun j a => (h2.2 j a).trans (h1.2 j a)⟩
set_option maxHeartbeats 4000000 in
set_option maxRecDepth 100000 in
theorem mo_began {d : Nat} {σ : zSo} {Q : Option Value → zSo → Prop} {l : List Int32} {b : Int32} (hT : TAm σ l) (hl : l.length < 16) (hQ : ∀ σ' : zSo, zTr σ σ' → TAm σ' (l ++ [b]) → Q none σ') : zC d 178 [.ref 70, .int b] σ Q := by
  obtain ⟨t1, t2, t3⟩ := hT
  show zA d _ 0 [(0, .ref 70), (1, .int b)] [] σ Q
  repeat refine zA_step rfl rfl ?_
  rw [t2]
  refine zA_f (by simp (disch := omega) only [nu_lt, nu_le, nu_eq, nu_cmp_lt, nu_cmp_gt, nu_cmp_ge, nu_cmp_le, nu_wide, Int32.toInt_add, Int32.toInt_sub, Int32.toInt_mul, nu_I, Nat.reducePow, nu_bm, Int32.reduceToInt, Int64.reduceToInt]; omega) ?_
  repeat refine zA_step rfl rfl ?_
  refine zA_sto (j := l.length) rfl t2 (by omega) (by decide) ?_
  repeat refine zA_step rfl rfl ?_
  refine zA_ret rfl (hQ _ ⟨fun k h1 h2 => ?_, fun j hj => ?_⟩ ⟨by simp; omega, ?_, fun j c hj => ?_⟩)
  · rw [zup_o _ _ _ h1, zup_o _ _ _ h2]
  · rw [zup_k]
    simp only [upd]
    rw [if_neg hj, zup_o _ _ _ (by decide)]
  · rw [zup_k]
    simp only [upd, if_true]
    rw [zup_o _ _ _ (by decide), t2, nI_1]
    simp
  · rw [zup_o _ _ _ (by decide), zup_k]
    simp only [upd]
    rcases snoc_get hj with ⟨h1, h2⟩ | ⟨h1, h2⟩
    · rw [if_neg (by omega)]; exact t3 j c h2
    · rw [if_pos h1, h2]
def MB (σ0 : zSo) (w jm : Nat) (v : Int32) (t : List Int32) (dd : Nat) : Prop := ∀ (d : Nat) (σ : zSo) (l : List Int32) (Q : Option Value → zSo → Prop), zTr σ0 σ → TAm σ l → l.length + t.length ≤ 16 → (∀ σ' : zSo, zTr σ0 σ' → TAm σ' (l ++ t) → Q (some (.int v)) σ') → zC (d + dd) jm [.ref 70, .int (nI w)] σ Q
theorem MB_w {σ0 : zSo} {w jm : Nat} {v : Int32} {t : List Int32} {a b : Nat} (h : MB σ0 w jm v t a) (hab : a ≤ b) : MB σ0 w jm v t b := by
  intro d σ l Q hF hT hl hQ
  have := h (d + (b - a)) σ l Q hF hT hl hQ
  rw [show d + (b - a) + a = d + b by omega] at this
  exact this
set_option maxHeartbeats 4000000 in
set_option maxRecDepth 100000 in
theorem MB_plain {σ0 : zSo} {p : paT} {w Y : Nat} (hM : PM (σ0 74) p) (hW : paW p Y) (hY : Y ≤ 2000) (hw : w < pw p) : MB σ0 w 179 (szv p w) [10] 10 := by
  intro d σ l Q hF hT hl hQ
  simp only [List.length_cons, List.length_nil] at hl
  show zA (d + 10) _ 0 [(0, .ref 70), (1, .int (nI w))] [] σ Q
  repeat refine zA_step rfl rfl ?_
  refine zA_call rfl rfl (mo_began hT (by omega) (fun σ2 hF2 hT2 => ?_))
  repeat refine zA_step rfl rfl ?_
  have hF3 := hF.tr hF2
  have hM2 : PM (σ2 74) p := by rw [hF3.1 _ (by decide) (by decide)]; exact hM
  refine zA_call rfl rfl (mo_stonesOf hM2 hW hY hw ?_)
  refine zA_call rfl rfl (mo_bits (bn_lt64 _ hW.2.2.2.1) ?_)
  exact zA_ret rfl (hQ σ2 hF3 hT2)
set_option maxHeartbeats 4000000 in
set_option maxRecDepth 100000 in
theorem MB_twin {σ0 : zSo} {p : paT} {w Y : Nat} (hM : PM (σ0 74) p) (hW : paW p Y) (hY : Y ≤ 2000) (hw : w < pw p) (h4 : 4 ≤ pk p w) : MB σ0 w 180 (ansV p w (pk p w) 0) (ansT (pk p w) 0) 11 := by
  intro d σ l Q hF hT hl hQ
  have w6 := hW.2.2.2.2.1
  have hk := (hW.2.2.2.2.2.2.1 w hw).1
  have hM1 : PM (σ 74) p := by rw [hF.1 _ (by decide) (by decide)]; exact hM
  have pl := MB_plain hM hW hY hw
  show zA (d + 11) _ 0 [(0, .ref 70), (1, .int (nI w))] [] σ Q
  repeat refine zA_step rfl rfl ?_
  refine zA_call rfl rfl (mo_of (k := 0) (Or.inl rfl) (by omega) (by omega) (hM1.2.2.2.2.2.1 w hw).1 ?_)
  rcases (show pk p w = 4 ∨ pk p w = 5 by omega) with e | e
  · rw [e] at hl hQ ⊢
    simp only [ansT, Nat.reduceEqDiff, if_true, if_false, List.length_cons, List.length_nil] at hl
    repeat refine zA_step rfl rfl ?_
    refine zA_call rfl rfl (mo_began hT (by omega) (fun σ3 hF3 hT3 => ?_))
    repeat refine zA_step rfl rfl ?_
    refine zA_call rfl rfl (pl d σ3 _ _ (hF.tr hF3) hT3 (by simp; omega) (fun σ4 hF4 hT4 => ?_))
    repeat refine zA_step rfl rfl ?_
    refine zA_ret rfl (hQ σ4 hF4 ?_)
    simpa [ansT] using hT4
  · rw [e] at hl hQ ⊢
    simp only [ansT, Nat.reduceEqDiff, if_true, if_false, List.length_cons, List.length_nil] at hl
    repeat refine zA_step rfl rfl ?_
    refine zA_call rfl rfl (mo_began hT (by omega) (fun σ2 hF2 hT2 => ?_))
    repeat refine zA_step rfl rfl ?_
    refine zA_call rfl rfl (mo_began hT2 (by simp; omega) (fun σ3 hF3 hT3 => ?_))
    repeat refine zA_step rfl rfl ?_
    refine zA_call rfl rfl (pl d σ3 _ _ ((hF.tr hF2).tr hF3) hT3 (by simp; omega) (fun σ4 hF4 hT4 => ?_))
    repeat refine zA_step rfl rfl ?_
    refine zA_ret rfl (hQ σ4 hF4 ?_)
    simpa [ansT] using hT4
set_option maxHeartbeats 4000000 in
set_option maxRecDepth 100000 in
theorem MB_mark {σ0 : zSo} {p : paT} {w Y : Nat} (hM : PM (σ0 74) p) (hW : paW p Y) (hY : Y ≤ 2000) (hw : w < pw p) : MB σ0 w 181 (ansV p w (pk p w) 1) (ansT (pk p w) 1) 12 := by
  intro d σ l Q hF hT hl hQ
  have w6 := hW.2.2.2.2.1
  have hk := (hW.2.2.2.2.2.2.1 w hw).1
  have hM1 : PM (σ 74) p := by rw [hF.1 _ (by decide) (by decide)]; exact hM
  have tw := MB_twin hM hW hY hw
  show zA (d + 12) _ 0 [(0, .ref 70), (1, .int (nI w))] [] σ Q
  repeat refine zA_step rfl rfl ?_
  refine zA_call rfl rfl (mo_of (k := 0) (Or.inl rfl) (by omega) (by omega) (hM1.2.2.2.2.2.1 w hw).1 ?_)
  rcases (show pk p w = 1 ∨ pk p w = 2 ∨ pk p w = 3 ∨ pk p w = 4 ∨ pk p w = 5 by omega) with e | e | e | e | e
  · rw [e] at hl hQ ⊢
    simp only [ansT, Nat.reduceEqDiff, if_true, if_false, List.length_cons, List.length_nil] at hl
    repeat refine zA_step rfl rfl ?_
    refine zA_call rfl rfl (mo_began hT (by omega) (fun σ2 hF2 hT2 => ?_))
    repeat refine zA_step rfl rfl ?_
    refine zA_call rfl rfl (mo_began hT2 (by simp; omega) (fun σ3 hF3 hT3 => ?_))
    have hF4 := (hF.tr hF2).tr hF3
    have hM3 : PM (σ3 74) p := by rw [hF4.1 _ (by decide) (by decide)]; exact hM
    repeat refine zA_step rfl rfl ?_
    refine zA_call rfl rfl (mo_of (k := 1) (Or.inl rfl) (by omega) (by omega) (hM3.2.2.2.2.2.1 w hw).2.1 ?_)
    repeat refine zA_step rfl rfl ?_
    refine zA_ret rfl (hQ σ3 hF4 ?_)
    simpa [ansT] using hT3
  · rw [e] at hl hQ ⊢
    simp only [ansT, Nat.reduceEqDiff, if_true, if_false, List.length_cons, List.length_nil] at hl
    repeat refine zA_step rfl rfl ?_
    refine zA_call rfl rfl (mo_began hT (by omega) (fun σ1 hF1 hT1 => ?_))
    repeat refine zA_step rfl rfl ?_
    refine zA_call rfl rfl (mo_began hT1 (by simp; omega) (fun σ2 hF2 hT2 => ?_))
    repeat refine zA_step rfl rfl ?_
    refine zA_call rfl rfl (mo_began hT2 (by simp; omega) (fun σ3 hF3 hT3 => ?_))
    have hF4 := ((hF.tr hF1).tr hF2).tr hF3
    have hM3 : PM (σ3 74) p := by rw [hF4.1 _ (by decide) (by decide)]; exact hM
    repeat refine zA_step rfl rfl ?_
    refine zA_call rfl rfl (mo_of (k := 1) (Or.inl rfl) (by omega) (by omega) (hM3.2.2.2.2.2.1 w hw).2.1 ?_)
    repeat refine zA_step rfl rfl ?_
    refine zA_ret rfl (hQ σ3 hF4 ?_)
    simpa [ansT] using hT3
  · rw [e] at hl hQ ⊢
    simp only [ansT, Nat.reduceEqDiff, if_true, if_false, List.length_cons, List.length_nil] at hl
    repeat refine zA_step rfl rfl ?_
    refine zA_call rfl rfl (mo_began hT (by omega) (fun σ1 hF1 hT1 => ?_))
    repeat refine zA_step rfl rfl ?_
    refine zA_call rfl rfl (mo_began hT1 (by simp; omega) (fun σ2 hF2 hT2 => ?_))
    repeat refine zA_step rfl rfl ?_
    refine zA_call rfl rfl (mo_began hT2 (by simp; omega) (fun σ3 hF3 hT3 => ?_))
    have hF4 := ((hF.tr hF1).tr hF2).tr hF3
    have hM3 : PM (σ3 74) p := by rw [hF4.1 _ (by decide) (by decide)]; exact hM
    repeat refine zA_step rfl rfl ?_
    refine zA_call rfl rfl (mo_of (k := 1) (Or.inl rfl) (by omega) (by omega) (hM3.2.2.2.2.2.1 w hw).2.1 ?_)
    repeat refine zA_step rfl rfl ?_
    refine zA_ret rfl (hQ σ3 hF4 ?_)
    simpa [ansT] using hT3
  · have tw' := tw (by omega)
    rw [e] at hl hQ tw' ⊢
    simp only [ansT, Nat.reduceEqDiff, if_true, if_false, List.length_cons, List.length_nil] at hl
    repeat refine zA_step rfl rfl ?_
    refine zA_call rfl rfl (mo_began hT (by omega) (fun σ2 hF2 hT2 => ?_))
    repeat refine zA_step rfl rfl ?_
    refine zA_call rfl rfl (mo_began hT2 (by simp; omega) (fun σ3 hF3 hT3 => ?_))
    repeat refine zA_step rfl rfl ?_
    refine zA_call rfl rfl (tw' d σ3 _ _ ((hF.tr hF2).tr hF3) hT3 (by simp [ansT]; omega) (fun σ4 hF4 hT4 => ?_))
    repeat refine zA_step rfl rfl ?_
    refine zA_ret rfl (hQ σ4 hF4 ?_)
    simpa [ansT] using hT4
  · have tw' := tw (by omega)
    rw [e] at hl hQ tw' ⊢
    simp only [ansT, Nat.reduceEqDiff, if_true, if_false, List.length_cons, List.length_nil] at hl
    repeat refine zA_step rfl rfl ?_
    refine zA_call rfl rfl (mo_began hT (by omega) (fun σ2 hF2 hT2 => ?_))
    repeat refine zA_step rfl rfl ?_
    refine zA_call rfl rfl (mo_began hT2 (by simp; omega) (fun σ3 hF3 hT3 => ?_))
    repeat refine zA_step rfl rfl ?_
    refine zA_call rfl rfl (tw' d σ3 _ _ ((hF.tr hF2).tr hF3) hT3 (by simp [ansT]; omega) (fun σ4 hF4 hT4 => ?_))
    repeat refine zA_step rfl rfl ?_
    refine zA_ret rfl (hQ σ4 hF4 ?_)
    simpa [ansT] using hT4
set_option maxHeartbeats 4000000 in
set_option maxRecDepth 100000 in
theorem MB_size {σ0 : zSo} {p : paT} {w Y : Nat} (hM : PM (σ0 74) p) (hW : paW p Y) (hY : Y ≤ 2000) (hw : w < pw p) : MB σ0 w 182 (ansV p w (pk p w) 0) (ansT (pk p w) 0) 13 := by
  intro d σ l Q hF hT hl hQ
  have w6 := hW.2.2.2.2.1
  have hk := (hW.2.2.2.2.2.2.1 w hw).1
  have hM1 : PM (σ 74) p := by rw [hF.1 _ (by decide) (by decide)]; exact hM
  have tw := MB_twin hM hW hY hw
  have pl := MB_w (MB_plain hM hW hY hw) (show 10 ≤ 12 by omega)
  have mk := MB_mark hM hW hY hw
  show zA (d + 13) _ 0 [(0, .ref 70), (1, .int (nI w))] [] σ Q
  repeat refine zA_step rfl rfl ?_
  refine zA_call rfl rfl (mo_of (k := 0) (Or.inl rfl) (by omega) (by omega) (hM1.2.2.2.2.2.1 w hw).1 ?_)
  rcases (show pk p w = 1 ∨ pk p w = 3 ∨ pk p w = 2 ∨ pk p w = 4 ∨ pk p w = 5 by omega) with e | e | e | e | e
  · rw [e] at hl hQ mk ⊢
    simp only [ansT, Nat.reduceEqDiff, if_true, if_false, List.length_cons, List.length_nil] at hl
    repeat refine zA_step rfl rfl ?_
    refine zA_call rfl rfl (mo_began hT (by omega) (fun σ2 hF2 hT2 => ?_))
    repeat refine zA_step rfl rfl ?_
    refine zA_call rfl rfl (pl d σ2 _ _ (hF.tr hF2) hT2 (by simp; omega) (fun σ3 hF3 hT3 => ?_))
    repeat refine zA_step rfl rfl ?_
    refine zA_call rfl rfl (mk d σ3 _ _ hF3 hT3 (by simp [ansT]; omega) (fun σ4 hF4 hT4 => ?_))
    repeat refine zA_step rfl rfl ?_
    refine zA_ret rfl (hQ σ4 hF4 ?_)
    simpa [ansT] using hT4
  · rw [e] at hl hQ mk ⊢
    simp only [ansT, Nat.reduceEqDiff, if_true, if_false, List.length_cons, List.length_nil] at hl
    repeat refine zA_step rfl rfl ?_
    refine zA_call rfl rfl (mo_began hT (by omega) (fun σ2 hF2 hT2 => ?_))
    repeat refine zA_step rfl rfl ?_
    refine zA_call rfl rfl (pl d σ2 _ _ (hF.tr hF2) hT2 (by simp; omega) (fun σ3 hF3 hT3 => ?_))
    repeat refine zA_step rfl rfl ?_
    refine zA_call rfl rfl (mk d σ3 _ _ hF3 hT3 (by simp [ansT]; omega) (fun σ4 hF4 hT4 => ?_))
    repeat refine zA_step rfl rfl ?_
    refine zA_ret rfl (hQ σ4 hF4 ?_)
    simpa [ansT] using hT4
  · rw [e] at hl hQ mk ⊢
    simp only [ansT, Nat.reduceEqDiff, if_true, if_false, List.length_cons, List.length_nil] at hl
    repeat refine zA_step rfl rfl ?_
    refine zA_call rfl rfl (mo_began hT (by omega) (fun σ1 hF1 hT1 => ?_))
    repeat refine zA_step rfl rfl ?_
    refine zA_call rfl rfl (mo_began hT1 (by simp; omega) (fun σ2 hF2 hT2 => ?_))
    repeat refine zA_step rfl rfl ?_
    refine zA_call rfl rfl (pl d σ2 _ _ ((hF.tr hF1).tr hF2) hT2 (by simp; omega) (fun σ3 hF3 hT3 => ?_))
    repeat refine zA_step rfl rfl ?_
    refine zA_call rfl rfl (mk d σ3 _ _ hF3 hT3 (by simp [ansT]; omega) (fun σ4 hF4 hT4 => ?_))
    repeat refine zA_step rfl rfl ?_
    refine zA_ret rfl (hQ σ4 hF4 ?_)
    simpa [ansT] using hT4
  · have tw' := MB_w (tw (by omega)) (show 11 ≤ 12 by omega)
    rw [e] at hl hQ tw' ⊢
    repeat refine zA_step rfl rfl ?_
    refine zA_call rfl rfl (tw' d σ _ _ hF hT hl (fun σ4 hF4 hT4 => ?_))
    exact zA_ret rfl (hQ σ4 hF4 hT4)
  · have tw' := MB_w (tw (by omega)) (show 11 ≤ 12 by omega)
    rw [e] at hl hQ tw' ⊢
    repeat refine zA_step rfl rfl ?_
    refine zA_call rfl rfl (tw' d σ _ _ hF hT hl (fun σ4 hF4 hT4 => ?_))
    exact zA_ret rfl (hQ σ4 hF4 hT4)
