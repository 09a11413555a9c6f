/-! ask: the class -/
def TAc (σ : zSo) (l : List Int32) : Prop := l.length ≤ 16 ∧ σ 68 1 = nI l.length ∧ ∀ j b, l[j]? = some b → σ 69 j = b
abbrev aC : List Nat := [68, 69]
theorem snoc_get {l : List Int32} {b c : Int32} {j : Nat} (h : (l ++ [b])[j]? = some c) : (j < l.length ∧ l[j]? = some c) ∨ (j = l.length ∧ c = b) := by
  rw [List.getElem?_append] at h
  by_cases e : j < l.length
  · rw [if_pos e] at h; exact Or.inl ⟨e, h⟩
  · rw [if_neg e] at h
    cases h0 : j - l.length with
    | zero =>
      rw [h0] at h
      simp at h
      exact Or.inr ⟨by omega, h.symm⟩
    | succ m => rw [h0] at h; simp at h
set_option maxHeartbeats 4000000 in
set_option maxRecDepth 100000 in
theorem cl_leave {d : Nat} {σ : zSo} {Q : Option Value → zSo → Prop} {l : List Int32} {b : Int32} (hT : TAc σ l) (hl : l.length < 16) (hQ : ∀ σ' : zSo, zFr aC σ σ' → TAc σ' (l ++ [b]) → Q none σ') : zC d 10 [.ref 68, .int b] σ Q := by
  obtain ⟨t1, t2, t3⟩ := hT
  show zA d _ 0 [(0, .ref 68), (1, .int b)] [] σ Q
  repeat refine zA_step rfl rfl ?_
  rw [t2]
  refine zA_f (by simp (disch := omega) only [nu_lt, nu_le, nu_eq, nu_cmp_lt, nu_cmp_gt, nu_cmp_ge, nu_cmp_le, nu_wide, Int32.toInt_add, Int32.toInt_sub, Int32.toInt_mul, nu_I, Nat.reducePow, nu_bm, Int32.reduceToInt, Int64.reduceToInt]; omega) ?_
  repeat refine zA_step rfl rfl ?_
  refine zA_sto (j := l.length) rfl t2 (by omega) (by decide) ?_
  repeat refine zA_step rfl rfl ?_
  refine zA_ret rfl (hQ _ ((zFr.rf.up (by simp)).up (by simp)) ⟨by simp; omega, ?_, fun j c hj => ?_⟩)
  · rw [zup_k]
    simp only [upd, if_true]
    rw [zup_o _ _ _ (by decide), t2, nI_1]
    simp
  · rw [zup_o _ _ _ (by decide), zup_k]
    simp only [upd]
    rcases snoc_get hj with ⟨h1, h2⟩ | ⟨h1, h2⟩
    · rw [if_neg (by omega)]; exact t3 j c h2
    · rw [if_pos h1, h2]
def CB (σ0 : zSo) (w : Nat) (B v : Int32) (t : List Int32) (dd : Nat) : Prop := ∀ (d : Nat) (σ : zSo) (l : List Int32) (dp : Nat) (Q : Option Value → zSo → Prop), zFr aC σ0 σ → TAc σ l → l.length + t.length ≤ 16 → dp + dd ≤ 30 → (∀ σ' : zSo, zFr aC σ0 σ' → TAc σ' (l ++ t) → Q (some (.int v)) σ') → zC (d + dd) 9 [.ref 68, .int B, .ref 20, .int (nI w), .int (nI dp)] σ Q
def bdy (k o : Nat) : Int32 := if o = 0 then (if k = 1 then 11 else if k = 2 then 12 else if k = 3 then 11 else if k = 4 then 13 else 14) else (if k = 1 then 21 else if k = 2 then 24 else if k = 3 then 22 else 23)
set_option maxHeartbeats 4000000 in
set_option maxRecDepth 100000 in
theorem cl_bodyOf {d k o : Nat} {σ : zSo} {Q : Option Value → zSo → Prop} (hS : rStat σ) (hk : 1 ≤ k ∧ k ≤ 5) (ho : o < 2) (hQ : Q (some (.int (bdy k o))) σ) : zC d 7 [.int (nI k), .int (nI o)] σ Q := by
  have a0 : σ 1000 0 = 0 := (hS 0 (by omega)).1
  have a1 : σ 1000 1 = 0 := (hS 1 (by omega)).1
  have a2 : σ 1000 2 = 1 := (hS 2 (by omega)).1
  have a3 : σ 1000 3 = 1 := (hS 3 (by omega)).1
  have a4 : σ 1000 4 = 0 := (hS 4 (by omega)).1
  have a5 : σ 1000 5 = 4 := (hS 5 (by omega)).1
  have b0 : σ 1001 0 = 10 := (hS 0 (by omega)).2.1
  have b1 : σ 1001 1 = 11 := (hS 1 (by omega)).2.1
  have b2 : σ 1001 2 = 12 := (hS 2 (by omega)).2.1
  have b3 : σ 1001 3 = 0 := (hS 3 (by omega)).2.1
  have b4 : σ 1001 4 = 13 := (hS 4 (by omega)).2.1
  have b5 : σ 1001 5 = 14 := (hS 5 (by omega)).2.1
  have e0 : σ 1002 0 = 20 := (hS 0 (by omega)).2.2
  have e1 : σ 1002 1 = 21 := (hS 1 (by omega)).2.2
  have e2 : σ 1002 2 = 24 := (hS 2 (by omega)).2.2
  have e3 : σ 1002 3 = 22 := (hS 3 (by omega)).2.2
  have e4 : σ 1002 4 = 23 := (hS 4 (by omega)).2.2
  have e5 : σ 1002 5 = 0 := (hS 5 (by omega)).2.2
  have c1 : (nI 1).toNatClampNeg = 1 := rfl
  have c2 : (nI 2).toNatClampNeg = 2 := rfl
  have c3 : (nI 3).toNatClampNeg = 3 := rfl
  have c4 : (nI 4).toNatClampNeg = 4 := rfl
  have c5 : (nI 5).toNatClampNeg = 5 := rfl
  rcases (show k = 1 ∨ k = 2 ∨ k = 3 ∨ k = 4 ∨ k = 5 by omega) with rfl | rfl | rfl | rfl | rfl
  all_goals
    rcases (show o = 0 ∨ o = 1 by omega) with rfl | rfl
    all_goals
      show zA d _ 0 [(0, .int (nI _)), (1, .int (nI _))] [] σ Q
      repeat (first | refine zA_s0 rfl ?_ | simp only [c1, c2, c3, c4, c5, nu_c0, nu_c1, nu_c2, nu_c3, nu_c4, nu_c5, a0, a1, a2, a3, a4, a5, b0, b1, b2, b3, b4, b5, e0, e1, e2, e3, e4, e5])
      exact zA_ret rfl hQ
def szv (p : paT) (w : Nat) : Int32 := nI (pc6 (bn (stb p w) (ps p)))
theorem TA_cons {l t : List Int32} {b : Int32} : l ++ [b] ++ t = l ++ b :: t := by simp
set_option maxHeartbeats 4000000 in
set_option maxRecDepth 100000 in
theorem CB_10 {σ0 : zSo} {p : paT} {w Y : Nat} (hC : PC σ0 20 p) (hW : paW p Y) (hY : Y ≤ 2000) (hw : w < pw p) : CB σ0 w 10 (szv p w) [10] 10 := by
  intro d σ l dp Q hF hT hl hd hQ
  simp only [List.length_cons, List.length_nil] at hl
  show zA (d + 10) _ 0 [(0, .ref 68), (1, .int 10), (2, .ref 20), (3, .int (nI w)), (4, .int (nI dp))] [] σ Q
  repeat refine zA_step rfl rfl ?_
  refine zA_t (by simp (disch := omega) only [nu_lt, nu_le, nu_eq, nu_cmp_lt, nu_cmp_gt, nu_cmp_ge, nu_cmp_le, nu_wide, Int32.toInt_add, Int32.toInt_sub, Int32.toInt_mul, nu_I, Nat.reducePow, nu_bm, Int32.reduceToInt, Int64.reduceToInt]; omega) ?_
  repeat refine zA_step rfl rfl ?_
  refine zA_call rfl rfl (cl_leave hT (by omega) (fun σ2 hF2 hT2 => ?_))
  repeat refine zA_step rfl rfl ?_
  have hF3 := hF.tr hF2
  have hC2 : PC σ2 20 p := hC.fr hW (fun k h1 h2 => hF3 k (by simp only [List.mem_cons, List.not_mem_nil, or_false]; omega))
  refine zA_call rfl rfl (cl_stonesSwornBy (Or.inl rfl) hC2 hW hY hw ?_)
  refine zA_call rfl rfl (cl_bitCount (bn_lt64 _ hW.2.2.2.1) ?_)
  exact zA_ret rfl (hQ σ2 hF3 hT2)
set_option maxHeartbeats 4000000 in
set_option maxRecDepth 100000 in
theorem CB_20 {σ0 : zSo} {w : Nat} : CB σ0 w 20 (nI w) [20] 10 := by
  intro d σ l dp Q hF hT hl hd hQ
  simp only [List.length_cons, List.length_nil] at hl
  show zA (d + 10) _ 0 [(0, .ref 68), (1, .int 20), (2, .ref 20), (3, .int (nI w)), (4, .int (nI dp))] [] σ Q
  repeat refine zA_step rfl rfl ?_
  refine zA_t (by simp (disch := omega) only [nu_lt, nu_le, nu_eq, nu_cmp_lt, nu_cmp_gt, nu_cmp_ge, nu_cmp_le, nu_wide, Int32.toInt_add, Int32.toInt_sub, Int32.toInt_mul, nu_I, Nat.reducePow, nu_bm, Int32.reduceToInt, Int64.reduceToInt]; omega) ?_
  repeat refine zA_step rfl rfl ?_
  refine zA_call rfl rfl (cl_leave hT (by omega) (fun σ2 hF2 hT2 => ?_))
  repeat refine zA_step rfl rfl ?_
  exact zA_ret rfl (hQ σ2 (hF.tr hF2) hT2)
set_option maxHeartbeats 4000000 in
set_option maxRecDepth 100000 in
theorem CB_13 {σ0 : zSo} {w : Nat} {v : Int32} {t : List Int32} (h : CB σ0 w 10 v t 10) : CB σ0 w 13 (v - 100) (13 :: t) 11 := by
  intro d σ l dp Q hF hT hl hd hQ
  simp only [List.length_cons] at hl
  show zA (d + 11) _ 0 [(0, .ref 68), (1, .int 13), (2, .ref 20), (3, .int (nI w)), (4, .int (nI dp))] [] σ Q
  repeat refine zA_step rfl rfl ?_
  refine zA_t (by simp (disch := omega) only [nu_lt, nu_le, nu_eq, nu_cmp_lt, nu_cmp_gt, nu_cmp_ge, nu_cmp_le, nu_wide, Int32.toInt_add, Int32.toInt_sub, Int32.toInt_mul, nu_I, Nat.reducePow, nu_bm, Int32.reduceToInt, Int64.reduceToInt]; omega) ?_
  repeat refine zA_step rfl rfl ?_
  refine zA_call rfl rfl (cl_leave hT (by omega) (fun σ2 hF2 hT2 => ?_))
  repeat refine zA_step rfl rfl ?_
  rw [nI_1]
  refine zA_call rfl rfl (h _ σ2 _ (dp + 1) _ (hF.tr hF2) hT2 (by simp; omega) (by omega) (fun σ3 hF3 hT3 => ?_))
  rw [TA_cons] at hT3
  repeat refine zA_step rfl rfl ?_
  exact zA_ret rfl (hQ σ3 hF3 hT3)
set_option maxHeartbeats 4000000 in
set_option maxRecDepth 100000 in
theorem CB_14 {σ0 : zSo} {w : Nat} {v : Int32} {t : List Int32} (h : CB σ0 w 13 v t 11) : CB σ0 w 14 (2 * v) (14 :: t) 12 := by
  intro d σ l dp Q hF hT hl hd hQ
  simp only [List.length_cons] at hl
  show zA (d + 12) _ 0 [(0, .ref 68), (1, .int 14), (2, .ref 20), (3, .int (nI w)), (4, .int (nI dp))] [] σ Q
  repeat refine zA_step rfl rfl ?_
  refine zA_t (by simp (disch := omega) only [nu_lt, nu_le, nu_eq, nu_cmp_lt, nu_cmp_gt, nu_cmp_ge, nu_cmp_le, nu_wide, Int32.toInt_add, Int32.toInt_sub, Int32.toInt_mul, nu_I, Nat.reducePow, nu_bm, Int32.reduceToInt, Int64.reduceToInt]; omega) ?_
  repeat refine zA_step rfl rfl ?_
  refine zA_call rfl rfl (cl_leave hT (by omega) (fun σ2 hF2 hT2 => ?_))
  repeat refine zA_step rfl rfl ?_
  rw [nI_1]
  refine zA_call rfl rfl (h _ σ2 _ (dp + 1) _ (hF.tr hF2) hT2 (by simp; omega) (by omega) (fun σ3 hF3 hT3 => ?_))
  rw [TA_cons] at hT3
  repeat refine zA_step rfl rfl ?_
  exact zA_ret rfl (hQ σ3 hF3 hT3)
set_option maxHeartbeats 4000000 in
set_option maxRecDepth 100000 in
theorem CB_21 {σ0 : zSo} {p : paT} {w Y : Nat} {v : Int32} {t : List Int32} (hC : PC σ0 20 p) (hW : paW p Y) (hY : Y ≤ 2000) (hw : w < pw p) (h : CB σ0 w 20 v t 10) : CB σ0 w 21 (v + nI (pa p w)) (21 :: t) 11 := by
  intro d σ l dp Q hF hT hl hd hQ
  simp only [List.length_cons] at hl
  show zA (d + 11) _ 0 [(0, .ref 68), (1, .int 21), (2, .ref 20), (3, .int (nI w)), (4, .int (nI dp))] [] σ Q
  repeat refine zA_step rfl rfl ?_
  refine zA_t (by simp (disch := omega) only [nu_lt, nu_le, nu_eq, nu_cmp_lt, nu_cmp_gt, nu_cmp_ge, nu_cmp_le, nu_wide, Int32.toInt_add, Int32.toInt_sub, Int32.toInt_mul, nu_I, Nat.reducePow, nu_bm, Int32.reduceToInt, Int64.reduceToInt]; omega) ?_
  repeat refine zA_step rfl rfl ?_
  refine zA_call rfl rfl (cl_leave hT (by omega) (fun σ2 hF2 hT2 => ?_))
  repeat refine zA_step rfl rfl ?_
  rw [nI_1]
  refine zA_call rfl rfl (h _ σ2 _ (dp + 1) _ (hF.tr hF2) hT2 (by simp; omega) (by omega) (fun σ3 hF3 hT3 => ?_))
  rw [TA_cons] at hT3
  repeat refine zA_step rfl rfl ?_
  have hC2 : PC σ3 20 p := hC.fr hW (fun k h1 h2 => hF3 k (by simp only [List.mem_cons, List.not_mem_nil, or_false]; omega))
  refine zA_call rfl rfl (cl_age (Or.inl rfl) hC2 hW hY hw ?_)
  repeat refine zA_step rfl rfl ?_
  exact zA_ret rfl (hQ σ3 hF3 hT3)
set_option maxHeartbeats 4000000 in
set_option maxRecDepth 100000 in
theorem CB_22 {σ0 : zSo} {w : Nat} {v : Int32} {t : List Int32} (h : CB σ0 w 21 v t 11) : CB σ0 w 22 (v - 1000) (22 :: t) 12 := by
  intro d σ l dp Q hF hT hl hd hQ
  simp only [List.length_cons] at hl
  show zA (d + 12) _ 0 [(0, .ref 68), (1, .int 22), (2, .ref 20), (3, .int (nI w)), (4, .int (nI dp))] [] σ Q
  repeat refine zA_step rfl rfl ?_
  refine zA_t (by simp (disch := omega) only [nu_lt, nu_le, nu_eq, nu_cmp_lt, nu_cmp_gt, nu_cmp_ge, nu_cmp_le, nu_wide, Int32.toInt_add, Int32.toInt_sub, Int32.toInt_mul, nu_I, Nat.reducePow, nu_bm, Int32.reduceToInt, Int64.reduceToInt]; omega) ?_
  repeat refine zA_step rfl rfl ?_
  refine zA_call rfl rfl (cl_leave hT (by omega) (fun σ2 hF2 hT2 => ?_))
  repeat refine zA_step rfl rfl ?_
  rw [nI_1]
  refine zA_call rfl rfl (h _ σ2 _ (dp + 1) _ (hF.tr hF2) hT2 (by simp; omega) (by omega) (fun σ3 hF3 hT3 => ?_))
  rw [TA_cons] at hT3
  repeat refine zA_step rfl rfl ?_
  exact zA_ret rfl (hQ σ3 hF3 hT3)
set_option maxHeartbeats 4000000 in
set_option maxRecDepth 100000 in
theorem CB_24 {σ0 : zSo} {w : Nat} {v : Int32} {t : List Int32} (h : CB σ0 w 21 v t 11) : CB σ0 w 24 (2 * v) (24 :: t) 12 := by
  intro d σ l dp Q hF hT hl hd hQ
  simp only [List.length_cons] at hl
  show zA (d + 12) _ 0 [(0, .ref 68), (1, .int 24), (2, .ref 20), (3, .int (nI w)), (4, .int (nI dp))] [] σ Q
  repeat refine zA_step rfl rfl ?_
  refine zA_t (by simp (disch := omega) only [nu_lt, nu_le, nu_eq, nu_cmp_lt, nu_cmp_gt, nu_cmp_ge, nu_cmp_le, nu_wide, Int32.toInt_add, Int32.toInt_sub, Int32.toInt_mul, nu_I, Nat.reducePow, nu_bm, Int32.reduceToInt, Int64.reduceToInt]; omega) ?_
  repeat refine zA_step rfl rfl ?_
  refine zA_call rfl rfl (cl_leave hT (by omega) (fun σ2 hF2 hT2 => ?_))
  repeat refine zA_step rfl rfl ?_
  rw [nI_1]
  refine zA_call rfl rfl (h _ σ2 _ (dp + 1) _ (hF.tr hF2) hT2 (by simp; omega) (by omega) (fun σ3 hF3 hT3 => ?_))
  rw [TA_cons] at hT3
  repeat refine zA_step rfl rfl ?_
  exact zA_ret rfl (hQ σ3 hF3 hT3)
theorem CB_w {σ0 : zSo} {w : Nat} {B v : Int32} {t : List Int32} {a b : Nat} (h : CB σ0 w B v t a) (hab : a ≤ b) : CB σ0 w B v t b := by
  intro d σ l dp Q hF hT hl hd hQ
  have := h (d + (b - a)) σ l dp Q hF hT hl (by omega) hQ
  rw [show d + (b - a) + a = d + b by omega] at this
  exact this
