/-! ask: the bodies that ask anew; the reference -/
theorem rSt_a {σ0 σ : zSo} (h : rStat σ0) (hF : zFr aC σ0 σ) : rStat σ := by
  intro j hj
  rw [hF 1000 (by decide), hF 1001 (by decide), hF 1002 (by decide)]
  exact h j hj
set_option maxHeartbeats 4000000 in
set_option maxRecDepth 100000 in
theorem cl_anew {σ0 : zSo} {p : paT} {w Y o : Nat} {v : Int32} {t : List Int32} {dd : Nat} (hC : PC σ0 20 p) (hS : rStat σ0) (hW : paW p Y) (hw : w < pw p) (ho : o < 2) (h : CB σ0 w (bdy (pk p w) o) v t dd) (hdd : 2 ≤ dd) :
    ∀ (d : Nat) (σ : zSo) (l : List Int32) (dp : Nat) (Q : Option Value → zSo → Prop), zFr aC σ0 σ → TAc σ l → l.length + t.length ≤ 16 → dp + dd ≤ 30 → (∀ σ' : zSo, zFr aC σ0 σ' → TAc σ' (l ++ t) → Q (some (.int v)) σ') → zC (d + dd + 1) 8 [.ref 68, .int (nI o), .ref 20, .int (nI w), .int (nI dp)] σ Q := by
  intro d σ l dp Q hF hT hl hd hQ
  have w6 := hW.2.2.2.2.1
  have hk := (hW.2.2.2.2.2.2.1 w hw).1
  have hC2 : PC σ 20 p := hC.fr hW (fun k h1 h2 => hF k (by simp only [List.mem_cons, List.not_mem_nil, or_false]; omega))
  show zA (d + dd + 1) _ 0 [(0, .ref 68), (1, .int (nI o)), (2, .ref 20), (3, .int (nI w)), (4, .int (nI dp))] [] σ Q
  repeat refine zA_step rfl rfl ?_
  refine zA_ld (j := w) rfl rfl (by omega) (by decide) (hC2.2.2.2.2.2.1 w hw).1 ?_
  repeat refine zA_step rfl rfl ?_
  refine zA_call rfl rfl (cl_bodyOf (rSt_a hS hF) hk ho ?_)
  repeat refine zA_step rfl rfl ?_
  refine zA_call rfl rfl (h d σ l dp _ hF hT hl hd (fun σ3 hF3 hT3 => ?_))
  exact zA_ret rfl (hQ σ3 hF3 hT3)
set_option maxHeartbeats 4000000 in
set_option maxRecDepth 100000 in
theorem CB_11 {σ0 : zSo} {p : paT} {w Y : Nat} {v v2 : Int32} {t t2 : List Int32} (hC : PC σ0 20 p) (hS : rStat σ0) (hW : paW p Y) (hw : w < pw p) (h : CB σ0 w 10 v t 10) (h2 : CB σ0 w (bdy (pk p w) 1) v2 t2 12) : CB σ0 w 11 (v + v2) (11 :: (t ++ t2)) 14 := by
  intro d σ l dp Q hF hT hl hd hQ
  simp only [List.length_cons, List.length_append] at hl
  show zA (d + 14) _ 0 [(0, .ref 68), (1, .int 11), (2, .ref 20), (3, .int (nI w)), (4, .int (nI dp))] [] σ Q
  repeat refine zA_step rfl rfl ?_
  refine zA_t (by simp (disch := omega) only [nu_lt, nu_le, nu_eq, nu_cmp_lt, nu_cmp_gt, nu_cmp_ge, nu_cmp_le, nu_wide, Int32.toInt_add, Int32.toInt_sub, Int32.toInt_mul, nu_I, Nat.reducePow, nu_bm, Int32.reduceToInt, Int64.reduceToInt]; omega) ?_
  repeat refine zA_step rfl rfl ?_
  refine zA_call rfl rfl (cl_leave hT (by omega) (fun σ2 hF2 hT2 => ?_))
  repeat refine zA_step rfl rfl ?_
  rw [nI_1]
  refine zA_call rfl rfl (CB_w h (show 10 ≤ 13 by omega) d σ2 _ (dp + 1) _ (hF.tr hF2) hT2 (by simp; omega) (by omega) (fun σ3 hF3 hT3 => ?_))
  repeat refine zA_step rfl rfl ?_
  refine zA_call rfl rfl (cl_anew (o := 1) hC hS hW hw (by omega) h2 (by omega) d σ3 _ (dp + 1) _ hF3 hT3 (by simp; omega) (by omega) (fun σ4 hF4 hT4 => ?_))
  repeat refine zA_step rfl rfl ?_
  refine zA_ret rfl (hQ σ4 hF4 ?_)
  simpa using hT4
set_option maxHeartbeats 4000000 in
set_option maxRecDepth 100000 in
theorem CB_12 {σ0 : zSo} {w : Nat} {v : Int32} {t : List Int32} (h : CB σ0 w 11 v t 14) : CB σ0 w 12 (0 - v) (12 :: t) 15 := by
  intro d σ l dp Q hF hT hl hd hQ
  simp only [List.length_cons] at hl
  show zA (d + 15) _ 0 [(0, .ref 68), (1, .int 12), (2, .ref 20), (3, .int (nI w)), (4, .int (nI dp))] [] σ Q
  repeat refine zA_step rfl rfl ?_
  refine zA_t (by simp (disch := omega) only [nu_lt, nu_le, nu_eq, nu_cmp_lt, nu_cmp_gt, nu_cmp_ge, nu_cmp_le, nu_wide, Int32.toInt_add, Int32.toInt_sub, Int32.toInt_mul, nu_I, Nat.reducePow, nu_bm, Int32.reduceToInt, Int64.reduceToInt]; omega) ?_
  repeat refine zA_step rfl rfl ?_
  refine zA_call rfl rfl (cl_leave hT (by omega) (fun σ2 hF2 hT2 => ?_))
  repeat refine zA_step rfl rfl ?_
  rw [nI_1]
  refine zA_call rfl rfl (h _ σ2 _ (dp + 1) _ (hF.tr hF2) hT2 (by simp; omega) (by omega) (fun σ3 hF3 hT3 => ?_))
  rw [TA_cons] at hT3
  repeat refine zA_step rfl rfl ?_
  exact zA_ret rfl (hQ σ3 hF3 hT3)
set_option maxHeartbeats 4000000 in
set_option maxRecDepth 100000 in
theorem CB_23 {σ0 : zSo} {p : paT} {w Y : Nat} {v v2 : Int32} {t t2 : List Int32} (hC : PC σ0 20 p) (hS : rStat σ0) (hW : paW p Y) (hw : w < pw p) (h : CB σ0 w 20 v t 10) (h2 : CB σ0 w (bdy (pk p w) 0) v2 t2 12) : CB σ0 w 23 (v - v2) (23 :: (t ++ t2)) 14 := by
  intro d σ l dp Q hF hT hl hd hQ
  simp only [List.length_cons, List.length_append] at hl
  show zA (d + 14) _ 0 [(0, .ref 68), (1, .int 23), (2, .ref 20), (3, .int (nI w)), (4, .int (nI dp))] [] σ Q
  repeat refine zA_step rfl rfl ?_
  refine zA_t (by simp (disch := omega) only [nu_lt, nu_le, nu_eq, nu_cmp_lt, nu_cmp_gt, nu_cmp_ge, nu_cmp_le, nu_wide, Int32.toInt_add, Int32.toInt_sub, Int32.toInt_mul, nu_I, Nat.reducePow, nu_bm, Int32.reduceToInt, Int64.reduceToInt]; omega) ?_
  repeat refine zA_step rfl rfl ?_
  refine zA_call rfl rfl (cl_leave hT (by omega) (fun σ2 hF2 hT2 => ?_))
  repeat refine zA_step rfl rfl ?_
  rw [nI_1]
  refine zA_call rfl rfl (CB_w h (show 10 ≤ 13 by omega) d σ2 _ (dp + 1) _ (hF.tr hF2) hT2 (by simp; omega) (by omega) (fun σ3 hF3 hT3 => ?_))
  repeat refine zA_step rfl rfl ?_
  refine zA_call rfl rfl (cl_anew (o := 0) hC hS hW hw (by omega) h2 (by omega) d σ3 _ (dp + 1) _ hF3 hT3 (by simp; omega) (by omega) (fun σ4 hF4 hT4 => ?_))
  repeat refine zA_step rfl rfl ?_
  refine zA_ret rfl (hQ σ4 hF4 ?_)
  simpa using hT4
/-! what a witness answers, and the bodies it goes through -/
def ansT (k o : Nat) : List Int32 := if o = 0 then (if k = 1 then [11, 10, 21, 20] else if k = 2 then [12, 11, 10, 24, 21, 20] else if k = 3 then [11, 10, 22, 21, 20] else if k = 4 then [13, 10] else [14, 13, 10]) else (if k = 1 then [21, 20] else if k = 2 then [24, 21, 20] else if k = 3 then [22, 21, 20] else if k = 4 then [23, 20, 13, 10] else [23, 20, 14, 13, 10])
def ansV (p : paT) (w k o : Nat) : Int32 := if o = 0 then (if k = 1 then szv p w + (nI w + nI (pa p w)) else if k = 2 then 0 - (szv p w + 2 * (nI w + nI (pa p w))) else if k = 3 then szv p w + (nI w + nI (pa p w) - 1000) else if k = 4 then szv p w - 100 else 2 * (szv p w - 100)) else (if k = 1 then nI w + nI (pa p w) else if k = 2 then 2 * (nI w + nI (pa p w)) else if k = 3 then nI w + nI (pa p w) - 1000 else if k = 4 then nI w - (szv p w - 100) else nI w - 2 * (szv p w - 100))
theorem CB_all {σ0 : zSo} {p : paT} {w Y o : Nat} (hC : PC σ0 20 p) (hS : rStat σ0) (hW : paW p Y) (hY : Y ≤ 2000) (hw : w < pw p) (ho : o < 2) : CB σ0 w (bdy (pk p w) o) (ansV p w (pk p w) o) (ansT (pk p w) o) 15 := by
  have hk := (hW.2.2.2.2.2.2.1 w hw).1
  have c10 := CB_10 hC hW hY hw
  have c20 : CB σ0 w 20 (nI w) [20] 10 := CB_20
  have c21 := CB_21 hC hW hY hw c20
  have c22 := CB_22 c21
  have c24 := CB_24 c21
  have c13 := CB_13 c10
  have c14 := CB_14 c13
  rcases (show pk p w = 1 ∨ pk p w = 2 ∨ pk p w = 3 ∨ pk p w = 4 ∨ pk p w = 5 by omega) with e | e | e | e | e
  all_goals
    rcases (show o = 0 ∨ o = 1 by omega) with rfl | rfl
  · have := CB_11 hC hS hW hw c10 (v2 := nI w + nI (pa p w)) (t2 := [21, 20]) (by rw [e]; exact CB_w c21 (by omega))
    rw [e]; exact CB_w this (by omega)
  · rw [e]; exact CB_w c21 (by omega)
  · have := CB_12 (CB_11 hC hS hW hw c10 (v2 := 2 * (nI w + nI (pa p w))) (t2 := [24, 21, 20]) (by rw [e]; exact CB_w c24 (by omega)))
    rw [e]; exact CB_w this (by omega)
  · rw [e]; exact CB_w c24 (by omega)
  · have := CB_11 hC hS hW hw c10 (v2 := nI w + nI (pa p w) - 1000) (t2 := [22, 21, 20]) (by rw [e]; exact CB_w c22 (by omega))
    rw [e]; exact CB_w this (by omega)
  · rw [e]; exact CB_w c22 (by omega)
  · rw [e]; exact CB_w c13 (by omega)
  · have := CB_23 hC hS hW hw c20 (v2 := szv p w - 100) (t2 := [13, 10]) (by rw [e]; exact CB_w c13 (by omega))
    rw [e]; exact CB_w this (by omega)
  · rw [e]; exact CB_w c14 (by omega)
  · have := CB_23 hC hS hW hw c20 (v2 := 2 * (szv p w - 100)) (t2 := [14, 13, 10]) (by rw [e]; exact CB_w c14 (by omega))
    rw [e]; exact CB_w this (by omega)
theorem ansT_len (k o : Nat) : (ansT k o).length ≤ 6 := by
  unfold ansT
  repeat' split
  all_goals simp
set_option maxHeartbeats 4000000 in
set_option maxRecDepth 100000 in
theorem cl_answer {d w Y o : Nat} {σ : zSo} {Q : Option Value → zSo → Prop} {p : paT} (hC : PC σ 20 p) (hS : rStat σ) (hW : paW p Y) (hY : Y ≤ 2000) (hw : w < pw p) (ho : o < 2) (hQ : ∀ σ' : zSo, zFr aC σ σ' → TAc σ' (ansT (pk p w) o) → Q (some (.int (ansV p w (pk p w) o))) σ') : zC (d + 16) 6 [.ref 68, .ref 20, .int (nI w), .int (nI o)] σ Q := by
  have w6 := hW.2.2.2.2.1
  have hk := (hW.2.2.2.2.2.2.1 w hw).1
  have hF : zFr aC σ (zup σ 68 1 0) := zFr.rf.up (by simp)
  have hC2 : PC (zup σ 68 1 0) 20 p := hC.fr hW (fun k h1 h2 => hF k (by simp only [List.mem_cons, List.not_mem_nil, or_false]; omega))
  show zA (d + 16) _ 0 [(0, .ref 68), (1, .ref 20), (2, .int (nI w)), (3, .int (nI o))] [] σ Q
  repeat refine zA_step rfl rfl ?_
  refine zA_ld (j := w) rfl rfl (by omega) (by decide) (hC2.2.2.2.2.2.1 w hw).1 ?_
  repeat refine zA_step rfl rfl ?_
  refine zA_call rfl rfl (cl_bodyOf (rSt_a hS hF) hk ho ?_)
  repeat refine zA_step rfl rfl ?_
  have hl := ansT_len (pk p w) o
  refine zA_call rfl rfl (CB_all hC hS hW hY hw ho d _ [] 0 _ hF ⟨by simp, by simp [zup_k, upd]; rfl, fun j b hj => by simp at hj⟩ (by simp; omega) (by omega) (fun σ3 hF3 hT3 => ?_))
  exact zA_ret rfl (hQ σ3 hF3 hT3)
