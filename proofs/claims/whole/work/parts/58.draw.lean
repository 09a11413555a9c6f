/-! years by draws -/
theorem lg_rem {l m : Int64} {a b : Nat} (hl : l.toInt = (a : Int)) (hm : m.toInt = (b : Int)) (hb : 0 < b) (ha : a < 4611686018427387904) : (l - l / m * m).toInt = ((a % b : Nat) : Int) := by
  have e1 : (l / m).toInt = ((a / b : Nat) : Int) := by
    rw [Int64.toInt_div, hl, hm, Int.tdiv_eq_ediv_of_nonneg (by omega)]
    have : a / b ≤ a := Nat.div_le_self _ _
    rw [← Int.natCast_ediv]
    generalize a / b = c at this ⊢
    exact nu_bmL (by omega) (by omega)
  have e2 : a / b * b ≤ a := Nat.div_mul_le_self _ _
  have e3 : (l / m * m).toInt = ((a / b * b : Nat) : Int) := by
    rw [Int64.toInt_mul, e1, hm, ← Int.natCast_mul]
    exact nu_bmL (by omega) (by omega)
  rw [Int64.toInt_sub, hl, e3]
  have e4 : a % b = a - a / b * b := by
    have := Nat.div_add_mod a b
    rw [Nat.mul_comm] at this
    omega
  rw [e4, nu_bmL (by omega) (by omega)]
  omega
theorem lg_mul {l m : Int64} {a b : Nat} (hl : l.toInt = (a : Int)) (hm : m.toInt = (b : Int)) (h : a * b < 4611686018427387904) : (l * m).toInt = ((a * b : Nat) : Int) := by
  rw [Int64.toInt_mul, hl, hm, ← Int.natCast_mul]
  exact nu_bmL (by omega) (by omega)
theorem lg_i {l : Int64} {a : Nat} (hl : l.toInt = (a : Int)) (h : a < 2147483648) : l.toInt32 = nI a := by
  apply nu_eqI
  rw [Int64.toInt_toInt32, hl]
  exact nu_bm (by omega) (by omega)
def drP (q : paT) (r : Nat) : paT := agP (if r % 5 = 0 then ydset (if r % 7 = 0 then bmK q (r % ps q) (Ev q) (1 + r % 9) (pw q) else q) (r % ps q) (min 99 (pyd q (r % ps q) + 1)) else (if r % 7 = 0 then bmK q (r % ps q) (Ev q) (1 + r % 9) (pw q) else q)) 1
def drN (r : Nat) : Nat := r * 16807 % 2147483647
def drI : Nat → paT → Nat → paT
  | 0, q, _ => q
  | n + 1, q, r => drI n (drP q (drN r)) (drN r)
def dr1 (q : paT) (r : Nat) : paT := if r % 7 = 0 then bmK q (r % ps q) (Ev q) (1 + r % 9) (pw q) else q
theorem drP_eq (q : paT) (r : Nat) : drP q r = agP (if r % 5 = 0 then ydset (dr1 q r) (r % ps q) (min 99 (pyd q (r % ps q) + 1)) else dr1 q r) 1 := rfl
theorem dr1_same (q : paT) (r : Nat) : (dr1 q r).1 = q.1 ∧ pyd (dr1 q r) = pyd q := by
  unfold dr1
  split
  · exact ⟨(bmK_same q _ _ _ _).1, (bmK_same q _ _ _ _).2.1⟩
  · exact ⟨rfl, rfl⟩
theorem dr1_W {q : paT} {Y r : Nat} (hW : paW q Y) (h0 : 0 < ps q) : paW (dr1 q r) Y := by
  unfold dr1
  split
  · exact bmK_W hW (Nat.mod_lt _ h0) (by omega) (by omega) _
  · exact hW
theorem drP_W {q : paT} {Y r : Nat} (hW : paW q Y) (h0 : 0 < ps q) : paW (drP q r) (Y + 1) := by
  rw [drP_eq]
  apply agP_W
  split
  · exact ydset_W (dr1_W hW h0) (by omega)
  · exact dr1_W hW h0
theorem drP_1 (q : paT) (r : Nat) : ps (drP q r) = ps q ∧ pw (drP q r) = pw q ∧ py (drP q r) = py q + 1 := by
  have e := (dr1_same q r).1
  rw [drP_eq]
  split
  · show ps (dr1 q r) = _ ∧ pw (dr1 q r) = _ ∧ py (dr1 q r) + 1 = _
    unfold ps pw py
    rw [e]
    exact ⟨rfl, rfl, rfl⟩
  · show ps (dr1 q r) = _ ∧ pw (dr1 q r) = _ ∧ py (dr1 q r) + 1 = _
    unfold ps pw py
    rw [e]
    exact ⟨rfl, rfl, rfl⟩
theorem drI_1 : ∀ n q r, ps (drI n q r) = ps q ∧ pw (drI n q r) = pw q
  | 0, _, _ => ⟨rfl, rfl⟩
  | n + 1, q, r => by
    have ih := drI_1 n (drP q (drN r)) (drN r)
    have e := drP_1 q (drN r)
    exact ⟨ih.1.trans e.1, ih.2.trans e.2.1⟩
theorem drI_W {n : Nat} : ∀ {q : paT} {Y r : Nat}, paW q Y → 0 < ps q → paW (drI n q r) (Y + n) := by
  induction n with
  | zero => exact fun h _ => h
  | succ n ih =>
    intro q Y r h h0
    have := ih (r := drN r) (drP_W (r := drN r) h h0) (by rw [(drP_1 q _).1]; exact h0)
    rw [show Y + (n + 1) = Y + 1 + n by omega]
    exact this
theorem ydset_id (q : paT) (s : Nat) : ydset q s (pyd q s) = q := by
  refine pa_ext rfl ?_ rfl rfl rfl rfl rfl
  funext a
  show (if a = s then pyd q s else pyd q a) = pyd q a
  by_cases e : a = s
  · rw [if_pos e, e]
  · rw [if_neg e]
theorem PC.ydT {σ : zSo} {p : paT} {o y : Nat} {x : Int32} (h : PC σ 29 p) (hx : x = nI y) : PC (zup σ (29 + 1) o x) 29 (ydset p o y) := by
  obtain ⟨a0, a2, a3, a4, a5, a6, a7⟩ := h
  refine ⟨a0, a2, a3, a4, fun s hs => ?_, a6, a7⟩
  show zup σ (29 + 1) o x (29 + 1) s = nI (if s = o then y else pyd p s)
  rw [zup_k]
  simp only [upd]
  split
  · exact hx
  · exact a5 s hs
set_option maxHeartbeats 4000000 in
set_option maxRecDepth 100000 in
theorem cl_passYear {d r Y : Nat} {l : Int64} {σ : zSo} {Q : Option Value → zSo → Prop} {q : paT} (hl : l.toInt = (r : Int)) (hr : r < 2147483648) (hC : PC σ 29 q) (hW : paW q Y) (hY : Y ≤ 1500) (h0 : 0 < ps q)
    (hQ : ∀ σ' : zSo, zFr tC σ σ' → PC σ' 29 (drP q r) → Q none σ') : zC (d + 10) 41 [.ref 29, .long l] σ Q := by
  have ws6 := hW.2.2.2.1
  have w6 := hW.2.2.2.2.1
  have hs := Nat.mod_lt r h0
  have hps := hC.2.1
  have m7 : (l - l / 7 * 7).toInt = ((r % 7 : Nat) : Int) := lg_rem hl (b := 7) (by decide) (by omega) (by omega)
  have m5 : (l - l / 5 * 5).toInt = ((r % 5 : Nat) : Int) := lg_rem hl (b := 5) (by decide) (by omega) (by omega)
  have m9 : (l - l / 9 * 9).toInt32 = nI (r % 9) := lg_i (lg_rem hl (b := 9) (by decide) (by omega) (by omega)) (by omega)
  have ms : (l - l / (nI (ps q)).toInt64 * (nI (ps q)).toInt64).toInt32 = nI (r % ps q) := lg_i (lg_rem hl (b := ps q) (by rw [nu_wide, nu_I (by omega)]) h0 (by omega)) (by omega)
  have fin : ∀ (σ2 : zSo), zFr tC σ σ2 → PC σ2 29 (if r % 5 = 0 then ydset (dr1 q r) (r % ps q) (min 99 (pyd q (r % ps q) + 1)) else dr1 q r) → zA (d + 10) 41 73 [(0, .ref 29), (1, .long l), (3, .int (nI (r % ps q)))] [] σ2 Q := by
    intro σ2 hF2 hC2
    repeat refine zA_step rfl rfl ?_
    refine zA_ret rfl (hQ _ (hF2.up (by simp)) ?_)
    rw [drP_eq]
    refine PC.zy (m := 0) (n := 1) hC2 ?_
    rw [hC2.2.2.2.1, nI_1]
  have part2 : ∀ (σ2 : zSo), zFr tC σ σ2 → PC σ2 29 (dr1 q r) → zA (d + 10) 41 44 [(0, .ref 29), (1, .long l), (3, .int (nI (r % ps q)))] [] σ2 Q := by
    intro σ2 hF2 hC2
    have hy : σ2 (29 + 1) (r % ps q) = nI (pyd q (r % ps q)) := by
      have := hC2.2.2.2.2.1 (r % ps q) (by unfold ps at hs ⊢; rw [(dr1_same q r).1]; exact hs)
      rw [(dr1_same q r).2] at this
      exact this
    have hy9 := hW.2.2.2.2.2.1 (r % ps q) hs
    repeat refine zA_step rfl rfl ?_
    by_cases e : r % 5 = 0
    · rw [if_pos e] at fin
      refine zA_t (by rw [nu_cmp_eq, nu_leq, m5, e]; rfl) ?_
      repeat refine zA_step rfl rfl ?_
      refine zA_ld (j := r % ps q) rfl rfl (by omega) (by decide) hy ?_
      repeat refine zA_step rfl rfl ?_
      refine zA_sto (j := r % ps q) rfl rfl (by omega) (by decide) ?_
      refine fin _ (hF2.up (by simp)) (hC2.ydT ?_)
      by_cases c : pyd q (r % ps q) + 1 < 99
      · rw [if_pos (by rw [nI_1]; exact (by simp (disch := omega) only [nu_lt, nu_le, nu_eq, nu_cmp_lt, nu_cmp_gt, nu_cmp_ge, nu_cmp_le, nu_wide, Int32.toInt_add, Int32.toInt_sub, Int32.toInt_mul, nu_I, Nat.reducePow, nu_bm, Int32.reduceToInt, Int64.reduceToInt]; omega)), nI_1, Nat.min_eq_right (by omega)]
      · rw [if_neg (by rw [nI_1]; exact (by simp (disch := omega) only [nu_lt, nu_le, nu_eq, nu_cmp_lt, nu_cmp_gt, nu_cmp_ge, nu_cmp_le, nu_wide, Int32.toInt_add, Int32.toInt_sub, Int32.toInt_mul, nu_I, Nat.reducePow, nu_bm, Int32.reduceToInt, Int64.reduceToInt]; omega)), Nat.min_eq_left (by omega)]
        rfl
    · rw [if_neg e] at fin
      refine zA_f (by rw [nu_cmp_eq, nu_leq, m5]; show ¬ ((r % 5 : Nat) : Int) = 0; omega) ?_
      exact fin σ2 hF2 hC2
  show zA (d + 10) _ 0 [(0, .ref 29), (1, .long l)] [] σ Q
  repeat refine zA_step rfl rfl ?_
  rw [hps]
  refine zA_f (by simp (disch := omega) only [nu_lt, nu_le, nu_eq, nu_cmp_lt, nu_cmp_gt, nu_cmp_ge, nu_cmp_le, nu_wide, Int32.toInt_add, Int32.toInt_sub, Int32.toInt_mul, nu_I, Nat.reducePow, nu_bm, Int32.reduceToInt, Int64.reduceToInt]; omega) ?_
  repeat refine zA_step rfl rfl ?_
  rw [hps]
  refine zA_if rfl (by rw [nu_leq, nu_wide, nu_I (by omega)]; show ¬ ((ps q : Nat) : Int) = 0; omega) ?_
  repeat refine zA_step rfl rfl ?_
  rw [ms]
  by_cases e : r % 7 = 0
  · refine zA_t (by rw [nu_cmp_eq, nu_leq, m7, e]; rfl) ?_
    repeat refine zA_step rfl rfl ?_
    refine zA_call rfl rfl (cl_everybody (p := q) (Or.inr (Or.inl rfl)) w6 hC.2.2.1 ?_)
    repeat refine zA_step rfl rfl ?_
    rw [m9, show (1 : Int32) + nI (r % 9) = nI (1 + r % 9) from by rw [show (1 : Int32) = nI 1 from rfl, nI_add]]
    refine zA_call rfl rfl (cl_bump (Or.inr (Or.inl rfl)) hC hW (by omega) hs (Ev_lt w6) (by omega) (fun σ2 hF2 hC2 => ?_))
    refine zA_s0 rfl ?_
    refine part2 σ2 (hF2.sub (by simp)) ?_
    unfold dr1
    rw [if_pos e]
    exact hC2
  · refine zA_f (by rw [nu_cmp_eq, nu_leq, m7]; show ¬ ((r % 7 : Nat) : Int) = 0; omega) ?_
    refine part2 σ zFr.rf ?_
    unfold dr1
    rw [if_neg e]
    exact hC
