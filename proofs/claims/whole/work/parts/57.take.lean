/-! take -/
theorem nu_sub7 : ∀ x, x < 64 → ∀ y, y < 64 → (nI x ^^^ -1) &&& nI y = nI ((63 ^^^ x) &&& y) := by decide +kernel
def tkS (c : Nat → Nat) (T n X : Nat) (b : Option Nat) : Option Nat := if X &&& (63 ^^^ T) = 0 ∧ n ≤ c X ∧ (∀ z, b = some z → pc6 X < pc6 z) then some X else b
def tkR (c : Nat → Nat) (T n : Nat) : Nat → Nat → Option Nat → Option Nat
  | 0, _, b => b
  | u + 1, X, b => tkR c T n u (X + 1) (tkS c T n X b)
theorem tkR_add (c : Nat → Nat) (T n : Nat) : ∀ u v X b, tkR c T n (u + v) X b = tkR c T n v (X + u) (tkR c T n u X b)
  | 0, v, X, b => by rw [Nat.zero_add, Nat.add_zero, tkR]
  | u + 1, v, X, b => by
    rw [show u + 1 + v = (u + v) + 1 by omega, tkR, tkR_add c T n u v (X + 1), tkR, show X + 1 + u = X + (u + 1) by omega]
theorem tkR_past (c : Nat → Nat) {T : Nat} (n : Nat) (hT : T < 64) : ∀ u X b, T < X → X + u ≤ 64 → tkR c T n u X b = b
  | 0, X, b, _, _ => rfl
  | u + 1, X, b, h, h2 => by
    rw [tkR, tkR_past c n hT u (X + 1) _ (by omega) (by omega), tkS, if_neg]
    intro z
    have := sub6_le X (by omega) T hT z.1
    omega
theorem and_bn {X : Nat} {f : Nat → Bool} {n : Nat} : X &&& bn f n = bn (fun w => X.testBit w && f w) n := by
  apply Nat.eq_of_testBit_eq
  intro j
  rw [Nat.testBit_and, bn_tb, bn_tb]
  cases X.testBit j <;> cases decide (j < n) <;> rfl
theorem cn_split (X : Nat) (f g : Nat → Bool) : ∀ n, n ≤ 6 → cn (fun w => if X.testBit w then f w else g w) n = cn (fun w => X.testBit w && f w) n + cn (fun w => (63 ^^^ X).testBit w && g w) n
  | 0, _ => rfl
  | n + 1, h => by
    have ih := cn_split X f g n (by omega)
    have h63 : (63 ^^^ X).testBit n = !(X.testBit n) := by
      rw [Nat.testBit_xor, show (63 : Nat) = 2 ^ 6 - 1 from rfl, Nat.testBit_two_pow_sub_one]
      simp [show n < 6 by omega]
    rw [cn, cn, cn, ih, h63]
    cases X.testBit n <;> simp <;> omega
def ccX (p : paT) (s pn n X : Nat) : Nat := pc6 (X &&& bn (swb (tkn p s pn n) s) (pw p)) + pc6 ((63 ^^^ X) &&& bn (swb (agP p n) s) (pw p))
theorem sayO_cong {p q : paT} {w s : Nat} (h1 : p.1 = q.1) (h2 : pk p = pk q) (h3 : pa p = pa q) (h4 : pe p = pe q) (h5 : pb p = pb q) (h6 : pm p w s = pm q w s) : sayO p w s = sayO q w s := by
  unfold sayO
  rw [h2, h3, h4, h5, h6]
  unfold py pl pd
  rw [h1]
theorem ccX_eq {p : paT} {s pn n X : Nat} (w6 : pw p ≤ 6) (hX : ∀ w, w < pw p → X.testBit w = true → tkb p w = true) : cS (agP (bmK p s X pn (pw p)) n) s = ccX p s pn n X := by
  have f := bmK_1 p s X pn (pw p)
  obtain ⟨b1, b2, b3, b4, b5, b6⟩ := bmK_same p s X pn (pw p)
  obtain ⟨c1, c2, c3, c4, c5, c6⟩ := bmK_same p s (Ev p) pn (pw p)
  have e1 : pw (agP (bmK p s X pn (pw p)) n) = pw p := f.2.1
  unfold cS ccX
  rw [e1, pc6_bn _ w6, and_bn, and_bn, pc6_bn _ w6, pc6_bn _ w6, ← cn_split X _ _ _ w6]
  refine cn_cong (fun w hw => ?_)
  have hm : ∀ q : paT, pm (agP q n) = pm q := fun q => rfl
  have ag : ∀ q q' : paT, q.1 = q'.1 → (agP q n).1 = (agP q' n).1 := by
    intro q q' h
    unfold agP pl pd py ps pw
    rw [h]
  have aa : ∀ q q' : paT, pa q = pa q' → pa (agP q n) = pa (agP q' n) := by
    intro q q' h
    show (fun w => pa q w + n) = (fun w => pa q' w + n)
    rw [h]
  by_cases h : X.testBit w = true
  · rw [if_pos h]
    unfold swb tkn
    rw [sayO_cong (q := agP (bmK p s (Ev p) pn (pw p)) n) (ag _ _ (by rw [b1, c1])) (by show pk (bmK p s X pn (pw p)) = pk (bmK p s (Ev p) pn (pw p)); rw [b3, c3]) (aa _ _ (by rw [b4, c4])) (by show pe (bmK p s X pn (pw p)) = pe (bmK p s (Ev p) pn (pw p)); rw [b5, c5]) (by show pb (bmK p s X pn (pw p)) = pb (bmK p s (Ev p) pn (pw p)); rw [b6, c6])]
    rw [hm, hm, bmK_m, bmK_m, Ev_tb, h]
    simp [hw]
  · rw [if_neg h]
    unfold swb
    rw [sayO_cong (q := agP p n) (ag _ _ b1) (by show pk (bmK p s X pn (pw p)) = pk p; rw [b3]) (aa _ _ b4) (by show pe (bmK p s X pn (pw p)) = pe p; rw [b5]) (by show pb (bmK p s X pn (pw p)) = pb p; rw [b6])]
    rw [hm, hm, bmK_m, if_neg (fun z => h z.2.2.1)]
theorem sub6_tb : ∀ x, x < 64 → ∀ y, y < 64 → x &&& (63 ^^^ y) = 0 → ∀ w, w < 6 → x.testBit w = true → y.testBit w = true := by decide +kernel
set_option maxHeartbeats 4000000 in
set_option maxRecDepth 100000 in
theorem cl_take_lp {d s pn n m c1 T W8 W7 : Nat} {σ : zSo} {Q : Option Value → zSo → Prop} {p : paT} (hT : T < 64) (h8 : W8 < 64) (h7 : W7 < 64) (hm : m ≤ 6) (hc : ∀ X, ccX p s pn n X = pc6 (X &&& W8) + pc6 ((63 ^^^ X) &&& W7))
    (hQ : ∀ b, b = tkR (ccX p s pn n) T m (T + 1) 0 none → (∀ z, b = some z → z < 64) → zA (d + 10) 77 190 [(4, .int (nI m)), (5, .int (nI c1)), (6, .int (nI T)), (7, .int (nI W7)), (8, .int (nI W8)), (9, .int (eO b)), (10, .int (nI (T + 1)))] [] σ Q) :
    ∀ u X, X + u = T + 1 → ∀ b : Option Nat, (∀ z, b = some z → z < 64) → tkR (ccX p s pn n) T m u X b = tkR (ccX p s pn n) T m (T + 1) 0 none → ∀ i : Int32, i = nI X → zA (d + 10) 77 103 [(4, .int (nI m)), (5, .int (nI c1)), (6, .int (nI T)), (7, .int (nI W7)), (8, .int (nI W8)), (9, .int (eO b)), (10, .int i)] [] σ Q := by
  intro u
  induction u with
  | zero =>
    intro X hX b hb hr i ei
    subst ei
    have : X = T + 1 := by omega
    subst this
    refine zA_s0 rfl ?_
    refine zA_s0 rfl ?_
    refine zA_s0 rfl ?_
    refine zA_t (by simp (disch := omega) only [nu_lt, nu_le, nu_eq, nu_cmp_lt, nu_cmp_gt, nu_cmp_ge, nu_cmp_le, nu_wide, Int32.toInt_add, Int32.toInt_sub, Int32.toInt_mul, nu_I, Nat.reducePow, nu_bm, Int32.reduceToInt, Int64.reduceToInt]; omega) ?_
    exact hQ b hr hb
  | succ u ih =>
    intro X hX b hb hr i ei
    subst ei
    have hX6 : X < 64 := by omega
    have a1 : X &&& W8 < 64 := Nat.lt_of_le_of_lt Nat.and_le_left hX6
    have a2 : (63 ^^^ X) &&& W7 < 64 := Nat.lt_of_le_of_lt Nat.and_le_right h7
    have a3 : X &&& (63 ^^^ T) < 64 := Nat.lt_of_le_of_lt Nat.and_le_left hX6
    have b1 : pc6 (X &&& W8) ≤ 6 := cn_le _ _
    have b2 : pc6 ((63 ^^^ X) &&& W7) ≤ 6 := cn_le _ _
    have b3 : pc6 X ≤ 6 := cn_le _ _
    have hcX := hc X
    rw [tkR] at hr
    have nxt : ∀ b', b' = tkS (ccX p s pn n) T m X b → (∀ z, b' = some z → z < 64) → zA (d + 10) 77 103 [(4, .int (nI m)), (5, .int (nI c1)), (6, .int (nI T)), (7, .int (nI W7)), (8, .int (nI W8)), (9, .int (eO b')), (10, .int (nI X + 1))] [] σ Q := fun b' e1 e2 => ih (X + 1) (by omega) b' e2 (by rw [e1]; exact hr) _ (nI_1 X)
    have keep : ¬ (X &&& (63 ^^^ T) = 0 ∧ m ≤ ccX p s pn n X ∧ (∀ z, b = some z → pc6 X < pc6 z)) → zA (d + 10) 77 103 [(4, .int (nI m)), (5, .int (nI c1)), (6, .int (nI T)), (7, .int (nI W7)), (8, .int (nI W8)), (9, .int (eO b)), (10, .int (nI X + 1))] [] σ Q := fun hn => nxt b (by rw [tkS, if_neg hn]) hb
    have tail : ∀ f : Bool, (f = true ↔ ∀ z, b = some z → pc6 X < pc6 z) → ∀ z11 : Int32, z11 = nI (ccX p s pn n X) → zA (d + 10) 77 (if nI X &&& (nI T ^^^ -1) = 0 then 168 else 184) [(4, .int (nI m)), (5, .int (nI c1)), (6, .int (nI T)), (7, .int (nI W7)), (8, .int (nI W8)), (9, .int (eO b)), (10, .int (nI X)), (11, .int z11), (12, .int (nI f.toNat))] [] σ Q := by
      intro f hf z11 e11
      subst e11
      rw [nu_sub6 X hX6 T hT]
      by_cases e1 : X &&& (63 ^^^ T) = 0
      · rw [e1]
        repeat refine zA_step rfl rfl ?_
        by_cases e2 : m ≤ ccX p s pn n X
        · refine zA_f (by simp (disch := omega) only [nu_lt, nu_le, nu_eq, nu_cmp_lt, nu_cmp_gt, nu_cmp_ge, nu_cmp_le, nu_wide, Int32.toInt_add, Int32.toInt_sub, Int32.toInt_mul, nu_I, Nat.reducePow, nu_bm, Int32.reduceToInt, Int64.reduceToInt]; omega) ?_
          repeat refine zA_step rfl rfl ?_
          cases f with
          | false =>
            repeat refine zA_step rfl rfl ?_
            refine zA_dr rfl rfl rfl ?_
            exact keep (fun z => by have := hf.mpr z.2.2; cases this)
          | true =>
            repeat refine zA_step rfl rfl ?_
            refine zA_dr rfl rfl rfl ?_
            exact nxt (some X) (by rw [tkS, if_pos ⟨e1, e2, hf.mp rfl⟩]) (fun z hz => by cases hz; omega)
        · refine zA_t (by simp (disch := omega) only [nu_lt, nu_le, nu_eq, nu_cmp_lt, nu_cmp_gt, nu_cmp_ge, nu_cmp_le, nu_wide, Int32.toInt_add, Int32.toInt_sub, Int32.toInt_mul, nu_I, Nat.reducePow, nu_bm, Int32.reduceToInt, Int64.reduceToInt]; omega) ?_
          repeat refine zA_step rfl rfl ?_
          refine zA_dr rfl rfl rfl ?_
          exact keep (fun z => e2 z.2.1)
      · refine zA_f (by simp (disch := omega) only [nu_lt, nu_le, nu_eq, nu_cmp_lt, nu_cmp_gt, nu_cmp_ge, nu_cmp_le, nu_wide, Int32.toInt_add, Int32.toInt_sub, Int32.toInt_mul, nu_I, Nat.reducePow, nu_bm, Int32.reduceToInt, Int64.reduceToInt]; omega) ?_
        repeat refine zA_step rfl rfl ?_
        refine zA_dr rfl rfl rfl ?_
        exact keep (fun z => e1 z.1)
    refine zA_s0 rfl ?_
    repeat refine zA_step rfl rfl ?_
    refine zA_f (by simp (disch := omega) only [nu_lt, nu_le, nu_eq, nu_cmp_lt, nu_cmp_gt, nu_cmp_ge, nu_cmp_le, nu_wide, Int32.toInt_add, Int32.toInt_sub, Int32.toInt_mul, nu_I, Nat.reducePow, nu_bm, Int32.reduceToInt, Int64.reduceToInt]; omega) ?_
    repeat refine zA_step rfl rfl ?_
    rw [nu_and]
    refine zA_call rfl rfl (cl_bitCount a1 ?_)
    repeat refine zA_step rfl rfl ?_
    rw [nu_sub7 X hX6 W7 h7]
    refine zA_call rfl rfl (cl_bitCount a2 ?_)
    have e11 : nI (pc6 (X &&& W8)) + nI (pc6 ((63 ^^^ X) &&& W7)) = nI (ccX p s pn n X) := by rw [nI_add, hcX]
    cases b with
    | none =>
      repeat refine zA_step rfl rfl ?_
      exact tail true (by simp) _ e11
    | some z =>
      have hz := hb z rfl
      have bz : pc6 z ≤ 6 := cn_le _ _
      show zA _ _ _ [(4, .int (nI m)), (5, .int (nI c1)), (6, .int (nI T)), (7, .int (nI W7)), (8, .int (nI W8)), (9, .int (nI z)), (10, .int (nI X))] _ _ _
      repeat refine zA_step rfl rfl ?_
      refine zA_f (nu_nI_NO (by omega)) ?_
      repeat refine zA_step rfl rfl ?_
      refine zA_call rfl rfl (cl_bitCount hX6 ?_)
      repeat refine zA_step rfl rfl ?_
      refine zA_call rfl rfl (cl_bitCount hz ?_)
      repeat refine zA_step rfl rfl ?_
      by_cases e : pc6 X < pc6 z
      · refine zA_f (by simp (disch := omega) only [nu_lt, nu_le, nu_eq, nu_cmp_lt, nu_cmp_gt, nu_cmp_ge, nu_cmp_le, nu_wide, Int32.toInt_add, Int32.toInt_sub, Int32.toInt_mul, nu_I, Nat.reducePow, nu_bm, Int32.reduceToInt, Int64.reduceToInt]; omega) ?_
        repeat refine zA_step rfl rfl ?_
        exact tail true (by simp [e]) _ e11
      · refine zA_t (by simp (disch := omega) only [nu_lt, nu_le, nu_eq, nu_cmp_lt, nu_cmp_gt, nu_cmp_ge, nu_cmp_le, nu_wide, Int32.toInt_add, Int32.toInt_sub, Int32.toInt_mul, nu_I, Nat.reducePow, nu_bm, Int32.reduceToInt, Int64.reduceToInt]; omega) ?_
        repeat refine zA_step rfl rfl ?_
        exact tail false (by simp [e]) _ e11
set_option maxHeartbeats 4000000 in
set_option maxRecDepth 100000 in
theorem mo_take_lp {d s pn n m c1 T : Nat} {σ : zSo} {Q : Option Value → zSo → Prop} {p : paT} (hM : PM (σ 74) p) (hW : paW p 999) (hs : s < ps p) (hpn : 1 ≤ pn ∧ pn ≤ 9) (hn : n ≤ 60) (hm : m ≤ 6) (hT : T = bn (tkb p) (pw p))
    (hQ : ∀ σ' : zSo, zFr [76] σ σ' → ∀ b, b = tkR (ccX p s pn n) T m (Ev p + 1) 0 none → (∀ z, b = some z → z < 64) → zA (d + 20) 163 153 [(0, .ref 70), (1, .int (nI s)), (2, .int (nI pn)), (3, .int (nI n)), (4, .int (nI m)), (5, .int (nI c1)), (6, .int (eO b)), (7, .int (nI (Ev p + 1)))] [] σ' Q) :
    ∀ u X, X + u = Ev p + 1 → ∀ b : Option Nat, (∀ z, b = some z → z < 64) → tkR (ccX p s pn n) T m u X b = tkR (ccX p s pn n) T m (Ev p + 1) 0 none → ∀ σ1 : zSo, zFr [76] σ σ1 → ∀ i : Int32, i = nI X → zA (d + 20) 163 71 [(0, .ref 70), (1, .int (nI s)), (2, .int (nI pn)), (3, .int (nI n)), (4, .int (nI m)), (5, .int (nI c1)), (6, .int (eO b)), (7, .int i)] [] σ1 Q := by
  have w6 := hW.2.2.2.2.1
  have hE6 := Ev_lt w6
  have hT6 : T < 64 := by rw [hT]; exact bn_lt64 _ w6
  intro u
  induction u with
  | zero =>
    intro X hX b hb hr σ1 hF i ei
    subst ei
    have : X = Ev p + 1 := by omega
    subst this
    have hM1 : PM (σ1 74) p := by rw [hF _ (by decide)]; exact hM
    refine zA_s0 rfl ?_
    refine zA_s0 rfl ?_
    refine zA_call rfl rfl (mo_everybody hM1 w6 ?_)
    show zA _ _ _ _ (.int (nI (Ev p)) :: _) _ _
    refine zA_s0 rfl ?_
    refine zA_t (by simp (disch := omega) only [nu_lt, nu_le, nu_eq, nu_cmp_lt, nu_cmp_gt, nu_cmp_ge, nu_cmp_le, nu_wide, Int32.toInt_add, Int32.toInt_sub, Int32.toInt_mul, nu_I, Nat.reducePow, nu_bm, Int32.reduceToInt, Int64.reduceToInt]; omega) ?_
    exact hQ σ1 hF b hr hb
  | succ u ih =>
    intro X hX b hb hr σ1 hF i ei
    subst ei
    have hM1 : PM (σ1 74) p := by rw [hF _ (by decide)]; exact hM
    have hX6 : X < 64 := by omega
    have a3 : X &&& (63 ^^^ T) < 64 := Nat.lt_of_le_of_lt Nat.and_le_left hX6
    have b3 : pc6 X ≤ 6 := cn_le _ _
    rw [tkR] at hr
    have nxt : ∀ (σ2 : zSo), zFr [76] σ σ2 → ∀ b', b' = tkS (ccX p s pn n) T m X b → (∀ z, b' = some z → z < 64) → zA (d + 20) 163 71 [(0, .ref 70), (1, .int (nI s)), (2, .int (nI pn)), (3, .int (nI n)), (4, .int (nI m)), (5, .int (nI c1)), (6, .int (eO b')), (7, .int (nI X + 1))] [] σ2 Q := fun σ2 hF2 b' e1 e2 => ih (X + 1) (by omega) b' e2 (by rw [e1]; exact hr) σ2 hF2 _ (nI_1 X)
    have keep : ∀ (σ2 : zSo), zFr [76] σ σ2 → ¬ (X &&& (63 ^^^ T) = 0 ∧ m ≤ ccX p s pn n X ∧ (∀ z, b = some z → pc6 X < pc6 z)) → zA (d + 20) 163 71 [(0, .ref 70), (1, .int (nI s)), (2, .int (nI pn)), (3, .int (nI n)), (4, .int (nI m)), (5, .int (nI c1)), (6, .int (eO b)), (7, .int (nI X + 1))] [] σ2 Q := fun σ2 hF2 hn => nxt σ2 hF2 b (by rw [tkS, if_neg hn]) hb
    have tail : X &&& (63 ^^^ T) = 0 → (∀ z, b = some z → pc6 X < pc6 z) → zA (d + 20) 163 130 [(0, .ref 70), (1, .int (nI s)), (2, .int (nI pn)), (3, .int (nI n)), (4, .int (nI m)), (5, .int (nI c1)), (6, .int (eO b)), (7, .int (nI X)), (8, .int 1)] [.int (nI n), .int (nI pn), .int (nI X), .int (nI s), .ref 70] σ1 Q := by
      intro e1 e2
      refine zA_call rfl rfl (mo_sworeLater hM1 hW hs hX6 hpn (by omega) (fun σ2 hF2 => ?_))
      rw [ccX_eq w6 (fun w hw hb => by
        have := sub6_tb X hX6 T hT6 e1 w (by omega) hb
        rw [hT, bn_tb] at this
        simpa [hw] using this)]
      have hcc : ccX p s pn n X ≤ 12 := Nat.add_le_add (cn_le _ _) (cn_le _ _)
      repeat refine zA_step rfl rfl ?_
      by_cases e3 : m ≤ ccX p s pn n X
      · refine zA_f (by simp (disch := omega) only [nu_lt, nu_le, nu_eq, nu_cmp_lt, nu_cmp_gt, nu_cmp_ge, nu_cmp_le, nu_wide, Int32.toInt_add, Int32.toInt_sub, Int32.toInt_mul, nu_I, Nat.reducePow, nu_bm, Int32.reduceToInt, Int64.reduceToInt]; omega) ?_
        repeat refine zA_step rfl rfl ?_
        refine zA_dr rfl rfl rfl ?_
        exact nxt σ2 (hF.tr hF2) (some X) (by rw [tkS, if_pos ⟨e1, e3, e2⟩]) (fun z hz => by cases hz; omega)
      · refine zA_t (by simp (disch := omega) only [nu_lt, nu_le, nu_eq, nu_cmp_lt, nu_cmp_gt, nu_cmp_ge, nu_cmp_le, nu_wide, Int32.toInt_add, Int32.toInt_sub, Int32.toInt_mul, nu_I, Nat.reducePow, nu_bm, Int32.reduceToInt, Int64.reduceToInt]; omega) ?_
        repeat refine zA_step rfl rfl ?_
        refine zA_dr rfl rfl rfl ?_
        exact keep σ2 (hF.tr hF2) (fun z => e3 z.2.1)
    refine zA_s0 rfl ?_
    repeat refine zA_step rfl rfl ?_
    refine zA_call rfl rfl (mo_everybody hM1 w6 ?_)
    show zA _ _ _ _ (.int (nI (Ev p)) :: _) _ _
    repeat refine zA_step rfl rfl ?_
    refine zA_f (by simp (disch := omega) only [nu_lt, nu_le, nu_eq, nu_cmp_lt, nu_cmp_gt, nu_cmp_ge, nu_cmp_le, nu_wide, Int32.toInt_add, Int32.toInt_sub, Int32.toInt_mul, nu_I, Nat.reducePow, nu_bm, Int32.reduceToInt, Int64.reduceToInt]; omega) ?_
    repeat refine zA_step rfl rfl ?_
    refine zA_call rfl rfl (mo_takeable hM1 hW (by omega) ?_)
    rw [← hT]
    repeat refine zA_step rfl rfl ?_
    rw [nu_sub6 X hX6 T hT6]
    by_cases e1 : X &&& (63 ^^^ T) = 0
    rotate_left
    · refine zA_f (by simp (disch := omega) only [nu_lt, nu_le, nu_eq, nu_cmp_lt, nu_cmp_gt, nu_cmp_ge, nu_cmp_le, nu_wide, Int32.toInt_add, Int32.toInt_sub, Int32.toInt_mul, nu_I, Nat.reducePow, nu_bm, Int32.reduceToInt, Int64.reduceToInt]; omega) ?_
      repeat refine zA_step rfl rfl ?_
      refine zA_dr rfl rfl rfl ?_
      exact keep σ1 hF (fun z => e1 z.1)
    rw [e1]
    cases b with
    | none =>
      repeat refine zA_step rfl rfl ?_
      exact tail e1 (by simp)
    | some z =>
      have hz := hb z rfl
      have bz : pc6 z ≤ 6 := cn_le _ _
      show zA _ _ _ [(0, .ref 70), (1, .int (nI s)), (2, .int (nI pn)), (3, .int (nI n)), (4, .int (nI m)), (5, .int (nI c1)), (6, .int (nI z)), (7, .int (nI X))] _ _ _
      repeat refine zA_step rfl rfl ?_
      refine zA_f (nu_nI_NO (by omega)) ?_
      repeat refine zA_step rfl rfl ?_
      refine zA_call rfl rfl (mo_bits hX6 ?_)
      repeat refine zA_step rfl rfl ?_
      refine zA_call rfl rfl (mo_bits hz ?_)
      repeat refine zA_step rfl rfl ?_
      by_cases e : pc6 X < pc6 z
      · refine zA_f (by simp (disch := omega) only [nu_lt, nu_le, nu_eq, nu_cmp_lt, nu_cmp_gt, nu_cmp_ge, nu_cmp_le, nu_wide, Int32.toInt_add, Int32.toInt_sub, Int32.toInt_mul, nu_I, Nat.reducePow, nu_bm, Int32.reduceToInt, Int64.reduceToInt]; omega) ?_
        repeat refine zA_step rfl rfl ?_
        exact tail e1 (by simp [e])
      · refine zA_t (by simp (disch := omega) only [nu_lt, nu_le, nu_eq, nu_cmp_lt, nu_cmp_gt, nu_cmp_ge, nu_cmp_le, nu_wide, Int32.toInt_add, Int32.toInt_sub, Int32.toInt_mul, nu_I, Nat.reducePow, nu_bm, Int32.reduceToInt, Int64.reduceToInt]; omega) ?_
        repeat refine zA_step rfl rfl ?_
        refine zA_dr rfl rfl rfl ?_
        exact keep σ1 hF (fun h => e (h.2.2 z rfl))
set_option maxHeartbeats 4000000 in
set_option maxRecDepth 100000 in
theorem pr_take {d : Nat} {σ : zSo} (x y z v u : Int32) (hR : R σ) : zPair (d + 30) 77 163 [.int x, .int y, .int z, .int v, .int u] σ := by
  obtain ⟨-, -, -, -, ⟨p, ⟨hW, hC, hM, hT, -⟩, -⟩, -⟩ := id hR
  have ws6 := hW.2.2.2.1
  have w6 := hW.2.2.2.2.1
  have hpy := hW.2.2.1
  have hk : zK σ (zup σ 70 0 0) := zK.rf.up rfl
  have hM' : PM (zup σ 70 0 0 74) p := hM
  have bad : ¬ ((0 ≤ x.toInt ∧ x.toInt < ps p) ∧ (1 ≤ y.toInt ∧ y.toInt ≤ 9) ∧ (1 ≤ z.toInt ∧ z.toInt ≤ 60) ∧ (1 ≤ v.toInt ∧ v.toInt ≤ 6) ∧ (0 ≤ u.toInt ∧ u.toInt ≤ 1)) → zC (d + 30) 163 [.ref 70, .int x, .int y, .int z, .int v, .int u] σ (fun r2 σ2 => r2 = some (.int (-1000001)) ∧ R σ2 ∧ ∀ k, 1000 ≤ k → σ2 k = σ k) := by
    intro hn
    show zA (d + 30) _ 0 [(0, .ref 70), (1, .int x), (2, .int y), (3, .int z), (4, .int v), (5, .int u)] [] σ _
    repeat refine zA_step rfl rfl ?_
    refine zA_call rfl rfl (mo_isStone hM' ws6 (fun s hs e => ?_) (fun h => ?_))
    rotate_left
    · repeat refine zA_step rfl rfl ?_
      exact zA_ret rfl ⟨rfl, hR.kp hk⟩
    subst e
    repeat refine zA_step rfl rfl ?_
    refine zA_call rfl rfl (mo_inI 1 9 (by decide) (by decide) (fun y1 y2 => ?_) (fun z => ?_))
    rotate_left
    · repeat refine zA_step rfl rfl ?_
      exact zA_ret rfl ⟨rfl, hR.kp hk⟩
    repeat refine zA_step rfl rfl ?_
    refine zA_call rfl rfl (mo_inI 1 60 (by decide) (by decide) (fun x1 x2 => ?_) (fun z => ?_))
    rotate_left
    · repeat refine zA_step rfl rfl ?_
      exact zA_ret rfl ⟨rfl, hR.kp hk⟩
    repeat refine zA_step rfl rfl ?_
    refine zA_call rfl rfl (mo_inI 1 6 (by decide) (by decide) (fun w1 w2 => ?_) (fun z => ?_))
    rotate_left
    · repeat refine zA_step rfl rfl ?_
      exact zA_ret rfl ⟨rfl, hR.kp hk⟩
    repeat refine zA_step rfl rfl ?_
    refine zA_call rfl rfl (mo_inI 0 1 (by decide) (by decide) (fun z1 z2 => ?_) (fun z => ?_))
    · rw [nu_I (by omega)] at hn
      exact absurd ⟨⟨by omega, by omega⟩, ⟨y1, y2⟩, ⟨x1, x2⟩, ⟨w1, w2⟩, ⟨z1, z2⟩⟩ hn
    · repeat refine zA_step rfl rfl ?_
      exact zA_ret rfl ⟨rfl, hR.kp hk⟩
  show zA (d + 30) _ 0 [(0, .ref 0), (1, .int x), (2, .int y), (3, .int z), (4, .int v), (5, .int u)] [] σ _
  repeat refine zA_step rfl rfl ?_
  refine zA_call rfl rfl (cl_isStone hC ws6 (fun s hs e => ?_) (fun h => ?_))
  rotate_left
  · repeat refine zA_step rfl rfl ?_
    exact zA_ret rfl ⟨_, rfl, bad (fun z => h z.1)⟩
  subst e
  repeat refine zA_step rfl rfl ?_
  refine zA_call rfl rfl (cl_isPain (fun l1 l2 => ?_) (fun h => ?_))
  rotate_left
  · repeat refine zA_step rfl rfl ?_
    exact zA_ret rfl ⟨_, rfl, bad (fun z => h z.2.1)⟩
  obtain ⟨pn, hpn, e⟩ := nu_of (n := 10) (x := y) (by omega) (by omega)
  subst e
  rw [nu_I (by omega)] at l1 l2
  repeat refine zA_step rfl rfl ?_
  refine zA_call rfl rfl (cl_isLater (fun m1 m2 => ?_) (fun h => ?_))
  rotate_left
  · repeat refine zA_step rfl rfl ?_
    exact zA_ret rfl ⟨_, rfl, bad (fun z => h z.2.2.1)⟩
  obtain ⟨n, hn, e⟩ := nu_of (n := 61) (x := z) (by omega) (by omega)
  subst e
  rw [nu_I (by omega)] at m1 m2
  repeat refine zA_step rfl rfl ?_
  refine zA_call rfl rfl (cl_isMany (fun p1 p2 => ?_) (fun h => ?_))
  rotate_left
  · repeat refine zA_step rfl rfl ?_
    exact zA_ret rfl ⟨_, rfl, bad (fun z => h z.2.2.2.1)⟩
  obtain ⟨m, hm, e⟩ := nu_of (n := 7) (x := v) (by omega) (by omega)
  subst e
  rw [nu_I (by omega)] at p1 p2
  repeat refine zA_step rfl rfl ?_
  refine zA_call rfl rfl (cl_isEither (fun c1 hc1 e => ?_) (fun h => ?_))
  rotate_left
  · repeat refine zA_step rfl rfl ?_
    exact zA_ret rfl ⟨_, rfl, bad (fun z => h z.2.2.2.2)⟩
  subst e
  repeat refine zA_step rfl rfl ?_
  have hT6 := bn_lt64 (tkb p) w6
  refine zA_call rfl rfl (cl_takable (Or.inl rfl) hC hW (by omega) ?_)
  repeat refine zA_step rfl rfl ?_
  refine zA_call rfl rfl (cl_become (Or.inl ⟨rfl, rfl⟩) hC hW (by rw [hT]; split <;> simp) (fun σ2 hF hC2 _ => ?_))
  repeat refine zA_step rfl rfl ?_
  have hC3 := PC.zy (m := 0) (n := n) (x := σ2 20 3 + nI n) (p := p) hC2 (by rw [hF 20 (by decide), hC.2.2.2.1, nI_add])
  have hF3 : zFr tC σ (zup σ2 29 3 (σ2 20 3 + nI n)) := zFr.up hF (by simp)
  have hW3 : paW (agP p n) 2000 := (agP_W hW).mono (show py p + n ≤ 2000 by omega)
  have hN3 : PC (zup σ2 29 3 (σ2 20 3 + nI n)) 20 p := hC.fr hW (fun k h1 h2 => hF3 k (by simp only [List.mem_cons, List.not_mem_nil, or_false]; omega))
  refine zA_call rfl rfl (cl_swearersTo (Or.inr (Or.inl rfl)) hC3 hW3 (by omega) hs ?_)
  repeat refine zA_step rfl rfl ?_
  refine zA_call rfl rfl (cl_ifTaken hN3 hC3 (Or.inl rfl) hW hs (by omega) (by omega) (fun σ4 hF4 hC4 => ?_))
  repeat refine zA_step rfl rfl ?_
  have hk4 := zK_tC (zK_tC zK.rf hF3) hF4
  have hM4 : PM (zup σ4 70 0 0 74) p := by
    show PM (σ4 74) p
    rw [hF4 _ (by decide), hF3 _ (by decide)]; exact hM
  refine zA_dr rfl rfl rfl ?_
  have hE6 := Ev_lt w6
  have hTE : bn (tkb p) (pw p) ≤ Ev p := by
    have := bn_lt (tkb p) (pw p)
    unfold Ev
    omega
  refine cl_take_lp (p := p) (s := s) (pn := pn) (n := n) hT6 (bn_lt64 _ w6) (bn_lt64 _ w6) (by omega) (fun X => rfl) (fun b hb hb6 => ?_) (bn (tkb p) (pw p) + 1) 0 (by omega) none (by simp) rfl 0 rfl
  have hbm : b = tkR (ccX p s pn n) (bn (tkb p) (pw p)) m (Ev p + 1) 0 none := by
    rw [show Ev p + 1 = (bn (tkb p) (pw p) + 1) + (Ev p - bn (tkb p) (pw p)) by omega, tkR_add, ← hb, tkR_past _ _ hT6 _ _ _ (by omega) (by omega)]
  have tomod : ∀ r : Int32, (∀ σ5 : zSo, zFr [76] (zup σ4 70 0 0) σ5 → ∀ Q : Option Value → zSo → Prop, Q (some (.int r)) σ5 → zA (d + 30) 163 153 [(0, .ref 70), (1, .int (nI s)), (2, .int (nI pn)), (3, .int (nI n)), (4, .int (nI m)), (5, .int (nI c1)), (6, .int (eO b)), (7, .int (nI (Ev p + 1)))] [] σ5 Q) → zC (d + 30) 163 [.ref 70, .int (nI s), .int (nI pn), .int (nI n), .int (nI m), .int (nI c1)] σ4 (fun r2 σ2 => r2 = some (.int r) ∧ R σ2 ∧ ∀ k, 1000 ≤ k → σ2 k = σ k) := by
    intro r K
    show zA (d + 30) _ 0 [(0, .ref 70), (1, .int (nI s)), (2, .int (nI pn)), (3, .int (nI n)), (4, .int (nI m)), (5, .int (nI c1))] [] σ4 _
    repeat refine zA_step rfl rfl ?_
    refine zA_call rfl rfl (mo_isStone hM4 ws6 (fun s' hs' e => ?_) (fun h => nu_abs2 hs (by omega) h))
    repeat refine zA_step rfl rfl ?_
    refine zA_call rfl rfl (mo_inI 1 9 (by decide) (by decide) (fun z1 z2 => ?_) (fun z => absurd ⟨by rw [nu_I (by omega)]; omega, by rw [nu_I (by omega)]; omega⟩ z))
    repeat refine zA_step rfl rfl ?_
    refine zA_call rfl rfl (mo_inI 1 60 (by decide) (by decide) (fun z1 z2 => ?_) (fun z => absurd ⟨by rw [nu_I (by omega)]; omega, by rw [nu_I (by omega)]; omega⟩ z))
    repeat refine zA_step rfl rfl ?_
    refine zA_call rfl rfl (mo_inI 1 6 (by decide) (by decide) (fun z1 z2 => ?_) (fun z => absurd ⟨by rw [nu_I (by omega)]; omega, by rw [nu_I (by omega)]; omega⟩ z))
    repeat refine zA_step rfl rfl ?_
    refine zA_call rfl rfl (mo_inI 0 1 (by decide) (by decide) (fun z1 z2 => ?_) (fun z => absurd ⟨by rw [nu_I (by omega)]; omega, by rw [nu_I (by omega)]; omega⟩ z))
    repeat refine zA_step rfl rfl ?_
    refine mo_take_lp (d := d + 10) (c1 := c1) (pn := pn) (n := n) hM4 hW hs (by omega) (by omega) (show m ≤ 6 by omega) rfl (fun σ5 hF5 b' hb' hb6' => ?_) (Ev p + 1) 0 (by omega) none (by simp) rfl _ zFr.rf 0 rfl
    rw [hb', ← hbm]
    exact K σ5 hF5 _ ⟨rfl, hR.kp (zK_then (hk4.up rfl) hF5)⟩
  cases b with
  | none =>
    repeat refine zA_step rfl rfl ?_
    refine zA_ret rfl ⟨_, rfl, tomod _ (fun σ5 hF5 Q hQ => ?_)⟩
    repeat refine zA_step rfl rfl ?_
    exact zA_ret rfl hQ
  | some X =>
    have hX := hb6 X rfl
    show zA _ _ _ [(4, .int (nI m)), (5, .int (nI c1)), (6, .int (nI (bn (tkb p) (pw p)))), (7, .int (nI (bn (swb (agP p n) s) (pw p)))), (8, .int (nI (bn (swb (tkn p s pn n) s) (pw p)))), (9, .int (nI X)), (10, .int (nI (bn (tkb p) (pw p) + 1)))] _ _ _
    repeat refine zA_step rfl rfl ?_
    refine zA_f (nu_nI_NO (by omega)) ?_
    repeat refine zA_step rfl rfl ?_
    rcases (show c1 = 0 ∨ c1 = 1 by omega) with rfl | rfl
    · repeat refine zA_step rfl rfl ?_
      refine zA_call rfl rfl (cl_bitCount hX ?_)
      refine zA_ret rfl ⟨_, rfl, tomod _ (fun σ5 hF5 Q hQ => ?_)⟩
      show zA _ _ _ [(0, .ref 70), (1, .int (nI s)), (2, .int (nI pn)), (3, .int (nI n)), (4, .int (nI m)), (5, .int (nI 0)), (6, .int (nI X)), (7, .int (nI (Ev p + 1)))] _ _ _
      repeat refine zA_step rfl rfl ?_
      refine zA_f (nu_nI_NO (by omega)) ?_
      repeat refine zA_step rfl rfl ?_
      refine zA_call rfl rfl (mo_bits hX ?_)
      exact zA_ret rfl hQ
    · repeat refine zA_step rfl rfl ?_
      refine zA_ret rfl ⟨_, rfl, tomod _ (fun σ5 hF5 Q hQ => ?_)⟩
      show zA _ _ _ [(0, .ref 70), (1, .int (nI s)), (2, .int (nI pn)), (3, .int (nI n)), (4, .int (nI m)), (5, .int (nI 1)), (6, .int (nI X)), (7, .int (nI (Ev p + 1)))] _ _ _
      repeat refine zA_step rfl rfl ?_
      refine zA_f (nu_nI_NO (by omega)) ?_
      repeat refine zA_step rfl rfl ?_
      exact zA_ret rfl hQ
