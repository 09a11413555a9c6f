/-! numbers -/
theorem nu_lt (a b : Int32) : a < b ↔ a.toInt < b.toInt := Int32.lt_iff_toInt_lt
theorem nu_le (a b : Int32) : a ≤ b ↔ a.toInt ≤ b.toInt := Int32.le_iff_toInt_le
theorem nu_eq (a b : Int32) : a = b ↔ a.toInt = b.toInt := Int32.toInt_inj.symm
theorem nu_llt (a b : Int64) : a < b ↔ a.toInt < b.toInt := Int64.lt_iff_toInt_lt
theorem nu_lle (a b : Int64) : a ≤ b ↔ a.toInt ≤ b.toInt := Int64.le_iff_toInt_le
theorem nu_leq (a b : Int64) : a = b ↔ a.toInt = b.toInt := Int64.toInt_inj.symm
theorem nu_wide (a : Int32) : a.toInt64.toInt = a.toInt := Int32.toInt_toInt64 a
theorem nu_rng (x : Int32) : -2147483648 ≤ x.toInt ∧ x.toInt < 2147483648 := ⟨Int32.le_toInt x, Int32.toInt_lt x⟩
theorem nu_bm {z : Int} (h1 : -2147483648 ≤ z) (h2 : z < 2147483648) : z.bmod 4294967296 = z := Int.bmod_eq_of_le (by omega) (by omega)
theorem nu_bmL {z : Int} (h1 : -9223372036854775808 ≤ z) (h2 : z < 9223372036854775808) : z.bmod 18446744073709551616 = z := Int.bmod_eq_of_le (by omega) (by omega)
theorem nu_add {x y : Int32} (h1 : -2147483648 ≤ x.toInt + y.toInt) (h2 : x.toInt + y.toInt < 2147483648) : (x + y).toInt = x.toInt + y.toInt := by rw [Int32.toInt_add]; exact nu_bm h1 h2
theorem nu_sub {x y : Int32} (h1 : -2147483648 ≤ x.toInt - y.toInt) (h2 : x.toInt - y.toInt < 2147483648) : (x - y).toInt = x.toInt - y.toInt := by rw [Int32.toInt_sub]; exact nu_bm h1 h2
theorem nu_mul {x y : Int32} (h1 : -2147483648 ≤ x.toInt * y.toInt) (h2 : x.toInt * y.toInt < 2147483648) : (x * y).toInt = x.toInt * y.toInt := by rw [Int32.toInt_mul]; exact nu_bm h1 h2
theorem nu_I {n : Nat} (h : n < 2147483648) : (nI n).toInt = (n : Int) := nI_toInt h
theorem nu_of {x : Int32} {n : Nat} (h0 : 0 ≤ x.toInt) (h1 : x.toInt < n) : ∃ j, j < n ∧ x = nI j := by
  have h := nu_rng x
  refine ⟨x.toInt.toNat, by omega, ?_⟩
  rw [nu_eq, nu_I (by omega)]
  omega
theorem nu_ofI {z : Int} (h1 : -2147483648 ≤ z) (h2 : z < 2147483648) : (Int32.ofInt z).toInt = z := by rw [Int32.toInt_ofInt]; exact nu_bm h1 h2
theorem nu_eqI {x : Int32} {n : Nat} (h : x.toInt = (n : Int)) : x = nI n := by
  have := nu_rng x
  rw [nu_eq, nu_I (by omega)]
  exact h
theorem nu_ix {k N : Nat} (h : k < N) (hN : N < 2147483648) : ¬ (nI k < 0 ∨ N ≤ (nI k).toNatClampNeg) := nI_in h hN
theorem nu_cl {n : Nat} (h : n < 2147483648) : (nI n).toNatClampNeg = n := nI_clamp h
theorem nu_ixN {x : Int32} {k N : Nat} (e : x = nI k) (h : k < N) (hN : N < 2147483648) : ¬ (x < 0 ∨ N ≤ x.toNatClampNeg) := by rw [e]; exact nI_in h hN
theorem nu_clN {x : Int32} {n : Nat} (e : x = nI n) (h : n < 2147483648) : x.toNatClampNeg = n := by rw [e]; exact nI_clamp h
def NO : Int32 := -1000000
theorem nu_NO : NO.toInt = -1000000 := by decide
theorem nu_nI_NO {n : Nat} (h : n < 2147483648) : ¬ nI n = NO := by rw [nu_eq, nu_I h, nu_NO]; omega
theorem nu_cmp_lt (x y : Int64) : (lg_cmp x y < 0) ↔ x.toInt < y.toInt := by rw [lg_cmp_lt, nu_llt]
theorem nu_cmp_gt (x y : Int64) : (0 < lg_cmp x y) ↔ y.toInt < x.toInt := by rw [lg_cmp_gt, nu_llt]
theorem nu_cmp_ge (x y : Int64) : (0 ≤ lg_cmp x y) ↔ y.toInt ≤ x.toInt := by rw [lg_cmp_ge, nu_lle]
theorem nu_cmp_le (x y : Int64) : (lg_cmp x y ≤ 0) ↔ x.toInt ≤ y.toInt := by rw [lg_cmp_le, nu_lle]
theorem nu_cmp_eq (x y : Int64) : (lg_cmp x y = 0) ↔ x = y := lg_cmp_eq x y
/-! A PARISH: (lasts, drift, year, stones, witnesses), yards, kinds, ages, ends, bribes, bumps (yard, pain, year) -/
abbrev paT : Type := (Nat × Nat × Nat × Nat × Nat) × (Nat → Nat) × (Nat → Nat) × (Nat → Nat) × (Nat → Nat) × (Nat → Int) × (Nat → Nat → Option (Nat × Nat × Nat))
def pl (p : paT) : Nat := p.1.1
def pd (p : paT) : Nat := p.1.2.1
def py (p : paT) : Nat := p.1.2.2.1
def ps (p : paT) : Nat := p.1.2.2.2.1
def pw (p : paT) : Nat := p.1.2.2.2.2
def pyd (p : paT) : Nat → Nat := p.2.1
def pk (p : paT) : Nat → Nat := p.2.2.1
def pa (p : paT) : Nat → Nat := p.2.2.2.1
def pe (p : paT) : Nat → Nat := p.2.2.2.2.1
def pb (p : paT) : Nat → Int := p.2.2.2.2.2.1
def pm (p : paT) : Nat → Nat → Option (Nat × Nat × Nat) := p.2.2.2.2.2.2
/-- as a parish may be, its year at most Y -/
def paW (p : paT) (Y : Nat) : Prop := (1 ≤ pl p ∧ pl p ≤ 30) ∧ (1 ≤ pd p ∧ pd p ≤ 30) ∧ py p ≤ Y ∧ ps p ≤ 6 ∧ pw p ≤ 6 ∧ (∀ s, s < ps p → pyd p s ≤ 99) ∧
  (∀ w, w < pw p → (1 ≤ pk p w ∧ pk p w ≤ 5) ∧ (py p ≤ pa p w ∧ pa p w ≤ 60 + py p) ∧ pe p w ≤ 99 ∧ (-20 ≤ pb p w ∧ pb p w ≤ 20)) ∧
  (∀ w s, w < pw p → s < ps p → ∀ q, pm p w s = some q → q.1 ≤ 99 ∧ (1 ≤ q.2.1 ∧ q.2.1 ≤ 9) ∧ q.2.2 ≤ py p)
/-- a bump as three numbers -/
def e3 (o : Option (Nat × Nat × Nat)) (j : Nat) : Int32 := match o with
  | none => NO
  | some q => if j = 0 then nI q.1 else if j = 1 then nI q.2.1 else nI q.2.2
/-- a row of the reference tells a parish -/
def PM (v : Nat → Int32) (p : paT) : Prop := (0 < ps p → v 0 = nI (pl p) ∧ v 1 = nI (pd p)) ∧ v 2 = nI (ps p) ∧ v 3 = nI (pw p) ∧ v 4 = nI (py p) ∧ (∀ s, s < ps p → v (5 + s) = nI (pyd p s)) ∧
  (∀ w, w < pw p → v (11 + 4 * w) = nI (pk p w) ∧ v (11 + 4 * w + 1) = nI (pa p w) ∧ v (11 + 4 * w + 2) = nI (pe p w) ∧ v (11 + 4 * w + 3) = Int32.ofInt (pb p w)) ∧
  (∀ w s, w < pw p → s < ps p → ∀ j, j < 3 → v (35 + 3 * (6 * w + s) + j) = e3 (pm p w s) j)
/-- cells of the class, from the object P on, tell a parish -/
def PC (σ : zSo) (P : Nat) (p : paT) : Prop := (σ P 1 = nI (pl p) ∧ σ P 2 = nI (pd p)) ∧ σ P 4 = nI (ps p) ∧ σ P 5 = nI (pw p) ∧ σ P 3 = nI (py p) ∧ (∀ s, s < ps p → σ (P + 1) s = nI (pyd p s)) ∧
  (∀ w, w < pw p → σ (P + 2) w = nI (pk p w) ∧ σ (P + 3) w = nI (pa p w - py p) ∧ σ (P + 4) w = nI (pe p w) ∧ σ (P + 5) w = Int32.ofInt (pb p w)) ∧
  (∀ w s, w < pw p → s < ps p → (pm p w s = none → σ (P + 7) (6 * w + s) = 0) ∧ ∀ q, pm p w s = some q → σ (P + 6) (6 * w + s) = nI q.1 ∧ σ (P + 7) (6 * w + s) = nI q.2.1 ∧ σ (P + 8) (6 * w + s) = nI q.2.2)
/-- what a witness swears -/
def clI (z : Int) : Nat := if z < 0 then 0 else if 99 < z then 99 else z.toNat
def sayO (p : paT) (w s : Nat) : Option Nat := match pm p w s with
  | none => none
  | some q => if py p - q.2.2 < pl p * q.2.1 ∧ (pa p w < pe p w ∨ pk p w = 5) ∧ (pk p w = 4 → 5 ≤ q.2.1) then
      some (if pk p w = 2 then clI (q.1 + pb p w) else if pk p w = 3 then clI ((q.1 + (py p - q.2.2) / pd p : Nat) : Int) else q.1) else none
def eO (o : Option Nat) : Int32 := match o with
  | none => NO
  | some y => nI y
theorem sayO_le {p : paT} {Y w s y : Nat} (hW : paW p Y) (hw : w < pw p) (hs : s < ps p) (h : sayO p w s = some y) : y ≤ 99 := by
  unfold sayO at h
  split at h
  · cases h
  · rename_i q hq
    have h1 := (hW.2.2.2.2.2.2.2 w s hw hs q hq).1
    split at h
    · cases h
      split
      · unfold clI; split
        · omega
        · split <;> omega
      · split
        · unfold clI; split
          · omega
          · split <;> omega
        · exact h1
    · cases h
theorem eO_no {o : Option Nat} (h : ∀ y, o = some y → y < 2147483648) : eO o = NO ↔ o = none := by
  cases o with
  | none => simp [eO]
  | some y => simp only [eO, reduceCtorEq, iff_false]; exact nu_nI_NO (h y rfl)
theorem nu_c0 : (0 : Int32).toNatClampNeg = 0 := rfl
theorem nu_c1 : (1 : Int32).toNatClampNeg = 1 := rfl
theorem nu_c2 : (2 : Int32).toNatClampNeg = 2 := rfl
theorem nu_c3 : (3 : Int32).toNatClampNeg = 3 := rfl
theorem nu_c4 : (4 : Int32).toNatClampNeg = 4 := rfl
theorem nu_c5 : (5 : Int32).toNatClampNeg = 5 := rfl
theorem nu_c6 : (6 : Int32).toNatClampNeg = 6 := rfl
theorem nu_c36 : (36 : Int32).toNatClampNeg = 36 := rfl
