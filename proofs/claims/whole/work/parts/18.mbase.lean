/-! THE REFERENCE: its small methods -/
theorem nu_bit : ∀ x, x < 64 → ∀ j, j < 8 → (nI x >>> (nI j &&& 31)) &&& 1 = nI (x.testBit j).toNat := by decide +kernel
theorem nu_shl : ∀ j, j < 31 → (1 : Int32) <<< (nI j &&& 31) = nI (2 ^ j) := by decide +kernel
theorem nu_or (a b : Nat) : nI a ||| nI b = nI (a ||| b) := by
  apply Int32.toBitVec_inj.1
  show BitVec.ofNat 32 a ||| BitVec.ofNat 32 b = BitVec.ofNat 32 (a ||| b)
  apply BitVec.eq_of_getLsbD_eq
  intro i hi
  simp [hi]
theorem nu_and (a b : Nat) : nI a &&& nI b = nI (a &&& b) := by
  apply Int32.toBitVec_inj.1
  show BitVec.ofNat 32 a &&& BitVec.ofNat 32 b = BitVec.ofNat 32 (a &&& b)
  apply BitVec.eq_of_getLsbD_eq
  intro i hi
  simp [hi]
/-- the set of those below n that have p -/
def bn (p : Nat → Bool) : Nat → Nat
  | 0 => 0
  | n + 1 => bn p n + (if p n then 2 ^ n else 0)
theorem bn_lt (p : Nat → Bool) : ∀ n, bn p n < 2 ^ n
  | 0 => by simp [bn]
  | n + 1 => by
    have := bn_lt p n
    simp only [bn, Nat.pow_succ]
    split <;> omega
theorem bn_lt64 (p : Nat → Bool) {n : Nat} (h : n ≤ 6) : bn p n < 64 := Nat.lt_of_lt_of_le (bn_lt p n) (Nat.le_trans (Nat.pow_le_pow_right (by omega) h) (by decide))
theorem bn_t {p : Nat → Bool} {n : Nat} (h : p n = true) : nI (bn p n) ||| nI (2 ^ n) = nI (bn p (n + 1)) := by
  rw [nu_or, bn, if_pos h]
  congr 1
  have := Nat.two_pow_add_eq_or_of_lt (bn_lt p n) 1
  rw [Nat.mul_one] at this
  rw [Nat.or_comm, ← this, Nat.add_comm]
theorem bn_f {p : Nat → Bool} {n : Nat} (h : p n = false) : nI (bn p n) ||| 0 = nI (bn p (n + 1)) := by
  rw [show (0 : Int32) = nI 0 from rfl, nu_or, bn, h]
  simp
theorem bn_tb (p : Nat → Bool) : ∀ n j, (bn p n).testBit j = (decide (j < n) && p j)
  | 0, j => by simp [bn]
  | n + 1, j => by
    have h := bn_tb p n j
    by_cases hp : p n = true
    · rw [bn, if_pos hp, Nat.add_comm]
      by_cases hj : j = n
      · subst hj
        rw [Nat.testBit_two_pow_add_eq, Nat.testBit_lt_two_pow (bn_lt p j)]
        simp [hp]
      · rcases Nat.lt_or_gt_of_ne hj with q | q
        · rw [Nat.testBit_two_pow_add_gt q, h]
          simp [q, Nat.lt_succ_of_lt q]
        · have h1 : 2 ^ n + bn p n < 2 ^ j := by
            have := bn_lt p n
            have h2 : 2 ^ (n + 1) ≤ 2 ^ j := Nat.pow_le_pow_right (by omega) q
            rw [Nat.pow_succ] at h2
            omega
          rw [Nat.testBit_lt_two_pow h1]
          have : ¬ j < n + 1 := by omega
          simp [this]
    · rw [bn, if_neg hp, Nat.add_zero, h]
      by_cases hj : j = n
      · subst hj
        simp [hp]
      · have : (j < n + 1) = (j < n) := by simp; omega
        simp [this]
/-- how many of those below n have p -/
def cn (p : Nat → Bool) : Nat → Nat
  | 0 => 0
  | n + 1 => cn p n + (if p n then 1 else 0)
theorem cn_le (p : Nat → Bool) : ∀ n, cn p n ≤ n
  | 0 => Nat.le_refl _
  | n + 1 => by have := cn_le p n; simp only [cn]; split <;> omega
theorem cn_cong {p q : Nat → Bool} : ∀ {n : Nat}, (∀ k, k < n → p k = q k) → cn p n = cn q n
  | 0, _ => rfl
  | n + 1, h => by rw [cn, cn, cn_cong (fun k hk => h k (by omega)), h n (by omega)]
theorem bn_cong {p q : Nat → Bool} : ∀ {n : Nat}, (∀ k, k < n → p k = q k) → bn p n = bn q n
  | 0, _ => rfl
  | n + 1, h => by rw [bn, bn, bn_cong (fun k hk => h k (by omega)), h n (by omega)]
/-- how many bits -/
def pc6 (x : Nat) : Nat := cn (fun j => x.testBit j) 6
theorem pc6_bn (p : Nat → Bool) {n : Nat} (h : n ≤ 6) : pc6 (bn p n) = cn p n := by
  unfold pc6
  have key : ∀ m, cn (fun j => (bn p n).testBit j) m = cn p (min m n) := by
    intro m
    induction m with
    | zero => simp [cn]
    | succ m ih =>
      rw [cn, ih, bn_tb]
      by_cases hm : m < n
      · rw [Nat.min_eq_left (by omega : m + 1 ≤ n), Nat.min_eq_left (by omega : m ≤ n)]
        simp [hm, cn]
      · rw [Nat.min_eq_right (by omega : n ≤ m + 1), Nat.min_eq_right (by omega : n ≤ m)]
        simp [hm]
  rw [key 6, Nat.min_eq_right h]
set_option maxHeartbeats 4000000 in
set_option maxRecDepth 100000 in
theorem mo_in {d : Nat} {σ : zSo} {Q : Option Value → zSo → Prop} {v a b : Int64} (ht : a.toInt ≤ v.toInt → v.toInt ≤ b.toInt → Q (some (.int 1)) σ) (hf : ¬ (a.toInt ≤ v.toInt ∧ v.toInt ≤ b.toInt) → Q (some (.int 0)) σ) : zC d 107 [.long v, .long a, .long b] σ Q := by
  show zA d _ 0 [(0, .long v), (2, .long a), (4, .long b)] [] σ Q
  repeat refine zA_step rfl rfl ?_
  refine zA_c (fun c => ?_) (fun c => ?_)
  · repeat refine zA_step rfl rfl ?_
    refine zA_ret rfl (hf ?_)
    rw [nu_cmp_lt] at c
    omega
  · repeat refine zA_step rfl rfl ?_
    refine zA_c (fun c2 => ?_) (fun c2 => ?_)
    · repeat refine zA_step rfl rfl ?_
      refine zA_ret rfl (hf ?_)
      rw [nu_cmp_gt] at c2
      omega
    · repeat refine zA_step rfl rfl ?_
      refine zA_ret rfl (ht ?_ ?_)
      · rw [nu_cmp_lt] at c
        omega
      · rw [nu_cmp_gt] at c2
        omega
theorem mo_inI {d : Nat} {σ : zSo} {Q : Option Value → zSo → Prop} {x : Int32} {a b : Int64} (A B : Int) (ha : a.toInt = A) (hb : b.toInt = B) (ht : A ≤ x.toInt → x.toInt ≤ B → Q (some (.int 1)) σ) (hf : ¬ (A ≤ x.toInt ∧ x.toInt ≤ B) → Q (some (.int 0)) σ) : zC d 107 [.long x.toInt64, .long a, .long b] σ Q :=
  mo_in (by rw [nu_wide, ha, hb]; exact ht) (by rw [nu_wide, ha, hb]; exact hf)
set_option maxHeartbeats 4000000 in
set_option maxRecDepth 100000 in
theorem mo_isRow {d : Nat} {σ : zSo} {Q : Option Value → zSo → Prop} {x : Int32} (ht : ∀ r, r < 8 → x = nI r → Q (some (.int 1)) σ) (hf : ¬ (0 ≤ x.toInt ∧ x.toInt < 8) → Q (some (.int 0)) σ) : zC (d + 1) 109 [.int x] σ Q := by
  show zA (d + 1) _ 0 [(0, .int x)] [] σ Q
  repeat refine zA_step rfl rfl ?_
  refine zA_call rfl rfl (mo_inI 0 7 (by decide) (by decide) (fun h1 h2 => ?_) (fun h => ?_))
  · refine zA_ret rfl ?_
    obtain ⟨r, hr, e⟩ := nu_of (n := 8) h1 (by omega)
    exact ht r hr e
  · refine zA_ret rfl (hf ?_)
    omega
set_option maxHeartbeats 4000000 in
set_option maxRecDepth 100000 in
theorem mo_has {d : Nat} {σ : zSo} {Q : Option Value → zSo → Prop} {x j : Nat} (hx : x < 64) (hj : j < 8) (ht : x.testBit j = true → Q (some (.int 1)) σ) (hf : x.testBit j = false → Q (some (.int 0)) σ) : zC d 134 [.int (nI x), .int (nI j)] σ Q := by
  show zA d _ 0 [(0, .int (nI x)), (1, .int (nI j))] [] σ Q
  repeat refine zA_step rfl rfl ?_
  rw [nu_bit x hx j hj]
  cases h : x.testBit j with
  | true =>
    refine zA_t rfl ?_
    repeat refine zA_step rfl rfl ?_
    exact zA_ret rfl (ht h)
  | false =>
    refine zA_f (by decide) ?_
    repeat refine zA_step rfl rfl ?_
    exact zA_ret rfl (hf h)
set_option maxHeartbeats 4000000 in
set_option maxRecDepth 100000 in
theorem mo_known {d : Nat} {σ : zSo} {Q : Option Value → zSo → Prop} {w s : Nat} (hw : w < 6) (hs : s < 6) (hQ : Q (some (.int (nI (35 + 3 * (6 * w + s))))) σ) : zC d 136 [.int (nI w), .int (nI s)] σ Q := by
  show zA d _ 0 [(0, .int (nI w)), (1, .int (nI s))] [] σ Q
  repeat refine zA_step rfl rfl ?_
  have e : 35 + 3 * (6 * nI w + nI s) = nI (35 + 3 * (6 * w + s)) := (by rw [nu_eq]; simp (disch := omega) only [Int32.toInt_add, Int32.toInt_sub, Int32.toInt_mul, nu_I, Nat.reducePow, nu_bm, Int32.reduceToInt, Int64.reduceToInt]; omega)
  rw [e]
  exact zA_ret rfl hQ
/-- the rows of the reference that are parishes -/
def mR (R : Nat) : Prop := R = 74 ∨ R = 76 ∨ R = 75
set_option maxHeartbeats 4000000 in
set_option maxRecDepth 100000 in
theorem mo_of {d : Nat} {σ : zSo} {Q : Option Value → zSo → Prop} {R w k : Nat} {v : Int32} (hR : mR R) (hw : w < 6) (hk : k < 4) (hv : σ R (11 + 4 * w + k) = v) (hQ : Q (some (.int v)) σ) : zC d 135 [.ref R, .int (nI w), .int (nI k)] σ Q := by
  show zA d _ 0 [(0, .ref R), (1, .int (nI w)), (2, .int (nI k))] [] σ Q
  rcases hR with rfl | rfl | rfl
  all_goals
    repeat refine zA_step rfl rfl ?_
    refine zA_ld (j := 11 + 4 * w + k) rfl (by rw [nu_eq]; simp (disch := omega) only [Int32.toInt_add, Int32.toInt_sub, Int32.toInt_mul, nu_I, Nat.reducePow, nu_bm, Int32.reduceToInt, Int64.reduceToInt]; omega) (by omega) (by decide) hv ?_
    exact zA_ret rfl hQ
set_option maxHeartbeats 4000000 in
set_option maxRecDepth 100000 in
theorem mo_isAlive {d : Nat} {σ : zSo} {Q : Option Value → zSo → Prop} {R w a e : Nat} (hR : mR R) (hw : w < 6) (ha : σ R (11 + 4 * w + 1) = nI a) (he : σ R (11 + 4 * w + 2) = nI e) (ba : a < 10000) (be : e < 10000) (ht : a < e → Q (some (.int 1)) σ) (hf : ¬ a < e → Q (some (.int 0)) σ) : zC (d + 1) 137 [.ref R, .int (nI w)] σ Q := by
  show zA (d + 1) _ 0 [(0, .ref R), (1, .int (nI w))] [] σ Q
  repeat refine zA_step rfl rfl ?_
  refine zA_call rfl rfl (mo_of hR hw (k := 1) (by omega) ha ?_)
  repeat refine zA_step rfl rfl ?_
  refine zA_call rfl rfl (mo_of hR hw (k := 2) (by omega) he ?_)
  repeat refine zA_step rfl rfl ?_
  by_cases h : a < e
  · refine zA_f (by simp (disch := omega) only [nu_lt, nu_le, nu_eq, nu_cmp_lt, nu_cmp_gt, nu_cmp_ge, nu_cmp_le, nu_wide, Int32.toInt_add, Int32.toInt_sub, Int32.toInt_mul, nu_I, Nat.reducePow, nu_bm, Int32.reduceToInt, Int64.reduceToInt]; omega) ?_
    repeat refine zA_step rfl rfl ?_
    exact zA_ret rfl (ht h)
  · refine zA_t (by simp (disch := omega) only [nu_lt, nu_le, nu_eq, nu_cmp_lt, nu_cmp_gt, nu_cmp_ge, nu_cmp_le, nu_wide, Int32.toInt_add, Int32.toInt_sub, Int32.toInt_mul, nu_I, Nat.reducePow, nu_bm, Int32.reduceToInt, Int64.reduceToInt]; omega) ?_
    repeat refine zA_step rfl rfl ?_
    exact zA_ret rfl (hf h)
set_option maxHeartbeats 4000000 in
set_option maxRecDepth 100000 in
theorem mo_isTaken {d : Nat} {σ : zSo} {Q : Option Value → zSo → Prop} {R w a e : Nat} (hR : mR R) (hw : w < 6) (ha : σ R (11 + 4 * w + 1) = nI a) (he : σ R (11 + 4 * w + 2) = nI e) (ba : a < 10000) (be : e < 10000) (ht : a < e ∧ a ≤ 60 → Q (some (.int 1)) σ) (hf : ¬ (a < e ∧ a ≤ 60) → Q (some (.int 0)) σ) : zC (d + 2) 138 [.ref R, .int (nI w)] σ Q := by
  show zA (d + 2) _ 0 [(0, .ref R), (1, .int (nI w))] [] σ Q
  repeat refine zA_step rfl rfl ?_
  refine zA_call rfl rfl (mo_isAlive hR hw ha he ba be (fun h => ?_) (fun h => ?_))
  · repeat refine zA_step rfl rfl ?_
    refine zA_call rfl rfl (mo_of hR hw (k := 1) (by omega) ha ?_)
    repeat refine zA_step rfl rfl ?_
    by_cases h2 : a ≤ 60
    · refine zA_f (by simp (disch := omega) only [nu_lt, nu_le, nu_eq, nu_cmp_lt, nu_cmp_gt, nu_cmp_ge, nu_cmp_le, nu_wide, Int32.toInt_add, Int32.toInt_sub, Int32.toInt_mul, nu_I, Nat.reducePow, nu_bm, Int32.reduceToInt, Int64.reduceToInt]; omega) ?_
      repeat refine zA_step rfl rfl ?_
      exact zA_ret rfl (ht ⟨h, h2⟩)
    · refine zA_t (by simp (disch := omega) only [nu_lt, nu_le, nu_eq, nu_cmp_lt, nu_cmp_gt, nu_cmp_ge, nu_cmp_le, nu_wide, Int32.toInt_add, Int32.toInt_sub, Int32.toInt_mul, nu_I, Nat.reducePow, nu_bm, Int32.reduceToInt, Int64.reduceToInt]; omega) ?_
      repeat refine zA_step rfl rfl ?_
      exact zA_ret rfl (hf (fun z => h2 z.2))
  · repeat refine zA_step rfl rfl ?_
    exact zA_ret rfl (hf (fun z => h z.1))
