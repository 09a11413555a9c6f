/-! the text of a parish: what is read -/
def ch (b : Nat → Nat) (n j : Nat) : Option Nat := if j < n then some (b j) else none
def isd (b : Nat → Nat) (n j : Nat) : Bool := decide (j < n ∧ 48 ≤ b j ∧ b j ≤ 57)
/-- a number from lo to hi at j: the fault, or the number and the place behind it -/
def numR (b : Nat → Nat) (n lo hi j : Nat) : Sum Nat (Nat × Nat) :=
  if isd b n j = false then .inl 1 else
  if isd b n (j + 1) = false then (if b j - 48 < lo ∨ hi < b j - 48 then .inl 2 else .inr (b j - 48, j + 1)) else
  if isd b n (j + 2) = true then .inl 1 else
  (if 10 * (b j - 48) + (b (j + 1) - 48) < lo ∨ hi < 10 * (b j - 48) + (b (j + 1) - 48) then .inl 2 else .inr (10 * (b j - 48) + (b (j + 1) - 48), j + 2))
theorem isd_t {b : Nat → Nat} {n j : Nat} : isd b n j = true ↔ (j < n ∧ 48 ≤ b j ∧ b j ≤ 57) := by unfold isd; exact decide_eq_true_iff
theorem isd_f {b : Nat → Nat} {n j : Nat} : isd b n j = false ↔ ¬ (j < n ∧ 48 ≤ b j ∧ b j ≤ 57) := by unfold isd; exact decide_eq_false_iff_not
theorem numR_pos {b : Nat → Nat} {n lo hi j : Nat} {v : Nat × Nat} (h : numR b n lo hi j = .inr v) : lo ≤ v.1 ∧ v.1 ≤ hi ∧ v.2 ≤ n := by
  unfold numR at h
  by_cases h1 : isd b n j = false
  · rw [if_pos h1] at h; cases h
  rw [if_neg h1] at h
  have h1' := isd_t.mp (by simpa using h1)
  by_cases h2 : isd b n (j + 1) = false
  · rw [if_pos h2] at h
    split at h
    · cases h
    · cases h
      refine ⟨?_, ?_, ?_⟩ <;> simp only <;> omega
  · rw [if_neg h2] at h
    have h2' := isd_t.mp (by simpa using h2)
    by_cases h3 : isd b n (j + 2) = true
    · rw [if_pos h3] at h; cases h
    · rw [if_neg h3] at h
      split at h
      · cases h
      · cases h
        refine ⟨?_, ?_, ?_⟩ <;> simp only <;> omega
theorem numR_f {b : Nat → Nat} {n lo hi j c : Nat} (h : numR b n lo hi j = .inl c) : c = 1 ∨ c = 2 := by
  unfold numR at h
  repeat' split at h
  all_goals first | (cases h; simp; done) | cases h
def eC (o : Option Nat) : Int32 := match o with
  | none => -1
  | some x => nI x
def TC (σ : zSo) (b : Nat → Nat) (n : Nat) : Prop := n ≤ 120 ∧ σ 18 1 = nI n ∧ ∀ j, j < n → σ 19 j = nI (b j) ∧ b j < 256
/-! what the class may change: the place, the fault; the trial -/
def CS (σ0 σ : zSo) (j : Nat) : Prop := zFr (18 :: tC) σ0 σ ∧ σ 18 2 = nI j ∧ ∀ i, i ≠ 2 → σ 18 i = σ0 18 i
def CF (σ0 σ : zSo) (c j : Nat) : Prop := zFr (18 :: tC) σ0 σ ∧ σ 18 3 = nI c ∧ σ 18 4 = nI j ∧ ∀ i, i ≠ 2 → i ≠ 3 → i ≠ 4 → σ 18 i = σ0 18 i
theorem CS.tc {σ0 σ : zSo} {j n : Nat} {b : Nat → Nat} (h : CS σ0 σ j) (hT : TC σ0 b n) : TC σ b n := by
  refine ⟨hT.1, ?_, fun i hi => ?_⟩
  · rw [h.2.2 _ (by decide)]; exact hT.2.1
  · rw [h.1 _ (by decide)]; exact hT.2.2 i hi
theorem ch_s {b : Nat → Nat} {n j x : Nat} : ch b n j = some x ↔ (j < n ∧ b j = x) := by
  unfold ch
  by_cases h : j < n <;> simp [h]
set_option maxHeartbeats 4000000 in
set_option maxRecDepth 100000 in
theorem cl_letterAt {d n j : Nat} {b : Nat → Nat} {σ : zSo} {Q : Option Value → zSo → Prop} {x : Int32} (hT : TC σ b n) (hj : j < 1000) (hx : x = nI j) (hQ : Q (some (.int (eC (ch b n j)))) σ) : zC d 53 [.ref 18, .int x] σ Q := by
  subst hx
  obtain ⟨t1, t2, t3⟩ := hT
  show zA d _ 0 [(0, .ref 18), (1, .int (nI j))] [] σ Q
  repeat refine zA_step rfl rfl ?_
  refine zA_f (by simp (disch := omega) only [nu_lt, nu_le, nu_eq, nu_cmp_lt, nu_cmp_gt, nu_cmp_ge, nu_cmp_le, nu_wide, Int32.toInt_add, Int32.toInt_sub, Int32.toInt_mul, nu_I, Nat.reducePow, nu_bm, Int32.reduceToInt, Int64.reduceToInt]; omega) ?_
  repeat refine zA_step rfl rfl ?_
  rw [t2]
  by_cases h : j < n
  · have e : ch b n j = some (b j) := by unfold ch; rw [if_pos h]
    rw [e] at hQ
    refine zA_f (by simp (disch := omega) only [nu_lt, nu_le, nu_eq, nu_cmp_lt, nu_cmp_gt, nu_cmp_ge, nu_cmp_le, nu_wide, Int32.toInt_add, Int32.toInt_sub, Int32.toInt_mul, nu_I, Nat.reducePow, nu_bm, Int32.reduceToInt, Int64.reduceToInt]; omega) ?_
    repeat refine zA_step rfl rfl ?_
    refine zA_f (by simp (disch := omega) only [nu_lt, nu_le, nu_eq, nu_cmp_lt, nu_cmp_gt, nu_cmp_ge, nu_cmp_le, nu_wide, Int32.toInt_add, Int32.toInt_sub, Int32.toInt_mul, nu_I, Nat.reducePow, nu_bm, Int32.reduceToInt, Int64.reduceToInt]; omega) ?_
    repeat refine zA_step rfl rfl ?_
    refine zA_ld (j := j) rfl rfl (by omega) (by decide) (t3 j h).1 ?_
    repeat refine zA_step rfl rfl ?_
    exact zA_ret rfl hQ
  · have e : ch b n j = none := by unfold ch; rw [if_neg h]
    rw [e] at hQ
    refine zA_t (by simp (disch := omega) only [nu_lt, nu_le, nu_eq, nu_cmp_lt, nu_cmp_gt, nu_cmp_ge, nu_cmp_le, nu_wide, Int32.toInt_add, Int32.toInt_sub, Int32.toInt_mul, nu_I, Nat.reducePow, nu_bm, Int32.reduceToInt, Int64.reduceToInt]; omega) ?_
    repeat refine zA_step rfl rfl ?_
    exact zA_ret rfl hQ
theorem eC_eq {b : Nat → Nat} {n j c : Nat} {σ : zSo} (hT : TC σ b n) (hc : c < 256) : eC (ch b n j) = nI c ↔ ch b n j = some c := by
  cases h : ch b n j with
  | none =>
    simp only [eC, reduceCtorEq, iff_false]
    rw [nu_eq, nu_I (by omega), show (-1 : Int32).toInt = -1 by decide]
    omega
  | some x =>
    obtain ⟨h1, h2⟩ := ch_s.mp h
    have := (hT.2.2 j h1).2
    simp only [eC, Option.some.injEq]
    exact nI_eq (by omega) (by omega)
set_option maxHeartbeats 4000000 in
set_option maxRecDepth 100000 in
theorem cl_fails {d j : Nat} {c : Nat} {σ0 σ : zSo} {Q : Option Value → zSo → Prop} (hS : CS σ0 σ j) (hQ : ∀ σ' : zSo, CF σ0 σ' c j → Q (some (.int 0)) σ') : zC d 52 [.ref 18, .int (nI c)] σ Q := by
  obtain ⟨s1, s2, s3⟩ := hS
  show zA d _ 0 [(0, .ref 18), (1, .int (nI c))] [] σ Q
  repeat refine zA_step rfl rfl ?_
  refine zA_ret rfl (hQ _ ⟨(s1.up (by simp)).up (by simp), by simp [zup, upd], ?_, fun i h1 h2 h3 => ?_⟩)
  · simp only [zup, upd, if_true]
    rw [if_neg (by decide)]
    exact s2
  · simp only [zup, upd, if_true]
    rw [if_neg h3, if_neg h2]
    exact s3 i h1
set_option maxHeartbeats 4000000 in
set_option maxRecDepth 100000 in
theorem cl_passes {d j n c : Nat} {b : Nat → Nat} {σ0 σ : zSo} {Q : Option Value → zSo → Prop} (hT : TC σ0 b n) (hS : CS σ0 σ j) (hj : j ≤ n) (hc : c < 256) (ht : ch b n j = some c → ∀ σ' : zSo, CS σ0 σ' (j + 1) → zFr [18] σ σ' → Q (some (.int 1)) σ') (hf : ¬ ch b n j = some c → ∀ σ' : zSo, CF σ0 σ' 1 j → Q (some (.int 0)) σ') : zC (d + 1) 54 [.ref 18, .int (nI c)] σ Q := by
  have hT1 := hS.tc hT
  have hn := hT.1
  show zA (d + 1) _ 0 [(0, .ref 18), (1, .int (nI c))] [] σ Q
  repeat refine zA_step rfl rfl ?_
  refine zA_call rfl rfl (cl_letterAt hT1 (j := j) (by omega) hS.2.1 ?_)
  repeat refine zA_step rfl rfl ?_
  by_cases h : ch b n j = some c
  · refine zA_t ((eC_eq hT1 hc).mpr h) ?_
    repeat refine zA_step rfl rfl ?_
    refine zA_ret rfl (ht h _ ⟨hS.1.up (by simp), ?_, fun i hi => ?_⟩ (zFr.rf.up (by simp)))
    · rw [zup_k]
      simp only [upd, if_true]
      rw [hS.2.1, nI_1]
    · rw [zup_k]
      simp only [upd]
      rw [if_neg hi]
      exact hS.2.2 i hi
  · refine zA_f (fun z => h ((eC_eq hT1 hc).mp z)) ?_
    repeat refine zA_step rfl rfl ?_
    refine zA_call rfl rfl (cl_fails (c := 1) hS (fun σ2 h2 => ?_))
    exact zA_ret rfl (hf h σ2 h2)
set_option maxHeartbeats 4000000 in
set_option maxRecDepth 100000 in
theorem cl_isFigure {d n j : Nat} {b : Nat → Nat} {σ : zSo} {Q : Option Value → zSo → Prop} (hT : TC σ b n) (hQ : Q (some (.int (nI (isd b n j).toNat))) σ) : zC d 56 [.int (eC (ch b n j))] σ Q := by
  show zA d _ 0 [(0, .int (eC (ch b n j)))] [] σ Q
  cases h : ch b n j with
  | none =>
    have e : isd b n j = false := isd_f.mpr (fun z => by
      unfold ch at h
      rw [if_pos z.1] at h; cases h)
    rw [e] at hQ
    repeat refine zA_step rfl rfl ?_
    exact zA_ret rfl hQ
  | some x =>
    obtain ⟨h1, h2⟩ := ch_s.mp h
    have hb := (hT.2.2 j h1).2
    subst h2
    show zA d _ 0 [(0, .int (nI (b j)))] [] σ Q
    repeat refine zA_step rfl rfl ?_
    by_cases c1 : b j < 48
    · have e : isd b n j = false := isd_f.mpr (fun z => by omega)
      rw [e] at hQ
      refine zA_t (by simp (disch := omega) only [nu_lt, nu_le, nu_eq, nu_cmp_lt, nu_cmp_gt, nu_cmp_ge, nu_cmp_le, nu_wide, Int32.toInt_add, Int32.toInt_sub, Int32.toInt_mul, nu_I, Nat.reducePow, nu_bm, Int32.reduceToInt, Int64.reduceToInt]; omega) ?_
      repeat refine zA_step rfl rfl ?_
      exact zA_ret rfl hQ
    refine zA_f (by simp (disch := omega) only [nu_lt, nu_le, nu_eq, nu_cmp_lt, nu_cmp_gt, nu_cmp_ge, nu_cmp_le, nu_wide, Int32.toInt_add, Int32.toInt_sub, Int32.toInt_mul, nu_I, Nat.reducePow, nu_bm, Int32.reduceToInt, Int64.reduceToInt]; omega) ?_
    repeat refine zA_step rfl rfl ?_
    by_cases c2 : 57 < b j
    · have e : isd b n j = false := isd_f.mpr (fun z => by omega)
      rw [e] at hQ
      refine zA_t (by simp (disch := omega) only [nu_lt, nu_le, nu_eq, nu_cmp_lt, nu_cmp_gt, nu_cmp_ge, nu_cmp_le, nu_wide, Int32.toInt_add, Int32.toInt_sub, Int32.toInt_mul, nu_I, Nat.reducePow, nu_bm, Int32.reduceToInt, Int64.reduceToInt]; omega) ?_
      repeat refine zA_step rfl rfl ?_
      exact zA_ret rfl hQ
    · have e : isd b n j = true := isd_t.mpr (by omega)
      rw [e] at hQ
      refine zA_f (by simp (disch := omega) only [nu_lt, nu_le, nu_eq, nu_cmp_lt, nu_cmp_gt, nu_cmp_ge, nu_cmp_le, nu_wide, Int32.toInt_add, Int32.toInt_sub, Int32.toInt_mul, nu_I, Nat.reducePow, nu_bm, Int32.reduceToInt, Int64.reduceToInt]; omega) ?_
      repeat refine zA_step rfl rfl ?_
      exact zA_ret rfl hQ
set_option maxHeartbeats 4000000 in
set_option maxRecDepth 100000 in
theorem cl_number {d j n lo hi : Nat} {b : Nat → Nat} {σ0 σ : zSo} {Q : Option Value → zSo → Prop} (hT : TC σ0 b n) (hS : CS σ0 σ j) (hj : j ≤ n) (hlo : lo < 1000) (hhi : hi < 1000)
    (ht : ∀ v j', numR b n lo hi j = .inr (v, j') → ∀ σ' : zSo, CS σ0 σ' j' → zFr [18] σ σ' → Q (some (.int (nI v))) σ') (hf : ∀ c, numR b n lo hi j = .inl c → ∀ σ' : zSo, CF σ0 σ' c j → Q (some (.int (-1))) σ') : zC (d + 1) 55 [.ref 18, .int (nI lo), .int (nI hi)] σ Q := by
  have hT1 := hS.tc hT
  have hn := hT.1
  have hpl := hS.2.1
  have ej : ∀ k, nI j + nI k = nI (j + k) := fun k => nI_add _ _
  -- one figure
  have step : ∀ k v, k < 3 → v < 1000 → (isd b n (j + k) = true → zA (d + 1) 55 5 [(0, .ref 18), (1, .int (nI lo)), (2, .int (nI hi)), (3, .int (nI (k + 1))), (4, .int (nI (10 * v + (b (j + k) - 48))))] [] σ Q) → (isd b n (j + k) = false → zA (d + 1) 55 53 [(0, .ref 18), (1, .int (nI lo)), (2, .int (nI hi)), (3, .int (nI k)), (4, .int (nI v))] [] σ Q) → zA (d + 1) 55 5 [(0, .ref 18), (1, .int (nI lo)), (2, .int (nI hi)), (3, .int (nI k)), (4, .int (nI v))] [] σ Q := by
    intro k v hk hv kt kf
    have ex : σ 18 2 + nI k = nI (j + k) := by rw [hpl, ej]
    refine zA_s0 rfl ?_
    repeat refine zA_step rfl rfl ?_
    refine zA_f (by simp (disch := omega) only [nu_lt, nu_le, nu_eq, nu_cmp_lt, nu_cmp_gt, nu_cmp_ge, nu_cmp_le, nu_wide, Int32.toInt_add, Int32.toInt_sub, Int32.toInt_mul, nu_I, Nat.reducePow, nu_bm, Int32.reduceToInt, Int64.reduceToInt]; omega) ?_
    repeat refine zA_step rfl rfl ?_
    refine zA_call rfl rfl (cl_letterAt hT1 (j := j + k) (by omega) ex ?_)
    refine zA_call rfl rfl (cl_isFigure hT1 ?_)
    cases h : isd b n (j + k) with
    | false =>
      refine zA_s0 rfl ?_
      exact kf h
    | true =>
      obtain ⟨g1, g2, g3⟩ := isd_t.mp h
      repeat refine zA_step rfl rfl ?_
      refine zA_call rfl rfl (cl_letterAt hT1 (j := j + k) (by omega) ex ?_)
      rw [show ch b n (j + k) = some (b (j + k)) from ch_s.mpr ⟨g1, rfl⟩]
      show zA _ _ _ _ (.int (nI (b (j + k))) :: _) _ _
      repeat refine zA_step rfl rfl ?_
      rw [nI_1, show nI v * 10 + nI (b (j + k)) - 48 = nI (10 * v + (b (j + k) - 48)) from (by rw [nu_eq]; simp (disch := omega) only [Int32.toInt_add, Int32.toInt_sub, Int32.toInt_mul, nu_I, Nat.reducePow, nu_bm, Int32.reduceToInt, Int64.reduceToInt]; omega)]
      exact kt h
  -- the end of it
  have bad1 : ∀ k (v : Int32), (k = 0 ∨ k = 3) → numR b n lo hi j = .inl 1 → zA (d + 1) 55 53 [(0, .ref 18), (1, .int (nI lo)), (2, .int (nI hi)), (3, .int (nI k)), (4, .int v)] [] σ Q := by
    intro k v hk hr
    rcases hk with rfl | rfl
    · repeat refine zA_step rfl rfl ?_
      refine zA_call rfl rfl (cl_fails (c := 1) hS (fun σ2 h2 => ?_))
      repeat refine zA_step rfl rfl ?_
      exact zA_ret rfl (hf 1 hr σ2 h2)
    · repeat refine zA_step rfl rfl ?_
      refine zA_call rfl rfl (cl_fails (c := 1) hS (fun σ2 h2 => ?_))
      repeat refine zA_step rfl rfl ?_
      exact zA_ret rfl (hf 1 hr σ2 h2)
  have fin : ∀ k v, (k = 1 ∨ k = 2) → v < 1000 → (numR b n lo hi j = if v < lo ∨ hi < v then .inl 2 else .inr (v, j + k)) → zA (d + 1) 55 53 [(0, .ref 18), (1, .int (nI lo)), (2, .int (nI hi)), (3, .int (nI k)), (4, .int (nI v))] [] σ Q := by
    intro k v hk hv hr
    have bad2 : numR b n lo hi j = .inl 2 → zA (d + 1) 55 82 [(0, .ref 18), (1, .int (nI lo)), (2, .int (nI hi)), (3, .int (nI k)), (4, .int (nI v))] [] σ Q := by
      intro hr
      repeat refine zA_step rfl rfl ?_
      refine zA_call rfl rfl (cl_fails (c := 2) hS (fun σ2 h2 => ?_))
      repeat refine zA_step rfl rfl ?_
      exact zA_ret rfl (hf 2 hr σ2 h2)
    have go : zA (d + 1) 55 70 [(0, .ref 18), (1, .int (nI lo)), (2, .int (nI hi)), (3, .int (nI k)), (4, .int (nI v))] [] σ Q := by
      repeat refine zA_step rfl rfl ?_
      by_cases c1 : v < lo
      · refine zA_t (by simp (disch := omega) only [nu_lt, nu_le, nu_eq, nu_cmp_lt, nu_cmp_gt, nu_cmp_ge, nu_cmp_le, nu_wide, Int32.toInt_add, Int32.toInt_sub, Int32.toInt_mul, nu_I, Nat.reducePow, nu_bm, Int32.reduceToInt, Int64.reduceToInt]; omega) ?_
        exact bad2 (by rw [hr, if_pos (Or.inl c1)])
      refine zA_f (by simp (disch := omega) only [nu_lt, nu_le, nu_eq, nu_cmp_lt, nu_cmp_gt, nu_cmp_ge, nu_cmp_le, nu_wide, Int32.toInt_add, Int32.toInt_sub, Int32.toInt_mul, nu_I, Nat.reducePow, nu_bm, Int32.reduceToInt, Int64.reduceToInt]; omega) ?_
      repeat refine zA_step rfl rfl ?_
      by_cases c2 : hi < v
      · refine zA_f (by simp (disch := omega) only [nu_lt, nu_le, nu_eq, nu_cmp_lt, nu_cmp_gt, nu_cmp_ge, nu_cmp_le, nu_wide, Int32.toInt_add, Int32.toInt_sub, Int32.toInt_mul, nu_I, Nat.reducePow, nu_bm, Int32.reduceToInt, Int64.reduceToInt]; omega) ?_
        exact bad2 (by rw [hr, if_pos (Or.inr c2)])
      refine zA_t (by simp (disch := omega) only [nu_lt, nu_le, nu_eq, nu_cmp_lt, nu_cmp_gt, nu_cmp_ge, nu_cmp_le, nu_wide, Int32.toInt_add, Int32.toInt_sub, Int32.toInt_mul, nu_I, Nat.reducePow, nu_bm, Int32.reduceToInt, Int64.reduceToInt]; omega) ?_
      rw [if_neg (by omega)] at hr
      repeat refine zA_step rfl rfl ?_
      refine zA_ret rfl (ht v (j + k) hr _ ⟨hS.1.up (by simp), ?_, fun i hi => ?_⟩ (zFr.rf.up (by simp)))
      · rw [zup_k]
        simp only [upd, if_true]
        rw [hpl, ej]
      · rw [zup_k]
        simp only [upd]
        rw [if_neg hi]
        exact hS.2.2 i hi
    refine zA_s0 rfl ?_
    refine zA_s0 rfl ?_
    refine zA_f (by rcases hk with rfl | rfl <;> decide) ?_
    refine zA_s0 rfl ?_
    refine zA_s0 rfl ?_
    refine zA_s0 rfl ?_
    refine zA_f (by rcases hk with rfl | rfl <;> decide) ?_
    exact go
  show zA (d + 1) _ 0 [(0, .ref 18), (1, .int (nI lo)), (2, .int (nI hi))] [] σ Q
  repeat refine zA_step rfl rfl ?_
  refine step 0 0 (by omega) (by omega) (fun h0 => ?_) (fun h0 => ?_)
  rotate_left
  · exact bad1 0 _ (Or.inl rfl) (by unfold numR; exact if_pos h0)
  have g0 := isd_t.mp h0
  rw [Nat.add_zero] at h0 g0
  have n0 : ¬ isd b n j = false := by rw [h0]; decide
  refine step 1 _ (by omega) (by rw [Nat.add_zero]; omega) (fun h1 => ?_) (fun h1 => ?_)
  rotate_left
  · refine fin 1 _ (Or.inl rfl) (by rw [Nat.add_zero]; omega) ?_
    unfold numR
    rw [if_neg n0, if_pos h1]
    simp only [Nat.add_zero, Nat.mul_zero, Nat.zero_add]
  have g1 := isd_t.mp h1
  have n1 : ¬ isd b n (j + 1) = false := by rw [h1]; decide
  refine step 2 _ (by omega) (by rw [Nat.add_zero]; omega) (fun h2 => ?_) (fun h2 => ?_)
  rotate_left
  · refine fin 2 _ (Or.inr rfl) (by rw [Nat.add_zero]; omega) ?_
    unfold numR
    rw [if_neg n0, if_neg n1, if_neg (by rw [h2]; decide)]
    simp only [Nat.add_zero, Nat.mul_zero, Nat.zero_add]
  · refine zA_s0 rfl ?_
    refine zA_s0 rfl ?_
    refine zA_s0 rfl ?_
    refine zA_t (by decide) ?_
    refine bad1 3 _ (Or.inr rfl) ?_
    unfold numR
    rw [if_neg n0, if_neg n1, if_pos h2]
