/-! likeliest, the pair -/
set_option maxHeartbeats 4000000 in
set_option maxRecDepth 100000 in
theorem mo_likely_lp {d s Y : Nat} {σ : zSo} {Q : Option Value → zSo → Prop} {p : paT} (hM : PM (σ 74) p) (hW : paW p Y) (hY : Y ≤ 2000) (hs : s < ps p) (hQ : ∀ o m, LkP (vL p s) (fun z => z < 100) o m → Q (some (.int (eO o))) σ) : ∀ n k, k + n = 100 → ∀ o m, LkP (vL p s) (fun z => z < k) o m → ∀ i : Int32, i = nI k → zA (d + 10) 159 24 [(0, .ref 70), (1, .int (nI s)), (2, .int (eO o)), (3, .int (nI m)), (4, .int i)] [] σ Q := by
  have hl6 := vL_len (s := s) hW
  intro n
  induction n with
  | zero =>
    intro k hk o m hl i ei
    subst ei
    have : k = 100 := by omega
    subst this
    refine zA_s0 rfl ?_
    repeat refine zA_step rfl rfl ?_
    exact zA_ret rfl (hQ o m hl)
  | succ n ih =>
    intro k hk o m hl i ei
    subst ei
    have hcl := ct_le (vL p s) k
    have hm6 : m ≤ 6 := by
      rcases hl with ⟨-, a2, -⟩ | ⟨y, -, -, a3, -, -⟩
      · omega
      · have := ct_le (vL p s) y
        omega
    refine zA_s0 rfl ?_
    repeat refine zA_step rfl rfl ?_
    refine zA_f (by simp (disch := omega) only [nu_lt, nu_le, nu_eq, nu_cmp_lt, nu_cmp_gt, nu_cmp_ge, nu_cmp_le, nu_wide, Int32.toInt_add, Int32.toInt_sub, Int32.toInt_mul, nu_I, Nat.reducePow, nu_bm, Int32.reduceToInt, Int64.reduceToInt]; omega) ?_
    repeat refine zA_step rfl rfl ?_
    refine zA_call rfl rfl (mo_sayYard hM hW hY hs (by omega) ?_)
    show zA _ _ _ _ (.int (nI (ct (vL p s) k)) :: _) _ _
    repeat refine zA_step rfl rfl ?_
    by_cases h1 : m < ct (vL p s) k
    · refine zA_f (by simp (disch := omega) only [nu_lt, nu_le, nu_eq, nu_cmp_lt, nu_cmp_gt, nu_cmp_ge, nu_cmp_le, nu_wide, Int32.toInt_add, Int32.toInt_sub, Int32.toInt_mul, nu_I, Nat.reducePow, nu_bm, Int32.reduceToInt, Int64.reduceToInt]; omega) ?_
      repeat refine zA_step rfl rfl ?_
      refine zA_f (by simp (disch := omega) only [nu_lt, nu_le, nu_eq, nu_cmp_lt, nu_cmp_gt, nu_cmp_ge, nu_cmp_le, nu_wide, Int32.toInt_add, Int32.toInt_sub, Int32.toInt_mul, nu_I, Nat.reducePow, nu_bm, Int32.reduceToInt, Int64.reduceToInt]; omega) ?_
      repeat refine zA_step rfl rfl ?_
      refine zA_dr rfl rfl rfl ?_
      refine ih (k + 1) (by omega) (some k) (ct (vL p s) k) (Or.inr ⟨k, rfl, by omega, rfl, by omega, fun z hz => ?_⟩) _ (nI_1 k)
      by_cases e : z = k
      · subst e
        exact ⟨Nat.le_refl _, fun _ => Nat.le_refl _⟩
      · rcases hl with ⟨-, -, a3⟩ | ⟨y, -, -, a3, -, a5⟩
        · have := a3 z (by omega)
          omega
        · have := a5 z (by omega)
          omega
    · refine zA_t (by simp (disch := omega) only [nu_lt, nu_le, nu_eq, nu_cmp_lt, nu_cmp_gt, nu_cmp_ge, nu_cmp_le, nu_wide, Int32.toInt_add, Int32.toInt_sub, Int32.toInt_mul, nu_I, Nat.reducePow, nu_bm, Int32.reduceToInt, Int64.reduceToInt]; omega) ?_
      repeat refine zA_step rfl rfl ?_
      refine zA_t (by simp (disch := omega) only [nu_lt, nu_le, nu_eq, nu_cmp_lt, nu_cmp_gt, nu_cmp_ge, nu_cmp_le, nu_wide, Int32.toInt_add, Int32.toInt_sub, Int32.toInt_mul, nu_I, Nat.reducePow, nu_bm, Int32.reduceToInt, Int64.reduceToInt]; omega) ?_
      repeat refine zA_step rfl rfl ?_
      refine zA_dr rfl rfl rfl ?_
      refine ih (k + 1) (by omega) o m ?_ _ (nI_1 k)
      rcases hl with ⟨a1, a2, a3⟩ | ⟨y, a1, a2, a3, a4, a5⟩
      · refine Or.inl ⟨a1, a2, fun z hz => ?_⟩
        by_cases e : z = k
        · subst e; omega
        · exact a3 z (by omega)
      · refine Or.inr ⟨y, a1, by omega, a3, a4, fun z hz => ?_⟩
        by_cases e : z = k
        · subst e
          exact ⟨by omega, fun _ => by omega⟩
        · exact a5 z (by omega)
set_option maxHeartbeats 4000000 in
set_option maxRecDepth 100000 in
theorem pr_likeliest {d : Nat} {σ : zSo} (x : Int32) (hR : R σ) : zPair (d + 20) 75 159 [.int x] σ := by
  obtain ⟨-, -, -, -, ⟨p, ⟨hW, hC, hM, -, -⟩, -⟩, -⟩ := id hR
  have ws6 := hW.2.2.2.1
  have hk : zK σ (zup σ 70 0 0) := zK.rf.up rfl
  have hM' : PM (zup σ 70 0 0 74) p := hM
  show zA (d + 20) _ 0 [(0, .ref 0), (1, .int x)] [] σ _
  repeat refine zA_step rfl rfl ?_
  refine zA_call rfl rfl (cl_isStone hC ws6 (fun s hs e => ?_) (fun h => ?_))
  rotate_left
  · repeat refine zA_step rfl rfl ?_
    refine zA_ret rfl ⟨_, rfl, ?_⟩
    show zA (d + 20) _ 0 [(0, .ref 70), (1, .int x)] [] σ _
    repeat refine zA_step rfl rfl ?_
    refine zA_call rfl rfl (mo_isStone hM' ws6 (fun s hs e => ?_) (fun h => ?_))
    · subst e
      exact nu_abs2 hs (by omega) h
    repeat refine zA_step rfl rfl ?_
    exact zA_ret rfl ⟨rfl, hR.kp hk⟩
  subst e
  repeat refine zA_step rfl rfl ?_
  refine zA_call rfl rfl (cl_gather hC hW (by omega) hs (fun σ2 hF hO => ?_))
  have hk2 := zK_os hF
  have hM2 : PM (zup σ2 70 0 0 74) p := by
    show PM (σ2 74) p
    rw [hF _ (by decide)]; exact hM
  repeat refine zA_step rfl rfl ?_
  refine zA_call rfl rfl (cl_likeliestYard hO (fun o m hl => ?_))
  repeat refine zA_step rfl rfl ?_
  refine zA_ret rfl ⟨_, rfl, ?_⟩
  show zA (d + 20) _ 0 [(0, .ref 70), (1, .int (nI s))] [] σ2 _
  repeat refine zA_step rfl rfl ?_
  refine zA_call rfl rfl (mo_isStone hM2 ws6 (fun s' hs' e => ?_) (fun h => nu_abs2 hs (by omega) h))
  repeat refine zA_step rfl rfl ?_
  refine mo_likely_lp hM2 hW (by omega) hs (fun o' m' hl' => ⟨?_, hR.kp (hk2.up rfl)⟩) 100 0 (by omega) none 0 (Or.inl ⟨rfl, rfl, fun z hz => absurd hz (by omega)⟩) 0 rfl
  have := (hl.uniq hl' (fun z ⟨q, hq, e⟩ => by have := vL_99 hW hs q hq; omega) (fun z _ hz => ct_mem hz)).1
  rw [this]
/-! agree -/
def agb (p : paT) (n s : Nat) : Bool := (List.range 100).any (fun z => decide (n ≤ ct (vL p s) z))
theorem agb_iff {p : paT} {n s : Nat} : agb p n s = true ↔ ∃ z, z < 100 ∧ n ≤ ct (vL p s) z := by simp [agb]
theorem agb_lk {p : paT} {n s Y : Nat} {o : Option Nat} {m : Nat} (hW : paW p Y) (hs : s < ps p) (h1 : 1 ≤ n) (hl : LkP (vL p s) (fun z => ∃ q ∈ vL p s, q.2 = z) o m) : (vL p s).countP (fun q => decide (nI q.2 = eO o)) = m ∧ (agb p n s = true ↔ n ≤ m) := by
  have h99 := vL_99 hW hs
  have hl6 := vL_len (s := s) hW
  rcases hl with ⟨a1, a2, a3⟩ | ⟨y, a1, a2, a3, a4, a5⟩
  · subst a1 a2
    refine ⟨?_, ?_⟩
    · rw [List.countP_eq_zero]
      intro q hq h
      have := h99 q hq
      exact nu_nI_NO (by omega) (of_decide_eq_true h)
    · rw [agb_iff]
      constructor
      · rintro ⟨z, hz, hn⟩
        by_cases h0 : 0 < ct (vL p s) z
        · have := a3 z (ct_mem h0)
          omega
        · omega
      · omega
  · obtain ⟨q, hq, e⟩ := a2
    have hy9 : y ≤ 99 := by rw [← e]; exact h99 q hq
    subst a1 a3
    refine ⟨cnt_eq h99 (by omega), ?_⟩
    rw [agb_iff]
    constructor
    · rintro ⟨z, hz, hn⟩
      have := (a5 z (ct_mem (by omega))).1
      omega
    · intro h
      exact ⟨y, by omega, h⟩
set_option maxHeartbeats 4000000 in
set_option maxRecDepth 100000 in
theorem cl_agree_lp {d n : Nat} {σ : zSo} {Q : Option Value → zSo → Prop} {p : paT} (hC : PC σ 20 p) (hW : paW p 999) (h1 : 1 ≤ n) (h6 : n ≤ 6) (hQ : ∀ σ' : zSo, zK σ σ' → Q (some (.int (nI (bn (agb p n) (ps p))))) σ') : ∀ m k, k + m = ps p → ∀ i : Int32, i = nI k → ∀ σ1 : zSo, zFr [64, 65, 66] σ σ1 → zA (d + 10) 83 27 [(0, .ref 0), (1, .int (nI n)), (2, .int (nI (bn (agb p n) k))), (3, .int i)] [] σ1 Q := by
  have ws6 := hW.2.2.2.1
  intro m
  induction m with
  | zero =>
    intro k hk i ei σ1 hF
    subst ei
    have : k = ps p := by omega
    subst this
    refine zA_s0 rfl ?_
    repeat refine zA_step rfl rfl ?_
    rw [hF 20 (by decide), hC.2.1]
    refine zA_t (Int32.le_refl _) ?_
    repeat refine zA_step rfl rfl ?_
    exact zA_ret rfl (hQ _ (zK_os hF))
  | succ m ih =>
    intro k hk i ei σ1 hF
    subst ei
    have hC1 : PC σ1 20 p := hC.fr hW (fun k h1 h2 => hF k (by simp only [List.mem_cons, List.not_mem_nil, or_false]; omega))
    refine zA_s0 rfl ?_
    repeat refine zA_step rfl rfl ?_
    rw [hF 20 (by decide), hC.2.1]
    refine zA_f (by simp (disch := omega) only [nu_lt, nu_le, nu_eq, nu_cmp_lt, nu_cmp_gt, nu_cmp_ge, nu_cmp_le, nu_wide, Int32.toInt_add, Int32.toInt_sub, Int32.toInt_mul, nu_I, Nat.reducePow, nu_bm, Int32.reduceToInt, Int64.reduceToInt]; omega) ?_
    repeat refine zA_step rfl rfl ?_
    refine zA_call rfl rfl (cl_gather hC1 hW (by omega) (s := k) (by omega) (fun σ2 hF2 hO => ?_))
    repeat refine zA_step rfl rfl ?_
    refine zA_call rfl rfl (cl_likeliestYard hO (fun o mm hl => ?_))
    repeat refine zA_step rfl rfl ?_
    refine zA_call rfl rfl (cl_alike hO ?_)
    obtain ⟨e1, e2⟩ := agb_lk (n := n) hW (by omega) h1 hl
    rw [e1]
    have hm6 : mm ≤ 6 := by
      have := vL_len (s := k) hW
      have := List.countP_le_length (p := fun q : Nat × Nat => decide (nI q.2 = eO o)) (l := vL p k)
      omega
    repeat refine zA_step rfl rfl ?_
    have hF3 : zFr [64, 65, 66] σ σ2 := fun k hk => (hF2 k hk).trans (hF k hk)
    by_cases h : n ≤ mm
    · refine zA_f (by simp (disch := omega) only [nu_lt, nu_le, nu_eq, nu_cmp_lt, nu_cmp_gt, nu_cmp_ge, nu_cmp_le, nu_wide, Int32.toInt_add, Int32.toInt_sub, Int32.toInt_mul, nu_I, Nat.reducePow, nu_bm, Int32.reduceToInt, Int64.reduceToInt]; omega) ?_
      repeat refine zA_step rfl rfl ?_
      rw [nu_shl k (by omega), bn_t (e2.mpr h)]
      refine zA_dr rfl rfl rfl ?_
      exact ih (k + 1) (by omega) _ (nI_1 k) σ2 hF3
    · refine zA_t (by simp (disch := omega) only [nu_lt, nu_le, nu_eq, nu_cmp_lt, nu_cmp_gt, nu_cmp_ge, nu_cmp_le, nu_wide, Int32.toInt_add, Int32.toInt_sub, Int32.toInt_mul, nu_I, Nat.reducePow, nu_bm, Int32.reduceToInt, Int64.reduceToInt]; omega) ?_
      repeat refine zA_step rfl rfl ?_
      have e3 : agb p n k = false := by
        cases hb : agb p n k with
        | false => rfl
        | true => exact absurd (e2.mp hb) h
      rw [← bn_f0 e3]
      refine zA_dr rfl rfl rfl ?_
      exact ih (k + 1) (by omega) _ (nI_1 k) σ2 hF3
set_option maxHeartbeats 4000000 in
set_option maxRecDepth 100000 in
theorem mo_agree_in {d n s : Nat} {σ : zSo} {Q : Option Value → zSo → Prop} {p : paT} (hM : PM (σ 74) p) (hW : paW p 999) (h1 : 1 ≤ n) (h6 : n ≤ 6) (hs : s < ps p) (hQ : zA (d + 10) 171 34 [(0, .ref 70), (1, .int (nI n)), (2, .int (nI (bn (agb p n) (s + 1)))), (3, .int (nI s + 1))] [] σ Q) : ∀ m k, k + m = 100 → ∀ b : Bool, (b = true ↔ ∃ z, z < k ∧ n ≤ ct (vL p s) z) → ∀ i : Int32, i = nI k → ∀ a : Int32, a = (if b = true then nI (bn (agb p n) s) ||| nI (2 ^ s) else nI (bn (agb p n) s)) → zA (d + 10) 171 47 [(0, .ref 70), (1, .int (nI n)), (2, .int a), (3, .int (nI s)), (4, .int i)] [] σ Q := by
  have ws6 := hW.2.2.2.1
  have hl6 := vL_len (s := s) hW
  intro m
  induction m with
  | zero =>
    intro k hk b hb i ei a ea
    subst ei
    have : k = 100 := by omega
    subst this
    have hab : agb p n s = b := by
      have := (agb_iff (p := p) (n := n) (s := s)).trans hb.symm
      cases h : agb p n s <;> cases h' : b <;> simp_all
    have : a = nI (bn (agb p n) (s + 1)) := by
      rw [ea]
      cases b with
      | true => rw [if_pos rfl]; exact bn_t hab
      | false => rw [if_neg (by simp), bn_f0 hab]
    subst this
    refine zA_s0 rfl ?_
    repeat refine zA_step rfl rfl ?_
    refine zA_dr rfl rfl rfl ?_
    exact hQ
  | succ m ih =>
    intro k hk b hb i ei a ea
    subst ei
    have hcl := ct_le (vL p s) k
    refine zA_s0 rfl ?_
    repeat refine zA_step rfl rfl ?_
    refine zA_f (by simp (disch := omega) only [nu_lt, nu_le, nu_eq, nu_cmp_lt, nu_cmp_gt, nu_cmp_ge, nu_cmp_le, nu_wide, Int32.toInt_add, Int32.toInt_sub, Int32.toInt_mul, nu_I, Nat.reducePow, nu_bm, Int32.reduceToInt, Int64.reduceToInt]; omega) ?_
    repeat refine zA_step rfl rfl ?_
    refine zA_call rfl rfl (mo_sayYard hM hW (by omega) hs (by omega) ?_)
    show zA _ _ _ _ (.int (nI (ct (vL p s) k)) :: _) _ _
    repeat refine zA_step rfl rfl ?_
    by_cases h : n ≤ ct (vL p s) k
    · refine zA_f (by simp (disch := omega) only [nu_lt, nu_le, nu_eq, nu_cmp_lt, nu_cmp_gt, nu_cmp_ge, nu_cmp_le, nu_wide, Int32.toInt_add, Int32.toInt_sub, Int32.toInt_mul, nu_I, Nat.reducePow, nu_bm, Int32.reduceToInt, Int64.reduceToInt]; omega) ?_
      repeat refine zA_step rfl rfl ?_
      rw [nu_shl s (by omega)]
      refine ih (k + 1) (by omega) true ⟨fun _ => ⟨k, by omega, h⟩, fun _ => rfl⟩ _ (nI_1 k) _ ?_
      rw [ea, if_pos rfl]
      split
      · rw [nu_or, nu_or, Nat.or_assoc, Nat.or_self]
      · rfl
    · refine zA_t (by simp (disch := omega) only [nu_lt, nu_le, nu_eq, nu_cmp_lt, nu_cmp_gt, nu_cmp_ge, nu_cmp_le, nu_wide, Int32.toInt_add, Int32.toInt_sub, Int32.toInt_mul, nu_I, Nat.reducePow, nu_bm, Int32.reduceToInt, Int64.reduceToInt]; omega) ?_
      repeat refine zA_step rfl rfl ?_
      refine ih (k + 1) (by omega) b (hb.trans ⟨fun ⟨z, hz, e⟩ => ⟨z, by omega, e⟩, fun ⟨z, hz, e⟩ => ⟨z, by
        by_cases ez : z = k
        · subst ez; exact absurd e h
        · omega, e⟩⟩) _ (nI_1 k) _ ?_
      rw [← ea]
      exact Int32.or_zero
set_option maxHeartbeats 4000000 in
set_option maxRecDepth 100000 in
theorem mo_agree_lp {d n : Nat} {σ : zSo} {Q : Option Value → zSo → Prop} {p : paT} (hM : PM (σ 74) p) (hW : paW p 999) (h1 : 1 ≤ n) (h6 : n ≤ 6) (hQ : Q (some (.int (nI (bn (agb p n) (ps p))))) σ) : ∀ m k, k + m = ps p → ∀ i : Int32, i = nI k → zA (d + 10) 171 34 [(0, .ref 70), (1, .int (nI n)), (2, .int (nI (bn (agb p n) k))), (3, .int i)] [] σ Q := by
  have ws6 := hW.2.2.2.1
  intro m
  induction m with
  | zero =>
    intro k hk i ei
    subst ei
    have : k = ps p := by omega
    subst this
    refine zA_s0 rfl ?_
    repeat refine zA_step rfl rfl ?_
    simp only [nu_c2, hM.2.1]
    refine zA_t (Int32.le_refl _) ?_
    repeat refine zA_step rfl rfl ?_
    exact zA_ret rfl hQ
  | succ m ih =>
    intro k hk i ei
    subst ei
    refine zA_s0 rfl ?_
    repeat refine zA_step rfl rfl ?_
    simp only [nu_c2, hM.2.1]
    refine zA_f (by simp (disch := omega) only [nu_lt, nu_le, nu_eq, nu_cmp_lt, nu_cmp_gt, nu_cmp_ge, nu_cmp_le, nu_wide, Int32.toInt_add, Int32.toInt_sub, Int32.toInt_mul, nu_I, Nat.reducePow, nu_bm, Int32.reduceToInt, Int64.reduceToInt]; omega) ?_
    repeat refine zA_step rfl rfl ?_
    refine mo_agree_in hM hW h1 h6 (by omega) ?_ 100 0 (by omega) false (Iff.intro (fun h => by cases h) (fun ⟨z, hz, _⟩ => by omega)) 0 rfl _ (by simp)
    exact ih (k + 1) (by omega) _ (nI_1 k)
set_option maxHeartbeats 4000000 in
set_option maxRecDepth 100000 in
theorem pr_agree {d : Nat} {σ : zSo} (x : Int32) (hR : R σ) : zPair (d + 20) 83 171 [.int x] σ := by
  obtain ⟨-, -, -, -, ⟨p, ⟨hW, hC, hM, hT, -⟩, -⟩, -⟩ := id hR
  have ws6 := hW.2.2.2.1
  show zA (d + 20) _ 0 [(0, .ref 0), (1, .int x)] [] σ _
  repeat refine zA_step rfl rfl ?_
  rw [hT]
  by_cases h0 : 0 < ps p
  rotate_left
  · rw [if_neg h0]
    repeat refine zA_step rfl rfl ?_
    refine zA_ret rfl ⟨_, rfl, ?_⟩
    show zA (d + 20) _ 0 [(0, .ref 70), (1, .int x)] [] σ _
    repeat refine zA_step rfl rfl ?_
    refine zA_call rfl rfl (mo_isThere (p := p) hM ws6 (fun h => absurd h h0) (fun h => ?_))
    repeat refine zA_step rfl rfl ?_
    exact zA_ret rfl ⟨rfl, hR.kp (zK.rf.up rfl)⟩
  rw [if_pos h0]
  repeat refine zA_step rfl rfl ?_
  refine zA_call rfl rfl (cl_isMany (fun p1 p2 => ?_) (fun h => ?_))
  rotate_left
  · repeat refine zA_step rfl rfl ?_
    refine zA_ret rfl ⟨_, rfl, ?_⟩
    show zA (d + 20) _ 0 [(0, .ref 70), (1, .int x)] [] σ _
    repeat refine zA_step rfl rfl ?_
    refine zA_call rfl rfl (mo_isThere (p := p) hM ws6 (fun _ => ?_) (fun h => by omega))
    repeat refine zA_step rfl rfl ?_
    refine zA_call rfl rfl (mo_inI 1 6 (by decide) (by decide) (fun z1 z2 => absurd (And.intro z1 z2) h) (fun z => ?_))
    repeat refine zA_step rfl rfl ?_
    exact zA_ret rfl ⟨rfl, hR.kp (zK.rf.up rfl)⟩
  obtain ⟨n, hn, e⟩ := nu_of (n := 7) (x := x) (by omega) (by omega)
  subst e
  rw [nu_I (by omega)] at p1 p2
  repeat refine zA_step rfl rfl ?_
  refine cl_agree_lp hC hW (by omega) (by omega) (fun σ2 hk2 => ⟨_, rfl, ?_⟩) (ps p) 0 (by omega) 0 rfl σ zFr.rf
  have hM2 : PM (zup σ2 70 0 0 74) p := by
    refine hM.cong ws6 hW.2.2.2.2.1 (fun j _ => hk2 _ _ rfl)
  show zA (d + 20) _ 0 [(0, .ref 70), (1, .int (nI n))] [] σ2 _
  repeat refine zA_step rfl rfl ?_
  refine zA_call rfl rfl (mo_isThere hM2 ws6 (fun h => ?_) (fun h => by omega))
  repeat refine zA_step rfl rfl ?_
  refine zA_call rfl rfl (mo_inI 1 6 (by decide) (by decide) (fun z1 z2 => ?_) (fun z => absurd (by rw [nu_I (by omega)]; omega) z))
  repeat refine zA_step rfl rfl ?_
  exact mo_agree_lp hM2 hW (by omega) (by omega) ⟨rfl, hR.kp (hk2.up rfl)⟩ (ps p) 0 (by omega) 0 rfl
