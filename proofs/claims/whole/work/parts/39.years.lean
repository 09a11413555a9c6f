/-! years -/
def ush (x y : Int32) : Int32 := (x.toUInt32 >>> (y.toUInt32 &&& Int32.toUInt32 31)).toInt32
def bc1 (i : Int32) : Int32 := i - (ush i 1 &&& 1431655765)
def bc2 (i : Int32) : Int32 := (i &&& 858993459) + (ush i 2 &&& 858993459)
def bc3 (i : Int32) : Int32 := (i + ush i 4) &&& 252645135
def bc4 (i : Int32) : Int32 := i + ush i 8
def bc5 (i : Int32) : Int32 := i + ush i 16
theorem bc_all : ∀ x, x < 64 → bc5 (bc4 (bc3 (bc2 (bc1 (nI x))))) &&& 63 = nI (pc6 x) := by decide +kernel
set_option maxHeartbeats 4000000 in
set_option maxRecDepth 100000 in
theorem cl_bitCount {d : Nat} {σ : zSo} {Q : Option Value → zSo → Prop} {x : Nat} (hx : x < 64) (hQ : Q (some (.int (nI (pc6 x)))) σ) : zC d 187 [.int (nI x)] σ Q := by
  show zA d _ 0 [(0, .int (nI x))] [] σ Q
  repeat refine zA_step rfl rfl ?_
  refine zA_ret rfl ?_
  rw [← bc_all x hx] at hQ
  exact hQ
theorem paW.mono {p : paT} {Y Z : Nat} (h : paW p Y) (hy : py p ≤ Z) : paW p Z := ⟨h.1, h.2.1, hy, h.2.2.2⟩
/-- the acts that are kept behind k years -/
def acL (p : paT) (L : List paT) : Nat → List paT
  | 0 => L
  | k + 1 => (agP p k :: acL p L k).take 24
theorem acL_len (p : paT) {L : List paT} (h : L.length ≤ 24) : ∀ k, (acL p L k).length ≤ 24
  | 0 => h
  | k + 1 => by unfold acL; rw [List.length_take]; omega
theorem PC.ag {σ σ' : zSo} {P : Nat} {p : paT} {n : Nat} (h : PC σ P p) (hk : ∀ k, 1 ≤ k → k ≤ 8 → σ' (P + k) = σ (P + k)) (ho : ∀ j, j ≠ 3 → σ' P j = σ P j) (hy : σ' P 3 = nI (py p + n)) : PC σ' P (agP p n) := by
  obtain ⟨⟨a0, a1⟩, a2, a3, a4, a5, a6, a7⟩ := h
  unfold PC
  simp only [hk 1 (by omega) (by omega), hk 2 (by omega) (by omega), hk 3 (by omega) (by omega), hk 4 (by omega) (by omega), hk 5 (by omega) (by omega), hk 6 (by omega) (by omega), hk 7 (by omega) (by omega), hk 8 (by omega) (by omega)]
  refine ⟨⟨?_, ?_⟩, ?_, ?_, hy, a5, fun w hw => ?_, a7⟩
  · rw [ho _ (by decide)]; exact a0
  · rw [ho _ (by decide)]; exact a1
  · rw [ho _ (by decide)]; exact a2
  · rw [ho _ (by decide)]; exact a3
  · obtain ⟨c1, c2, c3, c4⟩ := a6 w hw
    refine ⟨c1, ?_, c3, c4⟩
    show _ = nI (pa p w + n - (py p + n))
    rw [Nat.add_sub_add_right]
    exact c2
set_option maxHeartbeats 4000000 in
set_option maxRecDepth 100000 in
theorem pr_years {d : Nat} {σ : zSo} (x : Int32) (hR : R σ) : zPair (d + 20) 69 149 [.int x] σ := by
  obtain ⟨-, -, -, -, ⟨p, hp, L, hL⟩, -⟩ := id hR
  obtain ⟨hW, hC, hM, hto, hsw⟩ := id hp
  obtain ⟨⟨hl, hsz, nx, hn, hx, hac⟩, hma⟩ := rActs_iff.mp hL
  have ws6 := hW.2.2.2.1
  have ww6 := hW.2.2.2.2.1
  have wy := hW.2.2.1
  have hmr : mR 74 := Or.inl rfl
  have hk : zK σ (zup σ 70 0 0) := zK.rf.up rfl
  have hM' : PM (zup σ 70 0 0 74) p := hM
  show zA (d + 20) _ 0 [(0, .ref 0), (1, .int x)] [] σ _
  by_cases h0 : 0 < ps p
  rotate_left
  · rw [if_neg h0] at hto
    repeat refine zA_step rfl rfl ?_
    refine zA_t hto ?_
    repeat refine zA_step rfl rfl ?_
    refine zA_ret rfl ⟨_, rfl, ?_⟩
    show zA (d + 20) _ 0 [(0, .ref 70), (1, .int x)] [] σ _
    repeat refine zA_step rfl rfl ?_
    refine zA_call rfl rfl (mo_isThere hM' ws6 (fun h => absurd h h0) (fun h => ?_))
    repeat refine zA_step rfl rfl ?_
    exact zA_ret rfl ⟨rfl, hR.kp hk⟩
  rw [if_pos h0] at hto
  have hno : ¬ (σ 20 0 = 0) := by rw [hto]; decide
  have tomod : ∀ σ1 (Q : Option Value → zSo → Prop), PM (σ1 74) p → zA (d + 20) 149 15 [(0, .ref 70), (1, .int x)] [] (zup σ1 70 0 0) Q → zC (d + 20) 149 [.ref 70, .int x] σ1 Q := by
    intro σ1 Q hM1 K
    show zA (d + 20) _ 0 [(0, .ref 70), (1, .int x)] [] σ1 _
    repeat refine zA_step rfl rfl ?_
    refine zA_call rfl rfl (mo_isThere (p := p) hM1 ws6 (fun h => ?_) (fun h => absurd h (by omega)))
    refine zA_s0 rfl ?_
    exact K
  have bad : ¬ (1 ≤ x.toInt ∧ x.toInt ≤ 24) → zC (d + 20) 149 [.ref 70, .int x] σ (fun r2 σ2 => r2 = some (.int (-1000001)) ∧ R σ2 ∧ ∀ k, 1000 ≤ k → σ2 k = σ k) := by
    intro hb
    refine tomod σ _ hM ?_
    repeat refine zA_step rfl rfl ?_
    refine zA_call rfl rfl (mo_inI 1 24 (by decide) (by decide) (fun z1 z2 => absurd ⟨z1, z2⟩ hb) (fun z => ?_))
    repeat refine zA_step rfl rfl ?_
    exact zA_ret rfl ⟨rfl, hR.kp hk⟩
  repeat refine zA_step rfl rfl ?_
  refine zA_f hno ?_
  repeat refine zA_step rfl rfl ?_
  refine zA_c (fun c1 => ?_) (fun c1 => ?_)
  all_goals simp only [nu_lt, Int32.reduceToInt] at c1
  · repeat refine zA_step rfl rfl ?_
    exact zA_ret rfl ⟨_, rfl, bad (by omega)⟩
  repeat refine zA_step rfl rfl ?_
  refine zA_c (fun c2 => ?_) (fun c2 => ?_)
  all_goals simp only [nu_le, Int32.reduceToInt] at c2
  rotate_left
  · repeat refine zA_step rfl rfl ?_
    exact zA_ret rfl ⟨_, rfl, bad (by omega)⟩
  obtain ⟨n, hn24, e⟩ := nu_of (n := 25) (x := x) (by omega) (by omega)
  subst e
  rw [nu_I (by omega)] at c1 c2
  have tom2 : ∀ σ1 (Q : Option Value → zSo → Prop), PM (σ1 74) p → zA (d + 20) 149 30 [(0, .ref 70), (1, .int (nI n))] [] (zup σ1 70 0 0) Q → zC (d + 20) 149 [.ref 70, .int (nI n)] σ1 Q := by
    intro σ1 Q hM1 K
    refine tomod σ1 _ hM1 ?_
    repeat refine zA_step rfl rfl ?_
    refine zA_call rfl rfl (mo_inI 1 24 (by decide) (by decide) (fun z1 z2 => ?_) (fun z => absurd ⟨by rw [nu_I (by omega)]; omega, by rw [nu_I (by omega)]; omega⟩ z))
    refine zA_s0 rfl ?_
    exact K
  repeat refine zA_step rfl rfl ?_
  rw [hC.2.2.2.1, nI_add]
  by_cases hful : py p + n ≤ 999
  rotate_left
  · refine zA_f (by simp (disch := omega) only [nu_lt, nu_le, nu_eq, nu_cmp_lt, nu_cmp_gt, nu_cmp_ge, nu_cmp_le, nu_wide, Int32.toInt_add, Int32.toInt_sub, Int32.toInt_mul, nu_I, Nat.reducePow, nu_bm, Int32.reduceToInt, Int64.reduceToInt]; omega) ?_
    repeat refine zA_step rfl rfl ?_
    refine zA_ret rfl ⟨_, rfl, tom2 σ _ hM ?_⟩
    repeat refine zA_step rfl rfl ?_
    simp only [nu_c4, show zup σ 70 0 0 74 4 = nI (py p) from hM'.2.2.2.1, nI_add]
    refine zA_f (by simp (disch := omega) only [nu_lt, nu_le, nu_eq, nu_cmp_lt, nu_cmp_gt, nu_cmp_ge, nu_cmp_le, nu_wide, Int32.toInt_add, Int32.toInt_sub, Int32.toInt_mul, nu_I, Nat.reducePow, nu_bm, Int32.reduceToInt, Int64.reduceToInt]; omega) ?_
    repeat refine zA_step rfl rfl ?_
    exact zA_ret rfl ⟨rfl, hR.kp hk⟩
  refine zA_t (by simp (disch := omega) only [nu_lt, nu_le, nu_eq, nu_cmp_lt, nu_cmp_gt, nu_cmp_ge, nu_cmp_le, nu_wide, Int32.toInt_add, Int32.toInt_sub, Int32.toInt_mul, nu_I, Nat.reducePow, nu_bm, Int32.reduceToInt, Int64.reduceToInt]; omega) ?_
  have hWk : ∀ k, k ≤ n → paW (agP p k) 999 := fun k hk => (agP_W hW).mono (show py p + k ≤ 999 by omega)
  have hHk : ∀ k, k ≤ n → paH (agP p k) := fun k hk => ⟨hWk k hk, h0, hsw.mp h0⟩
  -- the reference's loop
  have lpm : ∀ (Q : Option Value → zSo → Prop) (σ2 : zSo), (∀ σ4 : zSo, (∀ k, k ≠ 74 → k ≠ 77 → k ≠ 70 → σ4 k = σ2 k) → (∀ j, j ≠ 9 → σ4 70 j = σ2 70 j) → PM (σ4 74) (agP p n) → mActs σ4 (acL p L n) → zA (d + 20) 149 49 [(0, .ref 70), (1, .int (nI n)), (2, .int (nI n))] [] σ4 Q) →
      ∀ m k, k + m = n → ∀ σk : zSo, (∀ k, k ≠ 74 → k ≠ 77 → k ≠ 70 → σk k = σ2 k) → (∀ j, j ≠ 9 → σk 70 j = σ2 70 j) → PM (σk 74) (agP p k) → mActs σk (acL p L k) → (∀ q ∈ acL p L k, paH q) → ∀ i : Int32, i = nI k → zA (d + 20) 149 49 [(0, .ref 70), (1, .int (nI n)), (2, .int i)] [] σk Q := by
    intro Q σ2 K m
    induction m with
    | zero =>
      intro k hk σk h1 h2 h3 h4 h5 i ei
      subst ei
      have : k = n := by omega
      subst this
      exact K σk h1 h2 h3 h4
    | succ m ih =>
      intro k hk σk h1 h2 h3 h4 h5 i ei
      subst ei
      refine zA_s0 rfl ?_
      repeat refine zA_step rfl rfl ?_
      refine zA_f (by simp (disch := omega) only [nu_lt, nu_le, nu_eq, nu_cmp_lt, nu_cmp_gt, nu_cmp_ge, nu_cmp_le, nu_wide, Int32.toInt_add, Int32.toInt_sub, Int32.toInt_mul, nu_I, Nat.reducePow, nu_bm, Int32.reduceToInt, Int64.reduceToInt]; omega) ?_
      repeat refine zA_step rfl rfl ?_
      refine zA_call rfl rfl (mo_keep (p := agP p k) (acL_len p hl k) h4 h3 (hWk k (by omega)) h5 (fun σ5 o1 o2 o3 => ?_))
      repeat refine zA_step rfl rfl ?_
      have h3' : PM (σ5 74) (agP p k) := by rw [o1 _ (by omega) (by omega)]; exact h3
      refine zA_call rfl rfl (mo_age (n := 1) hmr h3' (hWk k (by omega)) (by omega) (by omega) (fun σ6 hF hM6 => ?_))
      repeat refine zA_step rfl rfl ?_
      refine ih (k + 1) (by omega) σ6 (fun a b1 b2 b3 => ?_) (fun j hj => ?_) hM6 (o3.kp (by rw [hF _ (by decide)]) (by rw [hF _ (by decide)])) (fun q hq => ?_) _ (nI_1 k)
      · rw [hF a (by simpa using b1), o1 a b2 b3]; exact h1 a b1 b2 b3
      · rw [hF _ (by decide), o2 j hj]; exact h2 j hj
      · unfold acL at hq
        rcases List.mem_cons.mp (List.mem_of_mem_take hq) with e | e
        · rw [e]; exact hHk k (by omega)
        · exact h5 q e
  -- the class's loop
  have lpc : ∀ m k, k + m = n → ∀ σk : zSo, (∀ k, ¬ (20 ≤ k ∧ k ≤ 28) → ¬ (57 ≤ k ∧ k ≤ 63) → σk k = σ k) → σk 20 0 = σ 20 0 → PC σk 20 (agP p k) → cActs σk (agP p k) (acL p L k) → ∀ i : Int32, i = nI k → zA (d + 20) 69 47 [(0, .ref 0), (1, .int (nI n)), (2, .int i)] [] σk (fun r σ1 => ∃ a, r = some (.int a) ∧ zC (d + 20) 149 [.ref 70, .int (nI n)] σ1 (fun r2 σ2 => r2 = some (.int a) ∧ R σ2 ∧ ∀ k, 1000 ≤ k → σ2 k = σ k)) := by
    intro m
    induction m with
    | zero =>
      intro k hk σk h1 ht h2 h3 i ei
      subst ei
      have : k = n := by omega
      subst this
      have hWn := hWk k (by omega)
      have hM2 : PM (σk 74) p := by rw [h1 _ (by omega) (by omega)]; exact hM
      have hma2 : mActs (zup σk 70 0 0) L := hma.kp (by show σk 70 _ = _; rw [h1 _ (by omega) (by omega)]) (by show σk 77 = _; rw [h1 _ (by omega) (by omega)])
      refine zA_s0 rfl ?_
      repeat refine zA_step rfl rfl ?_
      refine zA_t (Int32.le_refl _) ?_
      repeat refine zA_step rfl rfl ?_
      refine zA_call rfl rfl (cl_living (Or.inl rfl) h2 hWn (by omega) ?_)
      repeat refine zA_step rfl rfl ?_
      refine zA_call rfl rfl (cl_bitCount (bn_lt64 _ ww6) ?_)
      refine zA_ret rfl ⟨_, rfl, tom2 σk _ hM2 ?_⟩
      repeat refine zA_step rfl rfl ?_
      simp only [nu_c4, show zup σk 70 0 0 74 4 = nI (py p) from hM2.2.2.2.1, nI_add]
      refine zA_t (by simp (disch := omega) only [nu_lt, nu_le, nu_eq, nu_cmp_lt, nu_cmp_gt, nu_cmp_ge, nu_cmp_le, nu_wide, Int32.toInt_add, Int32.toInt_sub, Int32.toInt_mul, nu_I, Nat.reducePow, nu_bm, Int32.reduceToInt, Int64.reduceToInt]; omega) ?_
      repeat refine zA_step rfl rfl ?_
      refine lpm _ (zup σk 70 0 0) (fun σ4 o1 o2 o3 o4 => ?_) k 0 (by omega) _ (fun _ _ _ _ => rfl) (fun _ _ => rfl) hM2 hma2 hac.mem 0 rfl
      refine zA_s0 rfl ?_
      repeat refine zA_step rfl rfl ?_
      refine zA_t (Int32.le_refl _) ?_
      repeat refine zA_step rfl rfl ?_
      refine zA_call rfl rfl (mo_alive o3 hWn (by omega) ?_)
      refine zA_call rfl rfl (mo_bits (bn_lt64 _ ww6) ?_)
      refine zA_ret rfl ⟨rfl, act_fin hR hp h1 h2 ht h3 (fun k a1 a2 a3 => ?_) (fun j a1 a2 => ?_) o3 o4 hWn rfl rfl⟩
      · rw [o1 k a1 a2 a3, zup_o _ _ _ a3]
      · rw [o2 j a1, zup_k]
        simp only [upd]
        rw [if_neg a2]
    | succ m ih =>
      intro k hk σk h1 ht h2 h3 i ei
      subst ei
      obtain ⟨q1, q2, nx', q3, q4, q5⟩ := h3
      refine zA_s0 rfl ?_
      repeat refine zA_step rfl rfl ?_
      refine zA_f (by simp (disch := omega) only [nu_lt, nu_le, nu_eq, nu_cmp_lt, nu_cmp_gt, nu_cmp_ge, nu_cmp_le, nu_wide, Int32.toInt_add, Int32.toInt_sub, Int32.toInt_mul, nu_I, Nat.reducePow, nu_bm, Int32.reduceToInt, Int64.reduceToInt]; omega) ?_
      repeat refine zA_step rfl rfl ?_
      refine zA_call rfl rfl (cl_keep (sort := 3) (one := 0) q3 q1 (by omega) (by omega) q4 q2 (fun σ5 hF k1 k2 k3 k4 k5 k6 k7 k8 => ?_))
      repeat refine zA_step rfl rfl ?_
      have hy5 : σ5 20 3 = nI (py p + k) := by rw [hF _ (by decide)]; exact h2.2.2.2.1
      rw [hy5]
      refine ih (k + 1) (by omega) _ (fun a b1 b2 => ?_) ?_ ?_ ?_ _ (nI_1 k)
      · rw [zup_o _ _ _ (by omega), hF a (by simp only [List.mem_cons, List.not_mem_nil, or_false]; omega)]; exact h1 a b1 b2
      · rw [zup_k]
        show (if _ = _ then _ else σ5 20 0) = _
        rw [if_neg (by decide), hF _ (by decide)]; exact ht
      · refine (h2.ag (n := 1) (fun j c1 c2 => ?_) (fun j hj => ?_) ?_ : PC _ 20 (agP (agP p k) 1))
        · rw [zup_o _ _ _ (by omega), hF _ (by simp only [List.mem_cons, List.not_mem_nil, or_false]; omega)]
        · rw [zup_k]
          show (if _ = _ then _ else σ5 20 j) = _
          rw [if_neg hj, hF _ (by decide)]
        · rw [zup_k]
          show (if _ = _ then _ else _) = _
          rw [if_pos rfl, nI_1]
          rfl
      · refine ac_push q1 q3 q5 (hHk k (by omega)) ?_ ?_ ?_ (fun e he hne => ?_)
        · rw [zup_o _ _ _ (by decide)]; exact k1
        · rw [zup_o _ _ _ (by decide)]; exact k2
        · exact Or.inr (Or.inr (Or.inr ⟨by rw [zup_o _ _ _ (by decide)]; exact k3, paX.rf⟩))
        · obtain ⟨o1, o2, o3, o4⟩ := k8 e he hne
          rw [zup_o _ _ _ (by decide), zup_o _ _ _ (by decide), zup_o _ _ _ (by decide), zup_o _ _ _ (by decide), zup_o _ _ _ (by decide), zup_o _ _ _ (by decide)]
          exact ⟨o1, o2, o3, o4⟩
  repeat refine zA_step rfl rfl ?_
  exact lpc n 0 (by omega) σ (fun _ _ _ => rfl) rfl hC ⟨hl, hsz, nx, hn, hx, hac⟩ 0 rfl
