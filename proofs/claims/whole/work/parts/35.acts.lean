/-! acts that are kept -/
def cActs (σ : zSo) (p : paT) (L : List paT) : Prop := L.length ≤ 24 ∧ σ 57 0 = nI L.length ∧ ∃ nx, nx < 24 ∧ σ 57 1 = nI nx ∧ acC σ nx 0 p L
def mActs (σ : zSo) (L : List paT) : Prop := σ 70 9 = nI L.length ∧ ∀ i q, L[i]? = some q → PM (fun j => σ 77 (143 * (L.length - 1 - i) + j)) q
theorem rActs_iff {σ : zSo} {p : paT} {L : List paT} : rActs σ p L ↔ cActs σ p L ∧ mActs σ L := by
  unfold rActs cActs mActs
  constructor
  · rintro ⟨a, b, c, d, e⟩
    exact ⟨⟨a, b, c⟩, d, e⟩
  · rintro ⟨⟨a, b, c⟩, d, e⟩
    exact ⟨a, b, c, d, e⟩
theorem acC.mem {σ : zSo} {nx : Nat} : ∀ {L : List paT} {i : Nat} {p : paT}, acC σ nx i p L → ∀ q ∈ L, paH q
  | [], _, _, _, _, h => by cases h
  | q :: t, i, p, h, q', hq => by
    rcases List.mem_cons.mp hq with e | e
    · rw [e]; exact h.2.1
    · exact h.2.2.mem q' e
theorem acC.take {σ : zSo} {nx : Nat} : ∀ {L : List paT} {i : Nat} {p : paT} (n : Nat), acC σ nx i p L → acC σ nx i p (L.take n)
  | [], _, _, n, _ => by simp [acC]
  | q :: t, i, p, 0, h => by simp [acC]
  | q :: t, i, p, n + 1, h => by
    rw [List.take_succ_cons]
    exact ⟨h.1, h.2.1, h.2.2.take n⟩
theorem acC.shift {σ σ' : zSo} {nx nx' : Nat} : ∀ {L : List paT} {i : Nat} {p : paT}, acC σ nx i p L → pw p ≤ 6 → (∀ k, i ≤ k → k < i + L.length → ∀ p q, pw p ≤ 6 → acU σ (acI nx k) p q → acU σ' (acI nx' (k + 1)) p q) → acC σ' nx' (i + 1) p L
  | [], _, _, _, _, _ => trivial
  | q :: t, i, p, h, hp, hu => by
    obtain ⟨h1, h2, h3⟩ := h
    exact ⟨hu i (Nat.le_refl _) (by simp) p q hp h1, h2, h3.shift h2.1.2.2.2.2.1 (fun k hk1 hk2 => hu k (by omega) (by simp; omega))⟩
theorem ac_push {σ σ' : zSo} {p p' : paT} {L : List paT} {nx : Nat} (hl : L.length ≤ 24) (hn : nx < 24) (hC : acC σ nx 0 p L) (hp : paH p) (hs : σ' 57 0 = nI (min 24 (L.length + 1))) (hx : σ' 57 1 = nI (if nx + 1 < 24 then nx + 1 else 0))
    (hu : acU σ' nx p' p) (ho : ∀ e, e < 24 → e ≠ nx → σ' 58 e = σ 58 e ∧ σ' 59 e = σ 59 e ∧ σ' 60 e = σ 60 e ∧ ∀ w, w < 6 → σ' 61 (6 * e + w) = σ 61 (6 * e + w) ∧ σ' 62 (6 * e + w) = σ 62 (6 * e + w) ∧ σ' 63 (6 * e + w) = σ 63 (6 * e + w)) :
    cActs σ' p' ((p :: L).take 24) := by
  have e24 : (p :: L).take 24 = p :: L.take 23 := rfl
  refine ⟨by simp; omega, ?_, (if nx + 1 < 24 then nx + 1 else 0), by split <;> omega, hx, ?_⟩
  · rw [hs, List.length_take]
    rfl
  · rw [e24]
    refine ⟨?_, hp, ?_⟩
    · have : acI (if nx + 1 < 24 then nx + 1 else 0) 0 = nx := by
        unfold acI
        split <;> omega
      rw [this]
      exact hu
    · refine (hC.take 23).shift hp.1.2.2.2.2.1 (fun k _ hk p q hpp hpq => ?_)
      rw [List.length_take] at hk
      have h1 : acI (if nx + 1 < 24 then nx + 1 else 0) (k + 1) = acI nx k := by
        unfold acI
        split <;> omega
      have h2 : acI nx k ≠ nx := by
        unfold acI
        omega
      have h3 : acI nx k < 24 := Nat.mod_lt _ (by omega)
      rw [h1]
      obtain ⟨o1, o2, o3, o4⟩ := ho _ h3 h2
      exact hpq.cong hpp o1 o2 o3 o4
/-! the reference keeps -/
set_option maxHeartbeats 4000000 in
set_option maxRecDepth 100000 in
theorem mo_keep {d Y : Nat} {σ : zSo} {Q : Option Value → zSo → Prop} {p : paT} {L : List paT} (hl : L.length ≤ 24) (hA : mActs σ L) (hP : PM (σ 74) p) (hW : paW p Y) (hH : ∀ q ∈ L, paH q)
    (hQ : ∀ σ', (∀ k, k ≠ 77 → k ≠ 70 → σ' k = σ k) → (∀ j, j ≠ 9 → σ' 70 j = σ 70 j) → mActs σ' ((p :: L).take 24) → Q none σ') : zC d 144 [.ref 70] σ Q := by
  obtain ⟨hA1, hA2⟩ := hA
  have ww6 := hW.2.2.2.2.1
  have ws6 := hW.2.2.2.1
  -- the second loop
  have lp2 : ∀ a, a < 24 → ∀ σa, σa 70 9 = nI a → ∀ (K : ∀ σ', (∀ k, k ≠ 77 → k ≠ 70 → σ' k = σa k) → (∀ j, j ≠ 9 → σ' 70 j = σa 70 j) → σ' 70 9 = nI (a + 1) → (∀ x, σ' 77 x = if 143 * a ≤ x ∧ x < 143 * a + 143 then σa 74 (x - 143 * a) else σa 77 x) → Q none σ'),
      ∀ m k, k + m = 143 → ∀ σk, zFr [77] σa σk → (∀ x, σk 77 x = if 143 * a ≤ x ∧ x < 143 * a + k then σa 74 (x - 143 * a) else σa 77 x) → ∀ i : Int32, i = nI k → zA d 144 52 [(0, .ref 70), (1, .int i)] [] σk Q := by
    intro a ha σa ea K m
    induction m with
    | zero =>
      intro k hk σk hF h1 i ei
      subst ei
      have : k = 143 := by omega
      subst this
      have ea' : σk 70 9 = nI a := by rw [hF 70 (by decide)]; exact ea
      refine zA_s0 rfl ?_
      repeat refine zA_step rfl rfl ?_
      rw [ea']
      refine zA_ret rfl (K _ (fun k k1 k2 => ?_) (fun j hj => ?_) ?_ (fun x => ?_))
      · rw [zup_o _ _ _ k2]; exact hF k (by simpa using k1)
      · rw [zup_k]
        simp only [upd]
        rw [if_neg hj, hF 70 (by decide)]
      · rw [zup_k]
        simp [upd, nI_1]
      · rw [zup_o _ _ _ (by decide)]
        exact h1 x
    | succ m ih =>
      intro k hk σk hF h1 i ei
      subst ei
      have ea' : σk 70 9 = nI a := by rw [hF 70 (by decide)]; exact ea
      refine zA_s0 rfl ?_
      repeat refine zA_step rfl rfl ?_
      refine zA_f (by simp (disch := omega) only [nu_lt, nu_le, nu_eq, nu_cmp_lt, nu_cmp_gt, nu_cmp_ge, nu_cmp_le, nu_wide, Int32.toInt_add, Int32.toInt_sub, Int32.toInt_mul, nu_I, Nat.reducePow, nu_bm, Int32.reduceToInt, Int64.reduceToInt]; omega) ?_
      repeat refine zA_step rfl rfl ?_
      rw [ea']
      refine zA_ld (j := k) rfl rfl (by omega) (by decide) (v := σa 74 k) (by rw [hF 74 (by decide)]) ?_
      refine zA_sto (j := 143 * a + k) rfl (by rw [nu_eq]; simp (disch := omega) only [Int32.toInt_add, Int32.toInt_sub, Int32.toInt_mul, nu_I, Nat.reducePow, nu_bm, Int32.reduceToInt, Int64.reduceToInt]; omega) (by omega) (by decide) ?_
      repeat refine zA_step rfl rfl ?_
      refine ih (k + 1) (by omega) _ (hF.up (by simp)) (fun x => ?_) _ (nI_1 k)
      rw [zup_k]
      simp only [upd]
      by_cases e : x = 143 * a + k
      · rw [if_pos e, if_pos (by omega), show x - 143 * a = k from by omega]
      · rw [if_neg e, h1 x]
        by_cases e2 : 143 * a ≤ x ∧ x < 143 * a + k
        · rw [if_pos e2, if_pos (by omega)]
        · rw [if_neg e2, if_neg (by omega)]
  have go2 : ∀ a, a < 24 → ∀ σa, σa 70 9 = nI a → (∀ σ', (∀ k, k ≠ 77 → k ≠ 70 → σ' k = σa k) → (∀ j, j ≠ 9 → σ' 70 j = σa 70 j) → σ' 70 9 = nI (a + 1) → (∀ x, σ' 77 x = if 143 * a ≤ x ∧ x < 143 * a + 143 then σa 74 (x - 143 * a) else σa 77 x) → Q none σ') → zA d 144 52 [(0, .ref 70), (1, .int 0)] [] σa Q := by
    intro a ha σa ea K
    exact lp2 a ha σa ea K 143 0 (by omega) σa zFr.rf (fun x => by rw [if_neg (by omega)]) 0 rfl
  have lp1 : ∀ (K : ∀ σ', zFr [77] σ σ' → (∀ x, x < 3289 → σ' 77 x = σ 77 (x + 143)) → zA d 144 52 [(0, .ref 70), (1, .int 0)] [] (zup σ' 70 9 (σ' 70 9 - 1)) Q), ∀ m k, k + m = 3289 → ∀ σk, zFr [77] σ σk → (∀ x, σk 77 x = if x < k then σ 77 (x + 143) else σ 77 x) → ∀ i : Int32, i = nI k → zA d 144 11 [(0, .ref 70), (1, .int i)] [] σk Q := by
    intro K m
    induction m with
    | zero =>
      intro k hk σk hF h1 i ei
      subst ei
      have : k = 3289 := by omega
      subst this
      refine zA_s0 rfl ?_
      repeat refine zA_step rfl rfl ?_
      exact K σk hF (fun x hx => by rw [h1, if_pos hx])
    | succ m ih =>
      intro k hk σk hF h1 i ei
      subst ei
      refine zA_s0 rfl ?_
      repeat refine zA_step rfl rfl ?_
      refine zA_f (by simp (disch := omega) only [nu_lt, nu_le, nu_eq, nu_cmp_lt, nu_cmp_gt, nu_cmp_ge, nu_cmp_le, nu_wide, Int32.toInt_add, Int32.toInt_sub, Int32.toInt_mul, nu_I, Nat.reducePow, nu_bm, Int32.reduceToInt, Int64.reduceToInt]; omega) ?_
      repeat refine zA_step rfl rfl ?_
      refine zA_ld (j := k + 143) rfl (nI_add k 143) (by omega) (by decide) (v := σ 77 (k + 143)) (by rw [h1, if_neg (by omega)]) ?_
      refine zA_sto (j := k) rfl rfl (by omega) (by decide) ?_
      repeat refine zA_step rfl rfl ?_
      refine ih (k + 1) (by omega) _ (hF.up (by simp)) (fun x => ?_) _ (nI_1 k)
      rw [zup_k]
      simp only [upd]
      by_cases e : x = k
      · rw [if_pos e, if_pos (by omega), e]
      · rw [if_neg e, h1 x]
        by_cases e2 : x < k
        · rw [if_pos e2, if_pos (by omega)]
        · rw [if_neg e2, if_neg (by omega)]
  show zA d _ 0 [(0, .ref 70)] [] σ Q
  repeat refine zA_step rfl rfl ?_
  rw [hA1]
  by_cases h24 : L.length = 24
  · rw [h24]
    repeat refine zA_step rfl rfl ?_
    refine lp1 (fun σ' hF hx => ?_) 3289 0 (by omega) σ zFr.rf (fun x => by rw [if_neg (by omega)]) 0 rfl
    have ea : zup σ' 70 9 (σ' 70 9 - 1) 70 9 = nI 23 := by
      rw [zup_k, hF 70 (by decide), hA1, h24]
      rfl
    refine go2 23 (by omega) _ ea (fun σ2 o1 o2 o3 o4 => hQ σ2 (fun k k1 k2 => ?_) (fun j hj => ?_) ⟨?_, fun i q hq => ?_⟩)
    · rw [o1 k k1 k2, zup_o _ _ _ k2]; exact hF k (by simpa using k1)
    · rw [o2 j hj, zup_k]
      simp only [upd]
      rw [if_neg hj, hF 70 (by decide)]
    · rw [o3, List.length_take, List.length_cons, h24]
      rfl
    · have hlen : ((p :: L).take 24).length = 24 := by rw [List.length_take, List.length_cons, h24]; rfl
      rw [hlen]
      cases i with
      | zero =>
        have : q = p := by simpa using hq.symm
        subst this
        refine hP.cong ws6 ww6 (fun j hj => ?_)
        rw [o4, if_pos (by omega), zup_o _ _ _ (by decide), hF 74 (by decide)]
        congr 1
        omega
      | succ i =>
        have hi : i < 23 := by
          have := (List.getElem?_eq_some_iff.mp hq).1
          omega
        have hq2 : L[i]? = some q := by
          rw [List.getElem?_take_of_lt (by omega)] at hq
          simpa using hq
        have hqq := hH q (List.mem_of_getElem? hq2)
        refine (hA2 i q hq2).cong hqq.1.2.2.2.1 hqq.1.2.2.2.2.1 (fun j hj => ?_)
        rw [o4, if_neg (by omega), zup_o _ _ _ (by decide), hx _ (by omega), h24]
        congr 1
        omega
  · refine zA_f (by simp (disch := omega) only [nu_lt, nu_le, nu_eq, nu_cmp_lt, nu_cmp_gt, nu_cmp_ge, nu_cmp_le, nu_wide, Int32.toInt_add, Int32.toInt_sub, Int32.toInt_mul, nu_I, Nat.reducePow, nu_bm, Int32.reduceToInt, Int64.reduceToInt]; omega) ?_
    repeat refine zA_step rfl rfl ?_
    refine go2 L.length (by omega) σ hA1 (fun σ2 o1 o2 o3 o4 => hQ σ2 o1 o2 ⟨?_, fun i q hq => ?_⟩)
    · rw [o3, List.length_take, List.length_cons, Nat.min_eq_right (by omega)]
    · have hlen : ((p :: L).take 24).length = L.length + 1 := by rw [List.length_take, List.length_cons, Nat.min_eq_right (by omega)]
      rw [hlen]
      cases i with
      | zero =>
        have : q = p := by simpa using hq.symm
        subst this
        refine hP.cong ws6 ww6 (fun j hj => ?_)
        rw [o4, if_pos (by omega)]
        congr 1
        omega
      | succ i =>
        have hi : i + 1 < L.length + 1 := by
          have := (List.getElem?_eq_some_iff.mp hq).1
          omega
        have hq2 : L[i]? = some q := by
          rw [List.getElem?_take_of_lt (by omega)] at hq
          simpa using hq
        have hqq := hH q (List.mem_of_getElem? hq2)
        refine (hA2 i q hq2).cong hqq.1.2.2.2.1 hqq.1.2.2.2.2.1 (fun j hj => ?_)
        rw [o4, if_neg (by omega)]
        congr 1
        omega
