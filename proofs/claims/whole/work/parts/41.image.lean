/-! undo, image, restore -/
set_option maxHeartbeats 4000000 in
set_option maxRecDepth 100000 in
theorem pr_undo {d : Nat} {σ : zSo} (hR : R σ) : zPair (d + 20) 65 150 [] σ := by
  obtain ⟨-, -, -, -, ⟨p, hp, L, hL⟩, -⟩ := id hR
  obtain ⟨hW, hC, hM, hto, hsw⟩ := id hp
  obtain ⟨hca, hma⟩ := rActs_iff.mp hL
  have hk : zK σ (zup σ 70 0 0) := zK.rf.up rfl
  show zA (d + 20) _ 0 [(0, .ref 0)] [] σ _
  cases L with
  | nil =>
    have h1 : σ 57 0 = 0 := hca.2.1
    have h2 : σ 70 9 = 0 := hma.1
    repeat refine zA_step rfl rfl ?_
    refine zA_t h1 ?_
    repeat refine zA_step rfl rfl ?_
    refine zA_ret rfl ⟨_, rfl, ?_⟩
    show zA (d + 20) _ 0 [(0, .ref 70)] [] σ _
    repeat refine zA_step rfl rfl ?_
    refine zA_t h2 ?_
    repeat refine zA_step rfl rfl ?_
    exact zA_ret rfl ⟨rfl, hR.kp hk⟩
  | cons q t =>
    have hl := hca.1
    have hl : t.length + 1 ≤ 24 := by simpa using hl
    have h1 : σ 57 0 = nI (t.length + 1) := by simpa using hca.2.1
    have h2 : σ 70 9 = nI (t.length + 1) := by simpa using hma.1
    obtain ⟨-, -, nx, -, -, -, hq, hact⟩ := id hca
    repeat refine zA_step rfl rfl ?_
    rw [h1]
    refine zA_f (by simp (disch := omega) only [nu_lt, nu_le, nu_eq, nu_cmp_lt, nu_cmp_gt, nu_cmp_ge, nu_cmp_le, nu_wide, Int32.toInt_add, Int32.toInt_sub, Int32.toInt_mul, nu_I, Nat.reducePow, nu_bm, Int32.reduceToInt, Int64.reduceToInt]; omega) ?_
    repeat refine zA_step rfl rfl ?_
    refine zA_call rfl rfl (cl_takeBack hC hW hca (fun σ2 a1 a2 a3 a4 a5 => ?_))
    repeat refine zA_step rfl rfl ?_
    rw [a5]
    refine zA_ret rfl ⟨_, rfl, ?_⟩
    have hb2 : σ2 70 9 = nI (t.length + 1) := by rw [a1 _ (by omega) (by omega)]; exact h2
    show zA (d + 20) _ 0 [(0, .ref 70)] [] σ2 _
    repeat refine zA_step rfl rfl ?_
    rw [show zup σ2 70 0 0 70 9 = nI (t.length + 1) from hb2]
    refine zA_f (by simp (disch := omega) only [nu_lt, nu_le, nu_eq, nu_cmp_lt, nu_cmp_gt, nu_cmp_ge, nu_cmp_le, nu_wide, Int32.toInt_add, Int32.toInt_sub, Int32.toInt_mul, nu_I, Nat.reducePow, nu_bm, Int32.reduceToInt, Int64.reduceToInt]; omega) ?_
    repeat refine zA_step rfl rfl ?_
    rw [show zup σ2 70 0 0 70 9 = nI (t.length + 1) from hb2, nI_pred]
    have hw : ∀ j, zup (zup σ2 70 0 0) 70 9 (nI t.length) 77 j = σ 77 j := fun j => by
      rw [zup_o _ _ _ (by decide), zup_o _ _ _ (by decide), a1 _ (by omega) (by omega)]
    have hac3 : zup (zup σ2 70 0 0) 70 9 (nI t.length) 70 9 = nI t.length := by simp [zup_k, upd]
    have hot : ∀ j, j ≠ 9 → j ≠ 0 → zup (zup σ2 70 0 0) 70 9 (nI t.length) 70 j = σ2 70 j := fun j c1 c2 => by
      rw [zup_k, zup_k]
      simp only [upd]
      rw [if_neg c1, if_neg c2]
    have hoo : ∀ k, k ≠ 70 → zup (zup σ2 70 0 0) 70 9 (nI t.length) k = σ2 k := fun k hk => by rw [zup_o _ _ _ hk, zup_o _ _ _ hk]
    generalize zup (zup σ2 70 0 0) 70 9 (nI t.length) = σ3 at hw hac3 hot hoo
    have lp : ∀ m k, k + m = 143 → ∀ σk : zSo, zFr [74] σ3 σk → (∀ j, j < k → σk 74 j = σ 77 (143 * t.length + j)) → ∀ i : Int32, i = nI k → zA (d + 20) 150 27 [(0, .ref 70), (1, .int i)] [] σk (fun r2 σ2 => r2 = some (.int (nI t.length)) ∧ R σ2 ∧ ∀ k, 1000 ≤ k → σ2 k = σ k) := by
      intro m
      induction m with
      | zero =>
        intro k hk σk hF hx i ei
        subst ei
        have : k = 143 := by omega
        subst this
        refine zA_s0 rfl ?_
        repeat refine zA_step rfl rfl ?_
        rw [hF 70 (by decide), hac3]
        have hMq := hma.2 0 q rfl
        have hlen : (q :: t).length - 1 - 0 = t.length := by simp
        rw [hlen] at hMq
        have hM4 : PM (σk 74) q := hMq.cong hq.1.2.2.2.1 hq.1.2.2.2.2.1 hx
        refine zA_ret rfl ⟨rfl, ?_⟩
        have hps : 0 < ps p := by
          obtain ⟨-, -, nx, -, -, hu, -, -⟩ := hca
          rcases hu with ⟨-, o, uo, -⟩ | ⟨-, o, uo, -⟩ | ⟨-, o, uo, -⟩ | ⟨-, x1, -⟩
          · omega
          · omega
          · exact hsw.mpr (by omega)
          · have : ps p = ps q := by show p.1.2.2.2.1 = _; rw [x1]; rfl
            rw [this]; exact hq.2.1
        refine hR.par (p := q) (L := t) (fun k j hk => ?_) ⟨hq.1, ?_, hM4, ?_, ⟨fun _ => hq.2.2, fun _ => hq.2.1⟩⟩ (rActs_iff.mpr ⟨?_, ?_, fun i q' hi => ?_⟩)
        · by_cases c1 : k = 74
          · subst c1; cases hk
          rw [hF k (by simpa using c1)]
          by_cases c5 : k = 70
          · subst c5
            rw [hot j (fun z => by subst z; cases hk) (fun z => by subst z; cases hk), a1 _ (by omega) (by omega)]
          · rw [hoo k c5]
            have hb : ∀ a n, a ≤ k → k ≤ n → (Nat.ble a k && Nat.ble k n) = true := fun a n q1 q2 => by
              rw [Bool.and_eq_true]
              exact ⟨Nat.ble_eq_true_of_le q1, Nat.ble_eq_true_of_le q2⟩
            rw [a1 k (fun z => by unfold zpa at hk; rw [hb _ _ z.1 z.2] at hk; simp at hk) (fun z => by subst z; cases hk)]
        · exact a3.fr hq.1 (fun k c1 c2 => by rw [hF k (by simp only [List.mem_cons, List.not_mem_nil, or_false]; omega), hoo k (by omega)])
        · rw [hF _ (by decide), hoo _ (by decide), a2, hto, if_pos hps, if_pos hq.2.1]
        · obtain ⟨q1, q2, nx, q3, q4, q5⟩ := a4
          have o9 : ∀ k, 57 ≤ k → k ≤ 63 → σk k = σ2 k := fun k c1 c2 => by rw [hF k (by simp only [List.mem_cons, List.not_mem_nil, or_false]; omega), hoo k (by omega)]
          refine ⟨q1, by rw [o9 _ (by omega) (by omega)]; exact q2, nx, q3, by rw [o9 _ (by omega) (by omega)]; exact q4, q5.cong hq.1.2.2.2.2.1 (fun k _ _ p q hpp hu => hu.cong hpp ?_ ?_ ?_ (fun w _ => ⟨?_, ?_, ?_⟩))⟩
          all_goals rw [o9 _ (by omega) (by omega)]
        · rw [hF _ (by decide)]; exact hac3
        · have h9 := hma.2 (i + 1) q' hi
          have : (q :: t).length - 1 - (i + 1) = t.length - 1 - i := by simp; omega
          rw [this] at h9
          have hmem := hact.mem q' (List.mem_of_getElem? hi)
          refine h9.cong hmem.1.2.2.2.1 hmem.1.2.2.2.2.1 (fun j _ => ?_)
          rw [hF _ (by decide), hw]
      | succ m ih =>
        intro k hk σk hF hx i ei
        subst ei
        have hac4 : σk 70 9 = nI t.length := by rw [hF _ (by decide)]; exact hac3
        refine zA_s0 rfl ?_
        repeat refine zA_step rfl rfl ?_
        refine zA_f (by simp (disch := omega) only [nu_lt, nu_le, nu_eq, nu_cmp_lt, nu_cmp_gt, nu_cmp_ge, nu_cmp_le, nu_wide, Int32.toInt_add, Int32.toInt_sub, Int32.toInt_mul, nu_I, Nat.reducePow, nu_bm, Int32.reduceToInt, Int64.reduceToInt]; omega) ?_
        repeat refine zA_step rfl rfl ?_
        rw [hac4]
        refine zA_ld (j := 143 * t.length + k) rfl (by rw [nu_eq]; simp (disch := omega) only [Int32.toInt_add, Int32.toInt_sub, Int32.toInt_mul, nu_I, Nat.reducePow, nu_bm, Int32.reduceToInt, Int64.reduceToInt]; omega) (by omega) (by decide) (v := σ 77 (143 * t.length + k)) (by rw [hF _ (by decide), hw]) ?_
        refine zA_sto (j := k) rfl rfl (by omega) (by decide) ?_
        repeat refine zA_step rfl rfl ?_
        refine ih (k + 1) (by omega) _ (hF.up (by simp)) (fun j hj => ?_) _ (nI_1 k)
        rw [zup_k]
        simp only [upd]
        by_cases e : j = k
        · rw [if_pos e, e]
        · rw [if_neg e]; exact hx j (by omega)
    exact lp 143 0 (by omega) σ3 zFr.rf (fun j hj => by omega) 0 rfl
/-- images have changed -/
def zim (k j : Nat) : Bool := zsc k j || (Nat.ble 39 k && Nat.ble k 56) || Nat.beq k 81 || Nat.beq k 82
theorem zim_hi {k j : Nat} (h : 1000 ≤ k) : zim k j = false := by
  have b : ∀ n, n < 1000 → Nat.beq k n = false := fun n hn => by
    cases hb : Nat.beq k n with
    | false => rfl
    | true => have := Nat.eq_of_beq_eq_true hb; omega
  have c : ∀ n, n < 1000 → Nat.ble k n = false := fun n hn => by
    cases hb : Nat.ble k n with
    | false => rfl
    | true => have := Nat.le_of_ble_eq_true hb; omega
  unfold zim
  rw [zsc_hi h, b 81 (by decide), b 82 (by decide), c 56 (by decide)]
  simp
theorem R.img {σ σ' : zSo} (h : R σ) (hk : zKg zim σ σ') (hm : ∀ k, k < 2 → rImg σ' k) : R σ' ∧ ∀ k, 1000 ≤ k → σ' k = σ k := by
  have hi : ∀ k, 1000 ≤ k → σ' k = σ k := fun k h => funext fun j => hk k j (zim_hi h)
  obtain ⟨h1, h2, ⟨h3a, h3b, h3c⟩, h4, ⟨p, h5, L, h6⟩, -⟩ := h
  refine ⟨⟨fun r hr => ?_, h2.kp (hk _ _ rfl) (hk _ _ rfl) (funext fun j => hk _ _ rfl) (funext fun j => hk _ _ rfl), ⟨?_, ?_, rTr.kp h3c (funext fun j => hk _ _ rfl) (hk _ _ rfl) (funext fun j => hk _ _ rfl) (funext fun j => hk _ _ rfl)⟩, ?_, ⟨p, h5.kp (fun k c1 c2 => ?_) (funext fun j => hk _ _ rfl), L, h6.kp h5.1.2.2.2.2.1 (fun k c1 c2 => ?_) (hk _ _ rfl) (funext fun j => hk _ _ rfl)⟩, hm⟩, hi⟩
  · have h9 := h1 r hr
    rcases nu_row8 hr with rfl | rfl | rfl | rfl | rfl | rfl | rfl | rfl <;> exact h9.kp (funext fun j => hk _ _ rfl) (funext fun j => hk _ _ rfl) (hk _ _ rfl) (hk _ _ rfl) (fun k _ => hk _ _ rfl)
  · rw [hk 0 8 rfl, hk 70 1 rfl]; exact h3a
  · rw [hk 18 3 rfl, hk 70 18 rfl]; exact h3b
  · intro j hj
    rw [hi 1000 (by omega), hi 1001 (by omega), hi 1002 (by omega)]
    exact h4 j hj
  all_goals
    refine funext fun j => hk k j ?_
    have b : ∀ n, n ≠ k → Nat.beq k n = false := fun n hn => by
      cases hb : Nat.beq k n with
      | false => rfl
      | true => exact absurd (Nat.eq_of_beq_eq_true hb).symm hn
    have c : ∀ n, n < k → Nat.ble k n = false := fun n hn => by
      cases hb : Nat.ble k n with
      | false => rfl
      | true => have := Nat.le_of_ble_eq_true hb; omega
    have c' : ∀ n, k < n → Nat.ble n k = false := fun n hn => by
      cases hb : Nat.ble n k with
      | false => rfl
      | true => have := Nat.le_of_ble_eq_true hb; omega
    unfold zim zsc
    rw [b 81 (by omega), b 82 (by omega), b 18 (by omega), b 70 (by omega), b 75 (by omega), b 76 (by omega), b 79 (by omega), b 80 (by omega)]
    first
    | rw [c' 29 (by omega), c' 64 (by omega), c' 39 (by omega)]; simp
    | rw [c 37 (by omega), c' 64 (by omega), c 56 (by omega)]; simp
