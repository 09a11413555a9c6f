/-! acts: walk, move, bribe -/
def zpa (k j : Nat) : Bool := zsc k j || (Nat.ble 20 k && Nat.ble k 28) || (Nat.ble 57 k && Nat.ble k 63) || Nat.beq k 74 || Nat.beq k 77 || (Nat.beq k 70 && Nat.beq j 9)
theorem zpa_hi {k j : Nat} (h : 1000 ≤ k) : zpa k j = false := by
  have b : ∀ n, n < 1000 → Nat.beq k n = false := fun n hn => by
    cases hb : Nat.beq k n with
    | false => rfl
    | true => have := Nat.eq_of_beq_eq_true hb; omega
  have c : ∀ n, n < 1000 → Nat.ble k n = false := fun n hn => by
    cases hb : Nat.ble k n with
    | false => rfl
    | true => have := Nat.le_of_ble_eq_true hb; omega
  unfold zpa
  rw [zsc_hi h, b 74 (by decide), b 77 (by decide), b 70 (by decide), c 28 (by decide), c 63 (by decide)]
  simp
theorem R.par {σ σ' : zSo} (h : R σ) (hk : zKg zpa σ σ') {p : paT} {L : List paT} (hp : rPar σ' p) (ha : rActs σ' p L) : R σ' ∧ ∀ k, 1000 ≤ k → σ' k = σ k := by
  have hi : ∀ k, 1000 ≤ k → σ' k = σ k := fun k h => funext fun j => hk k j (zpa_hi h)
  obtain ⟨h1, h2, ⟨h3a, h3b, h3c⟩, h4, -, h7⟩ := h
  refine ⟨⟨fun r hr => ?_, h2.kp (hk _ _ rfl) (hk _ _ rfl) (funext fun j => hk _ _ rfl) (funext fun j => hk _ _ rfl), ⟨?_, ?_, rTr.kp h3c (funext fun j => hk _ _ rfl) (hk _ _ rfl) (funext fun j => hk _ _ rfl) (funext fun j => hk _ _ rfl)⟩, ?_, ⟨p, hp, L, ha⟩, fun k hk2 => (h7 k hk2).kp hk2 (fun k c1 c2 => ?_) (funext fun j => hk _ _ rfl) (funext fun j => hk _ _ rfl)⟩, hi⟩
  · have h9 := h1 r hr
    rcases nu_row8 hr with rfl | rfl | rfl | rfl | rfl | rfl | rfl | rfl <;> exact h9.kp (funext fun j => hk _ _ rfl) (funext fun j => hk _ _ rfl) (hk _ _ rfl) (hk _ _ rfl) (fun k _ => hk _ _ rfl)
  · rw [hk 0 8 rfl, hk 70 1 rfl]; exact h3a
  · rw [hk 18 3 rfl, hk 70 18 rfl]; exact h3b
  · intro j hj
    rw [hi 1000 (by omega), hi 1001 (by omega), hi 1002 (by omega)]
    exact h4 j hj
  · refine funext fun j => hk k j ?_
    have b : ∀ n, n ≠ k → Nat.beq k n = false := fun n hn => by
      cases hb : Nat.beq k n with
      | false => rfl
      | true => exact absurd (Nat.eq_of_beq_eq_true hb).symm hn
    have c : ∀ n, n < k → Nat.ble k n = false := fun n hn => by
      cases hb : Nat.ble k n with
      | false => rfl
      | true => have := Nat.le_of_ble_eq_true hb; omega
    have c' : ∀ n, k < n → Nat.ble n k = false := fun n hn => by
      cases hb : Nat.ble n k with
      | false => rfl
      | true => have := Nat.le_of_ble_eq_true hb; omega
    unfold zpa zsc
    rw [b 74 (by omega), b 77 (by omega), b 70 (by omega), b 18 (by omega), b 75 (by omega), b 76 (by omega), b 79 (by omega), b 80 (by omega), c 37 (by omega), c' 64 (by omega), c 28 (by omega), c' 57 (by omega)]
    simp
/-- behind an act on both sides -/
theorem act_fin {σ σ2 σ4 : zSo} {p p' : paT} {L' : List paT} (hR : R σ) (hp : rPar σ p) (h2 : ∀ k, ¬ (20 ≤ k ∧ k ≤ 28) → ¬ (57 ≤ k ∧ k ≤ 63) → σ2 k = σ k) (hC : PC σ2 20 p') (ht : σ2 20 0 = σ 20 0) (hca : cActs σ2 p' L')
    (h4 : ∀ k, k ≠ 74 → k ≠ 77 → k ≠ 70 → σ4 k = σ2 k) (h4m : ∀ j, j ≠ 9 → j ≠ 0 → σ4 70 j = σ2 70 j) (hM : PM (σ4 74) p') (hma : mActs σ4 L') (hW : paW p' 999) (e1 : ps p' = ps p) (e2 : pw p' = pw p) : R σ4 ∧ ∀ k, 1000 ≤ k → σ4 k = σ k := by
  refine hR.par (p := p') (L := L') (fun k j hk => ?_) ⟨hW, ?_, hM, ?_, ?_⟩ (rActs_iff.mpr ⟨?_, hma⟩)
  · by_cases c1 : k = 74
    · subst c1; cases hk
    by_cases c2 : k = 77
    · subst c2; cases hk
    have hb : ∀ a n, a ≤ k → k ≤ n → (Nat.ble a k && Nat.ble k n) = true := fun a n q1 q2 => by
      rw [Bool.and_eq_true]
      exact ⟨Nat.ble_eq_true_of_le q1, Nat.ble_eq_true_of_le q2⟩
    have c3 : ¬ (20 ≤ k ∧ k ≤ 28) := fun z => by
      unfold zpa at hk
      rw [hb _ _ z.1 z.2] at hk
      simp at hk
    have c4 : ¬ (57 ≤ k ∧ k ≤ 63) := fun z => by
      unfold zpa at hk
      rw [hb _ _ z.1 z.2] at hk
      simp at hk
    by_cases c5 : k = 70
    · subst c5
      have j1 : j ≠ 9 := fun z => by subst z; cases hk
      have j2 : j ≠ 0 := fun z => by subst z; cases hk
      rw [h4m j j1 j2, h2 _ c3 c4]
    · rw [h4 k c1 c2 c5, h2 k c3 c4]
  · exact hC.cong hW.2.2.2.1 hW.2.2.2.2.1 (fun j _ _ => by rw [h4 _ (by omega) (by omega) (by omega)]) (fun k c1 c2 j _ => by rw [h4 _ (by omega) (by omega) (by omega)]) (fun k c1 c2 j _ => by rw [h4 _ (by omega) (by omega) (by omega)])
  · rw [h4 _ (by omega) (by omega) (by omega), ht, e1]; exact hp.2.2.2.1
  · rw [e1, e2]; exact hp.2.2.2.2
  · obtain ⟨a1, a2, nx, a3, a4, a5⟩ := hca
    refine ⟨a1, by rw [h4 _ (by omega) (by omega) (by omega)]; exact a2, nx, a3, by rw [h4 _ (by omega) (by omega) (by omega)]; exact a4, a5.cong hW.2.2.2.2.1 (fun k _ _ p q hpp hu => hu.cong hpp ?_ ?_ ?_ (fun w _ => ⟨?_, ?_, ?_⟩))⟩
    all_goals rw [h4 _ (by omega) (by omega) (by omega)]
theorem mActs.kp {σ σ' : zSo} {L : List paT} (h : mActs σ L) (h1 : σ' 70 9 = σ 70 9) (h2 : σ' 77 = σ 77) : mActs σ' L := by
  unfold mActs
  rw [h1, h2]
  exact h
theorem PC.fr {σ σ' : zSo} {p : paT} {Y : Nat} (h : PC σ 20 p) (hW : paW p Y) (hk : ∀ k, 20 ≤ k → k ≤ 28 → σ' k = σ k) : PC σ' 20 p :=
  h.cong hW.2.2.2.1 hW.2.2.2.2.1 (fun j _ _ => by rw [hk _ (by omega) (by omega)]) (fun k c1 c2 j _ => by rw [hk _ (by omega) (by omega)]) (fun k c1 c2 j _ => by rw [hk _ (by omega) (by omega)])
theorem paX.rf {p : paT} {Y B M : Nat → Prop} : paX p p Y B M := ⟨rfl, fun _ _ _ => rfl, fun _ _ => ⟨rfl, rfl, rfl, fun _ => rfl⟩, fun _ _ _ _ _ => rfl⟩
theorem pow_pred {n : Nat} (h : n ≤ 6) : 2 ^ n - 1 < 64 := by
  have : 2 ^ n ≤ 2 ^ 6 := Nat.pow_le_pow_right (by omega) h
  omega
set_option maxHeartbeats 4000000 in
set_option maxRecDepth 100000 in
theorem pr_walk {d : Nat} {σ : zSo} (x y z : Int32) (hR : R σ) : zPair (d + 20) 66 145 [.int x, .int y, .int z] σ := by
  obtain ⟨-, -, -, -, ⟨p, hp, L, hL⟩, -⟩ := id hR
  obtain ⟨hW, hC, hM, hto, hsw⟩ := id hp
  obtain ⟨⟨hl, hsz, nx, hn, hx, hac⟩, hma⟩ := rActs_iff.mp hL
  have ww6 := hW.2.2.2.2.1
  have ws6 := hW.2.2.2.1
  have wy := hW.2.2.1
  have hp6 := pow_pred ww6
  have hk : zK σ (zup σ 70 0 0) := zK.rf.up rfl
  have hM' : PM (zup σ 70 0 0 74) p := hM
  have e1 : (nI (2 ^ pw p - 1)).toInt64.toInt = ((2 ^ pw p - 1 : Nat) : Int) := by rw [nu_wide, nu_I (by omega)]
  have bad : ¬ ((0 ≤ x.toInt ∧ x.toInt < ps p) ∧ (1 ≤ z.toInt ∧ z.toInt ≤ 9) ∧ (0 ≤ y.toInt ∧ y.toInt ≤ ((2 ^ pw p - 1 : Nat) : Int))) → zC (d + 20) 145 [.ref 70, .int x, .int y, .int z] σ (fun r2 σ2 => r2 = some (.int (-1000001)) ∧ R σ2 ∧ ∀ k, 1000 ≤ k → σ2 k = σ k) := by
    intro hn
    show zA (d + 20) _ 0 [(0, .ref 70), (1, .int x), (2, .int y), (3, .int z)] [] σ _
    repeat refine zA_step rfl rfl ?_
    refine zA_call rfl rfl (mo_isStone hM' ws6 (fun s hs e => ?_) (fun h => ?_))
    rotate_left
    · repeat refine zA_step rfl rfl ?_
      exact zA_ret rfl ⟨rfl, hR.kp hk⟩
    subst e
    repeat refine zA_step rfl rfl ?_
    refine zA_call rfl rfl (mo_everybody hM' ww6 ?_)
    repeat refine zA_step rfl rfl ?_
    refine zA_call rfl rfl (mo_inI 0 _ (by decide) e1 (fun z1 z2 => ?_) (fun z => ?_))
    rotate_left
    · repeat refine zA_step rfl rfl ?_
      exact zA_ret rfl ⟨rfl, hR.kp hk⟩
    repeat refine zA_step rfl rfl ?_
    refine zA_call rfl rfl (mo_inI 1 9 (by decide) (by decide) (fun y1 y2 => ?_) (fun z => ?_))
    · rw [nu_I (by omega)] at hn
      exact absurd ⟨⟨by omega, by omega⟩, ⟨y1, y2⟩, ⟨z1, z2⟩⟩ hn
    · repeat refine zA_step rfl rfl ?_
      exact zA_ret rfl ⟨rfl, hR.kp hk⟩
  show zA (d + 20) _ 0 [(0, .ref 0), (1, .int x), (2, .int y), (3, .int z)] [] σ _
  repeat refine zA_step rfl rfl ?_
  refine zA_call rfl rfl (cl_isStone hC ws6 (fun s hs e => ?_) (fun h => ?_))
  rotate_left
  · repeat refine zA_step rfl rfl ?_
    exact zA_ret rfl ⟨_, rfl, bad (fun z => h z.1)⟩
  subst e
  repeat refine zA_step rfl rfl ?_
  refine zA_call rfl rfl (cl_isPain (fun p1 p2 => ?_) (fun h => ?_))
  rotate_left
  · repeat refine zA_step rfl rfl ?_
    exact zA_ret rfl ⟨_, rfl, bad (fun z => h z.2.1)⟩
  repeat refine zA_step rfl rfl ?_
  refine zA_c (fun c1 => ?_) (fun c1 => ?_)
  all_goals simp only [nu_lt, Int32.reduceToInt] at c1
  · repeat refine zA_step rfl rfl ?_
    exact zA_ret rfl ⟨_, rfl, bad (fun z => by omega)⟩
  repeat refine zA_step rfl rfl ?_
  refine zA_call rfl rfl (cl_everybody (Or.inl rfl) ww6 hC.2.2.1 ?_)
  repeat refine zA_step rfl rfl ?_
  refine zA_c (fun c2 => ?_) (fun c2 => ?_)
  all_goals rw [nu_le, nu_I (by omega)] at c2
  rotate_left
  · repeat refine zA_step rfl rfl ?_
    exact zA_ret rfl ⟨_, rfl, bad (fun z => c2 z.2.2.2)⟩
  obtain ⟨who, hwho, e⟩ := nu_of (n := 64) (x := y) (by omega) (by omega)
  obtain ⟨pn, hpn, e2⟩ := nu_of (n := 10) (x := z) (by omega) (by omega)
  subst e e2
  rw [nu_I (by omega)] at p1 p2 c1 c2
  have tomod : ∀ σ1 (Q : Option Value → zSo → Prop), PM (σ1 74) p → zA (d + 20) 145 42 [(0, .ref 70), (1, .int (nI s)), (2, .int (nI who)), (3, .int (nI pn))] [] (zup σ1 70 0 0) Q → zC (d + 20) 145 [.ref 70, .int (nI s), .int (nI who), .int (nI pn)] σ1 Q := by
    intro σ1 Q hM1 K
    have hM1' : PM (zup σ1 70 0 0 74) p := hM1
    show zA (d + 20) _ 0 [(0, .ref 70), (1, .int (nI s)), (2, .int (nI who)), (3, .int (nI pn))] [] σ1 _
    repeat refine zA_step rfl rfl ?_
    refine zA_call rfl rfl (mo_isStone hM1' ws6 (fun s' hs' e => ?_) (fun h => nu_abs2 hs (by omega) h))
    repeat refine zA_step rfl rfl ?_
    refine zA_call rfl rfl (mo_everybody hM1' ww6 ?_)
    repeat refine zA_step rfl rfl ?_
    refine zA_call rfl rfl (mo_inI 0 _ (by decide) e1 (fun z1 z2 => ?_) (fun z => absurd ⟨by rw [nu_I (by omega)]; omega, by rw [nu_I (by omega)]; omega⟩ z))
    repeat refine zA_step rfl rfl ?_
    refine zA_call rfl rfl (mo_inI 1 9 (by decide) (by decide) (fun z1 z2 => ?_) (fun z => absurd ⟨by rw [nu_I (by omega)]; omega, by rw [nu_I (by omega)]; omega⟩ z))
    refine zA_s0 rfl ?_
    exact K
  have hpH : paH p := ⟨hW, by omega, hsw.mp (by omega)⟩
  repeat refine zA_step rfl rfl ?_
  refine zA_call rfl rfl (cl_keep (sort := 0) hn hl (by omega) (by omega) hx hsz (fun σ1 hF k1 k2 k3 k4 k5 k6 k7 k8 => ?_))
  repeat refine zA_step rfl rfl ?_
  have hC1 : PC σ1 20 p := hC.fr hW (fun k c1 c2 => hF k (by simp only [List.mem_cons, List.not_mem_nil, or_false]; omega))
  refine zA_call rfl rfl (cl_bump (Or.inl rfl) hC1 hW (by omega) hs hwho ⟨by omega, by omega⟩ (fun σ2 hF2 hC2 => ?_))
  have h2 : ∀ k, ¬ (20 ≤ k ∧ k ≤ 28) → ¬ (57 ≤ k ∧ k ≤ 63) → σ2 k = σ k := fun k a1 a2 => by
    rw [hF2 k (by simp only [List.mem_cons, List.not_mem_nil, or_false]; omega), hF k (by simp only [List.mem_cons, List.not_mem_nil, or_false]; omega)]
  have ha2 : ∀ k, 57 ≤ k → k ≤ 63 → σ2 k = σ1 k := fun k a1 a2 => hF2 k (by simp only [List.mem_cons, List.not_mem_nil, or_false]; omega)
  obtain ⟨g1, g2, g3, g4, g5, g6⟩ := bmK_same p s who pn (pw p)
  obtain ⟨f1, f2, f3, f4, f5⟩ := bmK_1 p s who pn (pw p)
  have hca : cActs σ2 (bmK p s who pn (pw p)) ((p :: L).take 24) := by
    refine ac_push hl hn hac hpH ?_ ?_ ?_ (fun e he hne => ?_)
    · rw [ha2 _ (by omega) (by omega)]; exact k1
    · rw [ha2 _ (by omega) (by omega)]; exact k2
    · refine Or.inl ⟨?_, s, by rw [f1]; exact hs, ?_, ⟨g1, fun t _ _ => by rw [g2], fun w _ => ⟨by rw [g3], by rw [g4], by rw [g5], fun _ => by rw [g6]⟩, fun w t _ _ ht => ?_⟩, fun w hw => ?_⟩
      · rw [ha2 _ (by omega) (by omega)]; exact k3
      · rw [ha2 _ (by omega) (by omega)]; exact k4
      · rw [bmK_m, if_neg (fun z => ht z.1)]
      · rw [f2] at hw
        obtain ⟨w1, w2, w3⟩ := k7 rfl w (by omega)
        rw [ha2 _ (by omega) (by omega), ha2 _ (by omega) (by omega), ha2 _ (by omega) (by omega), w1, w2, w3]
        exact hC.2.2.2.2.2.2 w s hw hs
    · obtain ⟨o1, o2, o3, o4⟩ := k8 e he hne
      rw [ha2 _ (by omega) (by omega), ha2 _ (by omega) (by omega), ha2 _ (by omega) (by omega), ha2 _ (by omega) (by omega), ha2 _ (by omega) (by omega), ha2 _ (by omega) (by omega)]
      exact ⟨o1, o2, o3, o4⟩
  have hM2 : PM (σ2 74) p := by rw [h2 _ (by omega) (by omega)]; exact hM
  refine zA_ret rfl ⟨_, rfl, tomod σ2 _ hM2 ?_⟩
  repeat refine zA_step rfl rfl ?_
  have hma2 : mActs (zup σ2 70 0 0) L := hma.kp (by show σ2 70 _ = _; rw [h2 _ (by omega) (by omega)]) (by show σ2 77 = _; rw [h2 _ (by omega) (by omega)])
  refine zA_call rfl rfl (mo_keep (p := p) hl hma2 hM2 hW hac.mem (fun σ3 o1 o2 o3 => ?_))
  repeat refine zA_step rfl rfl ?_
  have hM3 : PM (σ3 74) p := by rw [o1 _ (by omega) (by omega)]; exact hM2
  refine zA_call rfl rfl (mo_bump (Or.inl rfl) hM3 hW (by omega) hs hwho ⟨by omega, by omega⟩ (fun σ4 hF4 hM4 => ?_))
  refine zA_ret rfl ⟨rfl, act_fin hR hp h2 hC2 ?_ hca (fun k a1 a2 a3 => ?_) (fun j a1 a2 => ?_) hM4 (o3.kp (by rw [hF4 _ (by decide)]) (by rw [hF4 _ (by decide)])) (bmK_W hW hs (by omega) (by omega) _) f1 f2⟩
  · rw [hF2 _ (by decide), hF _ (by decide)]
  · rw [hF4 k (by simpa using a1), o1 k a2 a3, zup_o _ _ _ a3]
  · rw [hF4 _ (by decide), o2 j a1, zup_k]
    simp only [upd]
    rw [if_neg a2]
