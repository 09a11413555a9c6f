/-! feed, count -/
/-- the tape has changed: all else is as it was -/
def ztp (k j : Nat) : Bool := zsc k j || Nat.beq k 18 || Nat.beq k 19 || Nat.beq k 78 || (Nat.beq k 70 && (Nat.beq j 11 || Nat.beq j 18))
theorem ztp_hi {k j : Nat} (h : 1000 ≤ k) : ztp k j = false := by
  have b : ∀ n, n < 1000 → Nat.beq k n = false := fun n hn => by
    cases hb : Nat.beq k n with
    | false => rfl
    | true => have := Nat.eq_of_beq_eq_true hb; omega
  unfold ztp
  rw [zsc_hi h, b 18 (by decide), b 19 (by decide), b 78 (by decide), b 70 (by decide)]
  simp
theorem R.tape {σ σ' : zSo} (h : R σ) (hk : zKg ztp σ σ') (ht : rTape σ') (hf : σ' 18 3 = σ' 70 18) : R σ' ∧ ∀ k, 1000 ≤ k → σ' k = σ k := by
  have hi : ∀ k, 1000 ≤ k → σ' k = σ k := fun k h => funext fun j => hk k j (ztp_hi h)
  obtain ⟨h1, h2, ⟨h3a, h3b, h3c⟩, h4, ⟨p, h5, L, h6⟩, h7⟩ := h
  refine ⟨⟨fun r hr => ?_, ht, ⟨?_, hf, rTr.kp h3c (funext fun j => hk _ _ rfl) (hk _ _ rfl) (funext fun j => hk _ _ rfl) (funext fun j => hk _ _ rfl)⟩, ?_, ⟨p, h5.kp (fun k c1 c2 => ?_) (funext fun j => hk _ _ rfl), L, h6.kp h5.1.2.2.2.2.1 (fun k c1 c2 => ?_) (hk _ _ rfl) (funext fun j => hk _ _ rfl)⟩, fun k hk2 => (h7 k hk2).kp hk2 (fun k c1 c2 => ?_) (funext fun j => hk _ _ rfl) (funext fun j => hk _ _ rfl)⟩, hi⟩
  · have h9 := h1 r hr
    rcases nu_row8 hr with rfl | rfl | rfl | rfl | rfl | rfl | rfl | rfl <;> exact h9.kp (funext fun j => hk _ _ rfl) (funext fun j => hk _ _ rfl) (hk _ _ rfl) (hk _ _ rfl) (fun k _ => hk _ _ rfl)
  · rw [hk 0 8 rfl, hk 70 1 rfl]; exact h3a
  · intro j hj
    rw [hi 1000 (by omega), hi 1001 (by omega), hi 1002 (by omega)]
    exact h4 j hj
  all_goals
    refine funext fun j => hk k j ?_
    have b : ∀ n, n ≠ k → Nat.beq k n = false := fun n hn => by
      cases hb : Nat.beq k n with
      | false => rfl
      | true => exact absurd (Nat.eq_of_beq_eq_true hb).symm hn
    have c : ∀ n, n < k → Nat.ble k n = false := fun n hn => by
      cases hb : Nat.ble k n with
      | false => rfl
      | true => have := Nat.le_of_ble_eq_true hb; omega
    have c' : ∀ n, k < n → Nat.ble n k = false := fun n hn => by
      cases hb : Nat.ble n k with
      | false => rfl
      | true => have := Nat.le_of_ble_eq_true hb; omega
    unfold ztp zsc
    rw [b 18 (by omega), b 19 (by omega), b 78 (by omega), b 70 (by omega), b 75 (by omega), b 76 (by omega), b 79 (by omega), b 80 (by omega)]
    first
    | rw [c' 29 (by omega), c' 64 (by omega)]; simp
    | rw [c 37 (by omega), c' 64 (by omega)]; simp
set_option maxHeartbeats 4000000 in
set_option maxRecDepth 100000 in
theorem cl_hasRoom {d : Nat} {σ : zSo} {Q : Option Value → zSo → Prop} {n : Nat} (hn : n ≤ 120) (h : σ 18 1 = nI n) (ht : n < 120 → Q (some (.int 1)) σ) (hf : n = 120 → Q (some (.int 0)) σ) : zC d 45 [.ref 18] σ Q := by
  show zA d _ 0 [(0, .ref 18)] [] σ Q
  repeat refine zA_step rfl rfl ?_
  rw [h]
  by_cases c : n < 120
  · refine zA_f (by simp (disch := omega) only [nu_lt, nu_le, nu_eq, nu_cmp_lt, nu_cmp_gt, nu_cmp_ge, nu_cmp_le, nu_wide, Int32.toInt_add, Int32.toInt_sub, Int32.toInt_mul, nu_I, Nat.reducePow, nu_bm, Int32.reduceToInt, Int64.reduceToInt]; omega) ?_
    repeat refine zA_step rfl rfl ?_
    exact zA_ret rfl (ht c)
  · refine zA_t (by simp (disch := omega) only [nu_lt, nu_le, nu_eq, nu_cmp_lt, nu_cmp_gt, nu_cmp_ge, nu_cmp_le, nu_wide, Int32.toInt_add, Int32.toInt_sub, Int32.toInt_mul, nu_I, Nat.reducePow, nu_bm, Int32.reduceToInt, Int64.reduceToInt]; omega) ?_
    repeat refine zA_step rfl rfl ?_
    exact zA_ret rfl (hf (by omega))
set_option maxHeartbeats 4000000 in
set_option maxRecDepth 100000 in
theorem pr_feed {d : Nat} {σ : zSo} (x : Int32) (hR : R σ) : zPair (d + 20) 62 114 [.int x] σ := by
  obtain ⟨n, hn, h1, h2, h3⟩ := hR.2.1
  have bad : ¬ (0 ≤ x.toInt ∧ x.toInt ≤ 255) → zC (d + 20) 114 [.ref 70, .int x] σ (fun r2 σ2 => r2 = some (.int (-1000001)) ∧ R σ2 ∧ ∀ k, 1000 ≤ k → σ2 k = σ k) := by
    intro hb
    show zA (d + 20) _ 0 [(0, .ref 70), (1, .int x)] [] σ _
    repeat refine zA_step rfl rfl ?_
    refine zA_call rfl rfl (mo_inI 0 255 (by decide) (by decide) (fun z1 z2 => absurd ⟨z1, z2⟩ hb) (fun z => ?_))
    repeat refine zA_step rfl rfl ?_
    exact zA_ret rfl ⟨rfl, hR.kp (zK.rf.up rfl)⟩
  have tomod : ∀ σ1 (Q : Option Value → zSo → Prop), 0 ≤ x.toInt → x.toInt ≤ 255 → zA (d + 20) 114 20 [(0, .ref 70), (1, .int x)] [] (zup σ1 70 0 0) Q → zC (d + 20) 114 [.ref 70, .int x] σ1 Q := by
    intro σ1 Q z1 z2 K
    show zA (d + 20) _ 0 [(0, .ref 70), (1, .int x)] [] σ1 _
    repeat refine zA_step rfl rfl ?_
    refine zA_call rfl rfl (mo_inI 0 255 (by decide) (by decide) (fun _ _ => ?_) (fun z => absurd ⟨z1, z2⟩ z))
    refine zA_s0 rfl ?_
    exact K
  show zA (d + 20) _ 0 [(0, .ref 0), (1, .int x)] [] σ _
  repeat refine zA_step rfl rfl ?_
  refine zA_c (fun c1 => ?_) (fun c1 => ?_)
  all_goals simp only [nu_lt, Int32.reduceToInt] at c1
  · repeat refine zA_step rfl rfl ?_
    exact zA_ret rfl ⟨_, rfl, bad (by omega)⟩
  repeat refine zA_step rfl rfl ?_
  refine zA_c (fun c2 => ?_) (fun c2 => ?_)
  all_goals simp only [nu_le, Int32.reduceToInt] at c2
  rotate_left
  · repeat refine zA_step rfl rfl ?_
    exact zA_ret rfl ⟨_, rfl, bad (by omega)⟩
  obtain ⟨b, hb, e⟩ := nu_of (n := 256) (x := x) (by omega) (by omega)
  repeat refine zA_step rfl rfl ?_
  refine zA_call rfl rfl (cl_hasRoom hn h1 (fun hlt => ?_) (fun hful => ?_))
  rotate_left
  · repeat refine zA_step rfl rfl ?_
    refine zA_ret rfl ⟨_, rfl, tomod σ _ (by omega) (by omega) ?_⟩
    repeat refine zA_step rfl rfl ?_
    rw [show zup σ 70 0 0 70 11 = nI n from h2]
    subst hful
    repeat refine zA_step rfl rfl ?_
    exact zA_ret rfl ⟨rfl, hR.kp (zK.rf.up rfl)⟩
  repeat refine zA_step rfl rfl ?_
  refine zA_call rfl rfl ?_
  show zA (d + 19) _ 0 [(0, .ref 18), (1, .int x)] [] σ _
  repeat refine zA_step rfl rfl ?_
  refine zA_call rfl rfl (cl_hasRoom hn h1 (fun _ => ?_) (fun z => absurd z (by omega)))
  repeat refine zA_step rfl rfl ?_
  refine zA_sto (j := n) rfl h1 (by omega) (by decide) ?_
  repeat refine zA_step rfl rfl ?_
  rw [show zup σ 19 n x 18 1 = nI n from h1]
  refine zA_ret rfl ?_
  refine zA_ret rfl ⟨nI (n + 1), ?_, tomod _ _ (by omega) (by omega) ?_⟩
  · rw [zup_k]
    simp [upd, nI_1]
  repeat refine zA_step rfl rfl ?_
  rw [show zup (zup (zup σ 19 n x) 18 1 (nI n + 1)) 70 0 0 70 11 = nI n from h2]
  refine zA_f (by simp (disch := omega) only [nu_lt, nu_le, nu_eq, nu_cmp_lt, nu_cmp_gt, nu_cmp_ge, nu_cmp_le, nu_wide, Int32.toInt_add, Int32.toInt_sub, Int32.toInt_mul, nu_I, Nat.reducePow, nu_bm, Int32.reduceToInt, Int64.reduceToInt]; omega) ?_
  repeat refine zA_step rfl rfl ?_
  rw [show zup (zup (zup σ 19 n x) 18 1 (nI n + 1)) 70 0 0 70 11 = nI n from h2]
  refine zA_sto (j := n) rfl rfl (by omega) (by decide) ?_
  repeat refine zA_step rfl rfl ?_
  rw [show zup (zup (zup (zup σ 19 n x) 18 1 (nI n + 1)) 70 0 0) 78 n x 70 11 = nI n from h2]
  refine zA_ret rfl ⟨?_, hR.tape (((((zKg.rf.up rfl).up rfl).up rfl).up rfl).up rfl) ⟨n + 1, by omega, ?_, ?_, fun j hj => ?_⟩ ?_⟩
  · rw [zup_k]
    simp [upd, nI_1]
  · rw [← nI_1]; rfl
  · rw [← nI_1]; rfl
  · by_cases ej : j = n
    · subst ej
      refine ⟨b, hb, ?_, ?_⟩
      · rw [← e]
        simp [zup, upd]
      · rw [← e]
        simp [zup, upd]
    · obtain ⟨b', hb', q1, q2⟩ := h3 j (by omega)
      refine ⟨b', hb', ?_, ?_⟩
      · rw [← q1]
        simp [zup, upd, ej]
      · rw [← q2]
        simp [zup, upd, ej]
  · exact hR.2.2.1.2.1
