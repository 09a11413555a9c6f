/-! ask, the pair -/
def ztr (k j : Nat) : Bool := zsc k j || Nat.beq k 68 || Nat.beq k 69 || Nat.beq k 83 || (Nat.beq k 70 && Nat.beq j 24)
theorem ztr_hi {k j : Nat} (h : 1000 ≤ k) : ztr k j = false := by
  have b : ∀ n, n < 1000 → Nat.beq k n = false := fun n hn => by
    cases hb : Nat.beq k n with
    | false => rfl
    | true => have := Nat.eq_of_beq_eq_true hb; omega
  unfold ztr
  rw [zsc_hi h, b 68 (by decide), b 69 (by decide), b 83 (by decide), b 70 (by decide)]
  simp
theorem R.tr {σ σ' : zSo} (h : R σ) (hk : zKg ztr σ σ') (ht : rTr σ') : R σ' ∧ ∀ k, 1000 ≤ k → σ' k = σ k := by
  have hi : ∀ k, 1000 ≤ k → σ' k = σ k := fun k h => funext fun j => hk k j (ztr_hi h)
  obtain ⟨h1, h2, ⟨h3a, h3b, h3c⟩, h4, ⟨p, h5, L, h6⟩, h7⟩ := h
  refine ⟨⟨fun r hr => ?_, h2.kp (hk _ _ rfl) (hk _ _ rfl) (funext fun j => hk _ _ rfl) (funext fun j => hk _ _ rfl), ⟨?_, ?_, ht⟩, ?_, ⟨p, h5.kp (fun k c1 c2 => ?_) (funext fun j => hk _ _ rfl), L, h6.kp h5.1.2.2.2.2.1 (fun k c1 c2 => ?_) (hk _ _ rfl) (funext fun j => hk _ _ rfl)⟩, fun k hk2 => (h7 k hk2).kp hk2 (fun k c1 c2 => ?_) (funext fun j => hk _ _ rfl) (funext fun j => hk _ _ rfl)⟩, hi⟩
  · have h9 := h1 r hr
    rcases nu_row8 hr with rfl | rfl | rfl | rfl | rfl | rfl | rfl | rfl <;> exact h9.kp (funext fun j => hk _ _ rfl) (funext fun j => hk _ _ rfl) (hk _ _ rfl) (hk _ _ rfl) (fun k _ => hk _ _ rfl)
  · rw [hk 0 8 rfl, hk 70 1 rfl]; exact h3a
  · rw [hk 18 3 rfl, hk 70 18 rfl]; exact h3b
  · intro j hj
    rw [hi 1000 (by omega), hi 1001 (by omega), hi 1002 (by omega)]
    exact h4 j hj
  all_goals
    refine funext fun j => hk k j ?_
    have b : ∀ n, n ≠ k → Nat.beq k n = false := fun n hn => by
      cases hb : Nat.beq k n with
      | false => rfl
      | true => exact absurd (Nat.eq_of_beq_eq_true hb).symm hn
    have c : ∀ n, n < k → Nat.ble k n = false := fun n hn => by
      cases hb : Nat.ble k n with
      | false => rfl
      | true => have := Nat.le_of_ble_eq_true hb; omega
    have c' : ∀ n, k < n → Nat.ble n k = false := fun n hn => by
      cases hb : Nat.ble n k with
      | false => rfl
      | true => have := Nat.le_of_ble_eq_true hb; omega
    unfold ztr zsc
    rw [b 68 (by omega), b 69 (by omega), b 83 (by omega), b 70 (by omega), b 75 (by omega), b 76 (by omega), b 79 (by omega), b 80 (by omega), b 18 (by omega)]
    first
    | rw [c' 29 (by omega), c' 64 (by omega)]; simp
    | rw [c 37 (by omega), c' 64 (by omega)]; simp
theorem zKg.tm {σ σ' σ'' : zSo} (h : zKg ztr σ σ') (h2 : zTr σ' σ'') : zKg ztr σ σ'' := fun k j hk => by
  by_cases e1 : k = 70
  · subst e1
    rw [h2.2 j (fun e => by subst e; cases hk)]
    exact h _ _ hk
  · by_cases e2 : k = 83
    · subst e2; cases hk
    · rw [h2.1 k e1 e2]; exact h _ _ hk
set_option maxHeartbeats 4000000 in
set_option maxRecDepth 100000 in
theorem pr_ask {d : Nat} {σ : zSo} (x y : Int32) (hR : R σ) : zPair (d + 30) 89 183 [.int x, .int y] σ := by
  obtain ⟨-, -, -, hS, ⟨p, ⟨hW, hC, hM, -, -⟩, -⟩, -⟩ := id hR
  have w6 := hW.2.2.2.2.1
  have hk : zK σ (zup σ 70 0 0) := zK.rf.up rfl
  have hM' : PM (zup σ 70 0 0 74) p := hM
  have bad : ¬ ((0 ≤ x.toInt ∧ x.toInt < pw p) ∧ (0 ≤ y.toInt ∧ y.toInt ≤ 1)) → zC (d + 30) 183 [.ref 70, .int x, .int y] σ (fun r2 σ2 => r2 = some (.int (-1000001)) ∧ R σ2 ∧ ∀ k, 1000 ≤ k → σ2 k = σ k) := by
    intro hn
    show zA (d + 30) _ 0 [(0, .ref 70), (1, .int x), (2, .int y)] [] σ _
    repeat refine zA_step rfl rfl ?_
    refine zA_call rfl rfl (mo_isWitness hM' w6 (fun s hs e => ?_) (fun h => ?_))
    rotate_left
    · repeat refine zA_step rfl rfl ?_
      exact zA_ret rfl ⟨rfl, hR.kp hk⟩
    subst e
    repeat refine zA_step rfl rfl ?_
    refine zA_call rfl rfl (mo_inI 0 1 (by decide) (by decide) (fun z1 z2 => ?_) (fun z => ?_))
    · rw [nu_I (by omega)] at hn
      exact absurd ⟨⟨by omega, by omega⟩, ⟨z1, z2⟩⟩ hn
    · repeat refine zA_step rfl rfl ?_
      exact zA_ret rfl ⟨rfl, hR.kp hk⟩
  show zA (d + 30) _ 0 [(0, .ref 0), (1, .int x), (2, .int y)] [] σ _
  repeat refine zA_step rfl rfl ?_
  refine zA_call rfl rfl (cl_isWitness hC w6 (fun w hw e => ?_) (fun h => ?_))
  rotate_left
  · repeat refine zA_step rfl rfl ?_
    exact zA_ret rfl ⟨_, rfl, bad (fun z => h z.1)⟩
  subst e
  repeat refine zA_step rfl rfl ?_
  refine zA_call rfl rfl (cl_isEither (fun o ho e => ?_) (fun h => ?_))
  rotate_left
  · repeat refine zA_step rfl rfl ?_
    exact zA_ret rfl ⟨_, rfl, bad (fun z => h z.2)⟩
  subst e
  repeat refine zA_step rfl rfl ?_
  refine zA_call rfl rfl (cl_answer hC hS hW (by omega) hw ho (fun σ2 hF2 hT2 => ?_))
  refine zA_ret rfl ⟨_, rfl, ?_⟩
  have hM2 : PM (zup σ2 70 0 0 74) p := by
    show PM (σ2 74) p
    rw [hF2 _ (by decide)]; exact hM
  have hM3 : PM (zup (zup σ2 70 0 0) 70 24 0 74) p := hM2
  have hl := ansT_len (pk p w) o
  have hT3 : TAm (zup (zup σ2 70 0 0) 70 24 0) [] := ⟨by simp, by simp [zup_k, upd]; rfl, fun j b hj => by simp at hj⟩
  have fin : ∀ σ4 : zSo, zTr (zup (zup σ2 70 0 0) 70 24 0) σ4 → TAm σ4 (ansT (pk p w) o) → R σ4 ∧ ∀ k, 1000 ≤ k → σ4 k = σ k := by
    intro σ4 hF4 hT4
    refine hR.tr (zKg.tm (((zKg.rf.fr hF2 ?_).up rfl).up rfl) hF4) ⟨(ansT (pk p w) o).length, by omega, ?_, hT4.2.1, fun j hj => ?_⟩
    · intro a ha j
      simp only [List.mem_cons, List.not_mem_nil, or_false] at ha
      rcases ha with rfl | rfl <;> rfl
    · rw [hF4.1 _ (by decide) (by decide), zup_o _ _ _ (by decide), zup_o _ _ _ (by decide)]
      exact hT2.2.1
    · obtain ⟨b, hb⟩ := tk_get hj
      rw [hT4.2.2 j b hb, hF4.1 _ (by decide) (by decide), zup_o _ _ _ (by decide), zup_o _ _ _ (by decide)]
      exact hT2.2.2 j b hb
  show zA (d + 30) _ 0 [(0, .ref 70), (1, .int (nI w)), (2, .int (nI o))] [] σ2 _
  repeat refine zA_step rfl rfl ?_
  refine zA_call rfl rfl (mo_isWitness hM2 w6 (fun s' hs' e => ?_) (fun h => nu_abs2 hw (by omega) h))
  repeat refine zA_step rfl rfl ?_
  refine zA_call rfl rfl (mo_inI 0 1 (by decide) (by decide) (fun z1 z2 => ?_) (fun z => absurd ⟨by rw [nu_I (by omega)]; omega, by rw [nu_I (by omega)]; omega⟩ z))
  repeat refine zA_step rfl rfl ?_
  rcases (show o = 0 ∨ o = 1 by omega) with rfl | rfl
  · repeat refine zA_step rfl rfl ?_
    refine zA_call rfl rfl (MB_size hM3 hW (by omega) hw (d + 16) _ [] _ zTr.rf hT3 (by simp; omega) (fun σ4 hF4 hT4 => ?_))
    repeat refine zA_step rfl rfl ?_
    exact zA_ret rfl ⟨rfl, fin σ4 hF4 hT4⟩
  · repeat refine zA_step rfl rfl ?_
    refine zA_call rfl rfl (MB_mark hM3 hW (by omega) hw (d + 17) _ [] _ zTr.rf hT3 (by simp; omega) (fun σ4 hF4 hT4 => ?_))
    exact zA_ret rfl ⟨rfl, fin σ4 hF4 hT4⟩
