/-! the pieces of the relation, each kept by itself -/
theorem rRow.kp {σ σ' : zSo} {r : Nat} (h : rRow σ r) (h1 : σ' (2 + 2 * r) = σ (2 + 2 * r)) (h2 : σ' (2 + 1 + 2 * r) = σ (2 + 1 + 2 * r)) (h3 : σ' 71 r = σ 71 r) (h4 : σ' 72 r = σ 72 r) (h5 : ∀ k, k < 40 → σ' 73 (40 * r + k) = σ 73 (40 * r + k)) : rRow σ' r := by
  unfold rRow
  rw [h1, h2, h3, h4]
  rcases h with h | ⟨l, n, a1, a2, a3, a4, a5, a6, a7, a8⟩
  · exact Or.inl h
  · exact Or.inr ⟨l, n, a1, a2, a3, a4, a5, a6, a7, fun k hk => by rw [h5 k hk]; exact a8 k hk⟩
theorem rTape.kp {σ σ' : zSo} (h : rTape σ) (h1 : σ' 18 1 = σ 18 1) (h2 : σ' 70 11 = σ 70 11) (h3 : σ' 19 = σ 19) (h4 : σ' 78 = σ 78) : rTape σ' := by
  unfold rTape
  rw [h1, h2, h3, h4]
  exact h
def rTr (σ : zSo) : Prop := ∃ t, t ≤ 16 ∧ σ 68 1 = nI t ∧ σ 70 24 = nI t ∧ ∀ j, j < t → σ 69 j = σ 83 j
theorem rTr.kp {σ σ' : zSo} (h : rTr σ) (h1 : σ' 68 = σ 68) (h2 : σ' 70 24 = σ 70 24) (h3 : σ' 69 = σ 69) (h4 : σ' 83 = σ 83) : rTr σ' := by
  unfold rTr
  rw [h1, h2, h3, h4]
  exact h
theorem rPar.kp {σ σ' : zSo} {p : paT} (h : rPar σ p) (h1 : ∀ k, 20 ≤ k → k ≤ 28 → σ' k = σ k) (h2 : σ' 74 = σ 74) : rPar σ' p := by
  obtain ⟨a1, a2, a3, a4, a5⟩ := h
  refine ⟨a1, a2.cong a1.2.2.2.1 a1.2.2.2.2.1 (fun j _ _ => by rw [h1 20 (by omega) (by omega)]) (fun k c1 c2 j _ => by rw [h1 _ (by omega) (by omega)]) (fun k c1 c2 j _ => by rw [h1 _ (by omega) (by omega)]), ?_, ?_, a5⟩
  · rw [h2]; exact a3
  · rw [h1 20 (by omega) (by omega)]; exact a4
theorem rActs.kp {σ σ' : zSo} {p : paT} {L : List paT} (h : rActs σ p L) (hp : pw p ≤ 6) (h1 : ∀ k, 57 ≤ k → k ≤ 63 → σ' k = σ k) (h2 : σ' 70 9 = σ 70 9) (h3 : σ' 77 = σ 77) : rActs σ' p L := by
  obtain ⟨b1, b2, ⟨nx, b3, b4, b5⟩, b6, b7⟩ := h
  refine ⟨b1, ?_, ⟨nx, b3, ?_, b5.cong hp (fun k _ _ p q hp hu => hu.cong hp (by rw [h1 _ (by omega) (by omega)]) (by rw [h1 _ (by omega) (by omega)]) (by rw [h1 _ (by omega) (by omega)]) (fun w _ => ⟨by rw [h1 _ (by omega) (by omega)], by rw [h1 _ (by omega) (by omega)], by rw [h1 _ (by omega) (by omega)]⟩))⟩, ?_, fun i q hq => ?_⟩
  · rw [h1 _ (by omega) (by omega)]; exact b2
  · rw [h1 _ (by omega) (by omega)]; exact b4
  · rw [h2]; exact b6
  · rw [h3]; exact b7 i q hq
theorem rImg.kp {σ σ' : zSo} {i : Nat} (h : rImg σ i) (hi : i < 2) (h1 : ∀ k, 39 ≤ k → k ≤ 56 → σ' k = σ k) (h2 : σ' 81 = σ 81) (h3 : σ' 82 = σ 82) : rImg σ' i := by
  unfold rImg
  rw [h1 _ (by omega) (by omega), h2, h3]
  rcases h with h | ⟨c1, c2, q, c3, c4, c5⟩
  · exact Or.inl h
  · exact Or.inr ⟨c1, c2, q, c3, c4.cong c3.1.2.2.2.1 c3.1.2.2.2.2.1 (fun j _ _ => by rw [h1 _ (by omega) (by omega)]) (fun k c1 c2 j _ => by rw [h1 _ (by omega) (by omega)]) (fun k c1 c2 j _ => by rw [h1 _ (by omega) (by omega)]), c5⟩
/-- rows have changed, and the status: all else is as it was -/
def zrw (k j : Nat) : Bool := zsc k j || (Nat.ble 2 k && Nat.ble k 17) || Nat.beq k 71 || Nat.beq k 72 || Nat.beq k 73 || (Nat.beq k 0 && Nat.beq j 8) || (Nat.beq k 70 && Nat.beq j 1)
theorem zrw_hi {k j : Nat} (h : 1000 ≤ k) : zrw k j = false := by
  have b : ∀ n, n < 1000 → Nat.beq k n = false := fun n hn => by
    cases hb : Nat.beq k n with
    | false => rfl
    | true => have := Nat.eq_of_beq_eq_true hb; omega
  have c : ∀ n, n < 1000 → Nat.ble k n = false := fun n hn => by
    cases hb : Nat.ble k n with
    | false => rfl
    | true => have := Nat.le_of_ble_eq_true hb; omega
  unfold zrw
  rw [zsc_hi h, b 71 (by decide), b 72 (by decide), b 73 (by decide), b 0 (by decide), b 70 (by decide), c 17 (by decide)]
  simp
theorem R.rows {σ σ' : zSo} (h : R σ) (hk : ∀ k j, zrw k j = false → σ' k j = σ k j) (hr : ∀ r, r < 8 → rRow σ' r) (hst : σ' 0 8 = σ' 70 1) : R σ' ∧ ∀ k, 1000 ≤ k → σ' k = σ k := by
  have hi : ∀ k, 1000 ≤ k → σ' k = σ k := fun k h => funext fun j => hk k j (zrw_hi h)
  obtain ⟨h1, h2, ⟨h3a, h3b, h3c⟩, h4, ⟨p, h5, L, h6⟩, h7⟩ := h
  refine ⟨⟨hr, h2.kp (hk _ _ rfl) (hk _ _ rfl) (funext fun j => hk _ _ rfl) (funext fun j => hk _ _ rfl), ⟨hst, ?_, rTr.kp h3c (funext fun j => hk _ _ rfl) (hk _ _ rfl) (funext fun j => hk _ _ rfl) (funext fun j => hk _ _ rfl)⟩, ?_, ⟨p, h5.kp (fun k c1 c2 => ?_) (funext fun j => hk _ _ rfl), L, h6.kp h5.1.2.2.2.2.1 (fun k c1 c2 => ?_) (hk _ _ rfl) (funext fun j => hk _ _ rfl)⟩, fun k hk2 => (h7 k hk2).kp hk2 (fun k c1 c2 => ?_) (funext fun j => hk _ _ rfl) (funext fun j => hk _ _ rfl)⟩, hi⟩
  · rw [hk 18 3 rfl, hk 70 18 rfl]; exact h3b
  · intro j hj
    rw [hi 1000 (by omega), hi 1001 (by omega), hi 1002 (by omega)]
    exact h4 j hj
  all_goals
    refine funext fun j => hk k j ?_
    have b : ∀ n, n ≠ k → Nat.beq k n = false := fun n hn => by
      cases hb : Nat.beq k n with
      | false => rfl
      | true => exact absurd (Nat.eq_of_beq_eq_true hb).symm hn
    have c : ∀ n, n < k → Nat.ble k n = false := fun n hn => by
      cases hb : Nat.ble k n with
      | false => rfl
      | true => have := Nat.le_of_ble_eq_true hb; omega
    have c' : ∀ n, k < n → Nat.ble n k = false := fun n hn => by
      cases hb : Nat.ble n k with
      | false => rfl
      | true => have := Nat.le_of_ble_eq_true hb; omega
    unfold zrw zsc
    rw [b 71 (by omega), b 72 (by omega), b 73 (by omega), b 0 (by omega), b 70 (by omega), b 75 (by omega), b 76 (by omega), b 79 (by omega), b 80 (by omega), b 18 (by omega), c 17 (by omega)]
    first
    | rw [c' 29 (by omega), c' 64 (by omega)]; simp
    | rw [c 37 (by omega), c' 64 (by omega)]; simp
/-- only the status has changed -/
def zst (k j : Nat) : Bool := zsc k j || (Nat.beq k 0 && Nat.beq j 8) || (Nat.beq k 70 && Nat.beq j 1)
def zKg (z : Nat → Nat → Bool) (σ σ' : zSo) : Prop := ∀ k j, z k j = false → σ' k j = σ k j
theorem zKg.rf {z : Nat → Nat → Bool} {σ : zSo} : zKg z σ σ := fun _ _ _ => rfl
theorem zKg.up {z : Nat → Nat → Bool} {σ σ' : zSo} {a j : Nat} {v : Int32} (h : zKg z σ σ') (ha : z a j = true) : zKg z σ (zup σ' a j v) := fun k i hk => by
  by_cases e : k = a
  · subst e
    rw [zup_k]
    simp only [upd]
    by_cases e2 : i = j
    · subst e2
      rw [ha] at hk
      cases hk
    · rw [if_neg e2]; exact h k i hk
  · rw [zup_o σ' j v e]; exact h k i hk
theorem zKg.fr {z : Nat → Nat → Bool} {X : List Nat} {σ σ' σ'' : zSo} (h : zKg z σ σ') (hf : zFr X σ' σ'') (hx : ∀ a ∈ X, ∀ j, z a j = true) : zKg z σ σ'' := fun k j hk => by
  rw [hf k (fun q => by rw [hx k q j] at hk; cases hk)]
  exact h k j hk
theorem zKg.sub {z y : Nat → Nat → Bool} {σ σ' : zSo} (h : zKg z σ σ') (hs : ∀ k j, y k j = false → z k j = false) : zKg y σ σ' := fun k j hk => h k j (hs k j hk)
theorem zst_rw (k j : Nat) (h : zrw k j = false) : zst k j = false := by
  unfold zrw at h
  unfold zst
  simp only [Bool.or_eq_false_iff] at h ⊢
  exact ⟨⟨h.1.1.1.1.1.1, h.1.2⟩, h.2⟩
theorem R.st {σ σ' : zSo} (h : R σ) (hk : zKg zst σ σ') (hst : σ' 0 8 = σ' 70 1) : R σ' ∧ ∀ k, 1000 ≤ k → σ' k = σ k := by
  refine h.rows (hk.sub zst_rw) (fun r hr => ?_) hst
  have h1 := h.1 r hr
  rcases (show r = 0 ∨ r = 1 ∨ r = 2 ∨ r = 3 ∨ r = 4 ∨ r = 5 ∨ r = 6 ∨ r = 7 by omega) with rfl | rfl | rfl | rfl | rfl | rfl | rfl | rfl <;> exact h1.kp (funext fun j => hk _ _ rfl) (funext fun j => hk _ _ rfl) (hk _ _ rfl) (hk _ _ rfl) (fun k _ => hk _ _ rfl)
theorem zrw_row {r : Nat} (hr : r < 8) : ∀ a ∈ [2 + 2 * r, 2 + 1 + 2 * r], ∀ j, zrw a j = true := by
  intro a ha j
  simp only [List.mem_cons, List.not_mem_nil, or_false] at ha
  rcases ha with rfl | rfl
  all_goals
    rcases (show r = 0 ∨ r = 1 ∨ r = 2 ∨ r = 3 ∨ r = 4 ∨ r = 5 ∨ r = 6 ∨ r = 7 by omega) with rfl | rfl | rfl | rfl | rfl | rfl | rfl | rfl <;> rfl
theorem zrw_1 {b : Nat} (h : ∀ j, zrw b j = true) : ∀ a ∈ [b], ∀ j, zrw a j = true := by
  intro a ha j
  rw [List.mem_singleton.mp ha]
  exact h j
