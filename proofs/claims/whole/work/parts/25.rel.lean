/-! WHAT HOLDS BETWEEN THE CLASS AND THE REFERENCE BETWEEN TWO CALLS -/
def rRow (σ : zSo) (r : Nat) : Prop := (σ (2 + 2 * r) 1 = 0 ∧ σ 71 r = -1) ∨ (∃ l n, l < 3 ∧ n ≤ 40 ∧ σ (2 + 2 * r) 1 = 1 ∧ σ (2 + 2 * r) 2 = nI l ∧ σ (2 + 2 * r) 3 = nI n ∧ σ 71 r = nI l ∧ σ 72 r = nI n ∧ ∀ k, k < 40 → σ (2 + 1 + 2 * r) k = σ 73 (40 * r + k))
def rTape (σ : zSo) : Prop := ∃ n, n ≤ 120 ∧ σ 18 1 = nI n ∧ σ 70 11 = nI n ∧ ∀ j, j < n → ∃ b, b < 256 ∧ σ 19 j = nI b ∧ σ 78 j = nI b
def rMisc (σ : zSo) : Prop := σ 0 8 = σ 70 1 ∧ σ 18 3 = σ 70 18 ∧ ∃ t, t ≤ 16 ∧ σ 68 1 = nI t ∧ σ 70 24 = nI t ∧ ∀ j, j < t → σ 69 j = σ 83 j
/-- the tables: the kind above each, the bodies -/
def tAB : List Int32 := [0, 0, 1, 1, 0, 4]
def tSB : List Int32 := [10, 11, 12, 0, 13, 14]
def tMB : List Int32 := [20, 21, 24, 22, 23, 0]
def rStat (σ : zSo) : Prop := ∀ j, j < 6 → σ 1000 j = tAB.getD j 0 ∧ σ 1001 j = tSB.getD j 0 ∧ σ 1002 j = tMB.getD j 0
/-- a parish that is there -/
def paH (p : paT) : Prop := paW p 999 ∧ 0 < ps p ∧ 0 < pw p
def rPar (σ : zSo) (p : paT) : Prop := paW p 999 ∧ PC σ 20 p ∧ PM (σ 74) p ∧ σ 20 0 = (if 0 < ps p then 1 else 0) ∧ (0 < ps p ↔ 0 < pw p)
def rImg (σ : zSo) (k : Nat) : Prop := (σ (39 + 9 * k) 0 = 0 ∧ σ 81 k = 0) ∨ (σ (39 + 9 * k) 0 = 1 ∧ σ 81 k = 1 ∧ ∃ q, paH q ∧ PC σ (39 + 9 * k) q ∧ PM (fun j => σ 82 (143 * k + j)) q)
/-- two parishes are alike but for some yards, bribes, bumps at some stones -/
def paX (p q : paT) (Y B M : Nat → Prop) : Prop := p.1 = q.1 ∧ (∀ s, s < ps p → ¬ Y s → pyd p s = pyd q s) ∧ (∀ w, w < pw p → pk p w = pk q w ∧ pa p w = pa q w ∧ pe p w = pe q w ∧ (¬ B w → pb p w = pb q w)) ∧ (∀ w s, w < pw p → s < ps p → ¬ M s → pm p w s = pm q w s)
/-- the entry e of the ring takes the parish p back to q -/
def acU (σ : zSo) (e : Nat) (p q : paT) : Prop :=
  (σ 58 e = 0 ∧ ∃ o, o < ps p ∧ σ 59 e = nI o ∧ paX p q (fun _ => False) (fun _ => False) (fun s => s = o) ∧ ∀ w, w < pw p → (pm q w o = none → σ 62 (6 * e + w) = 0) ∧ ∀ b, pm q w o = some b → σ 61 (6 * e + w) = nI b.1 ∧ σ 62 (6 * e + w) = nI b.2.1 ∧ σ 63 (6 * e + w) = nI b.2.2) ∨
  (σ 58 e = 1 ∧ ∃ o, o < ps p ∧ σ 59 e = nI o ∧ paX p q (fun s => s = o) (fun _ => False) (fun _ => False) ∧ σ 60 e = nI (pyd q o)) ∨
  (σ 58 e = 2 ∧ ∃ o, o < pw p ∧ σ 59 e = nI o ∧ paX p q (fun _ => False) (fun w => w = o) (fun _ => False) ∧ σ 60 e = Int32.ofInt (pb q o)) ∨
  (σ 58 e = 3 ∧ paX p (agP q 1) (fun _ => False) (fun _ => False) (fun _ => False))
/-- the ring's place of the i-th latest act, if the next one comes to nx -/
def acI (nx i : Nat) : Nat := (nx + 23 - i) % 24
def acC (σ : zSo) (nx : Nat) : Nat → paT → List paT → Prop
  | _, _, [] => True
  | i, p, q :: t => acU σ (acI nx i) p q ∧ paH q ∧ acC σ nx (i + 1) q t
def rActs (σ : zSo) (p : paT) (L : List paT) : Prop := L.length ≤ 24 ∧ σ 57 0 = nI L.length ∧ (∃ nx, nx < 24 ∧ σ 57 1 = nI nx ∧ acC σ nx 0 p L) ∧ σ 70 9 = nI L.length ∧ ∀ i q, L[i]? = some q → PM (fun j => σ 77 (143 * (L.length - 1 - i) + j)) q
def R (σ : zSo) : Prop := (∀ r, r < 8 → rRow σ r) ∧ rTape σ ∧ rMisc σ ∧ rStat σ ∧ (∃ p, rPar σ p ∧ ∃ L, rActs σ p L) ∧ ∀ k, k < 2 → rImg σ k
/-- what no later call asks for -/
def zsc (k j : Nat) : Bool := (Nat.ble 29 k && Nat.ble k 37) || (Nat.ble 64 k && Nat.ble k 67) || Nat.beq k 75 || Nat.beq k 76 || Nat.beq k 79 || Nat.beq k 80 || (Nat.beq k 18 && (Nat.beq j 2 || Nat.beq j 4)) || (Nat.beq k 70 && (Nat.beq j 0 || (Nat.ble 12 j && Nat.ble j 17)))
def zK (σ σ' : zSo) : Prop := ∀ k j, zsc k j = false → σ' k j = σ k j
theorem zK.rf {σ : zSo} : zK σ σ := fun _ _ _ => rfl
theorem zK.tr {σ σ' σ'' : zSo} (h1 : zK σ σ') (h2 : zK σ' σ'') : zK σ σ'' := fun k j h => (h2 k j h).trans (h1 k j h)
theorem zK.up {σ σ' : zSo} {a j : Nat} {v : Int32} (h : zK σ σ') (ha : zsc a j = true) : zK σ (zup σ' a j v) := fun k i hk => by
  by_cases e : k = a
  · subst e
    rw [zup_k]
    simp only [upd]
    by_cases e2 : i = j
    · subst e2
      rw [ha] at hk
      cases hk
    · rw [if_neg e2]; exact h k i hk
  · rw [zup_o σ' j v e]; exact h k i hk
theorem zK.fr {X : List Nat} {σ σ' σ'' : zSo} (h : zK σ σ') (hf : zFr X σ' σ'') (hx : ∀ a ∈ X, ∀ j, zsc a j = true) : zK σ σ'' := fun k j hk => by
  rw [hf k (fun z => by rw [hx k z j] at hk; cases hk)]
  exact h k j hk
theorem acU.cong {σ σ' : zSo} {e : Nat} {p q : paT} (h : acU σ e p q) (hw : pw p ≤ 6) (h1 : σ' 58 e = σ 58 e) (h2 : σ' 59 e = σ 59 e) (h3 : σ' 60 e = σ 60 e)
    (h4 : ∀ w, w < 6 → σ' 61 (6 * e + w) = σ 61 (6 * e + w) ∧ σ' 62 (6 * e + w) = σ 62 (6 * e + w) ∧ σ' 63 (6 * e + w) = σ 63 (6 * e + w)) : acU σ' e p q := by
  unfold acU
  rw [h1, h2, h3]
  rcases h with ⟨a1, o, a2, a3, a4, a5⟩ | h
  · refine Or.inl ⟨a1, o, a2, a3, a4, fun w hw' => ?_⟩
    obtain ⟨c1, c2, c3⟩ := h4 w (by omega)
    rw [c1, c2, c3]
    exact a5 w hw'
  · exact Or.inr h
theorem acC.cong {σ σ' : zSo} {nx : Nat} : ∀ {L : List paT} {i : Nat} {p : paT}, acC σ nx i p L → pw p ≤ 6 → (∀ k, i ≤ k → k < i + L.length → ∀ p q, pw p ≤ 6 → acU σ (acI nx k) p q → acU σ' (acI nx k) p q) → acC σ' nx i p L
  | [], _, _, _, _, _ => trivial
  | q :: t, i, p, h, hp, hu => by
    obtain ⟨h1, h2, h3⟩ := h
    refine ⟨hu i (Nat.le_refl _) (by simp) p q hp h1, h2, h3.cong h2.1.2.2.2.2.1 (fun k hk1 hk2 => hu k (by omega) (by simp; omega))⟩
theorem R.keep {σ σ' : zSo} (h : R σ) (hk : zK σ σ') (hs : ∀ k, 1000 ≤ k → σ' k = σ k) : R σ' := by
  obtain ⟨h1, h2, h3, h4, ⟨p, h5, L, h6⟩, h7⟩ := h
  refine ⟨fun r hr => ?_, ?_, ?_, ?_, ⟨p, ?_, L, ?_⟩, fun k hk2 => ?_⟩
  · have e0 : ∀ j, σ' (2 + 2 * r) j = σ (2 + 2 * r) j := by
      intro j
      rcases (show r = 0 ∨ r = 1 ∨ r = 2 ∨ r = 3 ∨ r = 4 ∨ r = 5 ∨ r = 6 ∨ r = 7 by omega) with rfl | rfl | rfl | rfl | rfl | rfl | rfl | rfl <;> exact hk _ _ rfl
    have e1 : ∀ j, σ' (2 + 1 + 2 * r) j = σ (2 + 1 + 2 * r) j := by
      intro j
      rcases (show r = 0 ∨ r = 1 ∨ r = 2 ∨ r = 3 ∨ r = 4 ∨ r = 5 ∨ r = 6 ∨ r = 7 by omega) with rfl | rfl | rfl | rfl | rfl | rfl | rfl | rfl <;> exact hk _ _ rfl
    unfold rRow
    simp only [e0, e1, hk 71 _ rfl, hk 72 _ rfl, hk 73 _ rfl]
    exact h1 r hr
  · unfold rTape
    rw [hk 18 1 rfl, hk 70 11 rfl]
    simp only [hk 19 _ rfl, hk 78 _ rfl]
    exact h2
  · unfold rMisc
    rw [hk 0 8 rfl, hk 70 1 rfl, hk 18 3 rfl, hk 70 18 rfl, hk 68 1 rfl, hk 70 24 rfl]
    simp only [hk 69 _ rfl, hk 83 _ rfl]
    exact h3
  · intro j hj
    rw [hs 1000 (by omega), hs 1001 (by omega), hs 1002 (by omega)]
    exact h4 j hj
  · obtain ⟨a1, a2, a3, a4, a5⟩ := h5
    refine ⟨a1, a2.cong a1.2.2.2.1 a1.2.2.2.2.1 (fun j _ _ => hk _ _ rfl) (fun k c1 c2 j _ => ?_) (fun k c1 c2 j _ => ?_), ?_, ?_, a5⟩
    · rcases (show k = 1 ∨ k = 2 ∨ k = 3 ∨ k = 4 ∨ k = 5 by omega) with rfl | rfl | rfl | rfl | rfl <;> exact hk _ _ rfl
    · rcases (show k = 6 ∨ k = 7 ∨ k = 8 by omega) with rfl | rfl | rfl <;> exact hk _ _ rfl
    · exact a3.cong a1.2.2.2.1 a1.2.2.2.2.1 (fun j _ => hk _ _ rfl)
    · rw [hk 20 0 rfl]; exact a4
  · obtain ⟨b1, b2, ⟨nx, b3, b4, b5⟩, b6, b7⟩ := h6
    refine ⟨b1, ?_, ⟨nx, b3, ?_, b5.cong h5.1.2.2.2.2.1 (fun k _ _ p q hp hu => hu.cong hp (hk _ _ rfl) (hk _ _ rfl) (hk _ _ rfl) (fun w _ => ⟨hk _ _ rfl, hk _ _ rfl, hk _ _ rfl⟩))⟩, ?_, fun i q hq => ?_⟩
    · rw [hk 57 0 rfl]; exact b2
    · rw [hk 57 1 rfl]; exact b4
    · rw [hk 70 9 rfl]; exact b6
    · have := b7 i q hq
      rw [show (fun j => σ' 77 (143 * (L.length - 1 - i) + j)) = (fun j => σ 77 (143 * (L.length - 1 - i) + j)) from funext fun j => hk _ _ rfl]
      exact this
  · rcases (show k = 0 ∨ k = 1 by omega) with rfl | rfl
    all_goals
      rcases h7 _ hk2 with ⟨c1, c2⟩ | ⟨c1, c2, q, c3, c4, c5⟩
      · exact Or.inl ⟨(hk _ _ rfl).trans c1, (hk _ _ rfl).trans c2⟩
      · refine Or.inr ⟨(hk _ _ rfl).trans c1, (hk _ _ rfl).trans c2, q, c3, c4.cong c3.1.2.2.2.1 c3.1.2.2.2.2.1 (fun j _ _ => hk _ _ rfl) (fun k c1 c2 j _ => ?_) (fun k c1 c2 j _ => ?_), ?_⟩
        · rcases (show k = 1 ∨ k = 2 ∨ k = 3 ∨ k = 4 ∨ k = 5 by omega) with rfl | rfl | rfl | rfl | rfl <;> exact hk _ _ rfl
        · rcases (show k = 6 ∨ k = 7 ∨ k = 8 by omega) with rfl | rfl | rfl <;> exact hk _ _ rfl
        · exact c5.cong c3.1.2.2.2.1 c3.1.2.2.2.2.1 (fun j _ => hk _ _ rfl)
/-- a call of the class and the same of the reference -/
def zPair (d jx jm : Nat) (as : List Value) (σ : zSo) : Prop := zC d jx (.ref 0 :: as) σ (fun r σ1 => ∃ a, r = some (.int a) ∧ zC d jm (.ref 70 :: as) σ1 (fun r2 σ2 => r2 = some (.int a) ∧ R σ2 ∧ ∀ k, 1000 ≤ k → σ2 k = σ k))
