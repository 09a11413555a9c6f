/-! what is changed, and what isn't -/
def zFr (X : List Nat) (σ σ' : zSo) : Prop := ∀ k, k ∉ X → σ' k = σ k
theorem zFr.rf {X : List Nat} {σ : zSo} : zFr X σ σ := fun _ _ => rfl
theorem zFr.tr {X : List Nat} {σ σ' σ'' : zSo} (h1 : zFr X σ σ') (h2 : zFr X σ' σ'') : zFr X σ σ'' := fun k hk => (h2 k hk).trans (h1 k hk)
theorem zFr.sub {X Y : List Nat} {σ σ' : zSo} (h : zFr X σ σ') (hs : ∀ k ∈ X, k ∈ Y) : zFr Y σ σ' := fun k hk => h k (fun z => hk (hs k z))
theorem zFr.up {X : List Nat} {σ σ' : zSo} {a j : Nat} {v : Int32} (h : zFr X σ σ') (ha : a ∈ X) : zFr X σ (zup σ' a j v) := fun k hk => by
  rw [zup_o σ' j v (fun e => hk (by rw [e]; exact ha))]
  exact h k hk
theorem PM.cong {v v' : Nat → Int32} {p : paT} (h : PM v p) (hs : ps p ≤ 6) (hw : pw p ≤ 6) (hv : ∀ j, j < 143 → v' j = v j) : PM v' p := by
  obtain ⟨h0, h2, h3, h4, h5, h6, h7⟩ := h
  refine ⟨fun z => ⟨?_, ?_⟩, ?_, ?_, ?_, fun s hs => ?_, fun w hw => ⟨?_, ?_, ?_, ?_⟩, fun w s hw hs j hj => ?_⟩
  · rw [hv _ (by omega)]; exact (h0 z).1
  · rw [hv _ (by omega)]; exact (h0 z).2
  · rw [hv _ (by omega)]; exact h2
  · rw [hv _ (by omega)]; exact h3
  · rw [hv _ (by omega)]; exact h4
  · rw [hv _ (by omega)]; exact h5 s hs
  · rw [hv _ (by omega)]; exact (h6 w hw).1
  · rw [hv _ (by omega)]; exact (h6 w hw).2.1
  · rw [hv _ (by omega)]; exact (h6 w hw).2.2.1
  · rw [hv _ (by omega)]; exact (h6 w hw).2.2.2
  · rw [hv _ (by omega)]; exact h7 w s hw hs j hj
theorem PC.cong {σ σ' : zSo} {P P' : Nat} {p : paT} (h : PC σ P p) (hs : ps p ≤ 6) (hw : pw p ≤ 6) (h0 : ∀ j, 1 ≤ j → j < 6 → σ' P' j = σ P j) (h1 : ∀ k, 1 ≤ k → k ≤ 5 → ∀ j, j < 6 → σ' (P' + k) j = σ (P + k) j) (h2 : ∀ k, 6 ≤ k → k ≤ 8 → ∀ j, j < 36 → σ' (P' + k) j = σ (P + k) j) : PC σ' P' p := by
  obtain ⟨⟨a0, a1⟩, a2, a3, a4, a5, a6, a7⟩ := h
  refine ⟨⟨?_, ?_⟩, ?_, ?_, ?_, fun s hs => ?_, fun w hw => ⟨?_, ?_, ?_, ?_⟩, fun w s hw hs => ⟨fun hm => ?_, fun q hm => ⟨?_, ?_, ?_⟩⟩⟩
  · rw [h0 _ (by decide) (by decide)]; exact a0
  · rw [h0 _ (by decide) (by decide)]; exact a1
  · rw [h0 _ (by decide) (by decide)]; exact a2
  · rw [h0 _ (by decide) (by decide)]; exact a3
  · rw [h0 _ (by decide) (by decide)]; exact a4
  · rw [h1 1 (by omega) (by omega) _ (by omega)]; exact a5 s hs
  · rw [h1 2 (by omega) (by omega) _ (by omega)]; exact (a6 w hw).1
  · rw [h1 3 (by omega) (by omega) _ (by omega)]; exact (a6 w hw).2.1
  · rw [h1 4 (by omega) (by omega) _ (by omega)]; exact (a6 w hw).2.2.1
  · rw [h1 5 (by omega) (by omega) _ (by omega)]; exact (a6 w hw).2.2.2
  · rw [h2 7 (by omega) (by omega) _ (by omega)]; exact (a7 w s hw hs).1 hm
  · rw [h2 6 (by omega) (by omega) _ (by omega)]; exact ((a7 w s hw hs).2 q hm).1
  · rw [h2 7 (by omega) (by omega) _ (by omega)]; exact ((a7 w s hw hs).2 q hm).2.1
  · rw [h2 8 (by omega) (by omega) _ (by omega)]; exact ((a7 w s hw hs).2 q hm).2.2
/-- one bump is another -/
def pmset (p : paT) (w s : Nat) (o : Option (Nat × Nat × Nat)) : paT := (p.1, p.2.1, p.2.2.1, p.2.2.2.1, p.2.2.2.2.1, p.2.2.2.2.2.1, fun a b => if a = w ∧ b = s then o else pm p a b)
theorem pmset_m (p : paT) (w s : Nat) (o : Option (Nat × Nat × Nat)) (a b : Nat) : pm (pmset p w s o) a b = if a = w ∧ b = s then o else pm p a b := rfl
theorem PM.put {v : Nat → Int32} {p : paT} {w s : Nat} (q : Nat × Nat × Nat) (h : PM v p) (hp : ps p ≤ 6) (hq : pw p ≤ 6) (hs : s < ps p) : PM (upd (upd (upd v (35 + 3 * (6 * w + s)) (nI q.1)) (35 + 3 * (6 * w + s) + 1) (nI q.2.1)) (35 + 3 * (6 * w + s) + 2) (nI q.2.2)) (pmset p w s (some q)) := by
  obtain ⟨h0, h2, h3, h4, h5, h6, h7⟩ := h
  generalize hv' : upd (upd (upd v (35 + 3 * (6 * w + s)) (nI q.1)) (35 + 3 * (6 * w + s) + 1) (nI q.2.1)) (35 + 3 * (6 * w + s) + 2) (nI q.2.2) = v'
  have lo : ∀ j, (j < 35 + 3 * (6 * w + s) ∨ 35 + 3 * (6 * w + s) + 3 ≤ j) → v' j = v j := by
    intro j hj
    subst hv'
    simp only [upd]
    rw [if_neg (by omega), if_neg (by omega), if_neg (by omega)]
  refine ⟨fun z => ⟨?_, ?_⟩, ?_, ?_, ?_, fun s' hs' => ?_, fun w' hw' => ⟨?_, ?_, ?_, ?_⟩, fun w' s' hw' hs' j hj => ?_⟩
  · rw [lo _ (by omega)]; exact (h0 z).1
  · rw [lo _ (by omega)]; exact (h0 z).2
  · rw [lo _ (by omega)]; exact h2
  · rw [lo _ (by omega)]; exact h3
  · rw [lo _ (by omega)]; exact h4
  · have hs' : s' < ps p := hs'
    rw [lo _ (by omega)]; exact h5 s' hs'
  · have hw' : w' < pw p := hw'
    rw [lo _ (by omega)]; exact (h6 w' hw').1
  · have hw' : w' < pw p := hw'
    rw [lo _ (by omega)]; exact (h6 w' hw').2.1
  · have hw' : w' < pw p := hw'
    rw [lo _ (by omega)]; exact (h6 w' hw').2.2.1
  · have hw' : w' < pw p := hw'
    rw [lo _ (by omega)]; exact (h6 w' hw').2.2.2
  · have hw' : w' < pw p := hw'
    have hs' : s' < ps p := hs'
    rw [pmset_m]
    by_cases e : w' = w ∧ s' = s
    · rw [if_pos e]
      obtain ⟨rfl, rfl⟩ := e
      subst hv'
      simp only [upd, e3]
      match j, hj with
      | 0, _ => rw [if_neg (by omega), if_neg (by omega), if_pos (by omega)]; rfl
      | 1, _ => rw [if_neg (by omega), if_pos (by omega)]; rfl
      | 2, _ => rw [if_pos (by omega)]; rfl
    · rw [if_neg e, lo _ (by omega)]
      exact h7 w' s' hw' hs' j hj
theorem PC.put {σ σ' : zSo} {P : Nat} {p : paT} {w s : Nat} (q : Nat × Nat × Nat) (h : PC σ P p) (hp : ps p ≤ 6) (hq : pw p ≤ 6) (hw : w < pw p) (hs : s < ps p) (ho : ∀ k, k ≤ 5 → ∀ j, σ' (P + k) j = σ (P + k) j)
    (h6 : ∀ j, σ' (P + 6) j = if j = 6 * w + s then nI q.1 else σ (P + 6) j) (h7 : ∀ j, σ' (P + 7) j = if j = 6 * w + s then nI q.2.1 else σ (P + 7) j) (h8 : ∀ j, σ' (P + 8) j = if j = 6 * w + s then nI q.2.2 else σ (P + 8) j) : PC σ' P (pmset p w s (some q)) := by
  obtain ⟨⟨a0, a1⟩, a2, a3, a4, a5, a6, a7⟩ := h
  have o0 : ∀ j, σ' P j = σ P j := ho 0 (by omega)
  refine ⟨⟨?_, ?_⟩, ?_, ?_, ?_, fun s' hs' => ?_, fun w' hw' => ⟨?_, ?_, ?_, ?_⟩, fun w' s' hw' hs' => ?_⟩
  · rw [o0]; exact a0
  · rw [o0]; exact a1
  · rw [o0]; exact a2
  · rw [o0]; exact a3
  · rw [o0]; exact a4
  · rw [ho 1 (by omega)]; exact a5 s' hs'
  · rw [ho 2 (by omega)]; exact (a6 w' hw').1
  · rw [ho 3 (by omega)]; exact (a6 w' hw').2.1
  · rw [ho 4 (by omega)]; exact (a6 w' hw').2.2.1
  · rw [ho 5 (by omega)]; exact (a6 w' hw').2.2.2
  · have hw' : w' < pw p := hw'
    have hs' : s' < ps p := hs'
    rw [pmset_m, h6, h7, h8]
    by_cases e : w' = w ∧ s' = s
    · rw [if_pos e]
      obtain ⟨rfl, rfl⟩ := e
      rw [if_pos rfl, if_pos rfl, if_pos rfl]
      refine ⟨fun z => by (cases z), fun q' hq' => ?_⟩
      cases hq'
      exact ⟨rfl, rfl, rfl⟩
    · have : ¬ 6 * w' + s' = 6 * w + s := by omega
      rw [if_neg e, if_neg this, if_neg this, if_neg this]
      exact a7 w' s' hw' hs'
/-- a walk: those below k of who that can be taken are bumped -/
def bmK (p : paT) (s who pn : Nat) : Nat → paT
  | 0 => p
  | k + 1 => if who.testBit k && tkb p k then pmset (bmK p s who pn k) k s (some (pyd p s, pn, py p)) else bmK p s who pn k
theorem bmK_same (p : paT) (s who pn : Nat) : ∀ k, (bmK p s who pn k).1 = p.1 ∧ pyd (bmK p s who pn k) = pyd p ∧ pk (bmK p s who pn k) = pk p ∧ pa (bmK p s who pn k) = pa p ∧ pe (bmK p s who pn k) = pe p ∧ pb (bmK p s who pn k) = pb p
  | 0 => ⟨rfl, rfl, rfl, rfl, rfl, rfl⟩
  | k + 1 => by
    have ih := bmK_same p s who pn k
    unfold bmK
    split
    · exact ih
    · exact ih
theorem bmK_1 (p : paT) (s who pn k : Nat) : ps (bmK p s who pn k) = ps p ∧ pw (bmK p s who pn k) = pw p ∧ py (bmK p s who pn k) = py p ∧ pl (bmK p s who pn k) = pl p ∧ pd (bmK p s who pn k) = pd p := by
  have h := (bmK_same p s who pn k).1
  unfold ps pw py pl pd
  rw [h]
  exact ⟨rfl, rfl, rfl, rfl, rfl⟩
theorem bmK_m (p : paT) (s who pn : Nat) : ∀ k a b, pm (bmK p s who pn k) a b = if b = s ∧ a < k ∧ who.testBit a = true ∧ tkb p a = true then some (pyd p s, pn, py p) else pm p a b
  | 0, a, b => by rw [if_neg (by omega)]; rfl
  | k + 1, a, b => by
    have ih := bmK_m p s who pn k a b
    unfold bmK
    by_cases h : (who.testBit k && tkb p k) = true
    · rw [if_pos h, pmset_m, ih]
      rw [Bool.and_eq_true] at h
      by_cases e : a = k ∧ b = s
      · obtain ⟨rfl, rfl⟩ := e
        rw [if_pos ⟨rfl, rfl⟩, if_pos ⟨rfl, by omega, h.1, h.2⟩]
      · rw [if_neg e]
        by_cases e2 : b = s ∧ a < k ∧ who.testBit a = true ∧ tkb p a = true
        · rw [if_pos e2, if_pos ⟨e2.1, by omega, e2.2.2⟩]
        · rw [if_neg e2, if_neg]
          rintro ⟨z1, z2, z3⟩
          exact e2 ⟨z1, by omega, z3⟩
    · rw [if_neg h, ih]
      rw [Bool.and_eq_true] at h
      by_cases e2 : b = s ∧ a < k ∧ who.testBit a = true ∧ tkb p a = true
      · rw [if_pos e2, if_pos ⟨e2.1, by omega, e2.2.2⟩]
      · rw [if_neg e2, if_neg]
        rintro ⟨z1, z2, z3⟩
        rcases Nat.lt_or_ge a k with q | q
        · exact e2 ⟨z1, q, z3⟩
        · have : a = k := by omega
          subst this
          exact h z3
theorem bmK_W {p : paT} {Y s who pn : Nat} (hW : paW p Y) (hs : s < ps p) (h1 : 1 ≤ pn) (h9 : pn ≤ 9) (k : Nat) : paW (bmK p s who pn k) Y := by
  obtain ⟨wl, wd, wy, ws6, ww6, wyd, www, wmm⟩ := hW
  obtain ⟨-, e2, e3, e4, e5, e6⟩ := bmK_same p s who pn k
  obtain ⟨f1, f2, f3, f4, f5⟩ := bmK_1 p s who pn k
  unfold paW
  rw [e2, e3, e4, e5, e6, f1, f2, f3, f4, f5]
  refine ⟨wl, wd, wy, ws6, ww6, wyd, www, fun w t hw ht q hq => ?_⟩
  rw [bmK_m] at hq
  split at hq
  · cases hq
    exact ⟨wyd s hs, ⟨h1, h9⟩, Nat.le_refl _⟩
  · exact wmm w t hw ht q hq
def bmc (p : paT) (who : Nat) : Nat → Bool := fun w => who.testBit w && tkb p w
