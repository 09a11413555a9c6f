/-! the text of a parish: as a function; the class -/
def sb {α β : Type} (x : Sum (Nat × Nat) α) (f : α → Sum (Nat × Nat) β) : Sum (Nat × Nat) β := match x with
  | .inl e => .inl e
  | .inr a => f a
def paR (b : Nat → Nat) (n c j : Nat) : Sum (Nat × Nat) Nat := if ch b n j = some c then .inr (j + 1) else .inl (1, j)
def nuR (b : Nat → Nat) (n lo hi j : Nat) : Sum (Nat × Nat) (Nat × Nat) := match numR b n lo hi j with
  | .inl c => .inl (c, j)
  | .inr v => .inr v
def lawR (b : Nat → Nat) (n : Nat) : Sum (Nat × Nat) (Nat × Nat × Nat) := sb (paR b n 119 0) fun j1 => sb (nuR b n 1 30 j1) fun v => sb (paR b n 44 v.2) fun j2 => sb (nuR b n 1 30 j2) fun u => sb (paR b n 59 u.2) fun j3 => .inr (v.1, u.1, j3)
def stR (b : Nat → Nat) (n : Nat) : Nat → Nat → List Nat → Sum (Nat × Nat) (Nat × List Nat)
  | 0, j, ys => .inr (j, ys)
  | u + 1, j, ys => if ys.length ≠ 0 ∧ ¬ ch b n j = some 115 then .inr (j, ys) else if ys.length = 6 then .inl (3, j) else sb (paR b n 115 j) fun j1 => sb (nuR b n 0 99 j1) fun v => sb (paR b n 59 v.2) fun j3 => stR b n u j3 (ys ++ [v.1])
def kdO (x : Option Nat) : Nat := if x = some 104 then 1 else if x = some 98 then 2 else if x = some 100 then 3 else if x = some 116 then 4 else if x = some 110 then 5 else 0
def lfR (b : Nat → Nat) (n j : Nat) : Sum (Nat × Nat) (Nat × Nat × Nat) := sb (nuR b n 0 60 j) fun v => sb (paR b n 44 v.2) fun j2 => sb (nuR b n (v.1 + 1) 99 j2) fun u => sb (paR b n 59 u.2) fun j4 => .inr (v.1, u.1, j4)
def wiR (b : Nat → Nat) (n : Nat) : Nat → Nat → List (Nat × Nat × Nat) → Sum (Nat × Nat) (List (Nat × Nat × Nat))
  | 0, _, ks => .inr ks
  | u + 1, j, ks => if ks.length ≠ 0 ∧ n ≤ j then .inr ks else if kdO (ch b n j) = 0 then .inl (1, j) else if ks.length = 6 then .inl (3, j) else sb (lfR b n (j + 1)) fun v => wiR b n u v.2.2 (ks ++ [(kdO (ch b n j), v.1, v.2.1)])
theorem paR_ok {b : Nat → Nat} {n c j j' : Nat} (h : paR b n c j = .inr j') : ch b n j = some c ∧ j' = j + 1 ∧ j' ≤ n := by
  unfold paR at h
  split at h
  · rename_i hc
    cases h
    have := (ch_s.mp hc).1
    exact ⟨hc, rfl, by omega⟩
  · cases h
theorem nuR_ok {b : Nat → Nat} {n lo hi j : Nat} {v : Nat × Nat} (h : nuR b n lo hi j = .inr v) : numR b n lo hi j = .inr v ∧ lo ≤ v.1 ∧ v.1 ≤ hi ∧ v.2 ≤ n := by
  unfold nuR at h
  cases e : numR b n lo hi j with
  | inl c => rw [e] at h; cases h
  | inr x =>
    rw [e] at h
    cases h
    exact ⟨rfl, numR_pos e⟩
theorem sb_ok {α β : Type} {x : Sum (Nat × Nat) α} {f : α → Sum (Nat × Nat) β} {y : β} (h : sb x f = .inr y) : ∃ a, x = .inr a ∧ f a = .inr y := by
  cases x with
  | inl e => cases h
  | inr a => exact ⟨a, rfl, h⟩
theorem lawR_ok {b : Nat → Nat} {n : Nat} {v : Nat × Nat × Nat} (h : lawR b n = .inr v) : (1 ≤ v.1 ∧ v.1 ≤ 30) ∧ (1 ≤ v.2.1 ∧ v.2.1 ≤ 30) ∧ v.2.2 ≤ n := by
  unfold lawR at h
  obtain ⟨j1, -, h⟩ := sb_ok h
  obtain ⟨x, h1, h⟩ := sb_ok h
  obtain ⟨j2, -, h⟩ := sb_ok h
  obtain ⟨y, h2, h⟩ := sb_ok h
  obtain ⟨j3, h3, h⟩ := sb_ok h
  cases h
  have a := nuR_ok h1
  have c := nuR_ok h2
  exact ⟨⟨a.2.1, a.2.2.1⟩, ⟨c.2.1, c.2.2.1⟩, (paR_ok h3).2.2⟩
theorem stR_ok {b : Nat → Nat} {n : Nat} : ∀ {u j : Nat} {ys : List Nat} {v : Nat × List Nat}, stR b n u j ys = .inr v → 7 ≤ u + ys.length → ys.length ≤ 6 → j ≤ n → (∀ y ∈ ys, y ≤ 99) → (1 ≤ v.2.length ∧ v.2.length ≤ 6) ∧ v.1 ≤ n ∧ ∀ y ∈ v.2, y ≤ 99
  | 0, j, ys, v, h, h1, h2, hj, hy => by omega
  | u + 1, j, ys, v, h, h1, h2, hj, hy => by
    unfold stR at h
    by_cases c : ys.length ≠ 0 ∧ ¬ ch b n j = some 115
    · rw [if_pos c] at h
      cases h
      exact ⟨⟨by have := c.1; simp only; omega, h2⟩, hj, hy⟩
    · rw [if_neg c] at h
      by_cases c2 : ys.length = 6
      · rw [if_pos c2] at h; cases h
      · rw [if_neg c2] at h
        obtain ⟨j1, -, h⟩ := sb_ok h
        obtain ⟨x, hx, h⟩ := sb_ok h
        obtain ⟨j3, h3, h⟩ := sb_ok h
        refine stR_ok h (by simp; omega) (by simp; omega) (paR_ok h3).2.2 (fun y hy' => ?_)
        rcases List.mem_append.mp hy' with z | z
        · exact hy y z
        · rw [List.mem_singleton.mp z]; exact (nuR_ok hx).2.2.1
theorem kdO_le (x : Option Nat) : kdO x ≤ 5 := by
  unfold kdO
  repeat' split
  all_goals omega
def okW (q : Nat × Nat × Nat) : Prop := (1 ≤ q.1 ∧ q.1 ≤ 5) ∧ q.2.1 ≤ 60 ∧ q.2.2 ≤ 99
theorem wiR_ok {b : Nat → Nat} {n : Nat} : ∀ {u j : Nat} {ks v : List (Nat × Nat × Nat)}, wiR b n u j ks = .inr v → 7 ≤ u + ks.length → ks.length ≤ 6 → (∀ q ∈ ks, okW q) → (1 ≤ v.length ∧ v.length ≤ 6) ∧ ∀ q ∈ v, okW q
  | 0, j, ks, v, h, h1, h2, hy => by omega
  | u + 1, j, ks, v, h, h1, h2, hy => by
    unfold wiR at h
    by_cases c : ks.length ≠ 0 ∧ n ≤ j
    · rw [if_pos c] at h
      cases h
      exact ⟨⟨by have := c.1; omega, h2⟩, hy⟩
    · rw [if_neg c] at h
      by_cases c1 : kdO (ch b n j) = 0
      · rw [if_pos c1] at h; cases h
      · rw [if_neg c1] at h
        by_cases c2 : ks.length = 6
        · rw [if_pos c2] at h; cases h
        · rw [if_neg c2] at h
          obtain ⟨x, hx, h⟩ := sb_ok h
          refine wiR_ok h (by simp; omega) (by simp; omega) (fun q hq => ?_)
          rcases List.mem_append.mp hq with z | z
          · exact hy q z
          · rw [List.mem_singleton.mp z]
            unfold lfR at hx
            obtain ⟨a, ha, hx⟩ := sb_ok hx
            obtain ⟨j2, -, hx⟩ := sb_ok hx
            obtain ⟨e, he, hx⟩ := sb_ok hx
            obtain ⟨j4, -, hx⟩ := sb_ok hx
            cases hx
            exact ⟨⟨by show 1 ≤ kdO (ch b n j); omega, kdO_le _⟩, (nuR_ok ha).2.2.1, (nuR_ok he).2.2.1⟩
/-! the trial, as far as it is read -/
def TP (σ : zSo) (l d : Nat) (ys : List Nat) (ks : List (Nat × Nat × Nat)) : Prop := (σ 29 1 = nI l ∧ σ 29 2 = nI d ∧ σ 29 3 = 0 ∧ σ 29 4 = nI ys.length ∧ σ 29 5 = nI ks.length) ∧ (∀ s y, ys[s]? = some y → σ 30 s = nI y) ∧ (∀ w q, ks[w]? = some q → σ 31 w = nI q.1 ∧ σ 32 w = nI q.2.1 ∧ σ 33 w = nI q.2.2) ∧ (∀ j, j < 6 → σ 34 j = 0) ∧ (∀ j, j < 36 → σ 36 j = 0)
theorem TP.tp {σ σ' : zSo} {l d : Nat} {ys : List Nat} {ks : List (Nat × Nat × Nat)} (h : TP σ l d ys ks) (hF : zFr [18] σ σ') : TP σ' l d ys ks := by
  unfold TP
  rw [hF 29 (by decide), hF 30 (by decide), hF 31 (by decide), hF 32 (by decide), hF 33 (by decide), hF 34 (by decide), hF 36 (by decide)]
  exact h
theorem CS.up {σ0 σ : zSo} {j a i : Nat} {v : Int32} (h : CS σ0 σ j) (ha : a ∈ tC) : CS σ0 (zup σ a i v) j := by
  have hn : 18 ≠ a := by
    intro e
    subst e
    revert ha
    decide
  refine ⟨h.1.up (List.mem_cons_of_mem _ ha), ?_, fun k hk => ?_⟩
  · rw [zup_o _ _ _ hn]; exact h.2.1
  · rw [zup_o _ _ _ hn]; exact h.2.2 k hk
theorem sn_get {α : Type} {l : List α} {b c : α} {j : Nat} (h : (l ++ [b])[j]? = some c) : (j < l.length ∧ l[j]? = some c) ∨ (j = l.length ∧ c = b) := by
  rw [List.getElem?_append] at h
  by_cases e : j < l.length
  · rw [if_pos e] at h; exact Or.inl ⟨e, h⟩
  · rw [if_neg e] at h
    cases h0 : j - l.length with
    | zero =>
      rw [h0] at h
      simp at h
      exact Or.inr ⟨by omega, h.symm⟩
    | succ m => rw [h0] at h; simp at h
theorem TP.addS {σ : zSo} {l d y : Nat} {ys : List Nat} {ks : List (Nat × Nat × Nat)} {x z : Int32} (h : TP σ l d ys ks) (hx : x = nI y) (hz : z = nI (ys.length + 1)) : TP (zup (zup σ 30 ys.length x) 29 4 z) l d (ys ++ [y]) ks := by
  obtain ⟨⟨a1, a2, a3, a4, a5⟩, b1, c1, e1, f1⟩ := h
  refine ⟨⟨a1, a2, a3, ?_, a5⟩, fun s q hs => ?_, c1, e1, f1⟩
  · simp [zup, upd, hz]
  · show upd (σ 30) ys.length x s = _
    simp only [upd]
    rcases sn_get hs with ⟨g1, g2⟩ | ⟨g1, g2⟩
    · rw [if_neg (by omega)]; exact b1 s q g2
    · rw [if_pos g1, g2, hx]
