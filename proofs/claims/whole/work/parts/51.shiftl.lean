/-! how far bribes can shift: lists -/
def LX (X : Nat) (L : List (Nat × Nat)) : List (Nat × Nat) := L.map (fun q => if X.testBit q.1 then (q.1, 99) else q)
def cX (X : Nat) (L : List (Nat × Nat)) (v : Nat) : Nat := L.countP (fun q => X.testBit q.1 && decide (q.2 < v))
def Bv (p : paT) (L : List (Nat × Nat)) (v : Nat) : Nat := L.countP (fun q => decide (pk p q.1 = 2) && decide (q.2 < v))
theorem LX_len (X : Nat) (L : List (Nat × Nat)) : (LX X L).length = L.length := by unfold LX; rw [List.length_map]
theorem LX_get (X : Nat) (L : List (Nat × Nat)) (i : Nat) : (LX X L)[i]? = (L[i]?).map (fun q => if X.testBit q.1 then (q.1, 99) else q) := by unfold LX; rw [List.getElem?_map]
theorem LX_lts (X v : Nat) (hv : v ≤ 99) : ∀ L, lts (LX X L) v + cX X L v = lts L v
  | [] => rfl
  | q :: t => by
    have ih := LX_lts X v hv t
    unfold lts cX LX at *
    rw [List.map_cons, List.countP_cons, List.countP_cons, List.countP_cons]
    by_cases h : X.testBit q.1
    · have : ¬ 99 < v := by omega
      simp only [h, if_true, this, decide_false, Bool.true_and]
      by_cases h2 : q.2 < v <;> simp [h2, -List.countP_map] <;> omega
    · simp only [h, Bool.false_and]
      by_cases h2 : q.2 < v <;> simp [h2, -List.countP_map] <;> omega
theorem LX_99 {X : Nat} {L : List (Nat × Nat)} (h : ∀ q ∈ L, q.2 ≤ 99) : ∀ q ∈ LX X L, q.2 ≤ 99 := by
  intro q hq
  unfold LX at hq
  obtain ⟨a, ha, e⟩ := List.mem_map.mp hq
  rw [← e]
  split
  · exact Nat.le_refl _
  · exact h a ha
theorem vK_cp (p : paT) (s : Nat) (P : Nat × Nat → Bool) : ∀ k, (vK p s k).countP P = cn (fun w => (sayO p w s).any (fun y => P (w, y))) k
  | 0 => rfl
  | k + 1 => by
    have ih := vK_cp p s P k
    cases hs : sayO p k s with
    | none => rw [vK_n hs, cn, ih]; simp [hs]
    | some z => rw [vK_s hs, cn, List.countP_append, ih]; simp [hs, List.countP_cons]
theorem cn_mono {f g : Nat → Bool} : ∀ {n : Nat}, (∀ k, k < n → f k = true → g k = true) → cn f n ≤ cn g n
  | 0, _ => Nat.le_refl _
  | n + 1, h => by
    have ih := cn_mono (f := f) (g := g) (n := n) (fun k hk => h k (by omega))
    have hn := h n (by omega)
    rw [cn, cn]
    cases e : f n <;> cases e2 : g n <;> simp_all <;> omega
theorem cn_up (f : Nat → Bool) {n m : Nat} (h : n ≤ m) : cn f n ≤ cn f m := by
  induction h with
  | refl => exact Nat.le_refl _
  | step _ ih => rw [cn]; omega
theorem cX_bits {p : paT} {s Y X v : Nat} (hW : paW p Y) : cX X (vL p s) v ≤ pc6 X := by
  unfold cX vL pc6
  rw [vK_cp]
  refine Nat.le_trans (cn_mono (g := fun j => X.testBit j) (fun k _ h => ?_)) (cn_up _ hW.2.2.2.2.1)
  cases e : sayO p k s with
  | none => rw [e] at h; cases h
  | some y =>
    rw [e] at h
    simp at h
    exact h.1
theorem cX_B {p : paT} {X v : Nat} {L : List (Nat × Nat)} (h : ∀ q ∈ L, X.testBit q.1 = true → pk p q.1 = 2) : cX X L v ≤ Bv p L v := by
  unfold cX Bv
  apply List.countP_mono_left
  intro q hq e
  simp only [Bool.and_eq_true, decide_eq_true_eq] at *
  exact ⟨h q hq e.1, e.2⟩
theorem cX_Be {p : paT} {X v : Nat} {L : List (Nat × Nat)} (h : ∀ q ∈ L, X.testBit q.1 = true → pk p q.1 = 2) (h2 : ∀ q ∈ L, pk p q.1 = 2 → q.2 < v → X.testBit q.1 = true) : cX X L v = Bv p L v := by
  unfold cX Bv
  apply List.countP_congr
  intro q hq
  simp only [Bool.and_eq_true, decide_eq_true_eq]
  exact ⟨fun e => ⟨h q hq e.1, e.2⟩, fun e => ⟨h2 q hq e.1 e.2, e.2⟩⟩
theorem whO_ne {L : List (Nat × Nat)} (h : whO L) {q : Nat × Nat} (hq : q ∈ L) : ∃ a b, L = a ++ q :: b ∧ (∀ x ∈ a, x.1 ≠ q.1) ∧ ∀ x ∈ b, x.1 ≠ q.1 := by
  have hp : L.Pairwise (fun a b => a.1 < b.1) := by
    rw [List.pairwise_iff_getElem]
    intro i j hi hj hij
    exact h i j _ _ hij (List.getElem?_eq_getElem hi) (List.getElem?_eq_getElem hj)
  obtain ⟨a, b, e⟩ := List.append_of_mem hq
  subst e
  rw [List.pairwise_append, List.pairwise_cons] at hp
  refine ⟨a, b, rfl, fun x hx => ?_, fun x hx => ?_⟩
  · have := hp.2.2 x hx q List.mem_cons_self
    omega
  · have := hp.2.1.1 x hx
    omega
theorem cp_add {L : List (Nat × Nat)} (h : whO L) {q : Nat × Nat} (hq : q ∈ L) {P P' : Nat × Nat → Bool} (h1 : P q = false) (h2 : P' q = true) (h3 : ∀ x ∈ L, x.1 ≠ q.1 → P' x = P x) : L.countP P' = L.countP P + 1 := by
  obtain ⟨a, b, e, ha, hb⟩ := whO_ne h hq
  subst e
  rw [List.countP_append, List.countP_append, List.countP_cons, List.countP_cons, h1, h2]
  have e1 : a.countP P' = a.countP P := List.countP_congr (fun x hx => by rw [h3 x (List.mem_append_left _ hx) (ha x hx)])
  have e2 : b.countP P' = b.countP P := List.countP_congr (fun x hx => by rw [h3 x (List.mem_append_right _ (List.mem_cons_of_mem _ hx)) (hb x hx)])
  rw [e1, e2]
  simp
  omega
theorem cp_lt {L : List (Nat × Nat)} {q : Nat × Nat} (hq : q ∈ L) {P P' : Nat × Nat → Bool} (h1 : P q = false) (h2 : P' q = true) (h3 : ∀ x ∈ L, P x = true → P' x = true) : L.countP P < L.countP P' := by
  obtain ⟨a, b, e⟩ := List.append_of_mem hq
  subst e
  rw [List.countP_append, List.countP_append, List.countP_cons, List.countP_cons, h1, h2]
  have e1 : a.countP P ≤ a.countP P' := List.countP_mono_left (fun x hx => h3 x (List.mem_append_left _ hx))
  have e2 : b.countP P ≤ b.countP P' := List.countP_mono_left (fun x hx => h3 x (List.mem_append_right _ (List.mem_cons_of_mem _ hx)))
  simp
  omega
theorem bit_or (X w j : Nat) : (X ||| 2 ^ w).testBit j = (X.testBit j || decide (j = w)) := by
  rw [Nat.testBit_or, Nat.testBit_two_pow]
  congr 1
  simp only [eq_comm]
/-! what one more bribe does -/
def vv (G : Nat) (q : Nat × Nat) : Nat := if G.testBit q.1 then 99 else q.2
def Grd (p : paT) (L : List (Nat × Nat)) (j G : Nat) : Prop := G < 64 ∧ pc6 G ≤ j ∧ (∀ w, G.testBit w = true → pk p w = 2 ∧ ∃ q ∈ L, q.1 = w) ∧ ∀ v, v ≤ 99 → cX G L v = min j (Bv p L v)
theorem pc6_or : ∀ x, x < 64 → ∀ w, w < 6 → x ||| 2 ^ w < 64 ∧ pc6 (x ||| 2 ^ w) ≤ pc6 x + 1 := by decide +kernel
theorem Grd.none {p : paT} {L : List (Nat × Nat)} {j G : Nat} (h : Grd p L j G) (hn : ∀ q ∈ L, pk p q.1 ≠ 2) : Grd p L (j + 1) G := by
  obtain ⟨h1, h2, h3, h4⟩ := h
  refine ⟨h1, by omega, h3, fun v hv => ?_⟩
  have : Bv p L v = 0 := by
    unfold Bv
    rw [List.countP_eq_zero]
    intro q hq e
    simp at e
    exact hn q hq e.1
  rw [h4 v hv, this]
  simp
theorem Grd.one {p : paT} {L : List (Nat × Nat)} {j G i : Nat} {q : Nat × Nat} (h : Grd p L j G) (hO : whO L) (h6 : ∀ q ∈ L, q.1 < 6 ∧ q.2 ≤ 99) (hi : L[i]? = some q) (hb : pk p q.1 = 2) (hm : ∀ a ∈ L, pk p a.1 = 2 → vv G q ≤ vv G a) : Grd p L (j + 1) (G ||| 2 ^ q.1) := by
  have hq := List.mem_of_getElem? hi
  unfold vv at hm
  obtain ⟨h1, h2, h3, h4⟩ := h
  have h5 := pc6_or G h1 q.1 (h6 q hq).1
  have hGb : ∀ a ∈ L, G.testBit a.1 = true → pk p a.1 = 2 := fun a _ e => (h3 a.1 e).1
  have hGb' : ∀ a ∈ L, (G ||| 2 ^ q.1).testBit a.1 = true → pk p a.1 = 2 := fun a _ e => by
    rw [bit_or] at e
    rcases (Bool.or_eq_true_iff.mp e) with e | e
    · exact (h3 a.1 e).1
    · rw [of_decide_eq_true e]; exact hb
  refine ⟨h5.1, by omega, fun w hw => ?_, fun v hv => ?_⟩
  · rw [bit_or] at hw
    rcases (Bool.or_eq_true_iff.mp hw) with e | e
    · exact h3 w e
    · rw [of_decide_eq_true e]; exact ⟨hb, q, hq, rfl⟩
  · have h4v := h4 v hv
    by_cases hG : G.testBit q.1 = true
    · have e : ∀ w, (G ||| 2 ^ q.1).testBit w = G.testBit w := by
        intro w
        rw [bit_or]
        by_cases c : w = q.1
        · rw [c, hG]; rfl
        · simp [c]
      have e2 : cX (G ||| 2 ^ q.1) L v = cX G L v := by unfold cX; simp only [e]
      have e3 : cX G L v = Bv p L v := cX_Be hGb (fun a ha ka va => by
        have := hm a ha ka
        rw [if_pos hG] at this
        split at this
        · assumption
        · omega)
      rw [e2]
      omega
    · rw [if_neg hG] at hm
      by_cases c : q.2 < v
      · have e1 : cX (G ||| 2 ^ q.1) L v = cX G L v + 1 := cp_add hO hq (by simp [hG]) (by simp [c, bit_or]) (fun x hx hn => by rw [bit_or]; simp [hn])
        have e2 : cX G L v < Bv p L v := cp_lt hq (by simp [hG]) (by simp [c, hb]) (fun x hx hP => by
          simp only [Bool.and_eq_true, decide_eq_true_eq] at *
          exact ⟨hGb x hx hP.1, hP.2⟩)
        omega
      · have e1 : cX (G ||| 2 ^ q.1) L v = Bv p L v := cX_Be hGb' (fun a ha ka va => by
          have := hm a ha ka
          rw [bit_or]
          split at this
          · rename_i hh
            rw [hh]; rfl
          · omega)
        have e2 : cX G L v = Bv p L v := cX_Be hGb (fun a ha ka va => by
          have := hm a ha ka
          split at this
          · assumption
          · omega)
        omega
/-! the middle -/
def isM (L : List (Nat × Nat)) (v : Nat) : Prop := lts L v ≤ L.length / 2 ∧ L.length / 2 < lts L (v + 1)
theorem isM_le {L : List (Nat × Nat)} {v : Nat} (h99 : ∀ q ∈ L, q.2 ≤ 99) (h : isM L v) : v ≤ 99 := by
  rcases Nat.lt_or_ge v 100 with c | c
  · omega
  · have := lts_all (L := L) (N := v) (fun q hq => by have := h99 q hq; omega)
    have := lts_len L (v + 1)
    have h1 := h.1
    have h2 := h.2
    omega
theorem isM_mono {L1 L2 : List (Nat × Nat)} {a b : Nat} (hl : L1.length = L2.length) (h99 : ∀ q ∈ L2, q.2 ≤ 99) (h : ∀ v, v ≤ 99 → lts L1 v ≤ lts L2 v) (h1 : isM L1 a) (h2 : isM L2 b) : b ≤ a := by
  have b9 := isM_le h99 h2
  rcases Nat.lt_or_ge a b with c | c
  · have e1 := h (a + 1) (by omega)
    have e2 := lts_mono L2 (show a + 1 ≤ b by omega)
    have e3 := h1.2
    have e4 := h2.1
    rw [hl] at e3
    omega
  · exact c
def Val (p : paT) (k X : Nat) : Prop := pc6 X ≤ k ∧ ∀ w, w < pw p → X.testBit w = true → pk p w = 2
theorem Grd.best {p : paT} {s k G X a b Y : Nat} (hW : paW p Y) (hs : s < ps p) (hG : Grd p (vL p s) k G) (hX : Val p k X) (ha : isM (LX G (vL p s)) a) (hb : isM (LX X (vL p s)) b) : b ≤ a := by
  refine isM_mono (by rw [LX_len, LX_len]) (LX_99 (vL_99 hW hs)) (fun v hv => ?_) ha hb
  have e1 := LX_lts G v hv (vL p s)
  have e2 := LX_lts X v hv (vL p s)
  have e3 := hG.2.2.2 v hv
  have e4 := cX_bits (s := s) (X := X) (v := v) hW
  have e5 : cX X (vL p s) v ≤ Bv p (vL p s) v := cX_B (fun q hq e => hX.2 q.1 (vK_mem hq).1 e)
  have := hX.1
  omega
theorem LX_ge {p : paT} {s X a b Y : Nat} (hW : paW p Y) (hs : s < ps p) (ha : isM (LX X (vL p s)) a) (hb : isM (vL p s) b) : b ≤ a := by
  refine isM_mono (by rw [LX_len]) (vL_99 hW hs) (fun v hv => ?_) ha hb
  have e1 := LX_lts X v hv (vL p s)
  omega
