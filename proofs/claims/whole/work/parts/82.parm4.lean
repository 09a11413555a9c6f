/-! the text of a parish: the reference's steps, with or without a fault -/
theorem XS_o {b : Nat → Nat} {n : Nat} {σ τ : zSo} {X : Sum (Nat × Nat) Nat} (h : XS b n σ X τ) {k : Nat} (hk : k ≠ 70) : τ k = σ k := by
  cases X with
  | inl e => obtain ⟨_, c, s, t, v, rfl⟩ := h; exact mk_o hk
  | inr j => obtain ⟨_, c, t, v, a, _, rfl⟩ := h; exact mk_o hk
theorem XS_0 {b : Nat → Nat} {n j : Nat} {σ τ : zSo} (h : XS b n σ (.inr j) τ) : τ 70 16 = 0 := by
  obtain ⟨_, c, t, v, a, _, rfl⟩ := h; rfl
theorem XS_e {b : Nat → Nat} {n : Nat} {e : Nat × Nat} {σ τ : zSo} (h : XS b n σ (.inl e) τ) : ¬ τ 70 16 = 0 := by
  obtain ⟨he, c, s, t, v, rfl⟩ := h; exact nI_f he
theorem XS.fr {b : Nat → Nat} {n : Nat} {σ τ : zSo} {X : Sum (Nat × Nat) Nat} (h : XS b n σ X τ) (i : Nat) (x : Int32) : XS b n (zup σ 75 i x) X (zup τ 75 i x) := by
  cases X with
  | inl e =>
    obtain ⟨he, c, s, t, v, rfl⟩ := h
    exact ⟨he, c, s, t, v, mk_zo (by decide)⟩
  | inr j =>
    obtain ⟨hj, c, t, v, a, hk, rfl⟩ := h
    exact ⟨hj, c, t, v, a, hk, mk_zo (by decide)⟩
theorem TMm.fr {b : Nat → Nat} {n : Nat} {σ σ' : zSo} (h : TMm σ b n) (hF : zFr [75] σ σ') : TMm σ' b n := by
  unfold TMm
  rw [hF 70 (by decide), hF 78 (by decide)]
  exact h
theorem numR_c {b : Nat → Nat} {n lo hi j c : Nat} (h : numR b n lo hi j = .inl c) : 1 ≤ c ∧ c ≤ 3 := by
  rcases numR_f h with e | e <;> omega
def nuX (b : Nat → Nat) (n lo hi : Nat) (X : Sum (Nat × Nat) Nat) : Sum (Nat × Nat) Nat := sb X fun j => sb (nuR b n lo hi j) fun v => .inr v.2
theorem mo_num {d n lo hi : Nat} {b : Nat → Nat} {σ τ : zSo} {Q : Option Value → zSo → Prop} {X : Sum (Nat × Nat) Nat} (hT : TMm σ b n) (hlh : lo ≤ hi) (hhi : hi < 1000) (hX : XS b n σ X τ)
    (hQ : ∀ τ' x, XS b n σ (nuX b n lo hi X) τ' → x ≤ hi → (∀ j v, X = .inr j → nuR b n lo hi j = .inr v → x = v.1) → Q (some (.int (nI x))) τ') : zC (d + 4) 119 [.ref 70, .int (nI lo), .int (nI hi)] τ Q := by
  refine mo_number hT (by omega) hhi hX (fun j v j' e1 e2 τ' h => ?_) (fun e he τ' h => ?_)
  · subst e1
    have hb := numR_pos e2
    refine hQ τ' v ?_ hb.2.1 (fun j2 v2 e3 e4 => ?_)
    · have : nuX b n lo hi (.inr j) = .inr j' := by
        show sb (nuR b n lo hi j) _ = _
        rw [sb_nu e2]
      rw [this]; exact h
    · cases e3
      have := (nuR_ok e4).1
      rw [e2] at this
      cases this; rfl
  · refine hQ τ' lo ?_ hlh (fun j2 v2 e3 e4 => ?_)
    · have : nuX b n lo hi X = .inl e := by
        rcases he with rfl | ⟨j, c, rfl, e2, rfl⟩
        · rfl
        · show sb (nuR b n lo hi j) _ = _
          rw [sb_nf e2]
      rw [this]; exact h
    · exfalso
      rcases he with rfl | ⟨j, c, rfl, e2, rfl⟩
      · cases e3
      · cases e3
        have := (nuR_ok e4).1
        rw [e2] at this; cases this
/-- one letter on -/
theorem mo_must {d n x : Nat} {b : Nat → Nat} {σ τ : zSo} {Q : Option Value → zSo → Prop} {X : Sum (Nat × Nat) Nat} {y : Int32} (hT : TMm σ b n) (hx : 97 ≤ x ∧ x ≤ 122) (hX : XS b n σ X τ) (h1 : ∀ j, X = .inr j → ch b n j = some x → y = 1) (h0 : ∀ j, X = .inr j → ¬ ch b n j = some x → y = 0) (hQ : ∀ τ', XS b n σ (sb X (paR b n x)) τ' → Q none τ') : zC (d + 4) 117 [.ref 70, .int y] τ Q := by
  have hb : ∀ i, i < n → b i < 256 := fun i hi => (hT.2.2 i hi).2
  cases X with
  | inl e =>
    obtain ⟨he, c, s, t, v, rfl⟩ := id hX
    exact mo_mustx (nI_f he) (hQ _ hX)
  | inr j =>
    obtain ⟨hj, c, t, v, a, hk, rfl⟩ := id hX
    obtain ⟨k1, k2⟩ := TK_let (x := x) hk hb hx
    have hQ' : ∀ τ', XS b n σ (paR b n x j) τ' → Q none τ' := hQ
    by_cases hc : ch b n j = some x
    · rw [h1 j rfl hc]
      refine mo_must1 (d := d + 2) hT (k2 (k1.mpr hc)) (ch_lt hc) (fun c' t' v' hk' => hQ' _ ?_)
      unfold paR
      rw [if_pos hc]
      exact ⟨ch_lt hc, c', t', v', a, hk', rfl⟩
    · rw [h0 j rfl hc]
      refine mo_must0 (d := d + 3) (hQ' _ ?_)
      unfold paR
      rw [if_neg hc]
      exact ⟨⟨by simp, by simp⟩, c, nI j, t, v, rfl⟩
theorem mo_bad {d n k : Nat} {b : Nat → Nat} {σ τ : zSo} {Q : Option Value → zSo → Prop} {X : Sum (Nat × Nat) Nat} (hk : 1 ≤ k ∧ k ≤ 3) (hX : XS b n σ X τ) (hQ : ∀ τ', XS b n σ (sb X fun j => .inl (k, j)) τ' → Q none τ') : zC d 115 [.ref 70, .int (nI k)] τ Q := by
  cases X with
  | inl e =>
    obtain ⟨he, c, s, t, v, rfl⟩ := id hX
    exact mo_badx (nI_f he) (hQ _ hX)
  | inr j =>
    obtain ⟨hj, c, t, v, a, _, rfl⟩ := id hX
    exact mo_bad0 (hQ _ ⟨hk, c, nI j, t, v, rfl⟩)
/-! what is laid in fresh -/
def TQ (σ : zSo) (ys : List Nat) (ks : List (Nat × Nat × Nat)) : Prop := σ 75 2 = nI ys.length ∧ σ 75 3 = nI ks.length ∧ σ 75 4 = 0 ∧ (∀ s y, ys[s]? = some y → σ 75 (5 + s) = nI y) ∧ (∀ w q, ks[w]? = some q → σ 75 (11 + 4 * w) = nI q.1 ∧ σ 75 (11 + 4 * w + 1) = nI q.2.1 ∧ σ 75 (11 + 4 * w + 2) = nI q.2.2) ∧ (∀ w, w < 6 → σ 75 (11 + 4 * w + 3) = 0) ∧ ∀ j, 35 ≤ j → j < 143 → σ 75 j = NO
theorem lt_get {α : Type} {l : List α} {j : Nat} {x : α} (h : l[j]? = some x) : j < l.length := by
  rcases Nat.lt_or_ge j l.length with c | c
  · exact c
  · rw [List.getElem?_eq_none c] at h; cases h
theorem TQ.lo {σ : zSo} {ys : List Nat} {ks : List (Nat × Nat × Nat)} {i : Nat} {x : Int32} (h : TQ σ ys ks) (hi : i < 2) : TQ (zup σ 75 i x) ys ks := by
  have e : ∀ j, 2 ≤ j → zup σ 75 i x 75 j = σ 75 j := fun j hj => by
    rw [zup_k]; simp only [upd]; rw [if_neg (by omega)]
  obtain ⟨h2, h3, h4, h5, h6, h7, h8⟩ := h
  refine ⟨?_, ?_, ?_, fun s y hs => ?_, fun w q hq => ⟨?_, ?_, ?_⟩, fun w hw => ?_, fun j h1 h2 => ?_⟩
  · rw [e _ (by omega)]; exact h2
  · rw [e _ (by omega)]; exact h3
  · rw [e _ (by omega)]; exact h4
  · rw [e _ (by omega)]; exact h5 s y hs
  · rw [e _ (by omega)]; exact (h6 w q hq).1
  · rw [e _ (by omega)]; exact (h6 w q hq).2.1
  · rw [e _ (by omega)]; exact (h6 w q hq).2.2
  · rw [e _ (by omega)]; exact h7 w hw
  · rw [e _ (by omega)]; exact h8 j h1 h2
theorem TQ.addS {σ : zSo} {ys : List Nat} {ks : List (Nat × Nat × Nat)} {y : Nat} {x z : Int32} (h : TQ σ ys ks) (h6 : ys.length < 6) (hx : x = nI y) (hz : z = nI (ys.length + 1)) : TQ (zup (zup σ 75 (5 + ys.length) x) 75 2 z) (ys ++ [y]) ks := by
  have e : ∀ j, j ≠ 2 → j ≠ 5 + ys.length → zup (zup σ 75 (5 + ys.length) x) 75 2 z 75 j = σ 75 j := fun j h1 h2 => by
    rw [zup_k]; simp only [upd]; rw [if_neg h1, zup_k]; simp only [upd]; rw [if_neg h2]
  obtain ⟨g2, g3, g4, g5, g6, g7, g8⟩ := h
  refine ⟨?_, ?_, ?_, fun s q hs => ?_, fun w q hq => ⟨?_, ?_, ?_⟩, fun w hw => ?_, fun j h1 h2 => ?_⟩
  · simp [zup, upd, hz]
  · rw [e _ (by omega) (by omega)]; exact g3
  · rw [e _ (by omega) (by omega)]; exact g4
  · rcases sn_get hs with ⟨c1, c2⟩ | ⟨c1, c2⟩
    · rw [e _ (by omega) (by omega)]; exact g5 s q c2
    · subst c1 c2
      rw [zup_k]; simp only [upd]; rw [if_neg (by omega), zup_k]; simp only [upd, if_true]; exact hx
  · rw [e _ (by omega) (by omega)]; exact (g6 w q hq).1
  · rw [e _ (by omega) (by omega)]; exact (g6 w q hq).2.1
  · rw [e _ (by omega) (by omega)]; exact (g6 w q hq).2.2
  · rw [e _ (by omega) (by omega)]; exact g7 w hw
  · rw [e _ (by omega) (by omega)]; exact g8 j h1 h2
theorem TQ.addW {σ : zSo} {ys : List Nat} {ks : List (Nat × Nat × Nat)} {k a g : Nat} {z : Int32} (h : TQ σ ys ks) (hy : ys.length ≤ 6) (h6 : ks.length < 6) (hz : z = nI (ks.length + 1)) : TQ (zup (zup (zup (zup σ 75 (11 + 4 * ks.length) (nI k)) 75 (11 + 4 * ks.length + 1) (nI a)) 75 (11 + 4 * ks.length + 2) (nI g)) 75 3 z) ys (ks ++ [(k, a, g)]) := by
  have e : ∀ j, j ≠ 3 → j ≠ 11 + 4 * ks.length → j ≠ 11 + 4 * ks.length + 1 → j ≠ 11 + 4 * ks.length + 2 → zup (zup (zup (zup σ 75 (11 + 4 * ks.length) (nI k)) 75 (11 + 4 * ks.length + 1) (nI a)) 75 (11 + 4 * ks.length + 2) (nI g)) 75 3 z 75 j = σ 75 j := fun j h1 h2 h3 h4 => by
    rw [zup_k]; simp only [upd]; rw [if_neg h1, zup_k]; simp only [upd]; rw [if_neg h4, zup_k]; simp only [upd]; rw [if_neg h3, zup_k]; simp only [upd]; rw [if_neg h2]
  obtain ⟨g2, g3, g4, g5, g6, g7, g8⟩ := h
  refine ⟨?_, ?_, ?_, fun s q hs => ?_, fun w q hq => ?_, fun w hw => ?_, fun j h1 h2 => ?_⟩
  · rw [e _ (by omega) (by omega) (by omega) (by omega)]; exact g2
  · simp [zup, upd, hz]
  · rw [e _ (by omega) (by omega) (by omega) (by omega)]; exact g4
  · have := lt_get hs
    rw [e _ (by omega) (by omega) (by omega) (by omega)]; exact g5 s q hs
  · rcases sn_get hq with ⟨c1, c2⟩ | ⟨c1, c2⟩
    · rw [e _ (by omega) (by omega) (by omega) (by omega), e _ (by omega) (by omega) (by omega) (by omega), e _ (by omega) (by omega) (by omega) (by omega)]
      exact g6 w q c2
    · subst c1 c2
      refine ⟨?_, ?_, ?_⟩
      · rw [zup_k]; simp only [upd]; rw [if_neg (by omega), zup_k]; simp only [upd]; rw [if_neg (by omega), zup_k]; simp only [upd]; rw [if_neg (by omega), zup_k]; simp only [upd, if_true]
      · rw [zup_k]; simp only [upd]; rw [if_neg (by omega), zup_k]; simp only [upd]; rw [if_neg (by omega), zup_k]; simp only [upd, if_true]
      · rw [zup_k]; simp only [upd]; rw [if_neg (by omega), zup_k]; simp only [upd, if_true]
  · rw [e _ (by omega) (by omega) (by omega) (by omega)]; exact g7 w hw
  · rw [e _ (by omega) (by omega) (by omega) (by omega)]; exact g8 j h1 h2
