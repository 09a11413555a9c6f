/-! the text of a parish: what the reference asks of tokens -/
def XS (b : Nat → Nat) (n : Nat) (σ : zSo) (X : Sum (Nat × Nat) Nat) (τ : zSo) : Prop := match X with
  | .inr j => j ≤ n ∧ ∃ c t v a, TK b n j c t v ∧ τ = mk σ c (nI j) t v 0 a
  | .inl e => (1 ≤ e.1 ∧ e.1 ≤ 3) ∧ ∃ c s t v, τ = mk σ c s t v (nI e.1) (nI e.2)
theorem TK_let {b : Nat → Nat} {n j x : Nat} {c t v : Int32} (h : TK b n j c t v) (hb : ∀ i, i < n → b i < 256) (hx : 97 ≤ x ∧ x ≤ 122) : ((t = 2 ∧ v = nI x) ↔ ch b n j = some x) ∧ (t = 2 ∧ v = nI x → c = nI (j + 1)) := by
  rw [ch_s]
  rcases h with ⟨h1, h2⟩ | ⟨h1, h2, h3, h4, h5⟩ | ⟨h1, h2, h3, h4, h5⟩ | ⟨h1, h2, h3, h4, h5⟩ | ⟨h1, h2, h3, h4, h5, h6⟩ | ⟨h1, h2, h3, h4⟩ | ⟨h1, h2, h3, h4, h5⟩
  · subst h2
    exact ⟨⟨fun z => by have := z.1; exact absurd this (by decide), fun z => by omega⟩, fun z => absurd z.1 (by decide)⟩
  · subst h3 h4
    refine ⟨⟨fun z => ⟨h1, ?_⟩, fun z => ⟨rfl, by rw [z.2]⟩⟩, fun _ => h5⟩
    have := hb j h1
    exact (nI_eq (by omega) (by omega)).mp z.2
  · subst h3
    exact ⟨⟨fun z => absurd z.1 (by decide), fun z => by omega⟩, fun z => absurd z.1 (by decide)⟩
  · subst h3
    have := isd_t.mp h1
    exact ⟨⟨fun z => absurd z.1 (by decide), fun z => by omega⟩, fun z => absurd z.1 (by decide)⟩
  · subst h4
    have := isd_t.mp h1
    exact ⟨⟨fun z => absurd z.1 (by decide), fun z => by omega⟩, fun z => absurd z.1 (by decide)⟩
  · subst h4
    have := isd_t.mp h1
    exact ⟨⟨fun z => absurd z.1 (by decide), fun z => by omega⟩, fun z => absurd z.1 (by decide)⟩
  · subst h5
    exact ⟨⟨fun z => absurd z.1 (by decide), fun z => by omega⟩, fun z => absurd z.1 (by decide)⟩
theorem TK_sig {b : Nat → Nat} {n j x : Nat} {c t v : Int32} (h : TK b n j c t v) (hb : ∀ i, i < n → b i < 256) (hx : x = 44 ∨ x = 59) : ((t = 4 ∧ v = nI x) ↔ ch b n j = some x) ∧ (t = 4 ∧ v = nI x → c = nI (j + 1)) := by
  rw [ch_s]
  rcases h with ⟨h1, h2⟩ | ⟨h1, h2, h3, h4, h5⟩ | ⟨h1, h2, h3, h4, h5⟩ | ⟨h1, h2, h3, h4, h5⟩ | ⟨h1, h2, h3, h4, h5, h6⟩ | ⟨h1, h2, h3, h4⟩ | ⟨h1, h2, h3, h4, h5⟩
  · subst h2
    exact ⟨⟨fun z => by have := z.1; exact absurd this (by decide), fun z => by omega⟩, fun z => absurd z.1 (by decide)⟩
  · subst h3
    exact ⟨⟨fun z => absurd z.1 (by decide), fun z => by omega⟩, fun z => absurd z.1 (by decide)⟩
  · subst h3 h4
    refine ⟨⟨fun z => ⟨h1, ?_⟩, fun z => ⟨rfl, by rw [z.2]⟩⟩, fun _ => h5⟩
    have := hb j h1
    exact (nI_eq (by omega) (by omega)).mp z.2
  · subst h3
    have := isd_t.mp h1
    exact ⟨⟨fun z => absurd z.1 (by decide), fun z => by omega⟩, fun z => absurd z.1 (by decide)⟩
  · subst h4
    have := isd_t.mp h1
    exact ⟨⟨fun z => absurd z.1 (by decide), fun z => by omega⟩, fun z => absurd z.1 (by decide)⟩
  · subst h4
    have := isd_t.mp h1
    exact ⟨⟨fun z => absurd z.1 (by decide), fun z => by omega⟩, fun z => absurd z.1 (by decide)⟩
  · subst h5
    exact ⟨⟨fun z => absurd z.1 (by decide), fun z => by omega⟩, fun z => absurd z.1 (by decide)⟩
theorem TK_num {b : Nat → Nat} {n j lo hi : Nat} {c t v : Int32} (h : TK b n j c t v) : (t = 3 ∧ ∃ x m, v = nI x ∧ c = nI (j + m) ∧ x < 1000 ∧ j + m ≤ n ∧ numR b n lo hi j = if x < lo ∨ hi < x then .inl 2 else .inr (x, j + m)) ∨ (¬ t = 3 ∧ numR b n lo hi j = .inl 1) := by
  unfold numR
  rcases h with ⟨h1, h2⟩ | ⟨h1, h2, h3, h4, h5⟩ | ⟨h1, h2, h3, h4, h5⟩ | ⟨h1, h2, h3, h4, h5⟩ | ⟨h1, h2, h3, h4, h5, h6⟩ | ⟨h1, h2, h3, h4⟩ | ⟨h1, h2, h3, h4, h5⟩
  · exact Or.inr ⟨by rw [h2]; decide, by rw [if_pos (isd_f.mpr (fun z => by omega))]⟩
  · exact Or.inr ⟨by rw [h3]; decide, by rw [if_pos (isd_f.mpr (fun z => by omega))]⟩
  · exact Or.inr ⟨by rw [h3]; decide, by rw [if_pos (isd_f.mpr (fun z => by omega))]⟩
  · have g := isd_t.mp h1
    exact Or.inl ⟨h3, b j - 48, 1, h4, h5, by omega, by omega, by rw [if_neg (by rw [h1]; decide), if_pos h2]⟩
  · have g := isd_t.mp h1
    have g2 := isd_t.mp h2
    exact Or.inl ⟨h4, _, 2, h5, h6, by omega, by omega, by rw [if_neg (by rw [h1]; decide), if_neg (by rw [h2]; decide), if_neg (by rw [h3]; decide)]⟩
  · exact Or.inr ⟨by rw [h4]; decide, by rw [if_neg (by rw [h1]; decide), if_neg (by rw [h2]; decide), if_pos h3]⟩
  · exact Or.inr ⟨by rw [h5]; decide, by rw [if_pos h4]⟩
theorem TK_end {b : Nat → Nat} {n j : Nat} {c t v : Int32} (h : TK b n j c t v) : t = 1 ↔ n = j := by
  rcases h with ⟨h1, h2⟩ | ⟨h1, h2, h3, h4, h5⟩ | ⟨h1, h2, h3, h4, h5⟩ | ⟨h1, h2, h3, h4, h5⟩ | ⟨h1, h2, h3, h4, h5, h6⟩ | ⟨h1, h2, h3, h4⟩ | ⟨h1, h2, h3, h4, h5⟩
  · exact ⟨fun _ => h1, fun _ => h2⟩
  · exact ⟨fun z => by rw [h3] at z; exact absurd z (by decide), fun z => by omega⟩
  · exact ⟨fun z => by rw [h3] at z; exact absurd z (by decide), fun z => by omega⟩
  · have := isd_t.mp h1
    exact ⟨fun z => by rw [h3] at z; exact absurd z (by decide), fun z => by omega⟩
  · have := isd_t.mp h1
    exact ⟨fun z => by rw [h4] at z; exact absurd z (by decide), fun z => by omega⟩
  · have := isd_t.mp h1
    exact ⟨fun z => by rw [h4] at z; exact absurd z (by decide), fun z => by omega⟩
  · exact ⟨fun z => by rw [h5] at z; exact absurd z (by decide), fun z => by omega⟩
set_option maxHeartbeats 4000000 in
set_option maxRecDepth 100000 in
theorem mo_bad0 {d : Nat} {σ : zSo} {Q : Option Value → zSo → Prop} {c s t v a x : Int32} (hQ : Q none (mk σ c s t v x s)) : zC d 115 [.ref 70, .int x] (mk σ c s t v 0 a) Q := by
  show zA d _ 0 [(0, .ref 70), (1, .int x)] [] _ Q
  repeat refine zA_step rfl rfl ?_
  refine zA_t rfl ?_
  repeat refine zA_step rfl rfl ?_
  simp only [mk_c, mk_s, mk_t, mk_v, mk_f, mk_a, mk_n, mk_l, mk_tp, mk_zc, mk_zs, mk_zt, mk_zv, mk_zf, mk_za]
  refine zA_ret rfl ?_
  exact hQ
set_option maxHeartbeats 4000000 in
set_option maxRecDepth 100000 in
theorem mo_badx {d : Nat} {σ : zSo} {Q : Option Value → zSo → Prop} {c s t v f a x : Int32} (hf : ¬ f = 0) (hQ : Q none (mk σ c s t v f a)) : zC d 115 [.ref 70, .int x] (mk σ c s t v f a) Q := by
  show zA d _ 0 [(0, .ref 70), (1, .int x)] [] _ Q
  repeat refine zA_step rfl rfl ?_
  refine zA_f hf ?_
  exact zA_ret rfl hQ
set_option maxHeartbeats 4000000 in
set_option maxRecDepth 100000 in
theorem mo_must0 {d : Nat} {σ : zSo} {Q : Option Value → zSo → Prop} {c s t v a : Int32} (hQ : Q none (mk σ c s t v 1 s)) : zC (d + 1) 117 [.ref 70, .int 0] (mk σ c s t v 0 a) Q := by
  show zA (d + 1) _ 0 [(0, .ref 70), (1, .int 0)] [] _ Q
  repeat refine zA_step rfl rfl ?_
  refine zA_call rfl rfl (mo_bad0 ?_)
  repeat refine zA_step rfl rfl ?_
  refine zA_f (show ¬ (1 : Int32) = 0 by decide) ?_
  exact zA_ret rfl hQ
set_option maxHeartbeats 4000000 in
set_option maxRecDepth 100000 in
theorem mo_mustx {d : Nat} {σ : zSo} {Q : Option Value → zSo → Prop} {c s t v f a x : Int32} (hf : ¬ f = 0) (hQ : Q none (mk σ c s t v f a)) : zC (d + 1) 117 [.ref 70, .int x] (mk σ c s t v f a) Q := by
  show zA (d + 1) _ 0 [(0, .ref 70), (1, .int x)] [] _ Q
  have go : zA (d + 1) 117 9 [(0, .ref 70), (1, .int x)] [] (mk σ c s t v f a) Q := by
    repeat refine zA_step rfl rfl ?_
    refine zA_f hf ?_
    exact zA_ret rfl hQ
  repeat refine zA_step rfl rfl ?_
  refine zA_c (fun h => ?_) (fun h => ?_)
  · repeat refine zA_step rfl rfl ?_
    refine zA_call rfl rfl (mo_badx hf ?_)
    exact go
  · exact go
set_option maxHeartbeats 4000000 in
set_option maxRecDepth 100000 in
theorem mo_must1 {d n j : Nat} {b : Nat → Nat} {σ : zSo} {Q : Option Value → zSo → Prop} {s t v a c : Int32} (hT : TMm σ b n) (hc : c = nI j) (hj : j ≤ n) (hQ : ∀ c t v, TK b n j c t v → Q none (mk σ c (nI j) t v 0 a)) : zC (d + 2) 117 [.ref 70, .int 1] (mk σ c s t v 0 a) Q := by
  subst hc
  show zA (d + 2) _ 0 [(0, .ref 70), (1, .int 1)] [] _ Q
  repeat refine zA_step rfl rfl ?_
  refine zA_t rfl ?_
  repeat refine zA_step rfl rfl ?_
  refine zA_call rfl rfl (mo_nextToken hT hj (fun c t v h => ?_))
  exact zA_ret rfl (hQ c t v h)
theorem nI_f {k : Nat} (h : 1 ≤ k ∧ k ≤ 3) : ¬ nI k = 0 := by
  rw [show (0 : Int32) = nI 0 from rfl, nI_eq (by omega) (by omega)]
  omega
set_option maxHeartbeats 4000000 in
set_option maxRecDepth 100000 in
theorem mo_mustSign {d n x : Nat} {b : Nat → Nat} {σ τ : zSo} {Q : Option Value → zSo → Prop} {X : Sum (Nat × Nat) Nat} (hT : TMm σ b n) (hx : x = 44 ∨ x = 59) (hX : XS b n σ X τ) (hQ : ∀ τ', XS b n σ (sb X (paR b n x)) τ' → Q none τ') : zC (d + 4) 120 [.ref 70, .int (nI x)] τ Q := by
  have hb : ∀ i, i < n → b i < 256 := fun i hi => (hT.2.2 i hi).2
  show zA (d + 4) _ 0 [(0, .ref 70), (1, .int (nI x))] [] _ Q
  cases X with
  | inl e =>
    obtain ⟨he, c, s, t, v, rfl⟩ := id hX
    have go : ∀ y : Int32, zA (d + 4) 120 22 [(0, .ref 70), (1, .int (nI x))] [.int y, .ref 70] (mk σ c s t v (nI e.1) (nI e.2)) Q := by
      intro y
      refine zA_call rfl rfl (mo_mustx (nI_f he) ?_)
      exact zA_ret rfl (hQ _ hX)
    repeat refine zA_step rfl rfl ?_
    refine zA_c (fun h => ?_) (fun h => ?_)
    · repeat refine zA_step rfl rfl ?_
      refine zA_c (fun h => ?_) (fun h => ?_)
      · refine zA_s0 rfl ?_
        refine zA_s0 rfl ?_
        exact go _
      · refine zA_s0 rfl ?_
        exact go _
    · refine zA_s0 rfl ?_
      exact go _
  | inr j =>
    obtain ⟨hj, c, t, v, a, hk, rfl⟩ := id hX
    obtain ⟨k1, k2⟩ := TK_sig (x := x) hk hb hx
    have hQ' : ∀ τ', XS b n σ (paR b n x j) τ' → Q none τ' := hQ
    have no : ¬ (t = 4 ∧ v = nI x) → zA (d + 4) 120 22 [(0, .ref 70), (1, .int (nI x))] [.int 0, .ref 70] (mk σ c (nI j) t v 0 a) Q := by
      intro h
      refine zA_call rfl rfl (mo_must0 ?_)
      refine zA_ret rfl (hQ' _ ?_)
      unfold paR
      rw [if_neg (fun z => h (k1.mpr z))]
      exact ⟨⟨by simp, by simp⟩, c, nI j, t, v, rfl⟩
    repeat refine zA_step rfl rfl ?_
    refine zA_c (fun h1 => ?_) (fun h1 => ?_)
    · repeat refine zA_step rfl rfl ?_
      refine zA_c (fun h2 => ?_) (fun h2 => ?_)
      · have hc := k1.mp ⟨h1, h2⟩
        repeat refine zA_step rfl rfl ?_
        refine zA_call rfl rfl (mo_must1 hT (k2 ⟨h1, h2⟩) (ch_lt hc) (fun c' t' v' hk' => ?_))
        refine zA_ret rfl (hQ' _ ?_)
        unfold paR
        rw [if_pos hc]
        exact ⟨ch_lt hc, c', t', v', a, hk', rfl⟩
      · refine zA_s0 rfl ?_
        exact no (fun z => h2 z.2)
    · refine zA_s0 rfl ?_
      exact no (fun z => h1 z.1)
set_option maxHeartbeats 4000000 in
set_option maxRecDepth 100000 in
theorem mo_number {d n lo hi : Nat} {b : Nat → Nat} {σ τ : zSo} {Q : Option Value → zSo → Prop} {X : Sum (Nat × Nat) Nat} (hT : TMm σ b n) (hlo : lo < 1000) (hhi : hi < 1000) (hX : XS b n σ X τ)
    (hQ0 : ∀ j v j', X = .inr j → numR b n lo hi j = .inr (v, j') → ∀ τ', XS b n σ (.inr j') τ' → Q (some (.int (nI v))) τ') (hQ1 : ∀ e, (X = .inl e ∨ ∃ j c, X = .inr j ∧ numR b n lo hi j = .inl c ∧ e = (c, j)) → ∀ τ', XS b n σ (.inl e) τ' → Q (some (.int (nI lo))) τ') : zC (d + 4) 119 [.ref 70, .int (nI lo), .int (nI hi)] τ Q := by
  show zA (d + 4) _ 0 [(0, .ref 70), (1, .int (nI lo)), (2, .int (nI hi))] [] _ Q
  have flt : ∀ (e : Nat × Nat) (c s t v : Int32), (1 ≤ e.1 ∧ e.1 ≤ 3) → (X = .inl e ∨ ∃ j c, X = .inr j ∧ numR b n lo hi j = .inl c ∧ e = (c, j)) → zA (d + 4) 119 47 [(0, .ref 70), (1, .int (nI lo)), (2, .int (nI hi))] [] (mk σ c s t v (nI e.1) (nI e.2)) Q := by
    intro e c s t v he hx
    repeat refine zA_step rfl rfl ?_
    refine zA_f (nI_f he) ?_
    repeat refine zA_step rfl rfl ?_
    refine zA_call rfl rfl (mo_mustx (nI_f he) ?_)
    repeat refine zA_step rfl rfl ?_
    exact zA_ret rfl (hQ1 e hx _ ⟨he, c, s, t, v, rfl⟩)
  cases X with
  | inl e =>
    obtain ⟨he, c, s, t, v, rfl⟩ := id hX
    repeat refine zA_step rfl rfl ?_
    refine zA_f (nI_f he) ?_
    repeat refine zA_step rfl rfl ?_
    refine zA_f (nI_f he) ?_
    exact flt e c s t v he (Or.inl rfl)
  | inr j =>
    obtain ⟨hj, c, t, v, a, hk, rfl⟩ := id hX
    repeat refine zA_step rfl rfl ?_
    refine zA_t rfl ?_
    repeat refine zA_step rfl rfl ?_
    rcases TK_num (lo := lo) (hi := hi) hk with ⟨ht, x, m, hv, hc, hx, hjm, hr⟩ | ⟨ht, hr⟩
    · refine zA_t ht ?_
      repeat refine zA_step rfl rfl ?_
      refine zA_t rfl ?_
      repeat refine zA_step rfl rfl ?_
      subst hv
      refine zA_call rfl rfl (mo_inI lo hi (by rw [nu_wide, nu_I (by omega)]) (by rw [nu_wide, nu_I (by omega)]) (fun z1 z2 => ?_) (fun z => ?_))
      · rw [show mk σ c (nI j) t (nI x) 0 a 70 15 = nI x from rfl, nu_I (by omega)] at z1 z2
        rw [if_neg (by omega)] at hr
        repeat refine zA_step rfl rfl ?_
        refine zA_t rfl ?_
        repeat refine zA_step rfl rfl ?_
        refine zA_call rfl rfl (mo_must1 hT hc hjm (fun c' t' v' hk' => ?_))
        repeat refine zA_step rfl rfl ?_
        exact zA_ret rfl (hQ0 j x (j + m) rfl hr _ ⟨hjm, c', t', v', a, hk', rfl⟩)
      · rw [show mk σ c (nI j) t (nI x) 0 a 70 15 = nI x from rfl, nu_I (by omega)] at z
        rw [if_pos (by omega)] at hr
        repeat refine zA_step rfl rfl ?_
        refine zA_call rfl rfl (mo_bad0 ?_)
        exact flt (2, j) c (nI j) t (nI x) ⟨by simp, by simp⟩ (Or.inr ⟨j, 2, rfl, hr, rfl⟩)
    · refine zA_f ht ?_
      repeat refine zA_step rfl rfl ?_
      refine zA_call rfl rfl (mo_bad0 ?_)
      repeat refine zA_step rfl rfl ?_
      refine zA_f (show ¬ (1 : Int32) = 0 by decide) ?_
      exact flt (1, j) c (nI j) t v ⟨by simp, by simp⟩ (Or.inr ⟨j, 1, rfl, hr, rfl⟩)
set_option maxHeartbeats 4000000 in
set_option maxRecDepth 100000 in
theorem mo_isLetter {d n x : Nat} {b : Nat → Nat} {σ τ : zSo} {Q : Option Value → zSo → Prop} {X : Sum (Nat × Nat) Nat} (hT : TMm σ b n) (hx : 97 ≤ x ∧ x ≤ 122) (hX : XS b n σ X τ) (ht : ∀ j, X = .inr j → ch b n j = some x → Q (some (.int 1)) τ) (hf : (∀ j, X = .inr j → ¬ ch b n j = some x) → Q (some (.int 0)) τ) : zC d 118 [.ref 70, .int (nI x)] τ Q := by
  have hb : ∀ i, i < n → b i < 256 := fun i hi => (hT.2.2 i hi).2
  show zA d _ 0 [(0, .ref 70), (1, .int (nI x))] [] _ Q
  cases X with
  | inl e =>
    obtain ⟨he, c, s, t, v, rfl⟩ := id hX
    repeat refine zA_step rfl rfl ?_
    refine zA_f (nI_f he) ?_
    repeat refine zA_step rfl rfl ?_
    exact zA_ret rfl (hf (fun j z => by cases z))
  | inr j =>
    obtain ⟨hj, c, t, v, a, hk, rfl⟩ := id hX
    obtain ⟨k1, k2⟩ := TK_let (x := x) hk hb hx
    repeat refine zA_step rfl rfl ?_
    refine zA_t rfl ?_
    repeat refine zA_step rfl rfl ?_
    refine zA_c (fun h1 => ?_) (fun h1 => ?_)
    · repeat refine zA_step rfl rfl ?_
      refine zA_c (fun h2 => ?_) (fun h2 => ?_)
      · repeat refine zA_step rfl rfl ?_
        exact zA_ret rfl (ht j rfl (k1.mp ⟨h1, h2⟩))
      · repeat refine zA_step rfl rfl ?_
        exact zA_ret rfl (hf (fun j' z hc => by cases z; exact h2 (k1.mpr hc).2))
    · repeat refine zA_step rfl rfl ?_
      exact zA_ret rfl (hf (fun j' z hc => by cases z; exact h1 (k1.mpr hc).1))
def kdI (x : Int32) : Int32 := if x = 104 then 1 else if x = 98 then 2 else if x = 100 then 3 else if x = 116 then 4 else if x = 110 then 5 else NO
set_option maxHeartbeats 4000000 in
set_option maxRecDepth 100000 in
theorem mo_kindBy {d : Nat} {σ : zSo} {Q : Option Value → zSo → Prop} {x : Int32} (hQ : Q (some (.int (kdI x))) σ) : zC d 124 [.int x] σ Q := by
  show zA d _ 0 [(0, .int x)] [] σ Q
  unfold kdI at hQ
  repeat refine zA_step rfl rfl ?_
  refine zA_c (fun h => ?_) (fun h => ?_)
  · rw [if_pos h] at hQ
    repeat refine zA_step rfl rfl ?_
    exact zA_ret rfl hQ
  rw [if_neg h] at hQ
  repeat refine zA_step rfl rfl ?_
  refine zA_c (fun h => ?_) (fun h => ?_)
  · rw [if_pos h] at hQ
    repeat refine zA_step rfl rfl ?_
    exact zA_ret rfl hQ
  rw [if_neg h] at hQ
  repeat refine zA_step rfl rfl ?_
  refine zA_c (fun h => ?_) (fun h => ?_)
  · rw [if_pos h] at hQ
    repeat refine zA_step rfl rfl ?_
    exact zA_ret rfl hQ
  rw [if_neg h] at hQ
  repeat refine zA_step rfl rfl ?_
  refine zA_c (fun h => ?_) (fun h => ?_)
  · rw [if_pos h] at hQ
    repeat refine zA_step rfl rfl ?_
    exact zA_ret rfl hQ
  rw [if_neg h] at hQ
  repeat refine zA_step rfl rfl ?_
  refine zA_c (fun h => ?_) (fun h => ?_)
  · rw [if_pos h] at hQ
    repeat refine zA_step rfl rfl ?_
    exact zA_ret rfl hQ
  rw [if_neg h] at hQ
  repeat refine zA_step rfl rfl ?_
  exact zA_ret rfl hQ
theorem kdI_eq {y : Nat} (hy : y < 256) : kdI (nI y) = if kdO (some y) = 0 then NO else nI (kdO (some y)) := by
  have h : ∀ y, y < 256 → kdI (nI y) = if kdO (some y) = 0 then NO else nI (kdO (some y)) := by decide +kernel
  exact h y hy
theorem kd_let {y : Nat} (h : ¬ kdO (some y) = 0) : 97 ≤ y ∧ y ≤ 122 := by
  unfold kdO at h
  simp only [Option.some.injEq] at h
  by_cases h1 : y = 104
  · omega
  by_cases h2 : y = 98
  · omega
  by_cases h3 : y = 100
  · omega
  by_cases h4 : y = 116
  · omega
  by_cases h5 : y = 110
  · omega
  rw [if_neg h1, if_neg h2, if_neg h3, if_neg h4, if_neg h5] at h
  omega
set_option maxHeartbeats 4000000 in
set_option maxRecDepth 100000 in
theorem mo_isSort {d n : Nat} {b : Nat → Nat} {σ τ : zSo} {Q : Option Value → zSo → Prop} {X : Sum (Nat × Nat) Nat} (hT : TMm σ b n) (hX : XS b n σ X τ) (ht : ∀ j, X = .inr j → ¬ kdO (ch b n j) = 0 → Q (some (.int 1)) τ) (hf : (∀ j, X = .inr j → kdO (ch b n j) = 0) → Q (some (.int 0)) τ) : zC (d + 1) 125 [.ref 70] τ Q := by
  have hb : ∀ i, i < n → b i < 256 := fun i hi => (hT.2.2 i hi).2
  show zA (d + 1) _ 0 [(0, .ref 70)] [] _ Q
  cases X with
  | inl e =>
    obtain ⟨he, c, s, t, v, rfl⟩ := id hX
    repeat refine zA_step rfl rfl ?_
    refine zA_f (nI_f he) ?_
    repeat refine zA_step rfl rfl ?_
    exact zA_ret rfl (hf (fun j z => by cases z))
  | inr j =>
    obtain ⟨hj, c, t, v, a, hk, rfl⟩ := id hX
    -- which letter it is
    have key : (∃ y, ch b n j = some y ∧ y < 256 ∧ t = 2 ∧ v = nI y) ∨ (¬ t = 2 ∧ kdO (ch b n j) = 0) := by
      by_cases h2 : t = 2
      · rcases hk with ⟨h1, h3⟩ | ⟨h1, h2', h3, h4, h5⟩ | ⟨h1, h2', h3, h4, h5⟩ | ⟨h1, h2', h3, h4, h5⟩ | ⟨h1, h2', h3, h4, h5, h6⟩ | ⟨h1, h2', h3, h4⟩ | ⟨h1, h2', h3, h4, h5⟩
        · rw [h2] at h3; exact absurd h3 (by decide)
        · exact Or.inl ⟨b j, ch_s.mpr ⟨h1, rfl⟩, hb j h1, h2, h4⟩
        · rw [h2] at h3; exact absurd h3 (by decide)
        · rw [h2] at h3; exact absurd h3 (by decide)
        · rw [h2] at h4; exact absurd h4 (by decide)
        · rw [h2] at h4; exact absurd h4 (by decide)
        · rw [h2] at h5; exact absurd h5 (by decide)
      · refine Or.inr ⟨h2, ?_⟩
        cases hc : ch b n j with
        | none => rfl
        | some y =>
          by_cases h0 : kdO (some y) = 0
          · exact h0
          · have := (TK_let (x := y) hk hb (kd_let h0)).1.mpr hc
            exact absurd this.1 h2
    repeat refine zA_step rfl rfl ?_
    refine zA_t rfl ?_
    repeat refine zA_step rfl rfl ?_
    rcases key with ⟨y, hc, hy, h2, hv⟩ | ⟨h2, h0⟩
    · refine zA_t h2 ?_
      repeat refine zA_step rfl rfl ?_
      refine zA_call rfl rfl (mo_kindBy ?_)
      rw [show mk σ c (nI j) t v 0 a 70 15 = nI y from hv, kdI_eq hy]
      have hk5 := kdO_le (some y)
      by_cases h0 : kdO (some y) = 0
      · rw [if_pos h0]
        repeat refine zA_step rfl rfl ?_
        exact zA_ret rfl (hf (fun j' z => by cases z; rw [hc]; exact h0))
      · rw [if_neg h0]
        repeat refine zA_step rfl rfl ?_
        refine zA_f (nu_nI_NO (by omega)) ?_
        repeat refine zA_step rfl rfl ?_
        exact zA_ret rfl (ht j rfl (by rw [hc]; exact h0))
    · refine zA_f h2 ?_
      repeat refine zA_step rfl rfl ?_
      exact zA_ret rfl (hf (fun j' z => by cases z; exact h0))
