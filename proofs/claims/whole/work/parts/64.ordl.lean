/-! orders: the numbers -/
theorem sm_cong {f g : Nat → Nat} : ∀ {n : Nat}, (∀ k, k < n → f k = g k) → sm f n = sm g n
  | 0, _ => rfl
  | n + 1, h => by rw [sm, sm, sm_cong (fun k hk => h k (by omega)), h n (by omega)]
theorem sm_pos {f : Nat → Nat} : ∀ {n : Nat}, 0 < sm f n → ∃ k, k < n ∧ 0 < f k
  | 0, h => by simp [sm] at h
  | n + 1, h => by
    rw [sm] at h
    by_cases e : 0 < f n
    · exact ⟨n, by omega, e⟩
    · obtain ⟨k, hk, h2⟩ := sm_pos (f := f) (n := n) (by omega)
      exact ⟨k, by omega, h2⟩
theorem sm_zr {f : Nat → Nat} {n : Nat} (h : sm f n = 0) {k : Nat} (hk : k < n) : f k = 0 := by
  induction n with
  | zero => omega
  | succ n ih =>
    rw [sm] at h
    by_cases e : k = n
    · subst e; omega
    · exact ih (by omega) (by omega)
def nr (p : paT) (s v w : Nat) : Bool := decide (vO p v s ≤ vO p w s + 2 ∧ vO p w s ≤ vO p v s + 2)
theorem nr_sym (p : paT) (s v w : Nat) : nr p s v w = nr p s w v := by
  unfold nr
  rw [Bool.eq_iff_iff, decide_eq_true_iff, decide_eq_true_iff]
  exact And.comm
def Wm (p : paT) (s : Nat) : Nat := bn (swb p s) (pw p)
def Wy (p : paT) (s : Nat) : Nat → Nat → Nat → Nat
  | 0, M, _ => if M = Wm p s then 1 else 0
  | f + 1, M, w => if M = Wm p s then 1 else sm (fun v => if ((Wm p s).testBit v && !M.testBit v && nr p s v w) = true then Wy p s f (M ||| 2 ^ v) v else 0) (pw p)
def wy (p : paT) (s M w : Nat) : Nat := Wy p s (6 - pc6 M) M w
theorem Wy_le {p : paT} (w6 : pw p ≤ 6) (s : Nat) : ∀ f M w, Wy p s f M w ≤ 6 ^ f
  | 0, M, w => by unfold Wy; split <;> simp
  | f + 1, M, w => by
    unfold Wy
    have h1 : 1 ≤ 6 ^ f := Nat.pow_pos (by omega)
    split
    · rw [Nat.pow_succ]; omega
    · refine Nat.le_trans (sm_le (B := 6 ^ f) (fun k hk => ?_)) ?_
      · split
        · exact Wy_le w6 s f _ _
        · omega
      · rw [Nat.pow_succ, Nat.mul_comm]
        exact Nat.mul_le_mul_left _ w6
theorem wy_le {p : paT} (w6 : pw p ≤ 6) (s M w : Nat) : wy p s M w ≤ 46656 := Nat.le_trans (Wy_le w6 s _ _ _) (by
  have : 6 ^ (6 - pc6 M) ≤ 6 ^ 6 := Nat.pow_le_pow_right (by omega) (by omega)
  exact this)
theorem pc6_ne : ∀ x, x < 64 → ∀ y, y < 64 → x &&& (63 ^^^ y) = 0 → x ≠ y → pc6 x < 6 := by decide +kernel
theorem pc6_add : ∀ x, x < 64 → ∀ v, v < 6 → x.testBit v = false → pc6 (x ||| 2 ^ v) = pc6 x + 1 := by decide +kernel
theorem Wm_lt {p : paT} (w6 : pw p ≤ 6) (s : Nat) : Wm p s < 64 := bn_lt64 _ w6
theorem wy_rec {p : paT} (w6 : pw p ≤ 6) {s M w : Nat} (hM : M < 64) (hs : M &&& (63 ^^^ Wm p s) = 0) : wy p s M w = if M = Wm p s then 1 else sm (fun v => if ((Wm p s).testBit v && !M.testBit v && nr p s v w) = true then wy p s (M ||| 2 ^ v) v else 0) (pw p) := by
  unfold wy
  by_cases e : M = Wm p s
  · rw [if_pos e]
    cases 6 - pc6 M with
    | zero => rw [Wy, if_pos e]
    | succ f => rw [Wy, if_pos e]
  · rw [if_neg e]
    have h6 := pc6_ne M hM _ (Wm_lt w6 s) hs e
    rw [show 6 - pc6 M = (6 - pc6 M - 1) + 1 by omega, Wy, if_neg e]
    refine sm_cong (fun v hv => ?_)
    by_cases c : ((Wm p s).testBit v && !M.testBit v && nr p s v w) = true
    · rw [if_pos c, if_pos c]
      have hf : M.testBit v = false := by
        simp only [Bool.and_eq_true, Bool.not_eq_true'] at c
        exact c.1.2
      rw [pc6_add M hM v (by omega) hf]
      congr 1
    · rw [if_neg c, if_neg c]
/-! places and witnesses -/
def gW (L : List (Nat × Nat)) (j : Nat) : Nat := (L.getD j (0, 0)).1
theorem gW_get {L : List (Nat × Nat)} {j : Nat} {q : Nat × Nat} (h : L[j]? = some q) : gW L j = q.1 := by
  unfold gW
  rw [List.getD_eq_getElem?_getD, h]
  rfl
theorem sm_re (p : paT) (s : Nat) (f : Nat → Nat) : ∀ K, sm (fun v => if swb p s v = true then f v else 0) K = sm (fun k => f (gW (vK p s K) k)) (vK p s K).length
  | 0 => rfl
  | K + 1 => by
    have ih := sm_re p s f K
    cases h : sayO p K s with
    | none =>
      rw [vK_n h, ← ih, sm]
      simp [swb, h]
    | some y =>
      rw [vK_s h, List.length_append, List.length_singleton, sm, sm, ih]
      have e1 : gW (vK p s K ++ [(K, y)]) (vK p s K).length = K := gW_get (q := (K, y)) (by simp)
      rw [e1]
      congr 1
      · refine sm_cong (fun k hk => ?_)
        congr 1
        unfold gW
        rw [List.getD_eq_getElem?_getD, List.getD_eq_getElem?_getD, List.getElem?_append_left hk]
      · simp [swb, h]
theorem Wm_tb {p : paT} {s v : Nat} (hv : v < pw p) : (Wm p s).testBit v = swb p s v := by
  unfold Wm
  rw [bn_tb]
  simp [hv]
theorem sm_re2 (p : paT) (s : Nat) (f : Nat → Nat) : sm (fun v => if (Wm p s).testBit v = true then f v else 0) (pw p) = sm (fun k => f (gW (vL p s) k)) (vL p s).length := by
  unfold vL
  rw [← sm_re]
  exact sm_cong (fun v hv => by rw [Wm_tb hv])
/-- the witnesses at the places of S -/
def Gm (L : List (Nat × Nat)) (S : Nat) : Nat := bn (fun w => (List.range L.length).any (fun j => S.testBit j && decide (gW L j = w))) 6
theorem Gm_lt (L : List (Nat × Nat)) (S : Nat) : Gm L S < 64 := bn_lt64 _ (by omega)
theorem Gm_tb {L : List (Nat × Nat)} {S w : Nat} (hw : w < 6) : (Gm L S).testBit w = true ↔ ∃ j, j < L.length ∧ S.testBit j = true ∧ gW L j = w := by
  unfold Gm
  rw [bn_tb]
  simp [hw]
theorem gW_inj {L : List (Nat × Nat)} (hO : whO L) {j k : Nat} (hj : j < L.length) (hk : k < L.length) : (gW L j < gW L k ↔ j < k) ∧ (gW L j = gW L k ↔ j = k) := by
  obtain ⟨a, ha⟩ := tk_get hj
  obtain ⟨b, hb⟩ := tk_get hk
  rw [gW_get ha, gW_get hb]
  rcases Nat.lt_trichotomy j k with c | c | c
  · have := hO j k a b c ha hb
    omega
  · subst c
    rw [ha] at hb; cases hb
    omega
  · have := hO k j b a c hb ha
    omega
theorem Gm_at {L : List (Nat × Nat)} (hO : whO L) (h6 : ∀ j, j < L.length → gW L j < 6) {S k : Nat} (hk : k < L.length) : (Gm L S).testBit (gW L k) = S.testBit k := by
  rw [Bool.eq_iff_iff, Gm_tb (h6 k hk)]
  constructor
  · rintro ⟨j, hj, e1, e2⟩
    rw [(gW_inj hO hj hk).2] at e2
    subst e2; exact e1
  · exact fun h => ⟨k, hk, h, rfl⟩
theorem Gm_or {L : List (Nat × Nat)} (hO : whO L) (h6 : ∀ j, j < L.length → gW L j < 6) {S k : Nat} (hk : k < L.length) : Gm L (S ||| 2 ^ k) = Gm L S ||| 2 ^ gW L k := by
  apply Nat.eq_of_testBit_eq
  intro w
  by_cases hw : w < 6
  · rw [Bool.eq_iff_iff, bit_or, Bool.or_eq_true, Gm_tb hw, Gm_tb hw]
    constructor
    · rintro ⟨j, hj, e1, e2⟩
      rw [bit_or, Bool.or_eq_true] at e1
      rcases e1 with e1 | e1
      · exact Or.inl ⟨j, hj, e1, e2⟩
      · rw [decide_eq_true_iff] at e1
        subst e1
        exact Or.inr (by simp [e2])
    · rintro (⟨j, hj, e1, e2⟩ | e)
      · exact ⟨j, hj, by rw [bit_or, e1]; rfl, e2⟩
      · exact ⟨k, hk, by rw [bit_or]; simp, (of_decide_eq_true e).symm⟩
  · have l1 := Nat.testBit_lt_two_pow (Nat.lt_of_lt_of_le (Gm_lt L (S ||| 2 ^ k)) (show 64 ≤ 2 ^ w from Nat.pow_le_pow_right (n := 2) (by omega) (show 6 ≤ w by omega)))
    have l2 := Nat.testBit_lt_two_pow (Nat.lt_of_lt_of_le (Gm_lt L S) (show 64 ≤ 2 ^ w from Nat.pow_le_pow_right (n := 2) (by omega) (show 6 ≤ w by omega)))
    have := h6 k hk
    rw [bit_or, l1, l2]
    simp; omega
theorem Gm_0 (L : List (Nat × Nat)) : Gm L 0 = 0 := by
  apply Nat.eq_of_testBit_eq
  intro w
  unfold Gm
  rw [bn_tb]
  simp
theorem Gm_one {L : List (Nat × Nat)} (hO : whO L) (h6 : ∀ j, j < L.length → gW L j < 6) {k : Nat} (hk : k < L.length) : Gm L (2 ^ k) = 2 ^ gW L k := by
  have := Gm_or hO h6 (S := 0) hk
  rw [Nat.zero_or, Gm_0, Nat.zero_or] at this
  exact this
