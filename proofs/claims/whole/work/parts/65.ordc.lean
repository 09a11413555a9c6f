/-! orders: the class -/
theorem vK_in {p : paT} {s : Nat} : ∀ {k w y : Nat}, w < k → sayO p w s = some y → (w, y) ∈ vK p s k
  | 0, w, y, h, _ => by omega
  | k + 1, w, y, h, hs => by
    by_cases e : w = k
    · subst e
      rw [vK_s hs]; simp
    · have ih := vK_in (k := k) (by omega) hs
      cases h2 : sayO p k s with
      | none => rw [vK_n h2]; exact ih
      | some z => rw [vK_s h2]; exact List.mem_append_left _ ih
theorem oc_get {p : paT} {s Y j : Nat} (hW : paW p Y) (hs : s < ps p) (hj : j < (vL p s).length) : (vL p s)[j]? = some (gW (vL p s) j, vO p (gW (vL p s) j) s) ∧ gW (vL p s) j < pw p ∧ vO p (gW (vL p s) j) s ≤ 99 ∧ (Wm p s).testBit (gW (vL p s) j) = true := by
  obtain ⟨q, hq⟩ := tk_get hj
  have h1 := vK_mem (List.mem_of_getElem? hq)
  have e1 := gW_get hq
  have e2 : vO p q.1 s = q.2 := by unfold vO; rw [h1.2]
  rw [e1, e2]
  refine ⟨hq, h1.1, ?_, ?_⟩
  · rw [← e2]; exact vO_le hW h1.1 hs
  · rw [Wm_tb h1.1]
    simp [swb, h1.2]
theorem oc_of {p : paT} {s v : Nat} (h : (Wm p s).testBit v = true) : v < pw p ∧ ∃ j, j < (vL p s).length ∧ gW (vL p s) j = v := by
  unfold Wm at h
  rw [bn_tb] at h
  simp only [Bool.and_eq_true, decide_eq_true_eq] at h
  refine ⟨h.1, ?_⟩
  have h2 := h.2
  unfold swb at h2
  cases e : sayO p v s with
  | none => rw [e] at h2; cases h2
  | some y =>
    obtain ⟨j, hj⟩ := List.getElem?_of_mem (vK_in h.1 e)
    have hjl : j < (vL p s).length := by
      rcases Nat.lt_or_ge j (vL p s).length with c | c
      · exact c
      · unfold vL at c
        rw [List.getElem?_eq_none c] at hj
        cases hj
    exact ⟨j, hjl, gW_get hj⟩
theorem oc_6 {p : paT} {s Y : Nat} (hW : paW p Y) (hs : s < ps p) : ∀ j, j < (vL p s).length → gW (vL p s) j < 6 := fun j hj => Nat.lt_of_lt_of_le (oc_get hW hs hj).2.1 hW.2.2.2.2.1
theorem Gm_sub {p : paT} {s Y S : Nat} (hW : paW p Y) (hs : s < ps p) : Gm (vL p s) S &&& (63 ^^^ Wm p s) = 0 := sub6_of _ (Gm_lt _ _) _ (Wm_lt hW.2.2.2.2.1 s) (fun w hw h => by
  obtain ⟨j, hj, -, e⟩ := (Gm_tb hw).mp h
  rw [← e]
  exact (oc_get hW hs hj).2.2.2)
theorem Gm_full {p : paT} {s Y S : Nat} (hW : paW p Y) (hs : s < ps p) (hS : S < 2 ^ (vL p s).length) : Gm (vL p s) S = Wm p s ↔ S = 2 ^ (vL p s).length - 1 := by
  have h6 := oc_6 hW hs
  have hO : whO (vL p s) := vK_ord p s (pw p)
  constructor
  · intro h
    apply Nat.eq_of_testBit_eq
    intro k
    rw [Nat.testBit_two_pow_sub_one]
    by_cases hk : k < (vL p s).length
    · rw [← Gm_at hO h6 hk, h, (oc_get hW hs hk).2.2.2]
      simp [hk]
    · rw [Nat.testBit_lt_two_pow (Nat.lt_of_lt_of_le hS (Nat.pow_le_pow_right (by omega) (by omega)))]
      simp [hk]
  · intro h
    apply Nat.eq_of_testBit_eq
    intro w
    by_cases hw : w < 6
    · rw [Bool.eq_iff_iff, Gm_tb hw]
      constructor
      · rintro ⟨j, hj, -, e⟩
        rw [← e]
        exact (oc_get hW hs hj).2.2.2
      · intro hb
        obtain ⟨j, hj, e⟩ := (oc_of hb).2
        exact ⟨j, hj, by rw [h, Nat.testBit_two_pow_sub_one]; simp [hj], e⟩
    · have l1 := Nat.testBit_lt_two_pow (Nat.lt_of_lt_of_le (Gm_lt (vL p s) S) (show 64 ≤ 2 ^ w from Nat.pow_le_pow_right (n := 2) (by omega) (show 6 ≤ w by omega)))
      have l2 := Nat.testBit_lt_two_pow (Nat.lt_of_lt_of_le (Wm_lt hW.2.2.2.2.1 s) (show 64 ≤ 2 ^ w from Nat.pow_le_pow_right (n := 2) (by omega) (show 6 ≤ w by omega)))
      rw [l1, l2]
def wyc (p : paT) (s S j : Nat) : Nat := wy p s (Gm (vL p s) S) (gW (vL p s) j)
theorem wyc_rec {p : paT} {s Y S j : Nat} (hW : paW p Y) (hs : s < ps p) (hS : S < 2 ^ (vL p s).length) : wyc p s S j = if S = 2 ^ (vL p s).length - 1 then 1 else sm (fun k => if (!S.testBit k && nr p s (gW (vL p s) k) (gW (vL p s) j)) = true then wyc p s (S ||| 2 ^ k) k else 0) (vL p s).length := by
  have h6 := oc_6 hW hs
  have hO : whO (vL p s) := vK_ord p s (pw p)
  unfold wyc
  rw [wy_rec hW.2.2.2.2.1 (Gm_lt _ _) (Gm_sub hW hs)]
  by_cases e : S = 2 ^ (vL p s).length - 1
  · rw [if_pos e, if_pos ((Gm_full hW hs hS).mpr e)]
  · rw [if_neg e, if_neg (fun z => e ((Gm_full hW hs hS).mp z))]
    have e1 : (fun v => if ((Wm p s).testBit v && !(Gm (vL p s) S).testBit v && nr p s v (gW (vL p s) j)) = true then wy p s (Gm (vL p s) S ||| 2 ^ v) v else 0) = (fun v => if (Wm p s).testBit v = true then (if (!(Gm (vL p s) S).testBit v && nr p s v (gW (vL p s) j)) = true then wy p s (Gm (vL p s) S ||| 2 ^ v) v else 0) else 0) := by
      funext v
      cases (Wm p s).testBit v <;> simp
    rw [e1, sm_re2]
    refine sm_cong (fun k hk => ?_)
    rw [Gm_at hO h6 hk, Gm_or hO h6 hk]
set_option maxHeartbeats 4000000 in
set_option maxRecDepth 100000 in
theorem cl_areNear {d s Y j k : Nat} {σ : zSo} {Q : Option Value → zSo → Prop} {p : paT} (hO : OS σ (vL p s)) (hW : paW p Y) (hs : s < ps p) (hj : j < (vL p s).length) (hk : k < (vL p s).length) (ht : nr p s (gW (vL p s) k) (gW (vL p s) j) = true → Q (some (.int 1)) σ) (hf : nr p s (gW (vL p s) k) (gW (vL p s) j) = false → Q (some (.int 0)) σ) : zC d 22 [.ref 64, .int (nI j), .int (nI k)] σ Q := by
  obtain ⟨a1, a2, a3, a4⟩ := oc_get hW hs hj
  obtain ⟨b1, b2, b3, b4⟩ := oc_get hW hs hk
  have hl := hO.1
  have c1 := (hO.2.2 j _ a1).2.1
  have c2 := (hO.2.2 k _ b1).2.1
  unfold nr at ht hf
  rw [decide_eq_true_iff] at ht
  rw [decide_eq_false_iff_not] at hf
  simp only at c1 c2
  generalize vO p (gW (vL p s) j) s = x at *
  generalize vO p (gW (vL p s) k) s = y at *
  show zA d _ 0 [(0, .ref 64), (1, .int (nI j)), (2, .int (nI k))] [] σ Q
  repeat refine zA_step rfl rfl ?_
  refine zA_ld (j := j) rfl rfl (by omega) (by decide) c1 ?_
  repeat refine zA_step rfl rfl ?_
  refine zA_ld (j := k) rfl rfl (by omega) (by decide) c2 ?_
  repeat refine zA_step rfl rfl ?_
  have e : (nI x - nI y).toInt = (x : Int) - y := by rw [nu_sub (by rw [nu_I (by omega), nu_I (by omega)]; omega) (by rw [nu_I (by omega), nu_I (by omega)]; omega), nu_I (by omega), nu_I (by omega)]
  have e0 : (0 - (nI x - nI y)).toInt = (y : Int) - x := by rw [nu_sub (by rw [e]; simp only [Int32.reduceToInt]; omega) (by rw [e]; simp only [Int32.reduceToInt]; omega), e]; simp only [Int32.reduceToInt]; omega
  by_cases c : 0 ≤ nI x - nI y
  · rw [if_pos c]
    rw [nu_le, e] at c
    simp only [Int32.reduceToInt] at c
    refine zA_c (fun h => ?_) (fun h => ?_)
    all_goals rw [nu_lt, e] at h; simp only [Int32.reduceToInt] at h
    · repeat refine zA_step rfl rfl ?_
      exact zA_ret rfl (hf (by omega))
    · repeat refine zA_step rfl rfl ?_
      exact zA_ret rfl (ht (by omega))
  · rw [if_neg c]
    rw [nu_le, e] at c
    simp only [Int32.reduceToInt] at c
    refine zA_c (fun h => ?_) (fun h => ?_)
    all_goals rw [nu_lt, e0] at h; simp only [Int32.reduceToInt] at h
    · repeat refine zA_step rfl rfl ?_
      exact zA_ret rfl (hf (by omega))
    · repeat refine zA_step rfl rfl ?_
      exact zA_ret rfl (ht (by omega))
