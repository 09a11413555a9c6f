/-! FROM HERE ON NUMBERS ALONE: what a method answers, and what it leaves -/
def zA (d i pc : Nat) (lo : zLo) (st : zSt) (σ : zSo) (Q : Option Value → zSo → Prop) : Prop := ∃ n r σ1, zex n d i pc lo st σ = some (r, σ1) ∧ Q r σ1
/-- a call of the method i -/
def zC (d i : Nat) (as : List Value) (σ : zSo) (Q : Option Value → zSo → Prop) : Prop := zA d i 0 (lv_args 0 as) [] σ Q
theorem zex_succ : ∀ (n d i pc : Nat) (lo : zLo) (st : zSt) (σ : zSo) (x : Option Value × zSo), zex n d i pc lo st σ = some x → zex (n + 1) d i pc lo st σ = some x := by
  intro n
  induction n with
  | zero => intro d i pc lo st σ x h; cases h
  | succ n ih =>
    intro d i pc lo st σ x h
    unfold zex at h ⊢
    split at h
    · cases h
    · exact ih _ _ _ _ _ _ _ h
    · split at h
      · cases h
      · split at h
        · split at h
          · cases h
          · rename_i hc
            rw [ih _ _ _ _ _ _ _ hc]
            exact ih _ _ _ _ _ _ _ h
        · cases h
    · exact h
theorem zex_le {n m d i pc : Nat} {lo : zLo} {st : zSt} {σ : zSo} {x : Option Value × zSo} (hm : n ≤ m) (h : zex n d i pc lo st σ = some x) : zex m d i pc lo st σ = some x := by
  induction hm with
  | refl => exact h
  | step _ ih => exact zex_succ _ _ _ _ _ _ _ _ ih
theorem zA_s0 {d i pc pc' : Nat} {lo lo' : zLo} {st st' : zSt} {σ σ' : zSo} {Q : Option Value → zSo → Prop} (h : zstep i pc lo st σ = some (.inl (pc', lo', st', σ'))) (k : zA d i pc' lo' st' σ' Q) : zA d i pc lo st σ Q := by
  obtain ⟨n, r, σ1, h1, h2⟩ := k
  exact ⟨n + 1, r, σ1, by unfold zex; rw [h]; exact h1, h2⟩
/-- is this the head of a loop -/
def zhead (i pc : Nat) : Bool := match zHD[i]? with
  | some l => l.elem pc
  | none => false
/-- a step that isn't into a loop -/
theorem zA_step {d i pc pc' : Nat} {lo lo' : zLo} {st st' : zSt} {σ σ' : zSo} {Q : Option Value → zSo → Prop} (h : zstep i pc lo st σ = some (.inl (pc', lo', st', σ'))) (hh : zhead i pc = false) (k : zA d i pc' lo' st' σ' Q) : zA d i pc lo st σ Q := zA_s0 h k
theorem zA_if {c : Prop} [Decidable c] {d i pc pc' : Nat} {lo lo' : zLo} {st st' : zSt} {σ σ' : zSo} {Q : Option Value → zSo → Prop} (h : zstep i pc lo st σ = if c then some (.inl (pc', lo', st', σ')) else none) (hc : c) (k : zA d i pc' lo' st' σ' Q) : zA d i pc lo st σ Q := zA_s0 (by rw [h, if_pos hc]) k
theorem zA_ret {d i pc : Nat} {lo : zLo} {st : zSt} {σ : zSo} {r : Option Value} {Q : Option Value → zSo → Prop} (h : zstep i pc lo st σ = some (.inr (.inr r))) (k : Q r σ) : zA d i pc lo st σ Q := ⟨1, r, σ, by unfold zex; rw [h], k⟩
theorem zA_reti {c : Prop} [Decidable c] {d i pc : Nat} {lo : zLo} {st : zSt} {σ : zSo} {r : Option Value} {Q : Option Value → zSo → Prop} (h : zstep i pc lo st σ = if c then some (.inr (.inr r)) else none) (hc : c) (k : Q r σ) : zA d i pc lo st σ Q := zA_ret (by rw [h, if_pos hc]) k
/-- what a call leaves on the stack -/
def zpush (r : Option Value) (st : zSt) : zSt := match r with
  | some v => v :: st
  | none => st
theorem zpush_eq (r : Option Value) (st : zSt) : r.toList ++ st = zpush r st := by cases r <;> rfl
theorem zA_call {d i pc j pc' : Nat} {as rest : List Value} {lo : zLo} {st : zSt} {σ : zSo} {Q : Option Value → zSo → Prop} (h : zstep i pc lo st σ = some (.inr (.inl (j, as, rest, pc')))) (hb : Nat.ble (zcat as) (zML j) = true) (k : zC d j as σ (fun r σ1 => zA (d + 1) i pc' lo (zpush r rest) σ1 Q)) : zA (d + 1) i pc lo st σ Q := by
  obtain ⟨n, r, σ1, h1, n2, r2, σ2, h3, h4⟩ := k
  rw [← zpush_eq] at h3
  refine ⟨max n n2 + 1, r2, σ2, ?_, h4⟩
  unfold zex
  rw [h]
  dsimp only
  rw [hb]
  dsimp only
  rw [zex_le (Nat.le_max_left n n2) h1]
  exact zex_le (Nat.le_max_right n n2) h3
/-- at a loop's head: other locals than the live ones are forgotten -/
theorem zA_drop {d i pc : Nat} {lo lo' : zLo} {st : zSt} {σ : zSo} {nx : zNx} {Q : Option Value → zSo → Prop} (h1 : zstep i pc lo st σ = some (.inl nx)) (h2 : zstep i pc lo' st σ = some (.inl nx)) (k : zA d i pc lo st σ Q) : zA d i pc lo' st σ Q := by
  obtain ⟨n, r, σ1, h3, h4⟩ := k
  refine ⟨n, r, σ1, ?_, h4⟩
  cases n with
  | zero => cases h3
  | succ n =>
    unfold zex at h3 ⊢
    rw [h1] at h3
    rw [h2]
    exact h3
theorem zlkeep_idem {ks : List Nat} : ∀ {lo lo' : zLo}, zlkeep ks lo = some lo' → zlkeep ks lo' = some lo'
  | [], _, h => by cases h; rfl
  | (j, v) :: t, lo', h => by
    unfold zlkeep at h
    split at h
    · rename_i t' ht
      have ih := zlkeep_idem ht
      split at h
      · rename_i hj
        cases h
        unfold zlkeep
        rw [ih]
        dsimp only
        rw [hj]
      · cases h
        exact ih
    · cases h
theorem zA_dr {d i pc : Nat} {ks : List Nat} {f : zOp} {lo lo' : zLo} {st : zSt} {σ : zSo} {nx : zNx} {Q : Option Value → zSo → Prop} (hk : zlook i pc = some (zo_keep ks f)) (h : zlkeep ks lo' = some lo) (hs : zstep i pc lo st σ = some (.inl nx)) (k : zA d i pc lo st σ Q) : zA d i pc lo' st σ Q := by
  have e : zstep i pc lo' st σ = zstep i pc lo st σ := by
    unfold zstep
    rw [hk]
    show zo_keep ks f lo' st σ = zo_keep ks f lo st σ
    unfold zo_keep
    rw [h, zlkeep_idem h]
  exact zA_drop hs (e.trans hs) k
/-- an int is read from an array -/
theorem zA_ld {d i pc pc' k N j : Nat} {lo lo' : zLo} {st st' : zSt} {σ : zSo} {x v : Int32} {Q : Option Value → zSo → Prop} (h : zstep i pc lo st σ = if ¬ (x < 0 ∨ N ≤ x.toNatClampNeg) then some (.inl (pc', lo', .int (σ k x.toNatClampNeg) :: st', σ)) else none) (e : x = nI j) (hj : j < N) (hN : N < 2147483648) (hv : σ k j = v) (kk : zA d i pc' lo' (.int v :: st') σ Q) : zA d i pc lo st σ Q := by
  subst e
  refine zA_if h (nI_in hj hN) ?_
  rw [nI_clamp (by omega), hv]
  exact kk
/-- an int is written into an array -/
theorem zA_sto {d i pc pc' k N j : Nat} {lo lo' : zLo} {st st' : zSt} {σ : zSo} {x v : Int32} {Q : Option Value → zSo → Prop} (h : zstep i pc lo st σ = if ¬ (x < 0 ∨ N ≤ x.toNatClampNeg) then some (.inl (pc', lo', st', zup σ k x.toNatClampNeg v)) else none) (e : x = nI j) (hj : j < N) (hN : N < 2147483648) (kk : zA d i pc' lo' st' (zup σ k j v) Q) : zA d i pc lo st σ Q := by
  subst e
  refine zA_if h (nI_in hj hN) ?_
  rw [nI_clamp (by omega)]
  exact kk
theorem zA_t {c : Prop} [Decidable c] {d i p q : Nat} {lo : zLo} {st : zSt} {σ : zSo} {Q : Option Value → zSo → Prop} (h : c) (k : zA d i p lo st σ Q) : zA d i (if c then p else q) lo st σ Q := by rw [if_pos h]; exact k
theorem zA_f {c : Prop} [Decidable c] {d i p q : Nat} {lo : zLo} {st : zSt} {σ : zSo} {Q : Option Value → zSo → Prop} (h : ¬ c) (k : zA d i q lo st σ Q) : zA d i (if c then p else q) lo st σ Q := by rw [if_neg h]; exact k
theorem zA_c {c : Prop} [Decidable c] {d i p q : Nat} {lo : zLo} {st : zSt} {σ : zSo} {Q : Option Value → zSo → Prop} (kt : c → zA d i p lo st σ Q) (kf : ¬ c → zA d i q lo st σ Q) : zA d i (if c then p else q) lo st σ Q := by
  by_cases h : c
  · exact zA_t h (kt h)
  · exact zA_f h (kf h)
theorem zA_mono {d i pc : Nat} {lo : zLo} {st : zSt} {σ : zSo} {Q Q' : Option Value → zSo → Prop} (k : zA d i pc lo st σ Q) (h : ∀ r σ1, Q r σ1 → Q' r σ1) : zA d i pc lo st σ Q' := by
  obtain ⟨n, r, σ1, h1, h2⟩ := k
  exact ⟨n, r, σ1, h1, h _ _ h2⟩
theorem zC_mono {d i : Nat} {as : List Value} {σ : zSo} {Q Q' : Option Value → zSo → Prop} (k : zC d i as σ Q) (h : ∀ r σ1, Q r σ1 → Q' r σ1) : zC d i as σ Q' := zA_mono k h
