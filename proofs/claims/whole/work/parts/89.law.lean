/-! THE LAW'S LOOP, over numbers: Z is any judgement of the law's body that its steps and calls carry back -/
abbrev zJ : Type := Nat → zLo → zSt → zSo → Prop
def zHS (Z : zJ) : Prop := ∀ (pc : Nat) (lo : zLo) (st : zSt) (σ : zSo) (nx : zNx), zstep 0 pc lo st σ = some (.inl nx) → Z nx.1 nx.2.1 nx.2.2.1 nx.2.2.2 → Z pc lo st σ
def zHC (Z : zJ) : Prop := ∀ (pc : Nat) (lo : zLo) (st : zSt) (σ : zSo) (j : Nat) (as rest : List Value) (pc' : Nat), zstep 0 pc lo st σ = some (.inr (.inl (j, as, rest, pc'))) → Nat.ble (zcat as) (zML j) = true → zC 40 j as σ (fun r σ1 => Z pc' lo (zpush r rest) σ1) → Z pc lo st σ
def zHF (Z : zJ) (σ0 : zSo) : Prop := ∀ (pc : Nat) (lo : zLo) (st : zSt) (σ : zSo), ((∀ k, 1000 ≤ k → σ k = σ0 k) → Z pc lo st σ) → Z pc lo st σ
def zHR (Z : zJ) : Prop := ∀ (pc : Nat) (lo : zLo) (st : zSt) (σ : zSo), zstep 0 pc lo st σ = some (.inr (.inr (some (.int 1)))) → Z pc lo st σ
def zHyp (Z : zJ) (σ0 : zSo) : Prop := zHS Z ∧ zHC Z ∧ zHF Z σ0 ∧ zHR Z
theorem Z_step {Z : zJ} {σ0 : zSo} (hZ : zHyp Z σ0) {pc pc' : Nat} {lo lo' : zLo} {st st' : zSt} {σ σ' : zSo} (h : zstep 0 pc lo st σ = some (.inl (pc', lo', st', σ'))) (hh : zhead 0 pc = false) (k : Z pc' lo' st' σ') : Z pc lo st σ := hZ.1 pc lo st σ _ h k
theorem Z_s0 {Z : zJ} {σ0 : zSo} (hZ : zHyp Z σ0) {pc pc' : Nat} {lo lo' : zLo} {st st' : zSt} {σ σ' : zSo} (h : zstep 0 pc lo st σ = some (.inl (pc', lo', st', σ'))) (k : Z pc' lo' st' σ') : Z pc lo st σ := hZ.1 pc lo st σ _ h k
theorem Z_ld {Z : zJ} {σ0 : zSo} (hZ : zHyp Z σ0) {pc pc' k N j : Nat} {lo lo' : zLo} {st st' : zSt} {σ : zSo} {x v : Int32} (h : zstep 0 pc lo st σ = if ¬ (x < 0 ∨ N ≤ x.toNatClampNeg) then some (.inl (pc', lo', .int (σ k x.toNatClampNeg) :: st', σ)) else none) (e : x = nI j) (hj : j < N) (hN : N < 2147483648) (hv : σ k j = v) (kk : Z pc' lo' (.int v :: st') σ) : Z pc lo st σ := by
  subst e
  refine Z_s0 hZ (by rw [h, if_pos (nI_in hj hN)]) ?_
  rw [nI_clamp (by omega), hv]
  exact kk
theorem Z_t {Z : zJ} {c : Prop} [Decidable c] {p q : Nat} {lo : zLo} {st : zSt} {σ : zSo} (h : c) (k : Z p lo st σ) : Z (if c then p else q) lo st σ := by rw [if_pos h]; exact k
theorem Z_f {Z : zJ} {c : Prop} [Decidable c] {p q : Nat} {lo : zLo} {st : zSt} {σ : zSo} (h : ¬ c) (k : Z q lo st σ) : Z (if c then p else q) lo st σ := by rw [if_neg h]; exact k
theorem Z_call {Z : zJ} {σ0 : zSo} (hZ : zHyp Z σ0) {pc j pc' : Nat} {as rest : List Value} {lo : zLo} {st : zSt} {σ : zSo} (h : zstep 0 pc lo st σ = some (.inr (.inl (j, as, rest, pc')))) (hb : Nat.ble (zcat as) (zML j) = true) (k : zC 40 j as σ (fun r σ1 => (∀ k, 1000 ≤ k → σ1 k = σ0 k) → Z pc' lo (zpush r rest) σ1)) : Z pc lo st σ :=
  hZ.2.1 pc lo st σ j as rest pc' h hb (zC_mono k (fun r σ1 h1 => hZ.2.2.1 _ _ _ _ h1))
def lwL (i : Nat) : zLo := [(0, .ref 1100), (1, .ref 0), (2, .ref 70), (3, .int (nI i))]
theorem lw_len {σ0 σ : zSo} {L : Nat} (h0 : σ0 1101 0 = nI L) (hL : L ≤ 3072) (hF : ∀ k, 1000 ≤ k → σ k = σ0 k) : zL σ = L := by
  unfold zL
  rw [hF 1101 (by omega), h0, nI_clamp (by omega)]
set_option maxHeartbeats 4000000 in
set_option maxRecDepth 100000 in
theorem lwc_row {Z : zJ} {σ0 σ : zSo} {i L : Nat} (hZ : zHyp Z σ0) (h0 : σ0 1101 0 = nI L) (hL : L ≤ 3072) (hi : i + 6 ≤ L) (hF : ∀ k, 1000 ≤ k → σ k = σ0 k) (hR : R σ) (kk : ∀ σ2 : zSo, (∀ k, 1000 ≤ k → σ2 k = σ0 k) → R σ2 → Z 1293 (lwL i) [] σ2) : Z 188 (lwL i) [] σ := by
  have hz := lw_len h0 hL hF
  show Z 188 [(0, .ref 1100), (1, .ref 0), (2, .ref 70), (3, .int (nI i))] [] σ
  repeat refine Z_step hZ rfl rfl ?_
  refine Z_ld hZ (j := i + 1) rfl (nI_add i 1) (by rw [hz]; omega) (by rw [hz]; omega) rfl ?_
  repeat refine Z_step hZ rfl rfl ?_
  refine Z_ld hZ (j := i + 2) rfl (nI_add i 2) (by rw [hz]; omega) (by rw [hz]; omega) rfl ?_
  repeat refine Z_step hZ rfl rfl ?_
  refine Z_ld hZ (j := i + 3) rfl (nI_add i 3) (by rw [hz]; omega) (by rw [hz]; omega) rfl ?_
  repeat refine Z_step hZ rfl rfl ?_
  refine Z_call hZ rfl rfl (zC_mono (pr_row (d := 20) _ _ _ hR) (fun r σ1 h hF1 => ?_))
  obtain ⟨a, rfl, h⟩ := h
  have hz1 := lw_len h0 hL hF1
  repeat refine Z_step hZ rfl rfl ?_
  refine Z_ld hZ (j := i + 1) rfl (nI_add i 1) (by rw [hz1]; omega) (by rw [hz1]; omega) (v := σ 1100 (i + 1)) (by rw [hF1 1100 (by omega), hF 1100 (by omega)]) ?_
  repeat refine Z_step hZ rfl rfl ?_
  refine Z_ld hZ (j := i + 2) rfl (nI_add i 2) (by rw [hz1]; omega) (by rw [hz1]; omega) (v := σ 1100 (i + 2)) (by rw [hF1 1100 (by omega), hF 1100 (by omega)]) ?_
  repeat refine Z_step hZ rfl rfl ?_
  refine Z_ld hZ (j := i + 3) rfl (nI_add i 3) (by rw [hz1]; omega) (by rw [hz1]; omega) (v := σ 1100 (i + 3)) (by rw [hF1 1100 (by omega), hF 1100 (by omega)]) ?_
  repeat refine Z_step hZ rfl rfl ?_
  refine Z_call hZ rfl rfl (zC_mono h (fun r2 σ2 h2 hF2 => ?_))
  obtain ⟨rfl, hR2, -⟩ := h2
  repeat refine Z_step hZ rfl rfl ?_
  refine Z_t rfl ?_
  exact kk σ2 hF2 hR2
set_option maxHeartbeats 4000000 in
set_option maxRecDepth 100000 in
theorem lwc_set {Z : zJ} {σ0 σ : zSo} {i L : Nat} (hZ : zHyp Z σ0) (h0 : σ0 1101 0 = nI L) (hL : L ≤ 3072) (hi : i + 6 ≤ L) (hF : ∀ k, 1000 ≤ k → σ k = σ0 k) (hR : R σ) (kk : ∀ σ2 : zSo, (∀ k, 1000 ≤ k → σ2 k = σ0 k) → R σ2 → Z 1293 (lwL i) [] σ2) : Z 231 (lwL i) [] σ := by
  have hz := lw_len h0 hL hF
  show Z 231 [(0, .ref 1100), (1, .ref 0), (2, .ref 70), (3, .int (nI i))] [] σ
  repeat refine Z_step hZ rfl rfl ?_
  refine Z_ld hZ (j := i + 1) rfl (nI_add i 1) (by rw [hz]; omega) (by rw [hz]; omega) rfl ?_
  repeat refine Z_step hZ rfl rfl ?_
  refine Z_ld hZ (j := i + 2) rfl (nI_add i 2) (by rw [hz]; omega) (by rw [hz]; omega) rfl ?_
  repeat refine Z_step hZ rfl rfl ?_
  refine Z_ld hZ (j := i + 3) rfl (nI_add i 3) (by rw [hz]; omega) (by rw [hz]; omega) rfl ?_
  repeat refine Z_step hZ rfl rfl ?_
  refine Z_call hZ rfl rfl (zC_mono (pr_set (d := 20) _ _ _ hR) (fun r σ1 h hF1 => ?_))
  obtain ⟨a, rfl, h⟩ := h
  have hz1 := lw_len h0 hL hF1
  repeat refine Z_step hZ rfl rfl ?_
  refine Z_ld hZ (j := i + 1) rfl (nI_add i 1) (by rw [hz1]; omega) (by rw [hz1]; omega) (v := σ 1100 (i + 1)) (by rw [hF1 1100 (by omega), hF 1100 (by omega)]) ?_
  repeat refine Z_step hZ rfl rfl ?_
  refine Z_ld hZ (j := i + 2) rfl (nI_add i 2) (by rw [hz1]; omega) (by rw [hz1]; omega) (v := σ 1100 (i + 2)) (by rw [hF1 1100 (by omega), hF 1100 (by omega)]) ?_
  repeat refine Z_step hZ rfl rfl ?_
  refine Z_ld hZ (j := i + 3) rfl (nI_add i 3) (by rw [hz1]; omega) (by rw [hz1]; omega) (v := σ 1100 (i + 3)) (by rw [hF1 1100 (by omega), hF 1100 (by omega)]) ?_
  repeat refine Z_step hZ rfl rfl ?_
  refine Z_call hZ rfl rfl (zC_mono h (fun r2 σ2 h2 hF2 => ?_))
  obtain ⟨rfl, hR2, -⟩ := h2
  repeat refine Z_step hZ rfl rfl ?_
  refine Z_t rfl ?_
  exact kk σ2 hF2 hR2
set_option maxHeartbeats 4000000 in
set_option maxRecDepth 100000 in
theorem lwc_copy {Z : zJ} {σ0 σ : zSo} {i L : Nat} (hZ : zHyp Z σ0) (h0 : σ0 1101 0 = nI L) (hL : L ≤ 3072) (hi : i + 6 ≤ L) (hF : ∀ k, 1000 ≤ k → σ k = σ0 k) (hR : R σ) (kk : ∀ σ2 : zSo, (∀ k, 1000 ≤ k → σ2 k = σ0 k) → R σ2 → Z 1293 (lwL i) [] σ2) : Z 274 (lwL i) [] σ := by
  have hz := lw_len h0 hL hF
  show Z 274 [(0, .ref 1100), (1, .ref 0), (2, .ref 70), (3, .int (nI i))] [] σ
  repeat refine Z_step hZ rfl rfl ?_
  refine Z_ld hZ (j := i + 1) rfl (nI_add i 1) (by rw [hz]; omega) (by rw [hz]; omega) rfl ?_
  repeat refine Z_step hZ rfl rfl ?_
  refine Z_ld hZ (j := i + 2) rfl (nI_add i 2) (by rw [hz]; omega) (by rw [hz]; omega) rfl ?_
  repeat refine Z_step hZ rfl rfl ?_
  refine Z_ld hZ (j := i + 3) rfl (nI_add i 3) (by rw [hz]; omega) (by rw [hz]; omega) rfl ?_
  repeat refine Z_step hZ rfl rfl ?_
  refine Z_ld hZ (j := i + 4) rfl (nI_add i 4) (by rw [hz]; omega) (by rw [hz]; omega) rfl ?_
  repeat refine Z_step hZ rfl rfl ?_
  refine Z_ld hZ (j := i + 5) rfl (nI_add i 5) (by rw [hz]; omega) (by rw [hz]; omega) rfl ?_
  repeat refine Z_step hZ rfl rfl ?_
  refine Z_call hZ rfl rfl (zC_mono (pr_copy (d := 20) _ _ _ _ _ hR) (fun r σ1 h hF1 => ?_))
  obtain ⟨a, rfl, h⟩ := h
  have hz1 := lw_len h0 hL hF1
  repeat refine Z_step hZ rfl rfl ?_
  refine Z_ld hZ (j := i + 1) rfl (nI_add i 1) (by rw [hz1]; omega) (by rw [hz1]; omega) (v := σ 1100 (i + 1)) (by rw [hF1 1100 (by omega), hF 1100 (by omega)]) ?_
  repeat refine Z_step hZ rfl rfl ?_
  refine Z_ld hZ (j := i + 2) rfl (nI_add i 2) (by rw [hz1]; omega) (by rw [hz1]; omega) (v := σ 1100 (i + 2)) (by rw [hF1 1100 (by omega), hF 1100 (by omega)]) ?_
  repeat refine Z_step hZ rfl rfl ?_
  refine Z_ld hZ (j := i + 3) rfl (nI_add i 3) (by rw [hz1]; omega) (by rw [hz1]; omega) (v := σ 1100 (i + 3)) (by rw [hF1 1100 (by omega), hF 1100 (by omega)]) ?_
  repeat refine Z_step hZ rfl rfl ?_
  refine Z_ld hZ (j := i + 4) rfl (nI_add i 4) (by rw [hz1]; omega) (by rw [hz1]; omega) (v := σ 1100 (i + 4)) (by rw [hF1 1100 (by omega), hF 1100 (by omega)]) ?_
  repeat refine Z_step hZ rfl rfl ?_
  refine Z_ld hZ (j := i + 5) rfl (nI_add i 5) (by rw [hz1]; omega) (by rw [hz1]; omega) (v := σ 1100 (i + 5)) (by rw [hF1 1100 (by omega), hF 1100 (by omega)]) ?_
  repeat refine Z_step hZ rfl rfl ?_
  refine Z_call hZ rfl rfl (zC_mono h (fun r2 σ2 h2 hF2 => ?_))
  obtain ⟨rfl, hR2, -⟩ := h2
  repeat refine Z_step hZ rfl rfl ?_
  refine Z_t rfl ?_
  exact kk σ2 hF2 hR2
set_option maxHeartbeats 4000000 in
set_option maxRecDepth 100000 in
theorem lwc_drop {Z : zJ} {σ0 σ : zSo} {i L : Nat} (hZ : zHyp Z σ0) (h0 : σ0 1101 0 = nI L) (hL : L ≤ 3072) (hi : i + 6 ≤ L) (hF : ∀ k, 1000 ≤ k → σ k = σ0 k) (hR : R σ) (kk : ∀ σ2 : zSo, (∀ k, 1000 ≤ k → σ2 k = σ0 k) → R σ2 → Z 1293 (lwL i) [] σ2) : Z 337 (lwL i) [] σ := by
  have hz := lw_len h0 hL hF
  show Z 337 [(0, .ref 1100), (1, .ref 0), (2, .ref 70), (3, .int (nI i))] [] σ
  repeat refine Z_step hZ rfl rfl ?_
  refine Z_ld hZ (j := i + 1) rfl (nI_add i 1) (by rw [hz]; omega) (by rw [hz]; omega) rfl ?_
  repeat refine Z_step hZ rfl rfl ?_
  refine Z_call hZ rfl rfl (zC_mono (pr_drop (d := 20) _ hR) (fun r σ1 h hF1 => ?_))
  obtain ⟨a, rfl, h⟩ := h
  have hz1 := lw_len h0 hL hF1
  repeat refine Z_step hZ rfl rfl ?_
  refine Z_ld hZ (j := i + 1) rfl (nI_add i 1) (by rw [hz1]; omega) (by rw [hz1]; omega) (v := σ 1100 (i + 1)) (by rw [hF1 1100 (by omega), hF 1100 (by omega)]) ?_
  repeat refine Z_step hZ rfl rfl ?_
  refine Z_call hZ rfl rfl (zC_mono h (fun r2 σ2 h2 hF2 => ?_))
  obtain ⟨rfl, hR2, -⟩ := h2
  repeat refine Z_step hZ rfl rfl ?_
  refine Z_t rfl ?_
  exact kk σ2 hF2 hR2
set_option maxHeartbeats 4000000 in
set_option maxRecDepth 100000 in
theorem lwc_feed {Z : zJ} {σ0 σ : zSo} {i L : Nat} (hZ : zHyp Z σ0) (h0 : σ0 1101 0 = nI L) (hL : L ≤ 3072) (hi : i + 6 ≤ L) (hF : ∀ k, 1000 ≤ k → σ k = σ0 k) (hR : R σ) (kk : ∀ σ2 : zSo, (∀ k, 1000 ≤ k → σ2 k = σ0 k) → R σ2 → Z 1293 (lwL i) [] σ2) : Z 360 (lwL i) [] σ := by
  have hz := lw_len h0 hL hF
  show Z 360 [(0, .ref 1100), (1, .ref 0), (2, .ref 70), (3, .int (nI i))] [] σ
  repeat refine Z_step hZ rfl rfl ?_
  refine Z_ld hZ (j := i + 1) rfl (nI_add i 1) (by rw [hz]; omega) (by rw [hz]; omega) rfl ?_
  repeat refine Z_step hZ rfl rfl ?_
  refine Z_call hZ rfl rfl (zC_mono (pr_feed (d := 20) _ hR) (fun r σ1 h hF1 => ?_))
  obtain ⟨a, rfl, h⟩ := h
  have hz1 := lw_len h0 hL hF1
  repeat refine Z_step hZ rfl rfl ?_
  refine Z_ld hZ (j := i + 1) rfl (nI_add i 1) (by rw [hz1]; omega) (by rw [hz1]; omega) (v := σ 1100 (i + 1)) (by rw [hF1 1100 (by omega), hF 1100 (by omega)]) ?_
  repeat refine Z_step hZ rfl rfl ?_
  refine Z_call hZ rfl rfl (zC_mono h (fun r2 σ2 h2 hF2 => ?_))
  obtain ⟨rfl, hR2, -⟩ := h2
  repeat refine Z_step hZ rfl rfl ?_
  refine Z_t rfl ?_
  exact kk σ2 hF2 hR2
set_option maxHeartbeats 4000000 in
set_option maxRecDepth 100000 in
theorem lwc_parish {Z : zJ} {σ0 σ : zSo} {i L : Nat} (hZ : zHyp Z σ0) (h0 : σ0 1101 0 = nI L) (hL : L ≤ 3072) (hi : i + 6 ≤ L) (hF : ∀ k, 1000 ≤ k → σ k = σ0 k) (hR : R σ) (kk : ∀ σ2 : zSo, (∀ k, 1000 ≤ k → σ2 k = σ0 k) → R σ2 → Z 1293 (lwL i) [] σ2) : Z 383 (lwL i) [] σ := by
  have hz := lw_len h0 hL hF
  show Z 383 [(0, .ref 1100), (1, .ref 0), (2, .ref 70), (3, .int (nI i))] [] σ
  repeat refine Z_step hZ rfl rfl ?_
  refine Z_call hZ rfl rfl (zC_mono (pr_parish (d := 20) hR) (fun r σ1 h hF1 => ?_))
  obtain ⟨a, rfl, h⟩ := h
  have hz1 := lw_len h0 hL hF1
  repeat refine Z_step hZ rfl rfl ?_
  refine Z_call hZ rfl rfl (zC_mono h (fun r2 σ2 h2 hF2 => ?_))
  obtain ⟨rfl, hR2, -⟩ := h2
  repeat refine Z_step hZ rfl rfl ?_
  refine Z_t rfl ?_
  exact kk σ2 hF2 hR2
set_option maxHeartbeats 4000000 in
set_option maxRecDepth 100000 in
theorem lwc_fault {Z : zJ} {σ0 σ : zSo} {i L : Nat} (hZ : zHyp Z σ0) (h0 : σ0 1101 0 = nI L) (hL : L ≤ 3072) (hi : i + 6 ≤ L) (hF : ∀ k, 1000 ≤ k → σ k = σ0 k) (hR : R σ) (kk : ∀ σ2 : zSo, (∀ k, 1000 ≤ k → σ2 k = σ0 k) → R σ2 → Z 1293 (lwL i) [] σ2) : Z 396 (lwL i) [] σ := by
  have hz := lw_len h0 hL hF
  show Z 396 [(0, .ref 1100), (1, .ref 0), (2, .ref 70), (3, .int (nI i))] [] σ
  repeat refine Z_step hZ rfl rfl ?_
  refine Z_call hZ rfl rfl (zC_mono (pr_fault (d := 20) hR) (fun r σ1 h hF1 => ?_))
  obtain ⟨a, rfl, h⟩ := h
  have hz1 := lw_len h0 hL hF1
  repeat refine Z_step hZ rfl rfl ?_
  refine Z_call hZ rfl rfl (zC_mono h (fun r2 σ2 h2 hF2 => ?_))
  obtain ⟨rfl, hR2, -⟩ := h2
  repeat refine Z_step hZ rfl rfl ?_
  refine Z_t rfl ?_
  exact kk σ2 hF2 hR2
set_option maxHeartbeats 4000000 in
set_option maxRecDepth 100000 in
theorem lwc_undo {Z : zJ} {σ0 σ : zSo} {i L : Nat} (hZ : zHyp Z σ0) (h0 : σ0 1101 0 = nI L) (hL : L ≤ 3072) (hi : i + 6 ≤ L) (hF : ∀ k, 1000 ≤ k → σ k = σ0 k) (hR : R σ) (kk : ∀ σ2 : zSo, (∀ k, 1000 ≤ k → σ2 k = σ0 k) → R σ2 → Z 1293 (lwL i) [] σ2) : Z 409 (lwL i) [] σ := by
  have hz := lw_len h0 hL hF
  show Z 409 [(0, .ref 1100), (1, .ref 0), (2, .ref 70), (3, .int (nI i))] [] σ
  repeat refine Z_step hZ rfl rfl ?_
  refine Z_call hZ rfl rfl (zC_mono (pr_undo (d := 20) hR) (fun r σ1 h hF1 => ?_))
  obtain ⟨a, rfl, h⟩ := h
  have hz1 := lw_len h0 hL hF1
  repeat refine Z_step hZ rfl rfl ?_
  refine Z_call hZ rfl rfl (zC_mono h (fun r2 σ2 h2 hF2 => ?_))
  obtain ⟨rfl, hR2, -⟩ := h2
  repeat refine Z_step hZ rfl rfl ?_
  refine Z_t rfl ?_
  exact kk σ2 hF2 hR2
set_option maxHeartbeats 4000000 in
set_option maxRecDepth 100000 in
theorem lwc_walk {Z : zJ} {σ0 σ : zSo} {i L : Nat} (hZ : zHyp Z σ0) (h0 : σ0 1101 0 = nI L) (hL : L ≤ 3072) (hi : i + 6 ≤ L) (hF : ∀ k, 1000 ≤ k → σ k = σ0 k) (hR : R σ) (kk : ∀ σ2 : zSo, (∀ k, 1000 ≤ k → σ2 k = σ0 k) → R σ2 → Z 1293 (lwL i) [] σ2) : Z 422 (lwL i) [] σ := by
  have hz := lw_len h0 hL hF
  show Z 422 [(0, .ref 1100), (1, .ref 0), (2, .ref 70), (3, .int (nI i))] [] σ
  repeat refine Z_step hZ rfl rfl ?_
  refine Z_ld hZ (j := i + 1) rfl (nI_add i 1) (by rw [hz]; omega) (by rw [hz]; omega) rfl ?_
  repeat refine Z_step hZ rfl rfl ?_
  refine Z_ld hZ (j := i + 2) rfl (nI_add i 2) (by rw [hz]; omega) (by rw [hz]; omega) rfl ?_
  repeat refine Z_step hZ rfl rfl ?_
  refine Z_ld hZ (j := i + 3) rfl (nI_add i 3) (by rw [hz]; omega) (by rw [hz]; omega) rfl ?_
  repeat refine Z_step hZ rfl rfl ?_
  refine Z_call hZ rfl rfl (zC_mono (pr_walk (d := 20) _ _ _ hR) (fun r σ1 h hF1 => ?_))
  obtain ⟨a, rfl, h⟩ := h
  have hz1 := lw_len h0 hL hF1
  repeat refine Z_step hZ rfl rfl ?_
  refine Z_ld hZ (j := i + 1) rfl (nI_add i 1) (by rw [hz1]; omega) (by rw [hz1]; omega) (v := σ 1100 (i + 1)) (by rw [hF1 1100 (by omega), hF 1100 (by omega)]) ?_
  repeat refine Z_step hZ rfl rfl ?_
  refine Z_ld hZ (j := i + 2) rfl (nI_add i 2) (by rw [hz1]; omega) (by rw [hz1]; omega) (v := σ 1100 (i + 2)) (by rw [hF1 1100 (by omega), hF 1100 (by omega)]) ?_
  repeat refine Z_step hZ rfl rfl ?_
  refine Z_ld hZ (j := i + 3) rfl (nI_add i 3) (by rw [hz1]; omega) (by rw [hz1]; omega) (v := σ 1100 (i + 3)) (by rw [hF1 1100 (by omega), hF 1100 (by omega)]) ?_
  repeat refine Z_step hZ rfl rfl ?_
  refine Z_call hZ rfl rfl (zC_mono h (fun r2 σ2 h2 hF2 => ?_))
  obtain ⟨rfl, hR2, -⟩ := h2
  repeat refine Z_step hZ rfl rfl ?_
  refine Z_t rfl ?_
  exact kk σ2 hF2 hR2
set_option maxHeartbeats 4000000 in
set_option maxRecDepth 100000 in
theorem lwc_move {Z : zJ} {σ0 σ : zSo} {i L : Nat} (hZ : zHyp Z σ0) (h0 : σ0 1101 0 = nI L) (hL : L ≤ 3072) (hi : i + 6 ≤ L) (hF : ∀ k, 1000 ≤ k → σ k = σ0 k) (hR : R σ) (kk : ∀ σ2 : zSo, (∀ k, 1000 ≤ k → σ2 k = σ0 k) → R σ2 → Z 1293 (lwL i) [] σ2) : Z 465 (lwL i) [] σ := by
  have hz := lw_len h0 hL hF
  show Z 465 [(0, .ref 1100), (1, .ref 0), (2, .ref 70), (3, .int (nI i))] [] σ
  repeat refine Z_step hZ rfl rfl ?_
  refine Z_ld hZ (j := i + 1) rfl (nI_add i 1) (by rw [hz]; omega) (by rw [hz]; omega) rfl ?_
  repeat refine Z_step hZ rfl rfl ?_
  refine Z_ld hZ (j := i + 2) rfl (nI_add i 2) (by rw [hz]; omega) (by rw [hz]; omega) rfl ?_
  repeat refine Z_step hZ rfl rfl ?_
  refine Z_call hZ rfl rfl (zC_mono (pr_move (d := 20) _ _ hR) (fun r σ1 h hF1 => ?_))
  obtain ⟨a, rfl, h⟩ := h
  have hz1 := lw_len h0 hL hF1
  repeat refine Z_step hZ rfl rfl ?_
  refine Z_ld hZ (j := i + 1) rfl (nI_add i 1) (by rw [hz1]; omega) (by rw [hz1]; omega) (v := σ 1100 (i + 1)) (by rw [hF1 1100 (by omega), hF 1100 (by omega)]) ?_
  repeat refine Z_step hZ rfl rfl ?_
  refine Z_ld hZ (j := i + 2) rfl (nI_add i 2) (by rw [hz1]; omega) (by rw [hz1]; omega) (v := σ 1100 (i + 2)) (by rw [hF1 1100 (by omega), hF 1100 (by omega)]) ?_
  repeat refine Z_step hZ rfl rfl ?_
  refine Z_call hZ rfl rfl (zC_mono h (fun r2 σ2 h2 hF2 => ?_))
  obtain ⟨rfl, hR2, -⟩ := h2
  repeat refine Z_step hZ rfl rfl ?_
  refine Z_t rfl ?_
  exact kk σ2 hF2 hR2
set_option maxHeartbeats 4000000 in
set_option maxRecDepth 100000 in
theorem lwc_bribe {Z : zJ} {σ0 σ : zSo} {i L : Nat} (hZ : zHyp Z σ0) (h0 : σ0 1101 0 = nI L) (hL : L ≤ 3072) (hi : i + 6 ≤ L) (hF : ∀ k, 1000 ≤ k → σ k = σ0 k) (hR : R σ) (kk : ∀ σ2 : zSo, (∀ k, 1000 ≤ k → σ2 k = σ0 k) → R σ2 → Z 1293 (lwL i) [] σ2) : Z 498 (lwL i) [] σ := by
  have hz := lw_len h0 hL hF
  show Z 498 [(0, .ref 1100), (1, .ref 0), (2, .ref 70), (3, .int (nI i))] [] σ
  repeat refine Z_step hZ rfl rfl ?_
  refine Z_ld hZ (j := i + 1) rfl (nI_add i 1) (by rw [hz]; omega) (by rw [hz]; omega) rfl ?_
  repeat refine Z_step hZ rfl rfl ?_
  refine Z_ld hZ (j := i + 2) rfl (nI_add i 2) (by rw [hz]; omega) (by rw [hz]; omega) rfl ?_
  repeat refine Z_step hZ rfl rfl ?_
  refine Z_call hZ rfl rfl (zC_mono (pr_bribe (d := 20) _ _ hR) (fun r σ1 h hF1 => ?_))
  obtain ⟨a, rfl, h⟩ := h
  have hz1 := lw_len h0 hL hF1
  repeat refine Z_step hZ rfl rfl ?_
  refine Z_ld hZ (j := i + 1) rfl (nI_add i 1) (by rw [hz1]; omega) (by rw [hz1]; omega) (v := σ 1100 (i + 1)) (by rw [hF1 1100 (by omega), hF 1100 (by omega)]) ?_
  repeat refine Z_step hZ rfl rfl ?_
  refine Z_ld hZ (j := i + 2) rfl (nI_add i 2) (by rw [hz1]; omega) (by rw [hz1]; omega) (v := σ 1100 (i + 2)) (by rw [hF1 1100 (by omega), hF 1100 (by omega)]) ?_
  repeat refine Z_step hZ rfl rfl ?_
  refine Z_call hZ rfl rfl (zC_mono h (fun r2 σ2 h2 hF2 => ?_))
  obtain ⟨rfl, hR2, -⟩ := h2
  repeat refine Z_step hZ rfl rfl ?_
  refine Z_t rfl ?_
  exact kk σ2 hF2 hR2
set_option maxHeartbeats 4000000 in
set_option maxRecDepth 100000 in
theorem lwc_years {Z : zJ} {σ0 σ : zSo} {i L : Nat} (hZ : zHyp Z σ0) (h0 : σ0 1101 0 = nI L) (hL : L ≤ 3072) (hi : i + 6 ≤ L) (hF : ∀ k, 1000 ≤ k → σ k = σ0 k) (hR : R σ) (kk : ∀ σ2 : zSo, (∀ k, 1000 ≤ k → σ2 k = σ0 k) → R σ2 → Z 1293 (lwL i) [] σ2) : Z 531 (lwL i) [] σ := by
  have hz := lw_len h0 hL hF
  show Z 531 [(0, .ref 1100), (1, .ref 0), (2, .ref 70), (3, .int (nI i))] [] σ
  repeat refine Z_step hZ rfl rfl ?_
  refine Z_ld hZ (j := i + 1) rfl (nI_add i 1) (by rw [hz]; omega) (by rw [hz]; omega) rfl ?_
  repeat refine Z_step hZ rfl rfl ?_
  refine Z_call hZ rfl rfl (zC_mono (pr_years (d := 20) _ hR) (fun r σ1 h hF1 => ?_))
  obtain ⟨a, rfl, h⟩ := h
  have hz1 := lw_len h0 hL hF1
  repeat refine Z_step hZ rfl rfl ?_
  refine Z_ld hZ (j := i + 1) rfl (nI_add i 1) (by rw [hz1]; omega) (by rw [hz1]; omega) (v := σ 1100 (i + 1)) (by rw [hF1 1100 (by omega), hF 1100 (by omega)]) ?_
  repeat refine Z_step hZ rfl rfl ?_
  refine Z_call hZ rfl rfl (zC_mono h (fun r2 σ2 h2 hF2 => ?_))
  obtain ⟨rfl, hR2, -⟩ := h2
  repeat refine Z_step hZ rfl rfl ?_
  refine Z_t rfl ?_
  exact kk σ2 hF2 hR2
set_option maxHeartbeats 4000000 in
set_option maxRecDepth 100000 in
theorem lwc_witness {Z : zJ} {σ0 σ : zSo} {i L : Nat} (hZ : zHyp Z σ0) (h0 : σ0 1101 0 = nI L) (hL : L ≤ 3072) (hi : i + 6 ≤ L) (hF : ∀ k, 1000 ≤ k → σ k = σ0 k) (hR : R σ) (kk : ∀ σ2 : zSo, (∀ k, 1000 ≤ k → σ2 k = σ0 k) → R σ2 → Z 1293 (lwL i) [] σ2) : Z 554 (lwL i) [] σ := by
  have hz := lw_len h0 hL hF
  show Z 554 [(0, .ref 1100), (1, .ref 0), (2, .ref 70), (3, .int (nI i))] [] σ
  repeat refine Z_step hZ rfl rfl ?_
  refine Z_ld hZ (j := i + 1) rfl (nI_add i 1) (by rw [hz]; omega) (by rw [hz]; omega) rfl ?_
  repeat refine Z_step hZ rfl rfl ?_
  refine Z_ld hZ (j := i + 2) rfl (nI_add i 2) (by rw [hz]; omega) (by rw [hz]; omega) rfl ?_
  repeat refine Z_step hZ rfl rfl ?_
  refine Z_call hZ rfl rfl (zC_mono (pr_witness (d := 20) _ _ hR) (fun r σ1 h hF1 => ?_))
  obtain ⟨a, rfl, h⟩ := h
  have hz1 := lw_len h0 hL hF1
  repeat refine Z_step hZ rfl rfl ?_
  refine Z_ld hZ (j := i + 1) rfl (nI_add i 1) (by rw [hz1]; omega) (by rw [hz1]; omega) (v := σ 1100 (i + 1)) (by rw [hF1 1100 (by omega), hF 1100 (by omega)]) ?_
  repeat refine Z_step hZ rfl rfl ?_
  refine Z_ld hZ (j := i + 2) rfl (nI_add i 2) (by rw [hz1]; omega) (by rw [hz1]; omega) (v := σ 1100 (i + 2)) (by rw [hF1 1100 (by omega), hF 1100 (by omega)]) ?_
  repeat refine Z_step hZ rfl rfl ?_
  refine Z_call hZ rfl rfl (zC_mono h (fun r2 σ2 h2 hF2 => ?_))
  obtain ⟨rfl, hR2, -⟩ := h2
  repeat refine Z_step hZ rfl rfl ?_
  refine Z_t rfl ?_
  exact kk σ2 hF2 hR2
set_option maxHeartbeats 4000000 in
set_option maxRecDepth 100000 in
theorem lwc_memory {Z : zJ} {σ0 σ : zSo} {i L : Nat} (hZ : zHyp Z σ0) (h0 : σ0 1101 0 = nI L) (hL : L ≤ 3072) (hi : i + 6 ≤ L) (hF : ∀ k, 1000 ≤ k → σ k = σ0 k) (hR : R σ) (kk : ∀ σ2 : zSo, (∀ k, 1000 ≤ k → σ2 k = σ0 k) → R σ2 → Z 1293 (lwL i) [] σ2) : Z 587 (lwL i) [] σ := by
  have hz := lw_len h0 hL hF
  show Z 587 [(0, .ref 1100), (1, .ref 0), (2, .ref 70), (3, .int (nI i))] [] σ
  repeat refine Z_step hZ rfl rfl ?_
  refine Z_ld hZ (j := i + 1) rfl (nI_add i 1) (by rw [hz]; omega) (by rw [hz]; omega) rfl ?_
  repeat refine Z_step hZ rfl rfl ?_
  refine Z_ld hZ (j := i + 2) rfl (nI_add i 2) (by rw [hz]; omega) (by rw [hz]; omega) rfl ?_
  repeat refine Z_step hZ rfl rfl ?_
  refine Z_ld hZ (j := i + 3) rfl (nI_add i 3) (by rw [hz]; omega) (by rw [hz]; omega) rfl ?_
  repeat refine Z_step hZ rfl rfl ?_
  refine Z_call hZ rfl rfl (zC_mono (pr_memory (d := 20) _ _ _ hR) (fun r σ1 h hF1 => ?_))
  obtain ⟨a, rfl, h⟩ := h
  have hz1 := lw_len h0 hL hF1
  repeat refine Z_step hZ rfl rfl ?_
  refine Z_ld hZ (j := i + 1) rfl (nI_add i 1) (by rw [hz1]; omega) (by rw [hz1]; omega) (v := σ 1100 (i + 1)) (by rw [hF1 1100 (by omega), hF 1100 (by omega)]) ?_
  repeat refine Z_step hZ rfl rfl ?_
  refine Z_ld hZ (j := i + 2) rfl (nI_add i 2) (by rw [hz1]; omega) (by rw [hz1]; omega) (v := σ 1100 (i + 2)) (by rw [hF1 1100 (by omega), hF 1100 (by omega)]) ?_
  repeat refine Z_step hZ rfl rfl ?_
  refine Z_ld hZ (j := i + 3) rfl (nI_add i 3) (by rw [hz1]; omega) (by rw [hz1]; omega) (v := σ 1100 (i + 3)) (by rw [hF1 1100 (by omega), hF 1100 (by omega)]) ?_
  repeat refine Z_step hZ rfl rfl ?_
  refine Z_call hZ rfl rfl (zC_mono h (fun r2 σ2 h2 hF2 => ?_))
  obtain ⟨rfl, hR2, -⟩ := h2
  repeat refine Z_step hZ rfl rfl ?_
  refine Z_t rfl ?_
  exact kk σ2 hF2 hR2
set_option maxHeartbeats 4000000 in
set_option maxRecDepth 100000 in
theorem lwc_stone {Z : zJ} {σ0 σ : zSo} {i L : Nat} (hZ : zHyp Z σ0) (h0 : σ0 1101 0 = nI L) (hL : L ≤ 3072) (hi : i + 6 ≤ L) (hF : ∀ k, 1000 ≤ k → σ k = σ0 k) (hR : R σ) (kk : ∀ σ2 : zSo, (∀ k, 1000 ≤ k → σ2 k = σ0 k) → R σ2 → Z 1293 (lwL i) [] σ2) : Z 630 (lwL i) [] σ := by
  have hz := lw_len h0 hL hF
  show Z 630 [(0, .ref 1100), (1, .ref 0), (2, .ref 70), (3, .int (nI i))] [] σ
  repeat refine Z_step hZ rfl rfl ?_
  refine Z_ld hZ (j := i + 1) rfl (nI_add i 1) (by rw [hz]; omega) (by rw [hz]; omega) rfl ?_
  repeat refine Z_step hZ rfl rfl ?_
  refine Z_call hZ rfl rfl (zC_mono (pr_stone (d := 20) _ hR) (fun r σ1 h hF1 => ?_))
  obtain ⟨a, rfl, h⟩ := h
  have hz1 := lw_len h0 hL hF1
  repeat refine Z_step hZ rfl rfl ?_
  refine Z_ld hZ (j := i + 1) rfl (nI_add i 1) (by rw [hz1]; omega) (by rw [hz1]; omega) (v := σ 1100 (i + 1)) (by rw [hF1 1100 (by omega), hF 1100 (by omega)]) ?_
  repeat refine Z_step hZ rfl rfl ?_
  refine Z_call hZ rfl rfl (zC_mono h (fun r2 σ2 h2 hF2 => ?_))
  obtain ⟨rfl, hR2, -⟩ := h2
  repeat refine Z_step hZ rfl rfl ?_
  refine Z_t rfl ?_
  exact kk σ2 hF2 hR2
set_option maxHeartbeats 4000000 in
set_option maxRecDepth 100000 in
theorem lwc_sworn {Z : zJ} {σ0 σ : zSo} {i L : Nat} (hZ : zHyp Z σ0) (h0 : σ0 1101 0 = nI L) (hL : L ≤ 3072) (hi : i + 6 ≤ L) (hF : ∀ k, 1000 ≤ k → σ k = σ0 k) (hR : R σ) (kk : ∀ σ2 : zSo, (∀ k, 1000 ≤ k → σ2 k = σ0 k) → R σ2 → Z 1293 (lwL i) [] σ2) : Z 653 (lwL i) [] σ := by
  have hz := lw_len h0 hL hF
  show Z 653 [(0, .ref 1100), (1, .ref 0), (2, .ref 70), (3, .int (nI i))] [] σ
  repeat refine Z_step hZ rfl rfl ?_
  refine Z_ld hZ (j := i + 1) rfl (nI_add i 1) (by rw [hz]; omega) (by rw [hz]; omega) rfl ?_
  repeat refine Z_step hZ rfl rfl ?_
  refine Z_ld hZ (j := i + 2) rfl (nI_add i 2) (by rw [hz]; omega) (by rw [hz]; omega) rfl ?_
  repeat refine Z_step hZ rfl rfl ?_
  refine Z_call hZ rfl rfl (zC_mono (pr_sworn (d := 20) _ _ hR) (fun r σ1 h hF1 => ?_))
  obtain ⟨a, rfl, h⟩ := h
  have hz1 := lw_len h0 hL hF1
  repeat refine Z_step hZ rfl rfl ?_
  refine Z_ld hZ (j := i + 1) rfl (nI_add i 1) (by rw [hz1]; omega) (by rw [hz1]; omega) (v := σ 1100 (i + 1)) (by rw [hF1 1100 (by omega), hF 1100 (by omega)]) ?_
  repeat refine Z_step hZ rfl rfl ?_
  refine Z_ld hZ (j := i + 2) rfl (nI_add i 2) (by rw [hz1]; omega) (by rw [hz1]; omega) (v := σ 1100 (i + 2)) (by rw [hF1 1100 (by omega), hF 1100 (by omega)]) ?_
  repeat refine Z_step hZ rfl rfl ?_
  refine Z_call hZ rfl rfl (zC_mono h (fun r2 σ2 h2 hF2 => ?_))
  obtain ⟨rfl, hR2, -⟩ := h2
  repeat refine Z_step hZ rfl rfl ?_
  refine Z_t rfl ?_
  exact kk σ2 hF2 hR2
set_option maxHeartbeats 4000000 in
set_option maxRecDepth 100000 in
theorem lwc_belief {Z : zJ} {σ0 σ : zSo} {i L : Nat} (hZ : zHyp Z σ0) (h0 : σ0 1101 0 = nI L) (hL : L ≤ 3072) (hi : i + 6 ≤ L) (hF : ∀ k, 1000 ≤ k → σ k = σ0 k) (hR : R σ) (kk : ∀ σ2 : zSo, (∀ k, 1000 ≤ k → σ2 k = σ0 k) → R σ2 → Z 1293 (lwL i) [] σ2) : Z 686 (lwL i) [] σ := by
  have hz := lw_len h0 hL hF
  show Z 686 [(0, .ref 1100), (1, .ref 0), (2, .ref 70), (3, .int (nI i))] [] σ
  repeat refine Z_step hZ rfl rfl ?_
  refine Z_ld hZ (j := i + 1) rfl (nI_add i 1) (by rw [hz]; omega) (by rw [hz]; omega) rfl ?_
  repeat refine Z_step hZ rfl rfl ?_
  refine Z_ld hZ (j := i + 2) rfl (nI_add i 2) (by rw [hz]; omega) (by rw [hz]; omega) rfl ?_
  repeat refine Z_step hZ rfl rfl ?_
  refine Z_ld hZ (j := i + 3) rfl (nI_add i 3) (by rw [hz]; omega) (by rw [hz]; omega) rfl ?_
  repeat refine Z_step hZ rfl rfl ?_
  refine Z_call hZ rfl rfl (zC_mono (pr_belief (d := 20) _ _ _ hR) (fun r σ1 h hF1 => ?_))
  obtain ⟨a, rfl, h⟩ := h
  have hz1 := lw_len h0 hL hF1
  repeat refine Z_step hZ rfl rfl ?_
  refine Z_ld hZ (j := i + 1) rfl (nI_add i 1) (by rw [hz1]; omega) (by rw [hz1]; omega) (v := σ 1100 (i + 1)) (by rw [hF1 1100 (by omega), hF 1100 (by omega)]) ?_
  repeat refine Z_step hZ rfl rfl ?_
  refine Z_ld hZ (j := i + 2) rfl (nI_add i 2) (by rw [hz1]; omega) (by rw [hz1]; omega) (v := σ 1100 (i + 2)) (by rw [hF1 1100 (by omega), hF 1100 (by omega)]) ?_
  repeat refine Z_step hZ rfl rfl ?_
  refine Z_ld hZ (j := i + 3) rfl (nI_add i 3) (by rw [hz1]; omega) (by rw [hz1]; omega) (v := σ 1100 (i + 3)) (by rw [hF1 1100 (by omega), hF 1100 (by omega)]) ?_
  repeat refine Z_step hZ rfl rfl ?_
  refine Z_call hZ rfl rfl (zC_mono h (fun r2 σ2 h2 hF2 => ?_))
  obtain ⟨rfl, hR2, -⟩ := h2
  repeat refine Z_step hZ rfl rfl ?_
  refine Z_t rfl ?_
  exact kk σ2 hF2 hR2
set_option maxHeartbeats 4000000 in
set_option maxRecDepth 100000 in
theorem lwc_likeliest {Z : zJ} {σ0 σ : zSo} {i L : Nat} (hZ : zHyp Z σ0) (h0 : σ0 1101 0 = nI L) (hL : L ≤ 3072) (hi : i + 6 ≤ L) (hF : ∀ k, 1000 ≤ k → σ k = σ0 k) (hR : R σ) (kk : ∀ σ2 : zSo, (∀ k, 1000 ≤ k → σ2 k = σ0 k) → R σ2 → Z 1293 (lwL i) [] σ2) : Z 729 (lwL i) [] σ := by
  have hz := lw_len h0 hL hF
  show Z 729 [(0, .ref 1100), (1, .ref 0), (2, .ref 70), (3, .int (nI i))] [] σ
  repeat refine Z_step hZ rfl rfl ?_
  refine Z_ld hZ (j := i + 1) rfl (nI_add i 1) (by rw [hz]; omega) (by rw [hz]; omega) rfl ?_
  repeat refine Z_step hZ rfl rfl ?_
  refine Z_call hZ rfl rfl (zC_mono (pr_likeliest (d := 20) _ hR) (fun r σ1 h hF1 => ?_))
  obtain ⟨a, rfl, h⟩ := h
  have hz1 := lw_len h0 hL hF1
  repeat refine Z_step hZ rfl rfl ?_
  refine Z_ld hZ (j := i + 1) rfl (nI_add i 1) (by rw [hz1]; omega) (by rw [hz1]; omega) (v := σ 1100 (i + 1)) (by rw [hF1 1100 (by omega), hF 1100 (by omega)]) ?_
  repeat refine Z_step hZ rfl rfl ?_
  refine Z_call hZ rfl rfl (zC_mono h (fun r2 σ2 h2 hF2 => ?_))
  obtain ⟨rfl, hR2, -⟩ := h2
  repeat refine Z_step hZ rfl rfl ?_
  refine Z_t rfl ?_
  exact kk σ2 hF2 hR2
set_option maxHeartbeats 4000000 in
set_option maxRecDepth 100000 in
theorem lwc_till {Z : zJ} {σ0 σ : zSo} {i L : Nat} (hZ : zHyp Z σ0) (h0 : σ0 1101 0 = nI L) (hL : L ≤ 3072) (hi : i + 6 ≤ L) (hF : ∀ k, 1000 ≤ k → σ k = σ0 k) (hR : R σ) (kk : ∀ σ2 : zSo, (∀ k, 1000 ≤ k → σ2 k = σ0 k) → R σ2 → Z 1293 (lwL i) [] σ2) : Z 752 (lwL i) [] σ := by
  have hz := lw_len h0 hL hF
  show Z 752 [(0, .ref 1100), (1, .ref 0), (2, .ref 70), (3, .int (nI i))] [] σ
  repeat refine Z_step hZ rfl rfl ?_
  refine Z_ld hZ (j := i + 1) rfl (nI_add i 1) (by rw [hz]; omega) (by rw [hz]; omega) rfl ?_
  repeat refine Z_step hZ rfl rfl ?_
  refine Z_ld hZ (j := i + 2) rfl (nI_add i 2) (by rw [hz]; omega) (by rw [hz]; omega) rfl ?_
  repeat refine Z_step hZ rfl rfl ?_
  refine Z_call hZ rfl rfl (zC_mono (pr_till (d := 20) _ _ hR) (fun r σ1 h hF1 => ?_))
  obtain ⟨a, rfl, h⟩ := h
  have hz1 := lw_len h0 hL hF1
  repeat refine Z_step hZ rfl rfl ?_
  refine Z_ld hZ (j := i + 1) rfl (nI_add i 1) (by rw [hz1]; omega) (by rw [hz1]; omega) (v := σ 1100 (i + 1)) (by rw [hF1 1100 (by omega), hF 1100 (by omega)]) ?_
  repeat refine Z_step hZ rfl rfl ?_
  refine Z_ld hZ (j := i + 2) rfl (nI_add i 2) (by rw [hz1]; omega) (by rw [hz1]; omega) (v := σ 1100 (i + 2)) (by rw [hF1 1100 (by omega), hF 1100 (by omega)]) ?_
  repeat refine Z_step hZ rfl rfl ?_
  refine Z_call hZ rfl rfl (zC_mono h (fun r2 σ2 h2 hF2 => ?_))
  obtain ⟨rfl, hR2, -⟩ := h2
  repeat refine Z_step hZ rfl rfl ?_
  refine Z_t rfl ?_
  exact kk σ2 hF2 hR2
set_option maxHeartbeats 4000000 in
set_option maxRecDepth 100000 in
theorem lwc_take {Z : zJ} {σ0 σ : zSo} {i L : Nat} (hZ : zHyp Z σ0) (h0 : σ0 1101 0 = nI L) (hL : L ≤ 3072) (hi : i + 6 ≤ L) (hF : ∀ k, 1000 ≤ k → σ k = σ0 k) (hR : R σ) (kk : ∀ σ2 : zSo, (∀ k, 1000 ≤ k → σ2 k = σ0 k) → R σ2 → Z 1293 (lwL i) [] σ2) : Z 785 (lwL i) [] σ := by
  have hz := lw_len h0 hL hF
  show Z 785 [(0, .ref 1100), (1, .ref 0), (2, .ref 70), (3, .int (nI i))] [] σ
  repeat refine Z_step hZ rfl rfl ?_
  refine Z_ld hZ (j := i + 1) rfl (nI_add i 1) (by rw [hz]; omega) (by rw [hz]; omega) rfl ?_
  repeat refine Z_step hZ rfl rfl ?_
  refine Z_ld hZ (j := i + 2) rfl (nI_add i 2) (by rw [hz]; omega) (by rw [hz]; omega) rfl ?_
  repeat refine Z_step hZ rfl rfl ?_
  refine Z_ld hZ (j := i + 3) rfl (nI_add i 3) (by rw [hz]; omega) (by rw [hz]; omega) rfl ?_
  repeat refine Z_step hZ rfl rfl ?_
  refine Z_ld hZ (j := i + 4) rfl (nI_add i 4) (by rw [hz]; omega) (by rw [hz]; omega) rfl ?_
  repeat refine Z_step hZ rfl rfl ?_
  refine Z_ld hZ (j := i + 5) rfl (nI_add i 5) (by rw [hz]; omega) (by rw [hz]; omega) rfl ?_
  repeat refine Z_step hZ rfl rfl ?_
  refine Z_call hZ rfl rfl (zC_mono (pr_take (d := 10) _ _ _ _ _ hR) (fun r σ1 h hF1 => ?_))
  obtain ⟨a, rfl, h⟩ := h
  have hz1 := lw_len h0 hL hF1
  repeat refine Z_step hZ rfl rfl ?_
  refine Z_ld hZ (j := i + 1) rfl (nI_add i 1) (by rw [hz1]; omega) (by rw [hz1]; omega) (v := σ 1100 (i + 1)) (by rw [hF1 1100 (by omega), hF 1100 (by omega)]) ?_
  repeat refine Z_step hZ rfl rfl ?_
  refine Z_ld hZ (j := i + 2) rfl (nI_add i 2) (by rw [hz1]; omega) (by rw [hz1]; omega) (v := σ 1100 (i + 2)) (by rw [hF1 1100 (by omega), hF 1100 (by omega)]) ?_
  repeat refine Z_step hZ rfl rfl ?_
  refine Z_ld hZ (j := i + 3) rfl (nI_add i 3) (by rw [hz1]; omega) (by rw [hz1]; omega) (v := σ 1100 (i + 3)) (by rw [hF1 1100 (by omega), hF 1100 (by omega)]) ?_
  repeat refine Z_step hZ rfl rfl ?_
  refine Z_ld hZ (j := i + 4) rfl (nI_add i 4) (by rw [hz1]; omega) (by rw [hz1]; omega) (v := σ 1100 (i + 4)) (by rw [hF1 1100 (by omega), hF 1100 (by omega)]) ?_
  repeat refine Z_step hZ rfl rfl ?_
  refine Z_ld hZ (j := i + 5) rfl (nI_add i 5) (by rw [hz1]; omega) (by rw [hz1]; omega) (v := σ 1100 (i + 5)) (by rw [hF1 1100 (by omega), hF 1100 (by omega)]) ?_
  repeat refine Z_step hZ rfl rfl ?_
  refine Z_call hZ rfl rfl (zC_mono h (fun r2 σ2 h2 hF2 => ?_))
  obtain ⟨rfl, hR2, -⟩ := h2
  repeat refine Z_step hZ rfl rfl ?_
  refine Z_t rfl ?_
  exact kk σ2 hF2 hR2
set_option maxHeartbeats 4000000 in
set_option maxRecDepth 100000 in
theorem lwc_pain {Z : zJ} {σ0 σ : zSo} {i L : Nat} (hZ : zHyp Z σ0) (h0 : σ0 1101 0 = nI L) (hL : L ≤ 3072) (hi : i + 6 ≤ L) (hF : ∀ k, 1000 ≤ k → σ k = σ0 k) (hR : R σ) (kk : ∀ σ2 : zSo, (∀ k, 1000 ≤ k → σ2 k = σ0 k) → R σ2 → Z 1293 (lwL i) [] σ2) : Z 848 (lwL i) [] σ := by
  have hz := lw_len h0 hL hF
  show Z 848 [(0, .ref 1100), (1, .ref 0), (2, .ref 70), (3, .int (nI i))] [] σ
  repeat refine Z_step hZ rfl rfl ?_
  refine Z_ld hZ (j := i + 1) rfl (nI_add i 1) (by rw [hz]; omega) (by rw [hz]; omega) rfl ?_
  repeat refine Z_step hZ rfl rfl ?_
  refine Z_ld hZ (j := i + 2) rfl (nI_add i 2) (by rw [hz]; omega) (by rw [hz]; omega) rfl ?_
  repeat refine Z_step hZ rfl rfl ?_
  refine Z_ld hZ (j := i + 3) rfl (nI_add i 3) (by rw [hz]; omega) (by rw [hz]; omega) rfl ?_
  repeat refine Z_step hZ rfl rfl ?_
  refine Z_call hZ rfl rfl (zC_mono (pr_pain (d := 20) _ _ _ hR) (fun r σ1 h hF1 => ?_))
  obtain ⟨a, rfl, h⟩ := h
  have hz1 := lw_len h0 hL hF1
  repeat refine Z_step hZ rfl rfl ?_
  refine Z_ld hZ (j := i + 1) rfl (nI_add i 1) (by rw [hz1]; omega) (by rw [hz1]; omega) (v := σ 1100 (i + 1)) (by rw [hF1 1100 (by omega), hF 1100 (by omega)]) ?_
  repeat refine Z_step hZ rfl rfl ?_
  refine Z_ld hZ (j := i + 2) rfl (nI_add i 2) (by rw [hz1]; omega) (by rw [hz1]; omega) (v := σ 1100 (i + 2)) (by rw [hF1 1100 (by omega), hF 1100 (by omega)]) ?_
  repeat refine Z_step hZ rfl rfl ?_
  refine Z_ld hZ (j := i + 3) rfl (nI_add i 3) (by rw [hz1]; omega) (by rw [hz1]; omega) (v := σ 1100 (i + 3)) (by rw [hF1 1100 (by omega), hF 1100 (by omega)]) ?_
  repeat refine Z_step hZ rfl rfl ?_
  refine Z_call hZ rfl rfl (zC_mono h (fun r2 σ2 h2 hF2 => ?_))
  obtain ⟨rfl, hR2, -⟩ := h2
  repeat refine Z_step hZ rfl rfl ?_
  refine Z_t rfl ?_
  exact kk σ2 hF2 hR2
set_option maxHeartbeats 4000000 in
set_option maxRecDepth 100000 in
theorem lwc_order {Z : zJ} {σ0 σ : zSo} {i L : Nat} (hZ : zHyp Z σ0) (h0 : σ0 1101 0 = nI L) (hL : L ≤ 3072) (hi : i + 6 ≤ L) (hF : ∀ k, 1000 ≤ k → σ k = σ0 k) (hR : R σ) (kk : ∀ σ2 : zSo, (∀ k, 1000 ≤ k → σ2 k = σ0 k) → R σ2 → Z 1293 (lwL i) [] σ2) : Z 891 (lwL i) [] σ := by
  have hz := lw_len h0 hL hF
  show Z 891 [(0, .ref 1100), (1, .ref 0), (2, .ref 70), (3, .int (nI i))] [] σ
  repeat refine Z_step hZ rfl rfl ?_
  refine Z_ld hZ (j := i + 1) rfl (nI_add i 1) (by rw [hz]; omega) (by rw [hz]; omega) rfl ?_
  repeat refine Z_step hZ rfl rfl ?_
  refine Z_ld hZ (j := i + 2) rfl (nI_add i 2) (by rw [hz]; omega) (by rw [hz]; omega) rfl ?_
  repeat refine Z_step hZ rfl rfl ?_
  refine Z_call hZ rfl rfl (zC_mono (pr_order (d := 20) _ _ hR) (fun r σ1 h hF1 => ?_))
  obtain ⟨a, rfl, h⟩ := h
  have hz1 := lw_len h0 hL hF1
  repeat refine Z_step hZ rfl rfl ?_
  refine Z_ld hZ (j := i + 1) rfl (nI_add i 1) (by rw [hz1]; omega) (by rw [hz1]; omega) (v := σ 1100 (i + 1)) (by rw [hF1 1100 (by omega), hF 1100 (by omega)]) ?_
  repeat refine Z_step hZ rfl rfl ?_
  refine Z_ld hZ (j := i + 2) rfl (nI_add i 2) (by rw [hz1]; omega) (by rw [hz1]; omega) (v := σ 1100 (i + 2)) (by rw [hF1 1100 (by omega), hF 1100 (by omega)]) ?_
  repeat refine Z_step hZ rfl rfl ?_
  refine Z_call hZ rfl rfl (zC_mono h (fun r2 σ2 h2 hF2 => ?_))
  obtain ⟨rfl, hR2, -⟩ := h2
  repeat refine Z_step hZ rfl rfl ?_
  refine Z_t rfl ?_
  exact kk σ2 hF2 hR2
set_option maxHeartbeats 4000000 in
set_option maxRecDepth 100000 in
theorem lwc_stood {Z : zJ} {σ0 σ : zSo} {i L : Nat} (hZ : zHyp Z σ0) (h0 : σ0 1101 0 = nI L) (hL : L ≤ 3072) (hi : i + 6 ≤ L) (hF : ∀ k, 1000 ≤ k → σ k = σ0 k) (hR : R σ) (kk : ∀ σ2 : zSo, (∀ k, 1000 ≤ k → σ2 k = σ0 k) → R σ2 → Z 1293 (lwL i) [] σ2) : Z 924 (lwL i) [] σ := by
  have hz := lw_len h0 hL hF
  show Z 924 [(0, .ref 1100), (1, .ref 0), (2, .ref 70), (3, .int (nI i))] [] σ
  repeat refine Z_step hZ rfl rfl ?_
  refine Z_ld hZ (j := i + 1) rfl (nI_add i 1) (by rw [hz]; omega) (by rw [hz]; omega) rfl ?_
  repeat refine Z_step hZ rfl rfl ?_
  refine Z_ld hZ (j := i + 2) rfl (nI_add i 2) (by rw [hz]; omega) (by rw [hz]; omega) rfl ?_
  repeat refine Z_step hZ rfl rfl ?_
  refine Z_ld hZ (j := i + 3) rfl (nI_add i 3) (by rw [hz]; omega) (by rw [hz]; omega) rfl ?_
  repeat refine Z_step hZ rfl rfl ?_
  refine Z_call hZ rfl rfl (zC_mono (pr_stood (d := 20) _ _ _ hR) (fun r σ1 h hF1 => ?_))
  obtain ⟨a, rfl, h⟩ := h
  have hz1 := lw_len h0 hL hF1
  repeat refine Z_step hZ rfl rfl ?_
  refine Z_ld hZ (j := i + 1) rfl (nI_add i 1) (by rw [hz1]; omega) (by rw [hz1]; omega) (v := σ 1100 (i + 1)) (by rw [hF1 1100 (by omega), hF 1100 (by omega)]) ?_
  repeat refine Z_step hZ rfl rfl ?_
  refine Z_ld hZ (j := i + 2) rfl (nI_add i 2) (by rw [hz1]; omega) (by rw [hz1]; omega) (v := σ 1100 (i + 2)) (by rw [hF1 1100 (by omega), hF 1100 (by omega)]) ?_
  repeat refine Z_step hZ rfl rfl ?_
  refine Z_ld hZ (j := i + 3) rfl (nI_add i 3) (by rw [hz1]; omega) (by rw [hz1]; omega) (v := σ 1100 (i + 3)) (by rw [hF1 1100 (by omega), hF 1100 (by omega)]) ?_
  repeat refine Z_step hZ rfl rfl ?_
  refine Z_call hZ rfl rfl (zC_mono h (fun r2 σ2 h2 hF2 => ?_))
  obtain ⟨rfl, hR2, -⟩ := h2
  repeat refine Z_step hZ rfl rfl ?_
  refine Z_t rfl ?_
  exact kk σ2 hF2 hR2
set_option maxHeartbeats 4000000 in
set_option maxRecDepth 100000 in
theorem lwc_shift {Z : zJ} {σ0 σ : zSo} {i L : Nat} (hZ : zHyp Z σ0) (h0 : σ0 1101 0 = nI L) (hL : L ≤ 3072) (hi : i + 6 ≤ L) (hF : ∀ k, 1000 ≤ k → σ k = σ0 k) (hR : R σ) (kk : ∀ σ2 : zSo, (∀ k, 1000 ≤ k → σ2 k = σ0 k) → R σ2 → Z 1293 (lwL i) [] σ2) : Z 967 (lwL i) [] σ := by
  have hz := lw_len h0 hL hF
  show Z 967 [(0, .ref 1100), (1, .ref 0), (2, .ref 70), (3, .int (nI i))] [] σ
  repeat refine Z_step hZ rfl rfl ?_
  refine Z_ld hZ (j := i + 1) rfl (nI_add i 1) (by rw [hz]; omega) (by rw [hz]; omega) rfl ?_
  repeat refine Z_step hZ rfl rfl ?_
  refine Z_ld hZ (j := i + 2) rfl (nI_add i 2) (by rw [hz]; omega) (by rw [hz]; omega) rfl ?_
  repeat refine Z_step hZ rfl rfl ?_
  refine Z_call hZ rfl rfl (zC_mono (pr_shift (d := 20) _ _ hR) (fun r σ1 h hF1 => ?_))
  obtain ⟨a, rfl, h⟩ := h
  have hz1 := lw_len h0 hL hF1
  repeat refine Z_step hZ rfl rfl ?_
  refine Z_ld hZ (j := i + 1) rfl (nI_add i 1) (by rw [hz1]; omega) (by rw [hz1]; omega) (v := σ 1100 (i + 1)) (by rw [hF1 1100 (by omega), hF 1100 (by omega)]) ?_
  repeat refine Z_step hZ rfl rfl ?_
  refine Z_ld hZ (j := i + 2) rfl (nI_add i 2) (by rw [hz1]; omega) (by rw [hz1]; omega) (v := σ 1100 (i + 2)) (by rw [hF1 1100 (by omega), hF 1100 (by omega)]) ?_
  repeat refine Z_step hZ rfl rfl ?_
  refine Z_call hZ rfl rfl (zC_mono h (fun r2 σ2 h2 hF2 => ?_))
  obtain ⟨rfl, hR2, -⟩ := h2
  repeat refine Z_step hZ rfl rfl ?_
  refine Z_t rfl ?_
  exact kk σ2 hF2 hR2
set_option maxHeartbeats 4000000 in
set_option maxRecDepth 100000 in
theorem lwc_map {Z : zJ} {σ0 σ : zSo} {i L : Nat} (hZ : zHyp Z σ0) (h0 : σ0 1101 0 = nI L) (hL : L ≤ 3072) (hi : i + 6 ≤ L) (hF : ∀ k, 1000 ≤ k → σ k = σ0 k) (hR : R σ) (kk : ∀ σ2 : zSo, (∀ k, 1000 ≤ k → σ2 k = σ0 k) → R σ2 → Z 1293 (lwL i) [] σ2) : Z 1000 (lwL i) [] σ := by
  have hz := lw_len h0 hL hF
  show Z 1000 [(0, .ref 1100), (1, .ref 0), (2, .ref 70), (3, .int (nI i))] [] σ
  repeat refine Z_step hZ rfl rfl ?_
  refine Z_ld hZ (j := i + 1) rfl (nI_add i 1) (by rw [hz]; omega) (by rw [hz]; omega) rfl ?_
  repeat refine Z_step hZ rfl rfl ?_
  refine Z_ld hZ (j := i + 2) rfl (nI_add i 2) (by rw [hz]; omega) (by rw [hz]; omega) rfl ?_
  repeat refine Z_step hZ rfl rfl ?_
  refine Z_call hZ rfl rfl (zC_mono (pr_map (d := 20) _ _ hR) (fun r σ1 h hF1 => ?_))
  obtain ⟨a, rfl, h⟩ := h
  have hz1 := lw_len h0 hL hF1
  repeat refine Z_step hZ rfl rfl ?_
  refine Z_ld hZ (j := i + 1) rfl (nI_add i 1) (by rw [hz1]; omega) (by rw [hz1]; omega) (v := σ 1100 (i + 1)) (by rw [hF1 1100 (by omega), hF 1100 (by omega)]) ?_
  repeat refine Z_step hZ rfl rfl ?_
  refine Z_ld hZ (j := i + 2) rfl (nI_add i 2) (by rw [hz1]; omega) (by rw [hz1]; omega) (v := σ 1100 (i + 2)) (by rw [hF1 1100 (by omega), hF 1100 (by omega)]) ?_
  repeat refine Z_step hZ rfl rfl ?_
  refine Z_call hZ rfl rfl (zC_mono h (fun r2 σ2 h2 hF2 => ?_))
  obtain ⟨rfl, hR2, -⟩ := h2
  repeat refine Z_step hZ rfl rfl ?_
  refine Z_t rfl ?_
  exact kk σ2 hF2 hR2
set_option maxHeartbeats 4000000 in
set_option maxRecDepth 100000 in
theorem lwc_agree {Z : zJ} {σ0 σ : zSo} {i L : Nat} (hZ : zHyp Z σ0) (h0 : σ0 1101 0 = nI L) (hL : L ≤ 3072) (hi : i + 6 ≤ L) (hF : ∀ k, 1000 ≤ k → σ k = σ0 k) (hR : R σ) (kk : ∀ σ2 : zSo, (∀ k, 1000 ≤ k → σ2 k = σ0 k) → R σ2 → Z 1293 (lwL i) [] σ2) : Z 1033 (lwL i) [] σ := by
  have hz := lw_len h0 hL hF
  show Z 1033 [(0, .ref 1100), (1, .ref 0), (2, .ref 70), (3, .int (nI i))] [] σ
  repeat refine Z_step hZ rfl rfl ?_
  refine Z_ld hZ (j := i + 1) rfl (nI_add i 1) (by rw [hz]; omega) (by rw [hz]; omega) rfl ?_
  repeat refine Z_step hZ rfl rfl ?_
  refine Z_call hZ rfl rfl (zC_mono (pr_agree (d := 20) _ hR) (fun r σ1 h hF1 => ?_))
  obtain ⟨a, rfl, h⟩ := h
  have hz1 := lw_len h0 hL hF1
  repeat refine Z_step hZ rfl rfl ?_
  refine Z_ld hZ (j := i + 1) rfl (nI_add i 1) (by rw [hz1]; omega) (by rw [hz1]; omega) (v := σ 1100 (i + 1)) (by rw [hF1 1100 (by omega), hF 1100 (by omega)]) ?_
  repeat refine Z_step hZ rfl rfl ?_
  refine Z_call hZ rfl rfl (zC_mono h (fun r2 σ2 h2 hF2 => ?_))
  obtain ⟨rfl, hR2, -⟩ := h2
  repeat refine Z_step hZ rfl rfl ?_
  refine Z_t rfl ?_
  exact kk σ2 hF2 hR2
set_option maxHeartbeats 4000000 in
set_option maxRecDepth 100000 in
theorem lwc_drawn {Z : zJ} {σ0 σ : zSo} {i L : Nat} (hZ : zHyp Z σ0) (h0 : σ0 1101 0 = nI L) (hL : L ≤ 3072) (hi : i + 6 ≤ L) (hF : ∀ k, 1000 ≤ k → σ k = σ0 k) (hR : R σ) (kk : ∀ σ2 : zSo, (∀ k, 1000 ≤ k → σ2 k = σ0 k) → R σ2 → Z 1293 (lwL i) [] σ2) : Z 1056 (lwL i) [] σ := by
  have hz := lw_len h0 hL hF
  show Z 1056 [(0, .ref 1100), (1, .ref 0), (2, .ref 70), (3, .int (nI i))] [] σ
  repeat refine Z_step hZ rfl rfl ?_
  refine Z_ld hZ (j := i + 1) rfl (nI_add i 1) (by rw [hz]; omega) (by rw [hz]; omega) rfl ?_
  repeat refine Z_step hZ rfl rfl ?_
  refine Z_ld hZ (j := i + 2) rfl (nI_add i 2) (by rw [hz]; omega) (by rw [hz]; omega) rfl ?_
  repeat refine Z_step hZ rfl rfl ?_
  refine Z_ld hZ (j := i + 3) rfl (nI_add i 3) (by rw [hz]; omega) (by rw [hz]; omega) rfl ?_
  repeat refine Z_step hZ rfl rfl ?_
  refine Z_call hZ rfl rfl (zC_mono (pr_drawn (d := 20) _ _ _ hR) (fun r σ1 h hF1 => ?_))
  obtain ⟨a, rfl, h⟩ := h
  have hz1 := lw_len h0 hL hF1
  repeat refine Z_step hZ rfl rfl ?_
  refine Z_ld hZ (j := i + 1) rfl (nI_add i 1) (by rw [hz1]; omega) (by rw [hz1]; omega) (v := σ 1100 (i + 1)) (by rw [hF1 1100 (by omega), hF 1100 (by omega)]) ?_
  repeat refine Z_step hZ rfl rfl ?_
  refine Z_ld hZ (j := i + 2) rfl (nI_add i 2) (by rw [hz1]; omega) (by rw [hz1]; omega) (v := σ 1100 (i + 2)) (by rw [hF1 1100 (by omega), hF 1100 (by omega)]) ?_
  repeat refine Z_step hZ rfl rfl ?_
  refine Z_ld hZ (j := i + 3) rfl (nI_add i 3) (by rw [hz1]; omega) (by rw [hz1]; omega) (v := σ 1100 (i + 3)) (by rw [hF1 1100 (by omega), hF 1100 (by omega)]) ?_
  repeat refine Z_step hZ rfl rfl ?_
  refine Z_call hZ rfl rfl (zC_mono h (fun r2 σ2 h2 hF2 => ?_))
  obtain ⟨rfl, hR2, -⟩ := h2
  repeat refine Z_step hZ rfl rfl ?_
  refine Z_t rfl ?_
  exact kk σ2 hF2 hR2
set_option maxHeartbeats 4000000 in
set_option maxRecDepth 100000 in
theorem lwc_image {Z : zJ} {σ0 σ : zSo} {i L : Nat} (hZ : zHyp Z σ0) (h0 : σ0 1101 0 = nI L) (hL : L ≤ 3072) (hi : i + 6 ≤ L) (hF : ∀ k, 1000 ≤ k → σ k = σ0 k) (hR : R σ) (kk : ∀ σ2 : zSo, (∀ k, 1000 ≤ k → σ2 k = σ0 k) → R σ2 → Z 1293 (lwL i) [] σ2) : Z 1099 (lwL i) [] σ := by
  have hz := lw_len h0 hL hF
  show Z 1099 [(0, .ref 1100), (1, .ref 0), (2, .ref 70), (3, .int (nI i))] [] σ
  repeat refine Z_step hZ rfl rfl ?_
  refine Z_ld hZ (j := i + 1) rfl (nI_add i 1) (by rw [hz]; omega) (by rw [hz]; omega) rfl ?_
  repeat refine Z_step hZ rfl rfl ?_
  refine Z_call hZ rfl rfl (zC_mono (pr_image (d := 20) _ hR) (fun r σ1 h hF1 => ?_))
  obtain ⟨a, rfl, h⟩ := h
  have hz1 := lw_len h0 hL hF1
  repeat refine Z_step hZ rfl rfl ?_
  refine Z_ld hZ (j := i + 1) rfl (nI_add i 1) (by rw [hz1]; omega) (by rw [hz1]; omega) (v := σ 1100 (i + 1)) (by rw [hF1 1100 (by omega), hF 1100 (by omega)]) ?_
  repeat refine Z_step hZ rfl rfl ?_
  refine Z_call hZ rfl rfl (zC_mono h (fun r2 σ2 h2 hF2 => ?_))
  obtain ⟨rfl, hR2, -⟩ := h2
  repeat refine Z_step hZ rfl rfl ?_
  refine Z_t rfl ?_
  exact kk σ2 hF2 hR2
set_option maxHeartbeats 4000000 in
set_option maxRecDepth 100000 in
theorem lwc_restore {Z : zJ} {σ0 σ : zSo} {i L : Nat} (hZ : zHyp Z σ0) (h0 : σ0 1101 0 = nI L) (hL : L ≤ 3072) (hi : i + 6 ≤ L) (hF : ∀ k, 1000 ≤ k → σ k = σ0 k) (hR : R σ) (kk : ∀ σ2 : zSo, (∀ k, 1000 ≤ k → σ2 k = σ0 k) → R σ2 → Z 1293 (lwL i) [] σ2) : Z 1122 (lwL i) [] σ := by
  have hz := lw_len h0 hL hF
  show Z 1122 [(0, .ref 1100), (1, .ref 0), (2, .ref 70), (3, .int (nI i))] [] σ
  repeat refine Z_step hZ rfl rfl ?_
  refine Z_ld hZ (j := i + 1) rfl (nI_add i 1) (by rw [hz]; omega) (by rw [hz]; omega) rfl ?_
  repeat refine Z_step hZ rfl rfl ?_
  refine Z_call hZ rfl rfl (zC_mono (pr_restore (d := 20) _ hR) (fun r σ1 h hF1 => ?_))
  obtain ⟨a, rfl, h⟩ := h
  have hz1 := lw_len h0 hL hF1
  repeat refine Z_step hZ rfl rfl ?_
  refine Z_ld hZ (j := i + 1) rfl (nI_add i 1) (by rw [hz1]; omega) (by rw [hz1]; omega) (v := σ 1100 (i + 1)) (by rw [hF1 1100 (by omega), hF 1100 (by omega)]) ?_
  repeat refine Z_step hZ rfl rfl ?_
  refine Z_call hZ rfl rfl (zC_mono h (fun r2 σ2 h2 hF2 => ?_))
  obtain ⟨rfl, hR2, -⟩ := h2
  repeat refine Z_step hZ rfl rfl ?_
  refine Z_t rfl ?_
  exact kk σ2 hF2 hR2
set_option maxHeartbeats 4000000 in
set_option maxRecDepth 100000 in
theorem lwc_kind {Z : zJ} {σ0 σ : zSo} {i L : Nat} (hZ : zHyp Z σ0) (h0 : σ0 1101 0 = nI L) (hL : L ≤ 3072) (hi : i + 6 ≤ L) (hF : ∀ k, 1000 ≤ k → σ k = σ0 k) (hR : R σ) (kk : ∀ σ2 : zSo, (∀ k, 1000 ≤ k → σ2 k = σ0 k) → R σ2 → Z 1293 (lwL i) [] σ2) : Z 1145 (lwL i) [] σ := by
  have hz := lw_len h0 hL hF
  show Z 1145 [(0, .ref 1100), (1, .ref 0), (2, .ref 70), (3, .int (nI i))] [] σ
  repeat refine Z_step hZ rfl rfl ?_
  refine Z_ld hZ (j := i + 1) rfl (nI_add i 1) (by rw [hz]; omega) (by rw [hz]; omega) rfl ?_
  repeat refine Z_step hZ rfl rfl ?_
  refine Z_call hZ rfl rfl (zC_mono (pr_kind (d := 20) _ hR) (fun r σ1 h hF1 => ?_))
  obtain ⟨a, rfl, h⟩ := h
  have hz1 := lw_len h0 hL hF1
  repeat refine Z_step hZ rfl rfl ?_
  refine Z_ld hZ (j := i + 1) rfl (nI_add i 1) (by rw [hz1]; omega) (by rw [hz1]; omega) (v := σ 1100 (i + 1)) (by rw [hF1 1100 (by omega), hF 1100 (by omega)]) ?_
  repeat refine Z_step hZ rfl rfl ?_
  refine Z_call hZ rfl rfl (zC_mono h (fun r2 σ2 h2 hF2 => ?_))
  obtain ⟨rfl, hR2, -⟩ := h2
  repeat refine Z_step hZ rfl rfl ?_
  refine Z_t rfl ?_
  exact kk σ2 hF2 hR2
set_option maxHeartbeats 4000000 in
set_option maxRecDepth 100000 in
theorem lwc_as {Z : zJ} {σ0 σ : zSo} {i L : Nat} (hZ : zHyp Z σ0) (h0 : σ0 1101 0 = nI L) (hL : L ≤ 3072) (hi : i + 6 ≤ L) (hF : ∀ k, 1000 ≤ k → σ k = σ0 k) (hR : R σ) (kk : ∀ σ2 : zSo, (∀ k, 1000 ≤ k → σ2 k = σ0 k) → R σ2 → Z 1293 (lwL i) [] σ2) : Z 1168 (lwL i) [] σ := by
  have hz := lw_len h0 hL hF
  show Z 1168 [(0, .ref 1100), (1, .ref 0), (2, .ref 70), (3, .int (nI i))] [] σ
  repeat refine Z_step hZ rfl rfl ?_
  refine Z_ld hZ (j := i + 1) rfl (nI_add i 1) (by rw [hz]; omega) (by rw [hz]; omega) rfl ?_
  repeat refine Z_step hZ rfl rfl ?_
  refine Z_ld hZ (j := i + 2) rfl (nI_add i 2) (by rw [hz]; omega) (by rw [hz]; omega) rfl ?_
  repeat refine Z_step hZ rfl rfl ?_
  refine Z_call hZ rfl rfl (zC_mono (pr_as (d := 20) _ _ hR) (fun r σ1 h hF1 => ?_))
  obtain ⟨a, rfl, h⟩ := h
  have hz1 := lw_len h0 hL hF1
  repeat refine Z_step hZ rfl rfl ?_
  refine Z_ld hZ (j := i + 1) rfl (nI_add i 1) (by rw [hz1]; omega) (by rw [hz1]; omega) (v := σ 1100 (i + 1)) (by rw [hF1 1100 (by omega), hF 1100 (by omega)]) ?_
  repeat refine Z_step hZ rfl rfl ?_
  refine Z_ld hZ (j := i + 2) rfl (nI_add i 2) (by rw [hz1]; omega) (by rw [hz1]; omega) (v := σ 1100 (i + 2)) (by rw [hF1 1100 (by omega), hF 1100 (by omega)]) ?_
  repeat refine Z_step hZ rfl rfl ?_
  refine Z_call hZ rfl rfl (zC_mono h (fun r2 σ2 h2 hF2 => ?_))
  obtain ⟨rfl, hR2, -⟩ := h2
  repeat refine Z_step hZ rfl rfl ?_
  refine Z_t rfl ?_
  exact kk σ2 hF2 hR2
set_option maxHeartbeats 4000000 in
set_option maxRecDepth 100000 in
theorem lwc_ask {Z : zJ} {σ0 σ : zSo} {i L : Nat} (hZ : zHyp Z σ0) (h0 : σ0 1101 0 = nI L) (hL : L ≤ 3072) (hi : i + 6 ≤ L) (hF : ∀ k, 1000 ≤ k → σ k = σ0 k) (hR : R σ) (kk : ∀ σ2 : zSo, (∀ k, 1000 ≤ k → σ2 k = σ0 k) → R σ2 → Z 1293 (lwL i) [] σ2) : Z 1201 (lwL i) [] σ := by
  have hz := lw_len h0 hL hF
  show Z 1201 [(0, .ref 1100), (1, .ref 0), (2, .ref 70), (3, .int (nI i))] [] σ
  repeat refine Z_step hZ rfl rfl ?_
  refine Z_ld hZ (j := i + 1) rfl (nI_add i 1) (by rw [hz]; omega) (by rw [hz]; omega) rfl ?_
  repeat refine Z_step hZ rfl rfl ?_
  refine Z_ld hZ (j := i + 2) rfl (nI_add i 2) (by rw [hz]; omega) (by rw [hz]; omega) rfl ?_
  repeat refine Z_step hZ rfl rfl ?_
  refine Z_call hZ rfl rfl (zC_mono (pr_ask (d := 10) _ _ hR) (fun r σ1 h hF1 => ?_))
  obtain ⟨a, rfl, h⟩ := h
  have hz1 := lw_len h0 hL hF1
  repeat refine Z_step hZ rfl rfl ?_
  refine Z_ld hZ (j := i + 1) rfl (nI_add i 1) (by rw [hz1]; omega) (by rw [hz1]; omega) (v := σ 1100 (i + 1)) (by rw [hF1 1100 (by omega), hF 1100 (by omega)]) ?_
  repeat refine Z_step hZ rfl rfl ?_
  refine Z_ld hZ (j := i + 2) rfl (nI_add i 2) (by rw [hz1]; omega) (by rw [hz1]; omega) (v := σ 1100 (i + 2)) (by rw [hF1 1100 (by omega), hF 1100 (by omega)]) ?_
  repeat refine Z_step hZ rfl rfl ?_
  refine Z_call hZ rfl rfl (zC_mono h (fun r2 σ2 h2 hF2 => ?_))
  obtain ⟨rfl, hR2, -⟩ := h2
  repeat refine Z_step hZ rfl rfl ?_
  refine Z_t rfl ?_
  exact kk σ2 hF2 hR2
set_option maxHeartbeats 4000000 in
set_option maxRecDepth 100000 in
theorem lwc_trace {Z : zJ} {σ0 σ : zSo} {i L : Nat} (hZ : zHyp Z σ0) (h0 : σ0 1101 0 = nI L) (hL : L ≤ 3072) (hi : i + 6 ≤ L) (hF : ∀ k, 1000 ≤ k → σ k = σ0 k) (hR : R σ) (kk : ∀ σ2 : zSo, (∀ k, 1000 ≤ k → σ2 k = σ0 k) → R σ2 → Z 1293 (lwL i) [] σ2) : Z 1234 (lwL i) [] σ := by
  have hz := lw_len h0 hL hF
  show Z 1234 [(0, .ref 1100), (1, .ref 0), (2, .ref 70), (3, .int (nI i))] [] σ
  repeat refine Z_step hZ rfl rfl ?_
  refine Z_ld hZ (j := i + 1) rfl (nI_add i 1) (by rw [hz]; omega) (by rw [hz]; omega) rfl ?_
  repeat refine Z_step hZ rfl rfl ?_
  refine Z_call hZ rfl rfl (zC_mono (pr_trace (d := 20) _ hR) (fun r σ1 h hF1 => ?_))
  obtain ⟨a, rfl, h⟩ := h
  have hz1 := lw_len h0 hL hF1
  repeat refine Z_step hZ rfl rfl ?_
  refine Z_ld hZ (j := i + 1) rfl (nI_add i 1) (by rw [hz1]; omega) (by rw [hz1]; omega) (v := σ 1100 (i + 1)) (by rw [hF1 1100 (by omega), hF 1100 (by omega)]) ?_
  repeat refine Z_step hZ rfl rfl ?_
  refine Z_call hZ rfl rfl (zC_mono h (fun r2 σ2 h2 hF2 => ?_))
  obtain ⟨rfl, hR2, -⟩ := h2
  repeat refine Z_step hZ rfl rfl ?_
  refine Z_t rfl ?_
  exact kk σ2 hF2 hR2
set_option maxHeartbeats 4000000 in
set_option maxRecDepth 100000 in
theorem lwc_count {Z : zJ} {σ0 σ : zSo} {i L : Nat} (hZ : zHyp Z σ0) (h0 : σ0 1101 0 = nI L) (hL : L ≤ 3072) (hi : i + 6 ≤ L) (hF : ∀ k, 1000 ≤ k → σ k = σ0 k) (hR : R σ) (kk : ∀ σ2 : zSo, (∀ k, 1000 ≤ k → σ2 k = σ0 k) → R σ2 → Z 1293 (lwL i) [] σ2) : Z 1257 (lwL i) [] σ := by
  have hz := lw_len h0 hL hF
  show Z 1257 [(0, .ref 1100), (1, .ref 0), (2, .ref 70), (3, .int (nI i))] [] σ
  repeat refine Z_step hZ rfl rfl ?_
  refine Z_ld hZ (j := i + 1) rfl (nI_add i 1) (by rw [hz]; omega) (by rw [hz]; omega) rfl ?_
  repeat refine Z_step hZ rfl rfl ?_
  refine Z_call hZ rfl rfl (zC_mono (pr_count (d := 20) _ hR) (fun r σ1 h hF1 => ?_))
  obtain ⟨a, rfl, h⟩ := h
  have hz1 := lw_len h0 hL hF1
  repeat refine Z_step hZ rfl rfl ?_
  refine Z_ld hZ (j := i + 1) rfl (nI_add i 1) (by rw [hz1]; omega) (by rw [hz1]; omega) (v := σ 1100 (i + 1)) (by rw [hF1 1100 (by omega), hF 1100 (by omega)]) ?_
  repeat refine Z_step hZ rfl rfl ?_
  refine Z_call hZ rfl rfl (zC_mono h (fun r2 σ2 h2 hF2 => ?_))
  obtain ⟨rfl, hR2, -⟩ := h2
  repeat refine Z_step hZ rfl rfl ?_
  refine Z_t rfl ?_
  exact kk σ2 hF2 hR2
set_option maxHeartbeats 4000000 in
set_option maxRecDepth 100000 in
theorem lwc_status {Z : zJ} {σ0 σ : zSo} {i L : Nat} (hZ : zHyp Z σ0) (h0 : σ0 1101 0 = nI L) (hL : L ≤ 3072) (hi : i + 6 ≤ L) (hF : ∀ k, 1000 ≤ k → σ k = σ0 k) (hR : R σ) (kk : ∀ σ2 : zSo, (∀ k, 1000 ≤ k → σ2 k = σ0 k) → R σ2 → Z 1293 (lwL i) [] σ2) : Z 1280 (lwL i) [] σ := by
  have hz := lw_len h0 hL hF
  show Z 1280 [(0, .ref 1100), (1, .ref 0), (2, .ref 70), (3, .int (nI i))] [] σ
  repeat refine Z_step hZ rfl rfl ?_
  refine Z_call hZ rfl rfl (zC_mono (pr_status (d := 20) hR) (fun r σ1 h hF1 => ?_))
  obtain ⟨a, rfl, h⟩ := h
  have hz1 := lw_len h0 hL hF1
  repeat refine Z_step hZ rfl rfl ?_
  refine Z_call hZ rfl rfl (zC_mono h (fun r2 σ2 h2 hF2 => ?_))
  obtain ⟨rfl, hR2, -⟩ := h2
  repeat refine Z_step hZ rfl rfl ?_
  refine Z_t rfl ?_
  exact kk σ2 hF2 hR2
set_option maxHeartbeats 4000000 in
set_option maxRecDepth 100000 in
theorem lw_loop {Z : zJ} {σ0 : zSo} {L : Nat} (hZ : zHyp Z σ0) (h0 : σ0 1101 0 = nI L) (hL : L ≤ 3072) : ∀ (n i : Nat) (σ : zSo), L < i + 6 * n + 6 → i ≤ 3078 → (∀ k, 1000 ≤ k → σ k = σ0 k) → R σ → Z 18 (lwL i) [] σ := by
  intro n
  induction n with
  | zero =>
    intro i σ h1 h2 hF hR
    have hz := lw_len h0 hL hF
    show Z 18 [(0, .ref 1100), (1, .ref 0), (2, .ref 70), (3, .int (nI i))] [] σ
    refine Z_s0 hZ rfl ?_
    repeat refine Z_step hZ rfl rfl ?_
    rw [hz]
    refine Z_t (show nI L - 6 < nI i from (by simp (disch := omega) only [nu_lt, nu_le, nu_eq, nu_cmp_lt, nu_cmp_gt, nu_cmp_ge, nu_cmp_le, nu_wide, Int32.toInt_add, Int32.toInt_sub, Int32.toInt_mul, nu_I, Nat.reducePow, nu_bm, Int32.reduceToInt, Int64.reduceToInt]; omega)) ?_
    repeat refine Z_step hZ rfl rfl ?_
    exact hZ.2.2.2 _ _ _ _ rfl
  | succ n ih =>
    intro i σ h1 h2 hF hR
    have hz := lw_len h0 hL hF
    by_cases hi : i + 6 ≤ L
    rotate_left
    · show Z 18 [(0, .ref 1100), (1, .ref 0), (2, .ref 70), (3, .int (nI i))] [] σ
      refine Z_s0 hZ rfl ?_
      repeat refine Z_step hZ rfl rfl ?_
      rw [hz]
      refine Z_t (show nI L - 6 < nI i from (by simp (disch := omega) only [nu_lt, nu_le, nu_eq, nu_cmp_lt, nu_cmp_gt, nu_cmp_ge, nu_cmp_le, nu_wide, Int32.toInt_add, Int32.toInt_sub, Int32.toInt_mul, nu_I, Nat.reducePow, nu_bm, Int32.reduceToInt, Int64.reduceToInt]; omega)) ?_
      repeat refine Z_step hZ rfl rfl ?_
      exact hZ.2.2.2 _ _ _ _ rfl
    have kk : ∀ σ2 : zSo, (∀ k, 1000 ≤ k → σ2 k = σ0 k) → R σ2 → Z 1293 (lwL i) [] σ2 := by
      intro σ2 hF2 hR2
      show Z 1293 [(0, .ref 1100), (1, .ref 0), (2, .ref 70), (3, .int (nI i))] [] σ2
      repeat refine Z_step hZ rfl rfl ?_
      have e : nI i + 6 = nI (i + 6) := nI_add i 6
      rw [e]
      exact ih (i + 6) σ2 (by omega) (by omega) hF2 hR2
    show Z 18 [(0, .ref 1100), (1, .ref 0), (2, .ref 70), (3, .int (nI i))] [] σ
    refine Z_s0 hZ rfl ?_
    repeat refine Z_step hZ rfl rfl ?_
    rw [hz]
    refine Z_f (show ¬ nI L - 6 < nI i from (by simp (disch := omega) only [nu_lt, nu_le, nu_eq, nu_cmp_lt, nu_cmp_gt, nu_cmp_ge, nu_cmp_le, nu_wide, Int32.toInt_add, Int32.toInt_sub, Int32.toInt_mul, nu_I, Nat.reducePow, nu_bm, Int32.reduceToInt, Int64.reduceToInt]; omega)) ?_
    repeat refine Z_step hZ rfl rfl ?_
    refine Z_ld hZ (j := i) rfl rfl (by rw [hz]; omega) (by rw [hz]; omega) rfl ?_
    refine Z_s0 hZ rfl ?_
    refine Z_s0 hZ rfl ?_
    generalize σ 1100 i &&& 63 = x
    refine Z_s0 hZ rfl ?_
    rcases zsw_spec x 1293 [(0, 188), (1, 231), (2, 274), (3, 337), (4, 360), (5, 383), (6, 396), (7, 409), (8, 422), (9, 465), (10, 498), (11, 531), (12, 554), (13, 587), (14, 630), (15, 653), (16, 686), (17, 729), (18, 752), (19, 785), (20, 848), (21, 891), (22, 924), (23, 967), (24, 1000), (25, 1033), (26, 1056), (27, 1099), (28, 1122), (29, 1145), (30, 1168), (31, 1201), (32, 1234), (33, 1257), (34, 1280)] with ⟨q, g1, g2, g3⟩ | ⟨g1, g3⟩
    · rw [g3]
      simp only [List.mem_cons, List.not_mem_nil, or_false] at g1
      rcases g1 with rfl | rfl | rfl | rfl | rfl | rfl | rfl | rfl | rfl | rfl | rfl | rfl | rfl | rfl | rfl | rfl | rfl | rfl | rfl | rfl | rfl | rfl | rfl | rfl | rfl | rfl | rfl | rfl | rfl | rfl | rfl | rfl | rfl | rfl | rfl
      · exact lwc_row hZ h0 hL hi hF hR kk
      · exact lwc_set hZ h0 hL hi hF hR kk
      · exact lwc_copy hZ h0 hL hi hF hR kk
      · exact lwc_drop hZ h0 hL hi hF hR kk
      · exact lwc_feed hZ h0 hL hi hF hR kk
      · exact lwc_parish hZ h0 hL hi hF hR kk
      · exact lwc_fault hZ h0 hL hi hF hR kk
      · exact lwc_undo hZ h0 hL hi hF hR kk
      · exact lwc_walk hZ h0 hL hi hF hR kk
      · exact lwc_move hZ h0 hL hi hF hR kk
      · exact lwc_bribe hZ h0 hL hi hF hR kk
      · exact lwc_years hZ h0 hL hi hF hR kk
      · exact lwc_witness hZ h0 hL hi hF hR kk
      · exact lwc_memory hZ h0 hL hi hF hR kk
      · exact lwc_stone hZ h0 hL hi hF hR kk
      · exact lwc_sworn hZ h0 hL hi hF hR kk
      · exact lwc_belief hZ h0 hL hi hF hR kk
      · exact lwc_likeliest hZ h0 hL hi hF hR kk
      · exact lwc_till hZ h0 hL hi hF hR kk
      · exact lwc_take hZ h0 hL hi hF hR kk
      · exact lwc_pain hZ h0 hL hi hF hR kk
      · exact lwc_order hZ h0 hL hi hF hR kk
      · exact lwc_stood hZ h0 hL hi hF hR kk
      · exact lwc_shift hZ h0 hL hi hF hR kk
      · exact lwc_map hZ h0 hL hi hF hR kk
      · exact lwc_agree hZ h0 hL hi hF hR kk
      · exact lwc_drawn hZ h0 hL hi hF hR kk
      · exact lwc_image hZ h0 hL hi hF hR kk
      · exact lwc_restore hZ h0 hL hi hF hR kk
      · exact lwc_kind hZ h0 hL hi hF hR kk
      · exact lwc_as hZ h0 hL hi hF hR kk
      · exact lwc_ask hZ h0 hL hi hF hR kk
      · exact lwc_trace hZ h0 hL hi hF hR kk
      · exact lwc_count hZ h0 hL hi hF hR kk
      · exact lwc_status hZ h0 hL hi hF hR kk
    · rw [g3]
      exact kk σ hF hR
