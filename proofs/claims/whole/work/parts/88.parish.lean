/-! parish: the class beside the reference -/
theorem PC_TP {σ : zSo} {v : pT} (h : TP σ v.1 v.2.1 v.2.2.1 v.2.2.2) (h3 : v.2.2.1.length ≤ 6) (h4 : v.2.2.2.length ≤ 6) : PC σ 29 (qP v) := by
  obtain ⟨⟨a1, a2, a3, a4, a5⟩, b1, c1, e1, f1⟩ := h
  refine ⟨⟨a1, a2⟩, a4, a5, a3, fun s hs => ?_, fun w hw => ?_, fun w s hw hs => ⟨fun _ => ?_, fun q hq => by cases hq⟩⟩
  · have hs : s < v.2.2.1.length := hs
    obtain ⟨y, hy⟩ := tk_get hs
    show σ 30 s = nI (v.2.2.1.getD s 0)
    rw [gD hy]
    exact b1 s y hy
  · have hw : w < v.2.2.2.length := hw
    obtain ⟨q, hq⟩ := tk_get hw
    obtain ⟨g1, g2, g3⟩ := c1 w q hq
    show σ 31 w = nI (v.2.2.2.getD w (1, 0, 0)).1 ∧ σ 32 w = nI ((v.2.2.2.getD w (1, 0, 0)).2.1 - 0) ∧ σ 33 w = nI (v.2.2.2.getD w (1, 0, 0)).2.2 ∧ σ 34 w = Int32.ofInt 0
    rw [gD hq]
    exact ⟨g1, g2, g3, e1 w (by omega)⟩
  · have hw : w < v.2.2.2.length := hw
    have hs : s < v.2.2.1.length := hs
    exact f1 (6 * w + s) (by omega)
theorem parR_ok {b : Nat → Nat} {n : Nat} {v : pT} (h : parR b n = .inr v) : (1 ≤ v.1 ∧ v.1 ≤ 30) ∧ (1 ≤ v.2.1 ∧ v.2.1 ≤ 30) ∧ (1 ≤ v.2.2.1.length ∧ v.2.2.1.length ≤ 6) ∧ (1 ≤ v.2.2.2.length ∧ v.2.2.2.length ≤ 6) ∧ (∀ y ∈ v.2.2.1, y ≤ 99) ∧ ∀ q ∈ v.2.2.2, okW q := by
  unfold parR at h
  obtain ⟨x, h1, h⟩ := sb_ok h
  obtain ⟨u, h2, h⟩ := sb_ok h
  obtain ⟨ks, h3, h⟩ := sb_ok h
  cases h
  have l := lawR_ok h1
  have s := stR_ok h2 (by simp) (by simp) l.2.2 (by simp)
  have w := wiR_ok h3 (by simp) (by simp) (by simp)
  exact ⟨l.1, l.2.1, s.1, w.1, s.2.2, w.2⟩
/-- the tape, the parish and the acts have changed: all else is as it was -/
def ztq (k j : Nat) : Bool := ztp k j || zpa k j
theorem ztq_t {k j : Nat} (h : ztq k j = false) : ztp k j = false := by unfold ztq at h; exact (Bool.or_eq_false_iff.mp h).1
theorem ztq_p {k j : Nat} (h : ztq k j = false) : zpa k j = false := by unfold ztq at h; exact (Bool.or_eq_false_iff.mp h).2
theorem R.tpar {σ τ : zSo} (h : R σ) (hk : zKg ztq σ τ) (ht : rTape τ) (hf : τ 18 3 = τ 70 18) {p : paT} {L : List paT} (hp : rPar τ p) (ha : rActs τ p L) : R τ ∧ ∀ k, 1000 ≤ k → τ k = σ k := by
  have g := h.tape (σ' := fun k j => if ztp k j = true then τ k j else σ k j) (fun k j hz => by simp [hz])
    (ht.kp (if_pos rfl) (if_pos rfl) (funext fun j => if_pos rfl) (funext fun j => if_pos rfl)) ((if_pos rfl).trans (hf.trans (if_pos rfl).symm))
  have g2 := g.1.par (σ' := τ) (fun k j hz => by
    show τ k j = if ztp k j = true then τ k j else σ k j
    cases hc : ztp k j with
    | true => simp
    | false => simp; exact hk k j (by unfold ztq; rw [hc, hz]; rfl)) hp ha
  exact ⟨g2.1, fun k hk => (g2.2 k hk).trans (g.2 k hk)⟩
theorem ztp_tp (j : Nat) : ztp 18 j = true := by
  unfold ztp
  rw [show Nat.beq 18 18 = true from rfl]
  simp
theorem ztp_tc : ∀ a ∈ 18 :: tC, ∀ j, ztp a j = true := by
  intro a ha j
  simp only [tC, List.mem_cons, List.not_mem_nil, or_false] at ha
  rcases ha with rfl | rfl | rfl | rfl | rfl | rfl | rfl | rfl | rfl | rfl
  · exact ztp_tp j
  all_goals rfl
theorem ztq_of {a : Nat} {j : Nat} (h : ztp a j = true) : ztq a j = true := by unfold ztq; rw [h]; rfl
theorem ztq_now : ∀ a ∈ [20, 20 + 1, 20 + 2, 20 + 3, 20 + 4, 20 + 5, 20 + 6, 20 + 7, 20 + 8], ∀ j, ztq a j = true := by
  intro a ha j
  simp only [List.mem_cons, List.not_mem_nil, or_false] at ha
  rcases ha with rfl | rfl | rfl | rfl | rfl | rfl | rfl | rfl | rfl <;> rfl
theorem ztp_mod {j : Nat} (h : ztp 70 j = false) : j ≠ 0 ∧ (j < 11 ∨ 18 < j) := by
  refine ⟨fun e => (by subst e; cases h), ?_⟩
  rcases Nat.lt_or_ge j 11 with c | c
  · exact Or.inl c
  · rcases Nat.lt_or_ge 18 j with c2 | c2
    · exact Or.inr c2
    · exfalso
      rcases (show j = 11 ∨ j = 12 ∨ j = 13 ∨ j = 14 ∨ j = 15 ∨ j = 16 ∨ j = 17 ∨ j = 18 by omega) with rfl | rfl | rfl | rfl | rfl | rfl | rfl | rfl <;> cases h
set_option maxHeartbeats 4000000 in
set_option maxRecDepth 100000 in
theorem pr_parish {d : Nat} {σ : zSo} (hR : R σ) : zPair (d + 20) 63 128 [] σ := by
  obtain ⟨n, hn, h1, h2, h3⟩ := hR.2.1
  have hfl : σ 18 3 = σ 70 18 := hR.2.2.1.2.1
  obtain ⟨-, -, -, -, ⟨p, hp, L, hL⟩, -⟩ := id hR
  obtain ⟨-, -, nx, hnx, hx1, -⟩ := (rActs_iff.mp hL).1
  obtain ⟨b, hb⟩ : ∃ b : Nat → Nat, ∀ j, j < n → σ 19 j = nI (b j) ∧ σ 78 j = nI (b j) ∧ b j < 256 := by
    refine ⟨fun j => (σ 19 j).toNatClampNeg, fun j hj => ?_⟩
    obtain ⟨x, hx, e1, e2⟩ := h3 j hj
    show σ 19 j = nI (σ 19 j).toNatClampNeg ∧ σ 78 j = nI (σ 19 j).toNatClampNeg ∧ (σ 19 j).toNatClampNeg < 256
    rw [e1, e2, nI_clamp (by omega)]
    exact ⟨rfl, rfl, hx⟩
  have tcq : ∀ a ∈ tC, ∀ j, ztp a j = true := fun a ha j => ztp_tc a (List.mem_cons_of_mem _ ha) j
  show zA (d + 20) _ 0 [(0, .ref 0)] [] σ _
  repeat refine zA_step rfl rfl ?_
  refine zA_call rfl rfl (cl_clear (fun σ1 hF1 hP1 => ?_))
  repeat refine zA_step rfl rfl ?_
  have hT1 : TC σ1 b n := ⟨hn, by rw [hF1 18 (by decide)]; exact h1, fun j hj => by rw [hF1 19 (by decide)]; exact ⟨(hb j hj).1, (hb j hj).2.2⟩⟩
  refine zA_call rfl rfl (cl_readInto hT1 hP1 (fun v hv σ2 hF2 e1 e2 hP2 ht2 => ?_) (fun e he σ2 hF2 e1 e2 e3 => ?_))
  · have ok := parR_ok hv
    have hW : paW (qP v) 999 := qP_W ok.1 ok.2.1 ok.2.2.1.2 ok.2.2.2.1.2 ok.2.2.2.2.1 ok.2.2.2.2.2
    have K2 : zKg ztq σ σ2 := (zKg.rf.fr hF1 (fun a ha j => ztq_of (tcq a ha j))).fr hF2 (fun a ha j => ztq_of (ztp_tc a ha j))
    repeat refine zA_step rfl rfl ?_
    refine zA_call rfl rfl (cl_become (P := 20) (O := 29) (Or.inr (Or.inl ⟨rfl, rfl⟩)) (PC_TP hP2 ok.2.2.1.2 ok.2.2.2.1.2) hW (Or.inr ht2) (fun σ3 hF3 hC3 ht3 => ?_))
    have K3 : zKg ztq σ σ3 := K2.fr hF3 ztq_now
    repeat refine zA_step rfl rfl ?_
    refine zA_call rfl rfl ?_
    show zA (d + 19) _ 0 [(0, .ref 57)] [] σ3 _
    repeat refine zA_step rfl rfl ?_
    refine zA_ret rfl ?_
    repeat refine zA_step rfl rfl ?_
    refine zA_ret rfl ⟨nI v.2.2.2.length, ?_, ?_⟩
    · show some (Value.int (σ3 20 5)) = _
      rw [show σ3 20 5 = nI v.2.2.2.length from hC3.2.2.1]
    have K4 : zKg ztq σ (zup σ3 57 0 0) := K3.up rfl
    have hT4 : TMm (zup σ3 57 0 0) b n := ⟨hn, by rw [zup_o _ _ _ (by decide), hF3 70 (by decide), hF2 70 (by decide), hF1 70 (by decide)]; exact h2, fun j hj => by rw [zup_o _ _ _ (by decide), hF3 78 (by decide), hF2 78 (by decide), hF1 78 (by decide)]; exact ⟨(hb j hj).2.1, (hb j hj).2.2⟩⟩
    refine mo_parish hT4 (fun e he => by rw [hv] at he; cases he) (fun v' hv' τ hE hl hM => ?_)
    rw [hv] at hv'
    cases hv'
    have hs1 : 0 < ps (qP v) := ok.2.2.1.1
    have hw1 : 0 < pw (qP v) := ok.2.2.2.1.1
    refine ⟨rfl, hR.tpar (p := qP v) (L := []) (fun k j hz => ?_) ⟨0, by omega, ?_, ?_, fun j hj => by omega⟩ ?_ ⟨hW, hC3.fr hW (fun k c1 c2 => ?_), hM, ?_, ⟨fun _ => hw1, fun _ => hs1⟩⟩ (rActs_iff.mpr ⟨⟨by simp, ?_, nx, hnx, ?_, trivial⟩, hE.2.2.1, fun i q' hi => by simp at hi⟩)⟩
    · have z1 := ztq_t hz
      have z2 := ztq_p hz
      rw [← K4 k j hz]
      by_cases c1 : k = 70
      · subst c1
        exact hE.2.2.2 j (ztp_mod z1).1 (fun z => by subst z; cases z2) (ztp_mod z1).2
      by_cases c2 : k = 75
      · subst c2; cases z1
      by_cases c3 : k = 74
      · subst c3; cases z2
      rw [hE.1 k c1 c2 c3]
    · rw [hE.1 18 (by decide) (by decide) (by decide), zup_o _ _ _ (by decide), hF3 18 (by decide)]; exact e2
    · exact hE.2.1
    · rw [hE.1 18 (by decide) (by decide) (by decide), zup_o _ _ _ (by decide), hF3 18 (by decide), e1, hF1 18 (by decide), hl, zup_o _ _ _ (by decide), hF3 70 (by decide), hF2 70 (by decide), hF1 70 (by decide)]
      exact hfl
    · rw [hE.1 k (by omega) (by omega) (by omega), zup_o _ _ _ (by omega)]
    · rw [hE.1 20 (by decide) (by decide) (by decide), zup_o _ _ _ (by decide), ht3, ht2, if_pos hs1]
    · rw [hE.1 57 (by decide) (by decide) (by decide)]; rfl
    · rw [hE.1 57 (by decide) (by decide) (by decide)]
      show σ3 57 1 = _
      rw [hF3 57 (by decide), hF2 57 (by decide), hF1 57 (by decide)]
      exact hx1
  · have K2 : zKg ztp σ σ2 := (zKg.rf.fr hF1 tcq).fr hF2 ztp_tc
    have hT2 : TMm σ2 b n := ⟨hn, by rw [hF2 70 (by decide), hF1 70 (by decide)]; exact h2, fun j hj => by rw [hF2 78 (by decide), hF1 78 (by decide)]; exact ⟨(hb j hj).2.1, (hb j hj).2.2⟩⟩
    repeat refine zA_step rfl rfl ?_
    refine zA_ret rfl ⟨-1000100 - nI e.2, ?_, ?_⟩
    · rw [e2]
    refine mo_parish hT2 (fun e' he' τ hE hl => ?_) (fun v hv => by rw [he] at hv; cases hv)
    rw [he] at he'
    cases he'
    refine ⟨rfl, hR.tape (fun k j hz => ?_) ⟨0, by omega, ?_, ?_, fun j hj => by omega⟩ ?_⟩
    · rw [← K2 k j hz]
      by_cases c1 : k = 70
      · subst c1
        exact hE.2.2 j (ztp_mod hz).1 (ztp_mod hz).2
      by_cases c2 : k = 75
      · subst c2; cases hz
      rw [hE.1 k c1 c2]
    · rw [hE.1 18 (by decide) (by decide)]; exact e3
    · exact hE.2.1
    · rw [hE.1 18 (by decide) (by decide), e1, hl]
