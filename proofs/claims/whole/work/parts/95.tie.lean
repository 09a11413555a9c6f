/-! THE LAW'S BODY over the machine is such a judgement -/
section ZT
variable {p : Program} {l : Launch} {e : Env} {R : Room} {s : State} {m : MethodId} {args : Array Value} {below : List Frame} {meth : Method} {c : Code} {g : zG} {σ0 : zSo} {A : Nat → Prop} {cells slots : Nat} {Q : State → Prop}
theorem zstep_ok {pc : Nat} {lo : zLo} {st : zSt} {σ : zSo} {x : zR} (hC : zCx RL cL_law 4 41 p R s m args c g σ0 A cells slots) (h : zstep 0 pc lo st σ = some x) : zOc zMD 4 cL_law (some .boolean) 41 p l e R s m args below meth c g σ0 A cells slots Q lo σ (zGo 4 p l e R s m args below meth c g σ0 A cells slots Q pc lo st σ) x := by
  have hs : ∃ f, zlook 0 pc = some f ∧ f lo st σ = some x := by
    unfold zstep at h
    split at h
    · rename_i f hf
      exact ⟨f, hf, h⟩
    · cases h
  obtain ⟨f, hf, hfx⟩ := hs
  exact zlook_ok (i := 0) (q := (yL_law, cL_law, 4, some .boolean)) rfl hf 41 p l e R s m args below meth c g σ0 A cells slots Q hC lo st σ x hfx
theorem zHyp_go (hC : zCx RL cL_law 4 41 p R s m args c g σ0 A cells slots) (hR : ∀ σ, zRet cL_law 4 (some .boolean) p l e R s m args below meth c g σ0 A cells slots Q (some (.int 1)) σ) : zHyp (zGo 4 p l e R s m args below meth c g σ0 A cells slots Q) σ0 := by
  refine ⟨fun pc lo st σ nx h k => ?_, fun pc lo st σ j as rest pc' h hb k => ?_, fun pc lo st σ k H locs ls h1 h2 h3 h4 h5 => k h4 H locs ls h1 h2 h3 h4 h5, fun pc lo st σ h => ?_⟩
  · obtain ⟨a, b, d, f⟩ := nx
    exact zstep_ok hC h k
  · obtain ⟨q, hq, hK⟩ := zstep_ok (l := l) (e := e) (below := below) (meth := meth) (Q := Q) hC h
    obtain ⟨n, r, σ1, h1, h2⟩ := k
    have hb' := Nat.le_of_ble_eq_true hb
    rw [zML_eq hq] at hb'
    rw [← zpush_eq] at h2
    exact hK 40 r σ1 rfl (zmet_of hq hb' (fun p e R s m args below meth c g σ0 A cells slots Q C R1 => zsnd l n 40 j q hq 0 _ [] σ r σ1 h1 p e R s m args below meth c g σ0 A cells slots Q C R1) g σ0) h2
  · exact zstep_ok hC h (hR σ)
end ZT
/-! THE START: what the Statement gives of the statics and of the script -/
theorem zStat_ini {args : Array Value} {s : State} {b L : Nat} {xs : Nat → Int32} {A : Nat → Prop} (hL : L ≤ 3072) (hgv : (Jvm.Cond.and given_1 narrow_1).before args s = true) (hl0 : (Cond.laysStatic "BeatBounds" "ABOVE" "[I").before args s = true) (hl1 : (Cond.laysStatic "BeatBounds" "SIZE_BODIES" "[I").before args s = true) (hl2 : (Cond.laysStatic "BeatBounds" "MARK_BODIES" "[I").before args s = true) (hini : (Cond.initialized "BeatBounds").before args s = true) (hX : va_X b L xs s s.heap) (hA : ∀ a : Nat, a < s.heap.size → ¬ A a) :
    ∃ t0 t1 t2 : Nat, ∀ (q0 q1 : Nat) (u0 u1 : Nat → Nat) (D : va_G) (cA : Nat → ClassId), zStat (iA q0 q1 u0 u1 t0 t1 t2 b, D, cA) (iS xs L) A s s.heap := by
  have hs := flat_of_before _ hgv
  have tb : ∀ (nm : String) (T : List Int32), (Cond.arrayOf (.static "BeatBounds" nm "[I") .int).before args s = true → (Cond.eq (.length (.static "BeatBounds" nm "[I")) (.int 6)).before args s = true → (∀ j, j < 6 → (Cond.eq (.elem (.static "BeatBounds" nm "[I") (.int (Int32.ofNat j))) (.int (T.getD j 0))).before args s = true) → ∃ t : Nat, (Term.static "BeatBounds" nm "[I").eval args s none [] s = some (.ref t) ∧ va_T .int t 6 (fun j => .int (T.getD j 0)) A s s.heap := by
    intro nm T h1 h2 h3
    exact va_Tof (N := 6) (by decide) h1 (va_eqt h2) (fun j hj => va_eqt (h3 j hj)) hA
  obtain ⟨t0, e0, h0⟩ := tb "ABOVE" tAB (hs _ (by decide +kernel)) (hs _ (by decide +kernel)) (fun j hj => by
    rcases (show j = 0 ∨ j = 1 ∨ j = 2 ∨ j = 3 ∨ j = 4 ∨ j = 5 by omega) with rfl | rfl | rfl | rfl | rfl | rfl <;> exact hs _ (by decide +kernel))
  obtain ⟨t1, e1, h1⟩ := tb "SIZE_BODIES" tSB (hs _ (by decide +kernel)) (hs _ (by decide +kernel)) (fun j hj => by
    rcases (show j = 0 ∨ j = 1 ∨ j = 2 ∨ j = 3 ∨ j = 4 ∨ j = 5 by omega) with rfl | rfl | rfl | rfl | rfl | rfl <;> exact hs _ (by decide +kernel))
  obtain ⟨t2, e2, h2⟩ := tb "MARK_BODIES" tMB (hs _ (by decide +kernel)) (hs _ (by decide +kernel)) (fun j hj => by
    rcases (show j = 0 ∨ j = 1 ∨ j = 2 ∨ j = 3 ∨ j = 4 ∨ j = 5 by omega) with rfl | rfl | rfl | rfl | rfl | rfl <;> exact hs _ (by decide +kernel))
  refine ⟨t0, t1, t2, fun q0 q1 u0 u1 D cA => ⟨fun k q hq => ?_, ?_⟩⟩
  · match k, hq with
    | 0, hq => cases hq; exact ⟨va_Zref hl0 hini e0 hA, h0⟩
    | 1, hq => cases hq; exact ⟨va_Zref hl1 hini e1 hA, h1⟩
    | 2, hq => cases hq; exact ⟨va_Zref hl2 hini e2 hA, h2⟩
    | k + 3, hq => simp [zTB] at hq
  · obtain ⟨scr, a1, a2, a3, a4, a5⟩ := hX
    have hz : zL (iS xs L) = L := nI_clamp (by omega)
    rw [hz]
    refine ⟨scr, a1, a2, a3, by omega, by rw [a4], a5, hA b (Array.getElem?_eq_some_iff.mp a1).1⟩
