/-! THE INTERPRETER OVER NUMBERS, and that the machine does what it does -/
def zlook (i pc : Nat) : Option zOp := match zTBL[i]? with
  | some t => match t[pc / 16]? with
    | some r => r[pc % 16]?
    | none => none
  | none => none
def zstep (i pc : Nat) (lo : zLo) (st : zSt) (σ : zSo) : Option zR := match zlook i pc with
  | some f => f lo st σ
  | none => none
def zML (i : Nat) : Nat := match zMD[i]? with
  | some q => q.2.2.1
  | none => 0
/-- d: how deep calls may go; n: how many steps -/
def zex : Nat → Nat → Nat → Nat → zLo → zSt → zSo → Option (Option Value × zSo)
  | 0, _, _, _, _, _, _ => none
  | n + 1, d, i, pc, lo, st, σ => match zstep i pc lo st σ with
    | none => none
    | some (.inl (pc', lo', st', σ')) => zex n d i pc' lo' st' σ'
    | some (.inr (.inl (j, as, rest, pc'))) => match d with
      | 0 => none
      | d' + 1 => match Nat.ble (zcat as) (zML j) with
        | true => match zex n d' j 0 (lv_args 0 as) [] σ with
          | none => none
          | some (r, σ1) => zex n (d' + 1) i pc' lo (r.toList ++ rest) σ1
        | false => none
    | some (.inr (.inr r)) => some (r, σ)
theorem zlook_ok {i pc : Nat} {q : zM} {f : zOp} (hq : zMD[i]? = some q) (h : zlook i pc = some f) : zSnd zMD q.1.cls q.2.1 q.2.2.1 q.2.2.2 pc f := by
  unfold zlook at h
  split at h
  · rename_i t ht
    split at h
    · rename_i r hr
      have h1 := zokAll i q t hq ht (pc / 16) r hr (pc % 16) f h
      rw [show 16 * (0 + pc / 16) + pc % 16 = pc from by omega] at h1
      exact h1
    · cases h
  · cases h
theorem zargs_cv (ad : Nat → Nat) : ∀ (as : List Value) (k : Nat), zlo ad (lv_args k as) = lv_args k (as.map (zcv ad))
  | [], k => rfl
  | v :: r, k => by
    have ih := zargs_cv ad r
    simp only [lv_args, zlo, List.map_cons, zcv_cat]
    congr 1
    exact ih _
theorem zsl_len (ad : Nat → Nat) : ∀ as : List Value, (lg_sl (as.map (zcv ad))).length = zcat as
  | [] => rfl
  | v :: r => by
    have ih := zsl_len ad r
    simp only [lg_sl, List.map_cons, List.flatMap_cons, List.length_append, zcv_cat, zcat] at ih ⊢
    rw [ih]
    rcases lv_cat v with e | e <;> simp [e]
theorem zML_eq {i : Nat} {q : zM} (hq : zMD[i]? = some q) : zML i = q.2.2.1 := by simp [zML, hq]
theorem zplain : ∀ q ∈ zMD, plainName q.1.cls = true := by decide +kernel
/-- a method's contract out of a walk of its body -/
theorem zmet_of {l : Launch} {d j : Nat} {q : zM} {as : List Value} {σ : zSo} {r : Option Value} {σ1 : zSo} (hq : zMD[j]? = some q) (hb : zcat as ≤ q.2.2.1)
    (ih : ∀ (p : Program) (e : Env) (R : Room) (s : State) (m : MethodId) (args : Array Value) (below : List Frame) (meth : Method) (c : Code) (g : zG) (σ0 : zSo) (A : Nat → Prop) (cells slots : Nat) (Q : State → Prop), zCx q.1.cls q.2.1 q.2.2.1 d p R s m args c g σ0 A cells slots →
      zRet q.2.1 q.2.2.1 q.2.2.2 p l e R s m args below meth c g σ0 A cells slots Q r σ1 → zGo q.2.2.1 p l e R s m args below meth c g σ0 A cells slots Q 0 (lv_args 0 as) [] σ) (g : zG) (σ0 : zSo) : zMet l d q as σ r σ1 g σ0 := by
  intro sz
  refine Met.ofW (cc := q.2.1) (maxL := q.2.2.1) (ret := q.2.2.2) (zplain q (List.mem_of_getElem? hq)) rfl ?_
  intro p e s m args below meth c s₁ B hml hv
  obtain ⟨rfl, hsz, hP, hK, hD0, ⟨hSt, hNw⟩, hF⟩ := hv
  have hts := atoms_spec (ws := zws q) B.pre
  have hown : s.vm.findClass q.1.cls = some m.cls := findClass_of_methodNamed B.named
  have hlocks := B.notSynchronized
  have hr := B.returns
  subst hsz
  have hD := hD0.self (sz := s.heap.size)
  have hA : ∀ w : Nat, s.heap.size ≤ w → va_A (zW g σ) s.heap.size w := fun w h => Or.inr h
  have C : zCx q.1.cls q.2.1 q.2.2.1 d p (headSpec (zws q) (zrm d)).room s m (as.map (zcv g.1)).toArray c g σ0 (va_A (zW g σ) s.heap.size) 0 0 :=
    ⟨B.exec, B.bytes, hml, hown, fun w hw => hts w (List.mem_cons_of_mem _ hw), hK, ⟨hSt, hNw⟩, hA, Nat.le_refl _, Nat.le_refl _, Nat.zero_le _, Nat.zero_le _⟩
  have hR : zRet q.2.1 q.2.2.1 q.2.2.2 p l e (headSpec (zws q) (zrm d)).room s m (as.map (zcv g.1)).toArray below meth c g σ0 (va_A (zW g σ) s.heap.size) 0 0 (MQ below (zQc g σ0 σ s.heap.size r σ1) (as.map (zcv g.1)).toArray s 0 0 (va_A (zW g σ) s.heap.size)) r σ1 := by
    refine ⟨fun pc lo v ty hd h1 h2 h3 => ?_, fun pc lo v hd h1 h2 => ?_, fun pc lo hd h1 h2 => ?_⟩
    · subst h1
      intro H locs ls hP1 hD1 hS1 hF1 hl1
      exact W.zret (ty := ty) B.exec B.bytes (hr.trans h2) h3 (fun t ht hW => ⟨rfl, by rw [ht]; exact hP1, hD1, hF1, hS1.F ht⟩) hS1.2.2 hd
    · subst h1
      intro H locs ls hP1 hD1 hS1 hF1 hl1
      exact W.lret B.exec B.bytes (hr.trans h2) (fun t ht hW => ⟨rfl, by rw [ht]; exact hP1, hD1, hF1, hS1.F ht⟩) hS1.2.2 hd
    · subst h1
      intro H locs ls hP1 hD1 hS1 hF1 hl1
      exact W.vret B.exec B.bytes (hr.trans h2) (fun t ht hW => ⟨rfl, by rw [ht]; exact hP1, hD1, hF1, hS1.F ht⟩) hS1.2.2 hd
  have hgo := ih p e _ s m _ below meth c g σ0 _ 0 0 _ C hR
  have hl := lv_entry (as.map (zcv g.1)) (n := q.2.2.1) (by rw [zsl_len]; exact hb)
  rw [lg_entry_eq]
  exact hgo s.heap [] _ hP hD va_S.rf hF (by rw [zargs_cv]; exact hl)
theorem zsnd (l : Launch) : ∀ (n d i : Nat) (q : zM), zMD[i]? = some q → ∀ (pc : Nat) (lo : zLo) (st : zSt) (σ : zSo) (r : Option Value) (σ1 : zSo), zex n d i pc lo st σ = some (r, σ1) →
    ∀ (p : Program) (e : Env) (R : Room) (s : State) (m : MethodId) (args : Array Value) (below : List Frame) (meth : Method) (c : Code) (g : zG) (σ0 : zSo) (A : Nat → Prop) (cells slots : Nat) (Q : State → Prop), zCx q.1.cls q.2.1 q.2.2.1 d p R s m args c g σ0 A cells slots →
      zRet q.2.1 q.2.2.1 q.2.2.2 p l e R s m args below meth c g σ0 A cells slots Q r σ1 → zGo q.2.2.1 p l e R s m args below meth c g σ0 A cells slots Q pc lo st σ := by
  intro n
  induction n with
  | zero => intro d i q hq pc lo st σ r σ1 h; cases h
  | succ n ih =>
    intro d i q hq pc lo st σ r σ1 h p e R s m args below meth c g σ0 A cells slots Q hC hR
    unfold zex at h
    cases hst : zstep i pc lo st σ with
    | none => rw [hst] at h; cases h
    | some x =>
      rw [hst] at h
      have hs : ∃ f, zlook i pc = some f ∧ f lo st σ = some x := by
        unfold zstep at hst
        split at hst
        · rename_i f hf
          exact ⟨f, hf, hst⟩
        · cases hst
      obtain ⟨f, hf, hfx⟩ := hs
      have hO := zlook_ok hq hf d p l e R s m args below meth c g σ0 A cells slots Q hC lo st σ x hfx
      match x, h, hO with
      | .inl (pc', lo', st', σ'), h, hO => exact hO (ih d i q hq pc' lo' st' σ' r σ1 h p e R s m args below meth c g σ0 A cells slots Q hC hR)
      | .inr (.inl (j, as, rest, pc')), h, hO =>
        obtain ⟨qj, hqj, hK⟩ := hO
        cases d with
        | zero => cases h
        | succ d' =>
          dsimp only at h
          split at h
          · rename_i hble
            have hb := Nat.le_of_ble_eq_true hble
            rw [zML_eq hqj] at hb
            split at h
            · cases h
            · rename_i r1 σ2 hc
              exact hK d' r1 σ2 rfl (zmet_of hqj hb (fun p e R s m args below meth c g σ0 A cells slots Q C R1 => ih d' j qj hqj 0 _ [] σ r1 σ2 hc p e R s m args below meth c g σ0 A cells slots Q C R1) g σ0)
                (ih (d' + 1) i q hq pc' lo _ σ2 r σ1 h p e R s m args below meth c g σ0 A cells slots Q hC hR)
          · cases h
      | .inr (.inr r'), h, hO =>
        cases h
        exact hO hR
