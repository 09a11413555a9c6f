/-- how many words the values take -/
def zcat : List Value → Nat
  | [] => 0
  | v :: r => v.category + zcat r
theorem zcat_sum (ad : Nat → Nat) : ∀ st : List Value, ((st.map (zcv ad)).map fun v => v.category).sum = zcat st
  | [] => rfl
  | v :: r => by simp only [List.map_cons, List.sum_cons, zcat, zcv_cat, zcat_sum ad r]
def zlget : zLo → Nat → Option Value
  | [], _ => none
  | (j, v) :: t, k => match Nat.beq j k with
    | true => some v
    | false => zlget t k
/-- a local becomes v (of category 1): in its place, or at the end -/
def zlset : zLo → Nat → Value → Option zLo
  | [], k, v => some [(k, v)]
  | (j, u) :: t, k, v => match Nat.beq j k with
    | true => match zldel t k with
      | some t' => some ((k, v) :: t')
      | none => none
    | false => match Nat.beq (j + 1) k && Nat.beq u.category 2 with
      | true => zlset t k v
      | false => match zlset t k v with
        | some t' => some ((j, u) :: t')
        | none => none
where zldel : zLo → Nat → Option zLo
  | [], _ => some []
  | (j, u) :: t, k => match Nat.beq j k || (Nat.beq (j + 1) k && Nat.beq u.category 2) with
    | true => zldel t k
    | false => match zldel t k with
      | some t' => some ((j, u) :: t')
      | none => none
def zldel2 : zLo → Nat → Option zLo
  | [], _ => some []
  | (j, u) :: t, k => match Nat.beq j k || (Nat.beq j (k + 1) || (Nat.beq (j + 1) k && Nat.beq u.category 2)) with
    | true => zldel2 t k
    | false => match zldel2 t k with
      | some t' => some ((j, u) :: t')
      | none => none
/-- a local becomes v (of category 2) -/
def zlset2 : zLo → Nat → Value → Option zLo
  | [], k, v => some [(k, v)]
  | (j, u) :: t, k, v => match Nat.beq j k with
    | true => match zldel2 t k with
      | some t' => some ((k, v) :: t')
      | none => none
    | false => match Nat.beq j (k + 1) || (Nat.beq (j + 1) k && Nat.beq u.category 2) with
      | true => zlset2 t k v
      | false => match zlset2 t k v with
        | some t' => some ((j, u) :: t')
        | none => none
theorem zlget_mem : ∀ {ls : zLo} {k : Nat} {v : Value}, zlget ls k = some v → (k, v) ∈ ls
  | [], _, _, h => by cases h
  | (j, u) :: t, k, v, h => by
    unfold zlget at h
    split at h
    · rename_i hb
      cases h
      rw [Nat.eq_of_beq_eq_true hb]
      exact List.mem_cons_self
    · exact List.mem_cons_of_mem _ (zlget_mem h)
theorem zldel_mem : ∀ {ls ls' : zLo} {k : Nat}, zlset.zldel ls k = some ls' → ∀ q ∈ ls', q ∈ ls ∧ q.1 ≠ k ∧ ¬ (q.1 + 1 = k ∧ q.2.category = 2)
  | [], _, _, h => by cases h; intro q hq; cases hq
  | (j, u) :: t, ls', k, h => by
    unfold zlset.zldel at h
    split at h
    · intro q hq
      exact ⟨List.mem_cons_of_mem _ (zldel_mem h q hq).1, (zldel_mem h q hq).2⟩
    · rename_i hb
      split at h
      · rename_i t' ht
        cases h
        intro q hq
        rcases List.mem_cons.mp hq with hq | hq
        · subst hq
          refine ⟨List.mem_cons_self, fun e => ?_, fun e => ?_⟩
          · have e : j = k := e
            subst e
            simp at hb
          · simp [Nat.beq_eq, e.1, e.2] at hb
        · exact ⟨List.mem_cons_of_mem _ (zldel_mem ht q hq).1, (zldel_mem ht q hq).2⟩
      · cases h
theorem zlset_mem : ∀ {ls ls' : zLo} {k : Nat} {v : Value}, zlset ls k v = some ls' → ∀ q ∈ ls', q = (k, v) ∨ (q ∈ ls ∧ q.1 ≠ k ∧ ¬ (q.1 + 1 = k ∧ q.2.category = 2))
  | [], _, _, _, h => by cases h; intro q hq; exact Or.inl (List.mem_singleton.mp hq)
  | (j, u) :: t, ls', k, v, h => by
    unfold zlset at h
    split at h
    · split at h
      · rename_i t' ht
        cases h
        intro q hq
        rcases List.mem_cons.mp hq with hq | hq
        · exact Or.inl hq
        · exact Or.inr ⟨List.mem_cons_of_mem _ (zldel_mem ht q hq).1, (zldel_mem ht q hq).2⟩
      · cases h
    · rename_i hb
      split at h
      · intro q hq
        rcases zlset_mem h q hq with hq | hq
        · exact Or.inl hq
        · exact Or.inr ⟨List.mem_cons_of_mem _ hq.1, hq.2⟩
      · rename_i hc
        split at h
        · rename_i t' ht
          cases h
          intro q hq
          rcases List.mem_cons.mp hq with hq | hq
          · subst hq
            refine Or.inr ⟨List.mem_cons_self, fun e => ?_, fun e => ?_⟩
            · have e : j = k := e
              subst e
              simp at hb
            · simp [Nat.beq_eq, e.1, e.2] at hc
          · rcases zlset_mem ht q hq with hq | hq
            · exact Or.inl hq
            · exact Or.inr ⟨List.mem_cons_of_mem _ hq.1, hq.2⟩
        · cases h
theorem zldel2_mem : ∀ {ls ls' : zLo} {k : Nat}, zldel2 ls k = some ls' → ∀ q ∈ ls', q ∈ ls ∧ q.1 ≠ k ∧ q.1 ≠ k + 1 ∧ ¬ (q.1 + 1 = k ∧ q.2.category = 2)
  | [], _, _, h => by cases h; intro q hq; cases hq
  | (j, u) :: t, ls', k, h => by
    unfold zldel2 at h
    split at h
    · intro q hq
      exact ⟨List.mem_cons_of_mem _ (zldel2_mem h q hq).1, (zldel2_mem h q hq).2⟩
    · rename_i hb
      split at h
      · rename_i t' ht
        cases h
        intro q hq
        rcases List.mem_cons.mp hq with hq | hq
        · subst hq
          refine ⟨List.mem_cons_self, fun e => ?_, fun e => ?_, fun e => ?_⟩
          · have e : j = k := e
            subst e
            simp at hb
          · have e : j = k + 1 := e
            subst e
            simp at hb
          · simp [Nat.beq_eq, e.1, e.2] at hb
        · exact ⟨List.mem_cons_of_mem _ (zldel2_mem ht q hq).1, (zldel2_mem ht q hq).2⟩
      · cases h
theorem zlset2_mem : ∀ {ls ls' : zLo} {k : Nat} {v : Value}, zlset2 ls k v = some ls' → ∀ q ∈ ls', q = (k, v) ∨ (q ∈ ls ∧ q.1 ≠ k ∧ q.1 ≠ k + 1 ∧ ¬ (q.1 + 1 = k ∧ q.2.category = 2))
  | [], _, _, _, h => by cases h; intro q hq; exact Or.inl (List.mem_singleton.mp hq)
  | (j, u) :: t, ls', k, v, h => by
    unfold zlset2 at h
    split at h
    · split at h
      · rename_i t' ht
        cases h
        intro q hq
        rcases List.mem_cons.mp hq with hq | hq
        · exact Or.inl hq
        · exact Or.inr ⟨List.mem_cons_of_mem _ (zldel2_mem ht q hq).1, (zldel2_mem ht q hq).2⟩
      · cases h
    · rename_i hb
      split at h
      · intro q hq
        rcases zlset2_mem h q hq with hq | hq
        · exact Or.inl hq
        · exact Or.inr ⟨List.mem_cons_of_mem _ hq.1, hq.2⟩
      · rename_i hc
        split at h
        · rename_i t' ht
          cases h
          intro q hq
          rcases List.mem_cons.mp hq with hq | hq
          · subst hq
            refine Or.inr ⟨List.mem_cons_self, fun e => ?_, fun e => ?_, fun e => ?_⟩
            · have e : j = k := e
              subst e
              simp at hb
            · have e : j = k + 1 := e
              subst e
              simp at hc
            · simp [Nat.beq_eq, e.1, e.2] at hc
          · rcases zlset2_mem ht q hq with hq | hq
            · exact Or.inl hq
            · exact Or.inr ⟨List.mem_cons_of_mem _ hq.1, hq.2⟩
        · cases h
theorem zlo_get {ad : Nat → Nat} {ls : Array Slot} {nL : Nat} {lo : zLo} {k : Nat} {v : Value} (hl : lv_has ls nL (zlo ad lo)) (h : zlget lo k = some v) : ls[k]? = some (.val (zcv ad v)) :=
  hl.2.2 (k, zcv ad v) (List.mem_map.mpr ⟨(k, v), zlget_mem h, rfl⟩)
theorem zlo_set {ad : Nat → Nat} {ls : Array Slot} {nL : Nat} {lo lo' : zLo} {k : Nat} {v : Value} (hl : lv_has ls nL ((k, zcv ad v) :: (zlo ad lo).filter (fun q => !(q.1 == k) && !(q.1 + 1 == k && q.2.category == 2)))) (h : zlset lo k v = some lo') : lv_has ls nL (zlo ad lo') := by
  refine ⟨hl.1, hl.2.1, fun q hq => ?_⟩
  obtain ⟨a, ha, rfl⟩ := List.mem_map.mp hq
  rcases zlset_mem h a ha with e | ⟨h1, h2, h3⟩
  · subst e
    exact hl.2.2 _ List.mem_cons_self
  · refine hl.2.2 (a.1, zcv ad a.2) (List.mem_cons_of_mem _ (List.mem_filter.mpr ⟨List.mem_map.mpr ⟨a, h1, rfl⟩, ?_⟩))
    simp only [zcv_cat, Bool.and_eq_true, Bool.not_eq_true', beq_eq_false_iff_ne, ne_eq, Bool.and_eq_false_iff]
    refine ⟨h2, ?_⟩
    by_cases e : a.1 + 1 = k
    · exact Or.inr (fun z => h3 ⟨e, z⟩)
    · exact Or.inl e
theorem zlo_set2 {ad : Nat → Nat} {ls : Array Slot} {nL : Nat} {lo lo' : zLo} {k : Nat} {v : Value} (hl : lv_has ls nL ((k, zcv ad v) :: (zlo ad lo).filter (fun q => !(q.1 == k) && (!(q.1 == k + 1) && !(q.1 + 1 == k && q.2.category == 2))))) (h : zlset2 lo k v = some lo') : lv_has ls nL (zlo ad lo') := by
  refine ⟨hl.1, hl.2.1, fun q hq => ?_⟩
  obtain ⟨a, ha, rfl⟩ := List.mem_map.mp hq
  rcases zlset2_mem h a ha with e | ⟨h1, h2, h4, h3⟩
  · subst e
    exact hl.2.2 _ List.mem_cons_self
  · refine hl.2.2 (a.1, zcv ad a.2) (List.mem_cons_of_mem _ (List.mem_filter.mpr ⟨List.mem_map.mpr ⟨a, h1, rfl⟩, ?_⟩))
    simp only [zcv_cat, Bool.and_eq_true, Bool.not_eq_true', beq_eq_false_iff_ne, ne_eq, Bool.and_eq_false_iff]
    refine ⟨h2, h4, ?_⟩
    by_cases e : a.1 + 1 = k
    · exact Or.inr (fun z => h3 ⟨e, z⟩)
    · exact Or.inl e
def zo_no : zOp := fun _ _ _ => none
theorem zs_no {zMD : List zM} {own : String} {cc : ByteArray} {nL : Nat} {ret : Option FieldType} {pc : Nat} : zSnd zMD own cc nL ret pc zo_no := by
  intro d p l e R s m args below meth c g σ0 A cells slots Q hC lo st σ x hx
  cases hx

def zo_c (v : Int32) (n : Nat) : zOp := fun lo st σ => some (.inl (n, lo, .int v :: st, σ))
def zo_cl (v : Int64) (n : Nat) : zOp := fun lo st σ => some (.inl (n, lo, .long v :: st, σ))
theorem zs_iconst {zMD : List zM} {own : String} {cc : ByteArray} {nL : Nat} {ret : Option FieldType} {pc : Nat} {z : Int} {v : Int32} (hd : decode cc pc = .ok (.iconst z, 1)) (hv : Int32.ofInt z = v) : zSnd zMD own cc nL ret pc (zo_c v (pc + 1)) := by
  intro d p l e R s m args below meth c g σ0 A cells slots Q hC lo st σ x hx
  obtain ⟨hex, hb, hml, hown, hts, hK, ⟨hSt, hNw⟩, hA, hfr, hlo, hce, hsl⟩ := hC
  cases hx
  intro K H locs ls hP hD hS hF hl
  exact lv_iconst hex hb hd hv (K H locs ls hP hD hS hF hl)
theorem zs_bipush {zMD : List zM} {own : String} {cc : ByteArray} {nL : Nat} {ret : Option FieldType} {pc : Nat} {z : Int} {v : Int32} (hd : decode cc pc = .ok (.bipush z, 2)) (hv : (Int8.ofInt z).toInt32 = v) : zSnd zMD own cc nL ret pc (zo_c v (pc + 2)) := by
  intro d p l e R s m args below meth c g σ0 A cells slots Q hC lo st σ x hx
  obtain ⟨hex, hb, hml, hown, hts, hK, ⟨hSt, hNw⟩, hA, hfr, hlo, hce, hsl⟩ := hC
  cases hx
  intro K H locs ls hP hD hS hF hl
  exact lv_bipush hex hb hd hv (K H locs ls hP hD hS hF hl)
theorem zs_sipush {zMD : List zM} {own : String} {cc : ByteArray} {nL : Nat} {ret : Option FieldType} {pc : Nat} {z : Int} {v : Int32} (hd : decode cc pc = .ok (.sipush z, 3)) (hv : (Int16.ofInt z).toInt32 = v) : zSnd zMD own cc nL ret pc (zo_c v (pc + 3)) := by
  intro d p l e R s m args below meth c g σ0 A cells slots Q hC lo st σ x hx
  obtain ⟨hex, hb, hml, hown, hts, hK, ⟨hSt, hNw⟩, hA, hfr, hlo, hce, hsl⟩ := hC
  cases hx
  intro K H locs ls hP hD hS hF hl
  exact lv_sipush hex hb hd hv (K H locs ls hP hD hS hF hl)
theorem zs_ldc {zMD : List zM} {own : String} {cc : ByteArray} {nL : Nat} {ret : Option FieldType} {pc : Nat} {i : Nat} {v : Int32} (hd : decode cc pc = .ok (.ldc i, 2)) (hm : Cond.constant own i v ∈ zTab) : zSnd zMD own cc nL ret pc (zo_c v (pc + 2)) := by
  intro d p l e R s m args below meth c g σ0 A cells slots Q hC lo st σ x hx
  obtain ⟨hex, hb, hml, hown, hts, hK, ⟨hSt, hNw⟩, hA, hfr, hlo, hce, hsl⟩ := hC
  cases hx
  intro K H locs ls hP hD hS hF hl
  exact lv_ldc hex hb hown (hts _ hm) hd (K H locs ls hP hD hS hF hl)
theorem zs_ldcw {zMD : List zM} {own : String} {cc : ByteArray} {nL : Nat} {ret : Option FieldType} {pc : Nat} {i : Nat} {v : Int32} (hd : decode cc pc = .ok (.ldc_w i, 3)) (hm : Cond.constant own i v ∈ zTab) : zSnd zMD own cc nL ret pc (zo_c v (pc + 3)) := by
  intro d p l e R s m args below meth c g σ0 A cells slots Q hC lo st σ x hx
  obtain ⟨hex, hb, hml, hown, hts, hK, ⟨hSt, hNw⟩, hA, hfr, hlo, hce, hsl⟩ := hC
  cases hx
  intro K H locs ls hP hD hS hF hl
  exact lv_ldcw hex hb hown (hts _ hm) hd (K H locs ls hP hD hS hF hl)
theorem zs_ldc2 {zMD : List zM} {own : String} {cc : ByteArray} {nL : Nat} {ret : Option FieldType} {pc : Nat} {i : Nat} {v : Int64} (hd : decode cc pc = .ok (.ldc2_w i, 3)) (hm : Cond.constantLong own i v ∈ zTab) : zSnd zMD own cc nL ret pc (zo_cl v (pc + 3)) := by
  intro d p l e R s m args below meth c g σ0 A cells slots Q hC lo st σ x hx
  obtain ⟨hex, hb, hml, hown, hts, hK, ⟨hSt, hNw⟩, hA, hfr, hlo, hce, hsl⟩ := hC
  cases hx
  intro K H locs ls hP hD hS hF hl
  exact lv_ldc2 hex hb hown (hts _ hm) hd (K H locs ls hP hD hS hF hl)
theorem zs_lconst {zMD : List zM} {own : String} {cc : ByteArray} {nL : Nat} {ret : Option FieldType} {pc : Nat} {z : Fin 2} {v : Int64} (hd : decode cc pc = .ok (.lconst z, 1)) (hv : Int64.ofNat (z : Nat) = v) : zSnd zMD own cc nL ret pc (zo_cl v (pc + 1)) := by
  intro d p l e R s m args below meth c g σ0 A cells slots Q hC lo st σ x hx
  obtain ⟨hex, hb, hml, hown, hts, hK, ⟨hSt, hNw⟩, hA, hfr, hlo, hce, hsl⟩ := hC
  cases hx
  intro K H locs ls hP hD hS hF hl
  exact lv_lconst hex hb hd hv (K H locs ls hP hD hS hF hl)
def zo_ild (k n : Nat) : zOp := fun lo st σ => match zlget lo k with
  | some (.int v) => some (.inl (n, lo, .int v :: st, σ))
  | _ => none
theorem zs_ild {zMD : List zM} {own : String} {cc : ByteArray} {nL : Nat} {ret : Option FieldType} {pc : Nat} {k : Nat} (hd : decode cc pc = .ok (.iload k, 2)) : zSnd zMD own cc nL ret pc (zo_ild k (pc + 2)) := by
  intro d p l e R s m args below meth c g σ0 A cells slots Q hC lo st σ x hx
  obtain ⟨hex, hb, hml, hown, hts, hK, ⟨hSt, hNw⟩, hA, hfr, hlo, hce, hsl⟩ := hC
  unfold zo_ild at hx
  split at hx
  · rename_i v hv
    cases hx
    intro K H locs ls hP hD hS hF hl
    exact lv_iload hex hb hd (zlo_get hl hv) (K H locs ls hP hD hS hF hl)
  · cases hx
theorem zs_ildn {zMD : List zM} {own : String} {cc : ByteArray} {nL : Nat} {ret : Option FieldType} {pc : Nat} {q : Fin 4} {k : Nat} (hd : decode cc pc = .ok (.iload_n q, 1)) (hq : (q : Nat) = k) : zSnd zMD own cc nL ret pc (zo_ild k (pc + 1)) := by
  intro d p l e R s m args below meth c g σ0 A cells slots Q hC lo st σ x hx
  obtain ⟨hex, hb, hml, hown, hts, hK, ⟨hSt, hNw⟩, hA, hfr, hlo, hce, hsl⟩ := hC
  unfold zo_ild at hx
  split at hx
  · rename_i v hv
    cases hx
    intro K H locs ls hP hD hS hF hl
    exact lv_iload_n hex hb hd hq (zlo_get hl hv) (K H locs ls hP hD hS hF hl)
  · cases hx
def zo_lld (k n : Nat) : zOp := fun lo st σ => match zlget lo k with
  | some (.long v) => some (.inl (n, lo, .long v :: st, σ))
  | _ => none
theorem zs_lld {zMD : List zM} {own : String} {cc : ByteArray} {nL : Nat} {ret : Option FieldType} {pc : Nat} {k : Nat} (hd : decode cc pc = .ok (.lload k, 2)) : zSnd zMD own cc nL ret pc (zo_lld k (pc + 2)) := by
  intro d p l e R s m args below meth c g σ0 A cells slots Q hC lo st σ x hx
  obtain ⟨hex, hb, hml, hown, hts, hK, ⟨hSt, hNw⟩, hA, hfr, hlo, hce, hsl⟩ := hC
  unfold zo_lld at hx
  split at hx
  · rename_i v hv
    cases hx
    intro K H locs ls hP hD hS hF hl
    exact lv_lload hex hb hd (zlo_get hl hv) (K H locs ls hP hD hS hF hl)
  · cases hx
theorem zs_lldn {zMD : List zM} {own : String} {cc : ByteArray} {nL : Nat} {ret : Option FieldType} {pc : Nat} {q : Fin 4} {k : Nat} (hd : decode cc pc = .ok (.lload_n q, 1)) (hq : (q : Nat) = k) : zSnd zMD own cc nL ret pc (zo_lld k (pc + 1)) := by
  intro d p l e R s m args below meth c g σ0 A cells slots Q hC lo st σ x hx
  obtain ⟨hex, hb, hml, hown, hts, hK, ⟨hSt, hNw⟩, hA, hfr, hlo, hce, hsl⟩ := hC
  unfold zo_lld at hx
  split at hx
  · rename_i v hv
    cases hx
    intro K H locs ls hP hD hS hF hl
    exact lv_lload_n hex hb hd hq (zlo_get hl hv) (K H locs ls hP hD hS hF hl)
  · cases hx
def zo_ald (k n : Nat) : zOp := fun lo st σ => match zlget lo k with
  | some (.ref v) => some (.inl (n, lo, .ref v :: st, σ))
  | _ => none
theorem zs_ald {zMD : List zM} {own : String} {cc : ByteArray} {nL : Nat} {ret : Option FieldType} {pc : Nat} {k : Nat} (hd : decode cc pc = .ok (.aload k, 2)) : zSnd zMD own cc nL ret pc (zo_ald k (pc + 2)) := by
  intro d p l e R s m args below meth c g σ0 A cells slots Q hC lo st σ x hx
  obtain ⟨hex, hb, hml, hown, hts, hK, ⟨hSt, hNw⟩, hA, hfr, hlo, hce, hsl⟩ := hC
  unfold zo_ald at hx
  split at hx
  · rename_i v hv
    cases hx
    intro K H locs ls hP hD hS hF hl
    exact lv_aload hex hb hd (zlo_get hl hv) (K H locs ls hP hD hS hF hl)
  · cases hx
theorem zs_aldn {zMD : List zM} {own : String} {cc : ByteArray} {nL : Nat} {ret : Option FieldType} {pc : Nat} {q : Fin 4} {k : Nat} (hd : decode cc pc = .ok (.aload_n q, 1)) (hq : (q : Nat) = k) : zSnd zMD own cc nL ret pc (zo_ald k (pc + 1)) := by
  intro d p l e R s m args below meth c g σ0 A cells slots Q hC lo st σ x hx
  obtain ⟨hex, hb, hml, hown, hts, hK, ⟨hSt, hNw⟩, hA, hfr, hlo, hce, hsl⟩ := hC
  unfold zo_ald at hx
  split at hx
  · rename_i v hv
    cases hx
    intro K H locs ls hP hD hS hF hl
    exact lv_aload_n hex hb hd hq (zlo_get hl hv) (K H locs ls hP hD hS hF hl)
  · cases hx
def zo_ist (k n : Nat) : zOp := fun lo st σ => match st with
  | .int v :: r => match zlset lo k (.int v) with
    | some lo' => some (.inl (n, lo', r, σ))
    | none => none
  | _ => none
theorem zs_ist {zMD : List zM} {own : String} {cc : ByteArray} {nL : Nat} {ret : Option FieldType} {pc : Nat} {k : Nat} (hd : decode cc pc = .ok (.istore k, 2)) (hn : k < nL) : zSnd zMD own cc nL ret pc (zo_ist k (pc + 2)) := by
  intro d p l e R s m args below meth c g σ0 A cells slots Q hC lo st σ x hx
  obtain ⟨hex, hb, hml, hown, hts, hK, ⟨hSt, hNw⟩, hA, hfr, hlo, hce, hsl⟩ := hC
  unfold zo_ist at hx
  split at hx
  · split at hx
    · rename_i lo' hs
      cases hx
      intro K H locs ls hP hD hS hF hl
      exact lv_istore hex hb hd hl hn rfl (fun ls' hl' => K H locs ls' hP hD hS hF (zlo_set hl' hs))
    · cases hx
  · cases hx
theorem zs_istn {zMD : List zM} {own : String} {cc : ByteArray} {nL : Nat} {ret : Option FieldType} {pc : Nat} {k : Nat} {q : Fin 4} (hd : decode cc pc = .ok (.istore_n q, 1)) (hq : (q : Nat) = k) (hn : k < nL) : zSnd zMD own cc nL ret pc (zo_ist k (pc + 1)) := by
  intro d p l e R s m args below meth c g σ0 A cells slots Q hC lo st σ x hx
  obtain ⟨hex, hb, hml, hown, hts, hK, ⟨hSt, hNw⟩, hA, hfr, hlo, hce, hsl⟩ := hC
  unfold zo_ist at hx
  split at hx
  · split at hx
    · rename_i lo' hs
      cases hx
      intro K H locs ls hP hD hS hF hl
      exact lv_istore_n hex hb hd hq hl hn rfl (fun ls' hl' => K H locs ls' hP hD hS hF (zlo_set hl' hs))
    · cases hx
  · cases hx
def zo_lst (k n : Nat) : zOp := fun lo st σ => match st with
  | .long v :: r => match zlset2 lo k (.long v) with
    | some lo' => some (.inl (n, lo', r, σ))
    | none => none
  | _ => none
theorem zs_lst {zMD : List zM} {own : String} {cc : ByteArray} {nL : Nat} {ret : Option FieldType} {pc : Nat} {k : Nat} (hd : decode cc pc = .ok (.lstore k, 2)) (hn : k + 1 < nL) : zSnd zMD own cc nL ret pc (zo_lst k (pc + 2)) := by
  intro d p l e R s m args below meth c g σ0 A cells slots Q hC lo st σ x hx
  obtain ⟨hex, hb, hml, hown, hts, hK, ⟨hSt, hNw⟩, hA, hfr, hlo, hce, hsl⟩ := hC
  unfold zo_lst at hx
  split at hx
  · split at hx
    · rename_i lo' hs
      cases hx
      intro K H locs ls hP hD hS hF hl
      exact lv_lstore hex hb hd hl hn rfl (fun ls' hl' => K H locs ls' hP hD hS hF (zlo_set2 hl' hs))
    · cases hx
  · cases hx
theorem zs_lstn {zMD : List zM} {own : String} {cc : ByteArray} {nL : Nat} {ret : Option FieldType} {pc : Nat} {k : Nat} {q : Fin 4} (hd : decode cc pc = .ok (.lstore_n q, 1)) (hq : (q : Nat) = k) (hn : k + 1 < nL) : zSnd zMD own cc nL ret pc (zo_lst k (pc + 1)) := by
  intro d p l e R s m args below meth c g σ0 A cells slots Q hC lo st σ x hx
  obtain ⟨hex, hb, hml, hown, hts, hK, ⟨hSt, hNw⟩, hA, hfr, hlo, hce, hsl⟩ := hC
  unfold zo_lst at hx
  split at hx
  · split at hx
    · rename_i lo' hs
      cases hx
      intro K H locs ls hP hD hS hF hl
      exact lv_lstore_n hex hb hd hq hl hn rfl (fun ls' hl' => K H locs ls' hP hD hS hF (zlo_set2 hl' hs))
    · cases hx
  · cases hx
def zo_ast (k n : Nat) : zOp := fun lo st σ => match st with
  | .ref v :: r => match zlset lo k (.ref v) with
    | some lo' => some (.inl (n, lo', r, σ))
    | none => none
  | _ => none
theorem zs_ast {zMD : List zM} {own : String} {cc : ByteArray} {nL : Nat} {ret : Option FieldType} {pc : Nat} {k : Nat} (hd : decode cc pc = .ok (.astore k, 2)) (hn : k < nL) : zSnd zMD own cc nL ret pc (zo_ast k (pc + 2)) := by
  intro d p l e R s m args below meth c g σ0 A cells slots Q hC lo st σ x hx
  obtain ⟨hex, hb, hml, hown, hts, hK, ⟨hSt, hNw⟩, hA, hfr, hlo, hce, hsl⟩ := hC
  unfold zo_ast at hx
  split at hx
  · split at hx
    · rename_i lo' hs
      cases hx
      intro K H locs ls hP hD hS hF hl
      exact lv_astore hex hb hd hl hn rfl (fun ls' hl' => K H locs ls' hP hD hS hF (zlo_set hl' hs))
    · cases hx
  · cases hx
theorem zs_astn {zMD : List zM} {own : String} {cc : ByteArray} {nL : Nat} {ret : Option FieldType} {pc : Nat} {k : Nat} {q : Fin 4} (hd : decode cc pc = .ok (.astore_n q, 1)) (hq : (q : Nat) = k) (hn : k < nL) : zSnd zMD own cc nL ret pc (zo_ast k (pc + 1)) := by
  intro d p l e R s m args below meth c g σ0 A cells slots Q hC lo st σ x hx
  obtain ⟨hex, hb, hml, hown, hts, hK, ⟨hSt, hNw⟩, hA, hfr, hlo, hce, hsl⟩ := hC
  unfold zo_ast at hx
  split at hx
  · split at hx
    · rename_i lo' hs
      cases hx
      intro K H locs ls hP hD hS hF hl
      exact lv_astore_n hex hb hd hq hl hn rfl (fun ls' hl' => K H locs ls' hP hD hS hF (zlo_set hl' hs))
    · cases hx
  · cases hx
def zo_iinc (k : Nat) (z : Int32) (n : Nat) : zOp := fun lo st σ => match zlget lo k with
  | some (.int v) => match zlset lo k (.int (v + z)) with
    | some lo' => some (.inl (n, lo', st, σ))
    | none => none
  | _ => none
theorem zs_iinc {zMD : List zM} {own : String} {cc : ByteArray} {nL : Nat} {ret : Option FieldType} {pc : Nat} {k : Nat} {z : Int} {y : Int32} (hd : decode cc pc = .ok (.iinc k z, 3)) (hy : Int32.ofInt z = y) (hn : k < nL) : zSnd zMD own cc nL ret pc (zo_iinc k y (pc + 3)) := by
  intro d p l e R s m args below meth c g σ0 A cells slots Q hC lo st σ x hx
  obtain ⟨hex, hb, hml, hown, hts, hK, ⟨hSt, hNw⟩, hA, hfr, hlo, hce, hsl⟩ := hC
  subst hy
  unfold zo_iinc at hx
  split at hx
  · rename_i v hv
    split at hx
    · rename_i lo' hs
      cases hx
      intro K H locs ls hP hD hS hF hl
      obtain ⟨k', hk'⟩ := List.getElem?_of_mem (List.mem_map.mpr ⟨(k, Value.int v), zlget_mem hv, rfl⟩ : (k, Value.int v) ∈ zlo g.1 lo)
      exact lv_iinc (k := k') hex hb hd hl hk' rfl hn rfl (fun ls' hl' => K H locs ls' hP hD hS hF (zlo_set hl' hs))
    · cases hx
  · cases hx
def zo_iadd (n : Nat) : zOp := fun lo st σ => match st with
  | .int y :: .int x :: r => some (.inl (n, lo, .int (x + y) :: r, σ))
  | _ => none
theorem zs_iadd {zMD : List zM} {own : String} {cc : ByteArray} {nL : Nat} {ret : Option FieldType} {pc : Nat} (hd : decode cc pc = .ok (.iadd, 1)) : zSnd zMD own cc nL ret pc (zo_iadd (pc + 1)) := by
  intro d p l e R s m args below meth c g σ0 A cells slots Q hC lo st σ x hx
  obtain ⟨hex, hb, hml, hown, hts, hK, ⟨hSt, hNw⟩, hA, hfr, hlo, hce, hsl⟩ := hC
  unfold zo_iadd at hx
  split at hx
  · cases hx
    intro K H locs ls hP hD hS hF hl
    exact lv_iadd hex hb hd (K H locs ls hP hD hS hF hl)
  · cases hx
def zo_isub (n : Nat) : zOp := fun lo st σ => match st with
  | .int y :: .int x :: r => some (.inl (n, lo, .int (x - y) :: r, σ))
  | _ => none
theorem zs_isub {zMD : List zM} {own : String} {cc : ByteArray} {nL : Nat} {ret : Option FieldType} {pc : Nat} (hd : decode cc pc = .ok (.isub, 1)) : zSnd zMD own cc nL ret pc (zo_isub (pc + 1)) := by
  intro d p l e R s m args below meth c g σ0 A cells slots Q hC lo st σ x hx
  obtain ⟨hex, hb, hml, hown, hts, hK, ⟨hSt, hNw⟩, hA, hfr, hlo, hce, hsl⟩ := hC
  unfold zo_isub at hx
  split at hx
  · cases hx
    intro K H locs ls hP hD hS hF hl
    exact lv_isub hex hb hd (K H locs ls hP hD hS hF hl)
  · cases hx
def zo_imul (n : Nat) : zOp := fun lo st σ => match st with
  | .int y :: .int x :: r => some (.inl (n, lo, .int (x * y) :: r, σ))
  | _ => none
theorem zs_imul {zMD : List zM} {own : String} {cc : ByteArray} {nL : Nat} {ret : Option FieldType} {pc : Nat} (hd : decode cc pc = .ok (.imul, 1)) : zSnd zMD own cc nL ret pc (zo_imul (pc + 1)) := by
  intro d p l e R s m args below meth c g σ0 A cells slots Q hC lo st σ x hx
  obtain ⟨hex, hb, hml, hown, hts, hK, ⟨hSt, hNw⟩, hA, hfr, hlo, hce, hsl⟩ := hC
  unfold zo_imul at hx
  split at hx
  · cases hx
    intro K H locs ls hP hD hS hF hl
    exact lv_imul hex hb hd (K H locs ls hP hD hS hF hl)
  · cases hx
def zo_iand (n : Nat) : zOp := fun lo st σ => match st with
  | .int y :: .int x :: r => some (.inl (n, lo, .int (x &&& y) :: r, σ))
  | _ => none
theorem zs_iand {zMD : List zM} {own : String} {cc : ByteArray} {nL : Nat} {ret : Option FieldType} {pc : Nat} (hd : decode cc pc = .ok (.iand, 1)) : zSnd zMD own cc nL ret pc (zo_iand (pc + 1)) := by
  intro d p l e R s m args below meth c g σ0 A cells slots Q hC lo st σ x hx
  obtain ⟨hex, hb, hml, hown, hts, hK, ⟨hSt, hNw⟩, hA, hfr, hlo, hce, hsl⟩ := hC
  unfold zo_iand at hx
  split at hx
  · cases hx
    intro K H locs ls hP hD hS hF hl
    exact lv_iand hex hb hd (K H locs ls hP hD hS hF hl)
  · cases hx
def zo_ior (n : Nat) : zOp := fun lo st σ => match st with
  | .int y :: .int x :: r => some (.inl (n, lo, .int (x ||| y) :: r, σ))
  | _ => none
theorem zs_ior {zMD : List zM} {own : String} {cc : ByteArray} {nL : Nat} {ret : Option FieldType} {pc : Nat} (hd : decode cc pc = .ok (.ior, 1)) : zSnd zMD own cc nL ret pc (zo_ior (pc + 1)) := by
  intro d p l e R s m args below meth c g σ0 A cells slots Q hC lo st σ x hx
  obtain ⟨hex, hb, hml, hown, hts, hK, ⟨hSt, hNw⟩, hA, hfr, hlo, hce, hsl⟩ := hC
  unfold zo_ior at hx
  split at hx
  · cases hx
    intro K H locs ls hP hD hS hF hl
    exact lv_ior hex hb hd (K H locs ls hP hD hS hF hl)
  · cases hx
def zo_ixor (n : Nat) : zOp := fun lo st σ => match st with
  | .int y :: .int x :: r => some (.inl (n, lo, .int (x ^^^ y) :: r, σ))
  | _ => none
theorem zs_ixor {zMD : List zM} {own : String} {cc : ByteArray} {nL : Nat} {ret : Option FieldType} {pc : Nat} (hd : decode cc pc = .ok (.ixor, 1)) : zSnd zMD own cc nL ret pc (zo_ixor (pc + 1)) := by
  intro d p l e R s m args below meth c g σ0 A cells slots Q hC lo st σ x hx
  obtain ⟨hex, hb, hml, hown, hts, hK, ⟨hSt, hNw⟩, hA, hfr, hlo, hce, hsl⟩ := hC
  unfold zo_ixor at hx
  split at hx
  · cases hx
    intro K H locs ls hP hD hS hF hl
    exact lv_ixor hex hb hd (K H locs ls hP hD hS hF hl)
  · cases hx
def zo_ishl (n : Nat) : zOp := fun lo st σ => match st with
  | .int y :: .int x :: r => some (.inl (n, lo, .int (x <<< (y &&& 31)) :: r, σ))
  | _ => none
theorem zs_ishl {zMD : List zM} {own : String} {cc : ByteArray} {nL : Nat} {ret : Option FieldType} {pc : Nat} (hd : decode cc pc = .ok (.ishl, 1)) : zSnd zMD own cc nL ret pc (zo_ishl (pc + 1)) := by
  intro d p l e R s m args below meth c g σ0 A cells slots Q hC lo st σ x hx
  obtain ⟨hex, hb, hml, hown, hts, hK, ⟨hSt, hNw⟩, hA, hfr, hlo, hce, hsl⟩ := hC
  unfold zo_ishl at hx
  split at hx
  · cases hx
    intro K H locs ls hP hD hS hF hl
    exact lv_ishl hex hb hd (K H locs ls hP hD hS hF hl)
  · cases hx
def zo_ishr (n : Nat) : zOp := fun lo st σ => match st with
  | .int y :: .int x :: r => some (.inl (n, lo, .int (x >>> (y &&& 31)) :: r, σ))
  | _ => none
theorem zs_ishr {zMD : List zM} {own : String} {cc : ByteArray} {nL : Nat} {ret : Option FieldType} {pc : Nat} (hd : decode cc pc = .ok (.ishr, 1)) : zSnd zMD own cc nL ret pc (zo_ishr (pc + 1)) := by
  intro d p l e R s m args below meth c g σ0 A cells slots Q hC lo st σ x hx
  obtain ⟨hex, hb, hml, hown, hts, hK, ⟨hSt, hNw⟩, hA, hfr, hlo, hce, hsl⟩ := hC
  unfold zo_ishr at hx
  split at hx
  · cases hx
    intro K H locs ls hP hD hS hF hl
    exact lv_ishr hex hb hd (K H locs ls hP hD hS hF hl)
  · cases hx
def zo_iushr (n : Nat) : zOp := fun lo st σ => match st with
  | .int y :: .int x :: r => some (.inl (n, lo, .int ((x.toUInt32 >>> (y.toUInt32 &&& Int32.toUInt32 31)).toInt32) :: r, σ))
  | _ => none
theorem zs_iushr {zMD : List zM} {own : String} {cc : ByteArray} {nL : Nat} {ret : Option FieldType} {pc : Nat} (hd : decode cc pc = .ok (.iushr, 1)) : zSnd zMD own cc nL ret pc (zo_iushr (pc + 1)) := by
  intro d p l e R s m args below meth c g σ0 A cells slots Q hC lo st σ x hx
  obtain ⟨hex, hb, hml, hown, hts, hK, ⟨hSt, hNw⟩, hA, hfr, hlo, hce, hsl⟩ := hC
  unfold zo_iushr at hx
  split at hx
  · cases hx
    intro K H locs ls hP hD hS hF hl
    exact lv_iushr hex hb hd rfl (K H locs ls hP hD hS hF hl)
  · cases hx
def zo_idiv (n : Nat) : zOp := fun lo st σ => match st with
  | .int y :: .int x :: r => if ¬ y = 0 then some (.inl (n, lo, .int (x / y) :: r, σ)) else none
  | _ => none
theorem zs_idiv {zMD : List zM} {own : String} {cc : ByteArray} {nL : Nat} {ret : Option FieldType} {pc : Nat} (hd : decode cc pc = .ok (.idiv, 1)) : zSnd zMD own cc nL ret pc (zo_idiv (pc + 1)) := by
  intro d p l e R s m args below meth c g σ0 A cells slots Q hC lo st σ x hx
  obtain ⟨hex, hb, hml, hown, hts, hK, ⟨hSt, hNw⟩, hA, hfr, hlo, hce, hsl⟩ := hC
  unfold zo_idiv at hx
  split at hx
  · split at hx
    · rename_i hg
      cases hx
      intro K H locs ls hP hD hS hF hl
      exact lv_idiv hex hb hd hg (K H locs ls hP hD hS hF hl)
    · cases hx
  · cases hx
def zo_irem (n : Nat) : zOp := fun lo st σ => match st with
  | .int y :: .int x :: r => if ¬ y = 0 then some (.inl (n, lo, .int (x - x / y * y) :: r, σ)) else none
  | _ => none
theorem zs_irem {zMD : List zM} {own : String} {cc : ByteArray} {nL : Nat} {ret : Option FieldType} {pc : Nat} (hd : decode cc pc = .ok (.irem, 1)) : zSnd zMD own cc nL ret pc (zo_irem (pc + 1)) := by
  intro d p l e R s m args below meth c g σ0 A cells slots Q hC lo st σ x hx
  obtain ⟨hex, hb, hml, hown, hts, hK, ⟨hSt, hNw⟩, hA, hfr, hlo, hce, hsl⟩ := hC
  unfold zo_irem at hx
  split at hx
  · split at hx
    · rename_i hg
      cases hx
      intro K H locs ls hP hD hS hF hl
      exact lv_irem hex hb hd hg (K H locs ls hP hD hS hF hl)
    · cases hx
  · cases hx
def zo_ladd (n : Nat) : zOp := fun lo st σ => match st with
  | .long y :: .long x :: r => some (.inl (n, lo, .long (x + y) :: r, σ))
  | _ => none
theorem zs_ladd {zMD : List zM} {own : String} {cc : ByteArray} {nL : Nat} {ret : Option FieldType} {pc : Nat} (hd : decode cc pc = .ok (.ladd, 1)) : zSnd zMD own cc nL ret pc (zo_ladd (pc + 1)) := by
  intro d p l e R s m args below meth c g σ0 A cells slots Q hC lo st σ x hx
  obtain ⟨hex, hb, hml, hown, hts, hK, ⟨hSt, hNw⟩, hA, hfr, hlo, hce, hsl⟩ := hC
  unfold zo_ladd at hx
  split at hx
  · cases hx
    intro K H locs ls hP hD hS hF hl
    exact lv_ladd hex hb hd (K H locs ls hP hD hS hF hl)
  · cases hx
def zo_lsub (n : Nat) : zOp := fun lo st σ => match st with
  | .long y :: .long x :: r => some (.inl (n, lo, .long (x - y) :: r, σ))
  | _ => none
theorem zs_lsub {zMD : List zM} {own : String} {cc : ByteArray} {nL : Nat} {ret : Option FieldType} {pc : Nat} (hd : decode cc pc = .ok (.lsub, 1)) : zSnd zMD own cc nL ret pc (zo_lsub (pc + 1)) := by
  intro d p l e R s m args below meth c g σ0 A cells slots Q hC lo st σ x hx
  obtain ⟨hex, hb, hml, hown, hts, hK, ⟨hSt, hNw⟩, hA, hfr, hlo, hce, hsl⟩ := hC
  unfold zo_lsub at hx
  split at hx
  · cases hx
    intro K H locs ls hP hD hS hF hl
    exact lv_lsub hex hb hd (K H locs ls hP hD hS hF hl)
  · cases hx
def zo_lmul (n : Nat) : zOp := fun lo st σ => match st with
  | .long y :: .long x :: r => some (.inl (n, lo, .long (x * y) :: r, σ))
  | _ => none
theorem zs_lmul {zMD : List zM} {own : String} {cc : ByteArray} {nL : Nat} {ret : Option FieldType} {pc : Nat} (hd : decode cc pc = .ok (.lmul, 1)) : zSnd zMD own cc nL ret pc (zo_lmul (pc + 1)) := by
  intro d p l e R s m args below meth c g σ0 A cells slots Q hC lo st σ x hx
  obtain ⟨hex, hb, hml, hown, hts, hK, ⟨hSt, hNw⟩, hA, hfr, hlo, hce, hsl⟩ := hC
  unfold zo_lmul at hx
  split at hx
  · cases hx
    intro K H locs ls hP hD hS hF hl
    exact lv_lmul hex hb hd (K H locs ls hP hD hS hF hl)
  · cases hx
def zo_lrem (n : Nat) : zOp := fun lo st σ => match st with
  | .long y :: .long x :: r => if ¬ y = 0 then some (.inl (n, lo, .long (x - x / y * y) :: r, σ)) else none
  | _ => none
theorem zs_lrem {zMD : List zM} {own : String} {cc : ByteArray} {nL : Nat} {ret : Option FieldType} {pc : Nat} (hd : decode cc pc = .ok (.lrem, 1)) : zSnd zMD own cc nL ret pc (zo_lrem (pc + 1)) := by
  intro d p l e R s m args below meth c g σ0 A cells slots Q hC lo st σ x hx
  obtain ⟨hex, hb, hml, hown, hts, hK, ⟨hSt, hNw⟩, hA, hfr, hlo, hce, hsl⟩ := hC
  unfold zo_lrem at hx
  split at hx
  · split at hx
    · rename_i hg
      cases hx
      intro K H locs ls hP hD hS hF hl
      exact lv_lrem hex hb hd hg (K H locs ls hP hD hS hF hl)
    · cases hx
  · cases hx
def zo_lcmp (n : Nat) : zOp := fun lo st σ => match st with
  | .long y :: .long x :: r => some (.inl (n, lo, .int (lg_cmp x y) :: r, σ))
  | _ => none
theorem zs_lcmp {zMD : List zM} {own : String} {cc : ByteArray} {nL : Nat} {ret : Option FieldType} {pc : Nat} (hd : decode cc pc = .ok (.lcmp, 1)) : zSnd zMD own cc nL ret pc (zo_lcmp (pc + 1)) := by
  intro d p l e R s m args below meth c g σ0 A cells slots Q hC lo st σ x hx
  obtain ⟨hex, hb, hml, hown, hts, hK, ⟨hSt, hNw⟩, hA, hfr, hlo, hce, hsl⟩ := hC
  unfold zo_lcmp at hx
  split at hx
  · cases hx
    intro K H locs ls hP hD hS hF hl
    exact W.lcmp hex hb hd (K H locs ls hP hD hS hF hl)
  · cases hx
def zo_ineg (n : Nat) : zOp := fun lo st σ => match st with
  | .int x :: r => some (.inl (n, lo, .int (-x) :: r, σ))
  | _ => none
theorem zs_ineg {zMD : List zM} {own : String} {cc : ByteArray} {nL : Nat} {ret : Option FieldType} {pc : Nat} (hd : decode cc pc = .ok (.ineg, 1)) : zSnd zMD own cc nL ret pc (zo_ineg (pc + 1)) := by
  intro d p l e R s m args below meth c g σ0 A cells slots Q hC lo st σ x hx
  obtain ⟨hex, hb, hml, hown, hts, hK, ⟨hSt, hNw⟩, hA, hfr, hlo, hce, hsl⟩ := hC
  unfold zo_ineg at hx
  split at hx
  · cases hx
    intro K H locs ls hP hD hS hF hl
    exact lv_ineg hex hb hd (K H locs ls hP hD hS hF hl)
  · cases hx
def zo_i2l (n : Nat) : zOp := fun lo st σ => match st with
  | .int x :: r => some (.inl (n, lo, .long x.toInt64 :: r, σ))
  | _ => none
theorem zs_i2l {zMD : List zM} {own : String} {cc : ByteArray} {nL : Nat} {ret : Option FieldType} {pc : Nat} (hd : decode cc pc = .ok (.i2l, 1)) : zSnd zMD own cc nL ret pc (zo_i2l (pc + 1)) := by
  intro d p l e R s m args below meth c g σ0 A cells slots Q hC lo st σ x hx
  obtain ⟨hex, hb, hml, hown, hts, hK, ⟨hSt, hNw⟩, hA, hfr, hlo, hce, hsl⟩ := hC
  unfold zo_i2l at hx
  split at hx
  · cases hx
    intro K H locs ls hP hD hS hF hl
    exact lv_i2l hex hb hd rfl (K H locs ls hP hD hS hF hl)
  · cases hx
def zo_l2i (n : Nat) : zOp := fun lo st σ => match st with
  | .long x :: r => some (.inl (n, lo, .int x.toInt32 :: r, σ))
  | _ => none
theorem zs_l2i {zMD : List zM} {own : String} {cc : ByteArray} {nL : Nat} {ret : Option FieldType} {pc : Nat} (hd : decode cc pc = .ok (.l2i, 1)) : zSnd zMD own cc nL ret pc (zo_l2i (pc + 1)) := by
  intro d p l e R s m args below meth c g σ0 A cells slots Q hC lo st σ x hx
  obtain ⟨hex, hb, hml, hown, hts, hK, ⟨hSt, hNw⟩, hA, hfr, hlo, hce, hsl⟩ := hC
  unfold zo_l2i at hx
  split at hx
  · cases hx
    intro K H locs ls hP hD hS hF hl
    exact lv_l2i hex hb hd rfl (K H locs ls hP hD hS hF hl)
  · cases hx
def zo_i2b (n : Nat) : zOp := fun lo st σ => match st with
  | .int x :: r => some (.inl (n, lo, .int x.toInt8.toInt32 :: r, σ))
  | _ => none
theorem zs_i2b {zMD : List zM} {own : String} {cc : ByteArray} {nL : Nat} {ret : Option FieldType} {pc : Nat} (hd : decode cc pc = .ok (.i2b, 1)) : zSnd zMD own cc nL ret pc (zo_i2b (pc + 1)) := by
  intro d p l e R s m args below meth c g σ0 A cells slots Q hC lo st σ x hx
  obtain ⟨hex, hb, hml, hown, hts, hK, ⟨hSt, hNw⟩, hA, hfr, hlo, hce, hsl⟩ := hC
  unfold zo_i2b at hx
  split at hx
  · cases hx
    intro K H locs ls hP hD hS hF hl
    exact lv_i2b hex hb hd rfl (K H locs ls hP hD hS hF hl)
  · cases hx
def zo_i2s (n : Nat) : zOp := fun lo st σ => match st with
  | .int x :: r => some (.inl (n, lo, .int x.toInt16.toInt32 :: r, σ))
  | _ => none
theorem zs_i2s {zMD : List zM} {own : String} {cc : ByteArray} {nL : Nat} {ret : Option FieldType} {pc : Nat} (hd : decode cc pc = .ok (.i2s, 1)) : zSnd zMD own cc nL ret pc (zo_i2s (pc + 1)) := by
  intro d p l e R s m args below meth c g σ0 A cells slots Q hC lo st σ x hx
  obtain ⟨hex, hb, hml, hown, hts, hK, ⟨hSt, hNw⟩, hA, hfr, hlo, hce, hsl⟩ := hC
  unfold zo_i2s at hx
  split at hx
  · cases hx
    intro K H locs ls hP hD hS hF hl
    exact lv_i2s hex hb hd rfl (K H locs ls hP hD hS hF hl)
  · cases hx
def zo_dup (n : Nat) : zOp := fun lo st σ => match st with
  | v :: r => match Nat.beq v.category 1 with
    | true => some (.inl (n, lo, v :: v :: r, σ))
    | false => none
  | _ => none
theorem zs_dup {zMD : List zM} {own : String} {cc : ByteArray} {nL : Nat} {ret : Option FieldType} {pc : Nat} (hd : decode cc pc = .ok (.dup, 1)) : zSnd zMD own cc nL ret pc (zo_dup (pc + 1)) := by
  intro d p l e R s m args below meth c g σ0 A cells slots Q hC lo st σ x hx
  obtain ⟨hex, hb, hml, hown, hts, hK, ⟨hSt, hNw⟩, hA, hfr, hlo, hce, hsl⟩ := hC
  unfold zo_dup at hx
  split at hx
  · split at hx
    · rename_i hc
      cases hx
      intro K H locs ls hP hD hS hF hl
      exact lv_dup hex hb hd (by rw [zcv_cat]; exact Nat.eq_of_beq_eq_true hc) (K H locs ls hP hD hS hF hl)
    · cases hx
  · cases hx
def zo_pop (n : Nat) : zOp := fun lo st σ => match st with
  | v :: r => match Nat.beq v.category 1 with
    | true => some (.inl (n, lo, r, σ))
    | false => none
  | _ => none
theorem zs_pop {zMD : List zM} {own : String} {cc : ByteArray} {nL : Nat} {ret : Option FieldType} {pc : Nat} (hd : decode cc pc = .ok (.pop, 1)) : zSnd zMD own cc nL ret pc (zo_pop (pc + 1)) := by
  intro d p l e R s m args below meth c g σ0 A cells slots Q hC lo st σ x hx
  obtain ⟨hex, hb, hml, hown, hts, hK, ⟨hSt, hNw⟩, hA, hfr, hlo, hce, hsl⟩ := hC
  unfold zo_pop at hx
  split at hx
  · split at hx
    · rename_i hc
      cases hx
      intro K H locs ls hP hD hS hF hl
      exact lv_pop hex hb hd (by rw [zcv_cat]; exact Nat.eq_of_beq_eq_true hc) (K H locs ls hP hD hS hF hl)
    · cases hx
  · cases hx
def zo_dup2 (n : Nat) : zOp := fun lo st σ => match st with
  | .int x :: .ref y :: r => some (.inl (n, lo, .int x :: .ref y :: .int x :: .ref y :: r, σ))
  | _ => none
theorem zs_dup2 {zMD : List zM} {own : String} {cc : ByteArray} {nL : Nat} {ret : Option FieldType} {pc : Nat} (hd : decode cc pc = .ok (.dup2, 1)) : zSnd zMD own cc nL ret pc (zo_dup2 (pc + 1)) := by
  intro d p l e R s m args below meth c g σ0 A cells slots Q hC lo st σ x hx
  obtain ⟨hex, hb, hml, hown, hts, hK, ⟨hSt, hNw⟩, hA, hfr, hlo, hce, hsl⟩ := hC
  unfold zo_dup2 at hx
  split at hx
  · cases hx
    intro K H locs ls hP hD hS hF hl
    exact lv_dup2_11 hex hb hd rfl rfl (K H locs ls hP hD hS hF hl)
  · cases hx
def zo_zeq (t n : Nat) : zOp := fun lo st σ => match st with
  | .int x :: r => some (.inl (if x = 0 then t else n, lo, r, σ))
  | _ => none
theorem zs_zeq {zMD : List zM} {own : String} {cc : ByteArray} {nL : Nat} {ret : Option FieldType} {pc : Nat} {off : Int} {t : Nat} (hd : decode cc pc = .ok (.ifCond .eq off, 3)) (ht : (pc : Int) + off = (t : Int)) : zSnd zMD own cc nL ret pc (zo_zeq t (pc + 3)) := by
  intro d p l e R s m args below meth c g σ0 A cells slots Q hC lo st σ x hx
  obtain ⟨hex, hb, hml, hown, hts, hK, ⟨hSt, hNw⟩, hA, hfr, hlo, hce, hsl⟩ := hC
  unfold zo_zeq at hx
  split at hx
  · cases hx
    intro K H locs ls hP hD hS hF hl
    have K := K H locs ls hP hD hS hF hl
    exact lv_if_eq hex hb hd ht (fun q => by rw [if_pos q] at K; exact K) (fun q => by rw [if_neg q] at K; exact K)
  · cases hx
def zo_zne (t n : Nat) : zOp := fun lo st σ => match st with
  | .int x :: r => some (.inl (if x = 0 then n else t, lo, r, σ))
  | _ => none
theorem zs_zne {zMD : List zM} {own : String} {cc : ByteArray} {nL : Nat} {ret : Option FieldType} {pc : Nat} {off : Int} {t : Nat} (hd : decode cc pc = .ok (.ifCond .ne off, 3)) (ht : (pc : Int) + off = (t : Int)) : zSnd zMD own cc nL ret pc (zo_zne t (pc + 3)) := by
  intro d p l e R s m args below meth c g σ0 A cells slots Q hC lo st σ x hx
  obtain ⟨hex, hb, hml, hown, hts, hK, ⟨hSt, hNw⟩, hA, hfr, hlo, hce, hsl⟩ := hC
  unfold zo_zne at hx
  split at hx
  · cases hx
    intro K H locs ls hP hD hS hF hl
    have K := K H locs ls hP hD hS hF hl
    exact lv_if_ne hex hb hd ht (fun q => by rw [if_neg q] at K; exact K) (fun q => by rw [if_pos q] at K; exact K)
  · cases hx
def zo_zlt (t n : Nat) : zOp := fun lo st σ => match st with
  | .int x :: r => some (.inl (if x < 0 then t else n, lo, r, σ))
  | _ => none
theorem zs_zlt {zMD : List zM} {own : String} {cc : ByteArray} {nL : Nat} {ret : Option FieldType} {pc : Nat} {off : Int} {t : Nat} (hd : decode cc pc = .ok (.ifCond .lt off, 3)) (ht : (pc : Int) + off = (t : Int)) : zSnd zMD own cc nL ret pc (zo_zlt t (pc + 3)) := by
  intro d p l e R s m args below meth c g σ0 A cells slots Q hC lo st σ x hx
  obtain ⟨hex, hb, hml, hown, hts, hK, ⟨hSt, hNw⟩, hA, hfr, hlo, hce, hsl⟩ := hC
  unfold zo_zlt at hx
  split at hx
  · cases hx
    intro K H locs ls hP hD hS hF hl
    have K := K H locs ls hP hD hS hF hl
    exact lv_if_lt hex hb hd ht (fun q => by rw [if_pos q] at K; exact K) (fun q => by rw [if_neg q] at K; exact K)
  · cases hx
def zo_zge (t n : Nat) : zOp := fun lo st σ => match st with
  | .int x :: r => some (.inl (if 0 ≤ x then t else n, lo, r, σ))
  | _ => none
theorem zs_zge {zMD : List zM} {own : String} {cc : ByteArray} {nL : Nat} {ret : Option FieldType} {pc : Nat} {off : Int} {t : Nat} (hd : decode cc pc = .ok (.ifCond .ge off, 3)) (ht : (pc : Int) + off = (t : Int)) : zSnd zMD own cc nL ret pc (zo_zge t (pc + 3)) := by
  intro d p l e R s m args below meth c g σ0 A cells slots Q hC lo st σ x hx
  obtain ⟨hex, hb, hml, hown, hts, hK, ⟨hSt, hNw⟩, hA, hfr, hlo, hce, hsl⟩ := hC
  unfold zo_zge at hx
  split at hx
  · cases hx
    intro K H locs ls hP hD hS hF hl
    have K := K H locs ls hP hD hS hF hl
    exact lv_if_ge hex hb hd ht (fun q => by rw [if_pos q] at K; exact K) (fun q => by rw [if_neg q] at K; exact K)
  · cases hx
def zo_zgt (t n : Nat) : zOp := fun lo st σ => match st with
  | .int x :: r => some (.inl (if 0 < x then t else n, lo, r, σ))
  | _ => none
theorem zs_zgt {zMD : List zM} {own : String} {cc : ByteArray} {nL : Nat} {ret : Option FieldType} {pc : Nat} {off : Int} {t : Nat} (hd : decode cc pc = .ok (.ifCond .gt off, 3)) (ht : (pc : Int) + off = (t : Int)) : zSnd zMD own cc nL ret pc (zo_zgt t (pc + 3)) := by
  intro d p l e R s m args below meth c g σ0 A cells slots Q hC lo st σ x hx
  obtain ⟨hex, hb, hml, hown, hts, hK, ⟨hSt, hNw⟩, hA, hfr, hlo, hce, hsl⟩ := hC
  unfold zo_zgt at hx
  split at hx
  · cases hx
    intro K H locs ls hP hD hS hF hl
    have K := K H locs ls hP hD hS hF hl
    exact lv_if_gt hex hb hd ht (fun q => by rw [if_pos q] at K; exact K) (fun q => by rw [if_neg q] at K; exact K)
  · cases hx
def zo_zle (t n : Nat) : zOp := fun lo st σ => match st with
  | .int x :: r => some (.inl (if x ≤ 0 then t else n, lo, r, σ))
  | _ => none
theorem zs_zle {zMD : List zM} {own : String} {cc : ByteArray} {nL : Nat} {ret : Option FieldType} {pc : Nat} {off : Int} {t : Nat} (hd : decode cc pc = .ok (.ifCond .le off, 3)) (ht : (pc : Int) + off = (t : Int)) : zSnd zMD own cc nL ret pc (zo_zle t (pc + 3)) := by
  intro d p l e R s m args below meth c g σ0 A cells slots Q hC lo st σ x hx
  obtain ⟨hex, hb, hml, hown, hts, hK, ⟨hSt, hNw⟩, hA, hfr, hlo, hce, hsl⟩ := hC
  unfold zo_zle at hx
  split at hx
  · cases hx
    intro K H locs ls hP hD hS hF hl
    have K := K H locs ls hP hD hS hF hl
    exact lv_if_le hex hb hd ht (fun q => by rw [if_pos q] at K; exact K) (fun q => by rw [if_neg q] at K; exact K)
  · cases hx
def zo_ceq (t n : Nat) : zOp := fun lo st σ => match st with
  | .int y :: .int x :: r => some (.inl (if x = y then t else n, lo, r, σ))
  | _ => none
theorem zs_ceq {zMD : List zM} {own : String} {cc : ByteArray} {nL : Nat} {ret : Option FieldType} {pc : Nat} {off : Int} {t : Nat} (hd : decode cc pc = .ok (.if_icmp .eq off, 3)) (ht : (pc : Int) + off = (t : Int)) : zSnd zMD own cc nL ret pc (zo_ceq t (pc + 3)) := by
  intro d p l e R s m args below meth c g σ0 A cells slots Q hC lo st σ x hx
  obtain ⟨hex, hb, hml, hown, hts, hK, ⟨hSt, hNw⟩, hA, hfr, hlo, hce, hsl⟩ := hC
  unfold zo_ceq at hx
  split at hx
  · cases hx
    intro K H locs ls hP hD hS hF hl
    have K := K H locs ls hP hD hS hF hl
    exact lv_icmp_eq hex hb hd ht (fun q => by rw [if_pos q] at K; exact K) (fun q => by rw [if_neg q] at K; exact K)
  · cases hx
def zo_cne (t n : Nat) : zOp := fun lo st σ => match st with
  | .int y :: .int x :: r => some (.inl (if x = y then n else t, lo, r, σ))
  | _ => none
theorem zs_cne {zMD : List zM} {own : String} {cc : ByteArray} {nL : Nat} {ret : Option FieldType} {pc : Nat} {off : Int} {t : Nat} (hd : decode cc pc = .ok (.if_icmp .ne off, 3)) (ht : (pc : Int) + off = (t : Int)) : zSnd zMD own cc nL ret pc (zo_cne t (pc + 3)) := by
  intro d p l e R s m args below meth c g σ0 A cells slots Q hC lo st σ x hx
  obtain ⟨hex, hb, hml, hown, hts, hK, ⟨hSt, hNw⟩, hA, hfr, hlo, hce, hsl⟩ := hC
  unfold zo_cne at hx
  split at hx
  · cases hx
    intro K H locs ls hP hD hS hF hl
    have K := K H locs ls hP hD hS hF hl
    exact lv_icmp_ne hex hb hd ht (fun q => by rw [if_neg q] at K; exact K) (fun q => by rw [if_pos q] at K; exact K)
  · cases hx
def zo_clt (t n : Nat) : zOp := fun lo st σ => match st with
  | .int y :: .int x :: r => some (.inl (if x < y then t else n, lo, r, σ))
  | _ => none
theorem zs_clt {zMD : List zM} {own : String} {cc : ByteArray} {nL : Nat} {ret : Option FieldType} {pc : Nat} {off : Int} {t : Nat} (hd : decode cc pc = .ok (.if_icmp .lt off, 3)) (ht : (pc : Int) + off = (t : Int)) : zSnd zMD own cc nL ret pc (zo_clt t (pc + 3)) := by
  intro d p l e R s m args below meth c g σ0 A cells slots Q hC lo st σ x hx
  obtain ⟨hex, hb, hml, hown, hts, hK, ⟨hSt, hNw⟩, hA, hfr, hlo, hce, hsl⟩ := hC
  unfold zo_clt at hx
  split at hx
  · cases hx
    intro K H locs ls hP hD hS hF hl
    have K := K H locs ls hP hD hS hF hl
    exact lv_icmp_lt hex hb hd ht (fun q => by rw [if_pos q] at K; exact K) (fun q => by rw [if_neg q] at K; exact K)
  · cases hx
def zo_cge (t n : Nat) : zOp := fun lo st σ => match st with
  | .int y :: .int x :: r => some (.inl (if y ≤ x then t else n, lo, r, σ))
  | _ => none
theorem zs_cge {zMD : List zM} {own : String} {cc : ByteArray} {nL : Nat} {ret : Option FieldType} {pc : Nat} {off : Int} {t : Nat} (hd : decode cc pc = .ok (.if_icmp .ge off, 3)) (ht : (pc : Int) + off = (t : Int)) : zSnd zMD own cc nL ret pc (zo_cge t (pc + 3)) := by
  intro d p l e R s m args below meth c g σ0 A cells slots Q hC lo st σ x hx
  obtain ⟨hex, hb, hml, hown, hts, hK, ⟨hSt, hNw⟩, hA, hfr, hlo, hce, hsl⟩ := hC
  unfold zo_cge at hx
  split at hx
  · cases hx
    intro K H locs ls hP hD hS hF hl
    have K := K H locs ls hP hD hS hF hl
    exact lv_icmp_ge hex hb hd ht (fun q => by rw [if_pos q] at K; exact K) (fun q => by rw [if_neg q] at K; exact K)
  · cases hx
def zo_cgt (t n : Nat) : zOp := fun lo st σ => match st with
  | .int y :: .int x :: r => some (.inl (if y < x then t else n, lo, r, σ))
  | _ => none
theorem zs_cgt {zMD : List zM} {own : String} {cc : ByteArray} {nL : Nat} {ret : Option FieldType} {pc : Nat} {off : Int} {t : Nat} (hd : decode cc pc = .ok (.if_icmp .gt off, 3)) (ht : (pc : Int) + off = (t : Int)) : zSnd zMD own cc nL ret pc (zo_cgt t (pc + 3)) := by
  intro d p l e R s m args below meth c g σ0 A cells slots Q hC lo st σ x hx
  obtain ⟨hex, hb, hml, hown, hts, hK, ⟨hSt, hNw⟩, hA, hfr, hlo, hce, hsl⟩ := hC
  unfold zo_cgt at hx
  split at hx
  · cases hx
    intro K H locs ls hP hD hS hF hl
    have K := K H locs ls hP hD hS hF hl
    exact lv_icmp_gt hex hb hd ht (fun q => by rw [if_pos q] at K; exact K) (fun q => by rw [if_neg q] at K; exact K)
  · cases hx
def zo_cle (t n : Nat) : zOp := fun lo st σ => match st with
  | .int y :: .int x :: r => some (.inl (if x ≤ y then t else n, lo, r, σ))
  | _ => none
theorem zs_cle {zMD : List zM} {own : String} {cc : ByteArray} {nL : Nat} {ret : Option FieldType} {pc : Nat} {off : Int} {t : Nat} (hd : decode cc pc = .ok (.if_icmp .le off, 3)) (ht : (pc : Int) + off = (t : Int)) : zSnd zMD own cc nL ret pc (zo_cle t (pc + 3)) := by
  intro d p l e R s m args below meth c g σ0 A cells slots Q hC lo st σ x hx
  obtain ⟨hex, hb, hml, hown, hts, hK, ⟨hSt, hNw⟩, hA, hfr, hlo, hce, hsl⟩ := hC
  unfold zo_cle at hx
  split at hx
  · cases hx
    intro K H locs ls hP hD hS hF hl
    have K := K H locs ls hP hD hS hF hl
    exact lv_icmp_le hex hb hd ht (fun q => by rw [if_pos q] at K; exact K) (fun q => by rw [if_neg q] at K; exact K)
  · cases hx
def zo_mmax (n : Nat) : zOp := fun lo st σ => match st with
  | .int y :: .int x :: r => match Nat.ble (zcat r) 8 with
    | true => some (.inl (n, lo, .int (if x < y then y else x) :: r, σ))
    | false => none
  | _ => none
theorem zs_mmax {zMD : List zM} {own : String} {cc : ByteArray} {nL : Nat} {ret : Option FieldType} {pc : Nat} {idx : Nat} (hd : decode cc pc = .ok (.invokestatic idx, 3)) (h1 : Cond.methodLink own idx Lib.Math.max.name ∈ zTab) (h2 : Cond.static Lib.Math.max.name ∈ zTab) (h3 : Cond.initialized "java/lang/Math" ∈ zTab) (h4 : Cond.code Lib.Math.max.name Lib.Math.max.code 2 (some .int) ∈ zTab) : zSnd zMD own cc nL ret pc (zo_mmax (pc + 3)) := by
  intro d p l e R s m args below meth c g σ0 A cells slots Q hC lo st σ x hx
  obtain ⟨hex, hb, hml, hown, hts, hK, ⟨hSt, hNw⟩, hA, hfr, hlo, hce, hsl⟩ := hC
  unfold zo_mmax at hx
  split at hx
  · split at hx
    · rename_i hcat
      cases hx
      intro K H locs ls hP hD hS hF hl
      have hcat := Nat.le_of_ble_eq_true hcat
      exact va_mmax hex hb (hml.trans hl.1.symm) hown (hts _ h1) (hts _ h2) (hts _ h3) (hts _ h4) (by omega) (by rw [zcat_sum]; omega) hce hsl hd (K H locs ls hP hD hS hF hl)
    · cases hx
  · cases hx
def zo_mmin (n : Nat) : zOp := fun lo st σ => match st with
  | .int y :: .int x :: r => match Nat.ble (zcat r) 8 with
    | true => some (.inl (n, lo, .int (if y < x then y else x) :: r, σ))
    | false => none
  | _ => none
theorem zs_mmin {zMD : List zM} {own : String} {cc : ByteArray} {nL : Nat} {ret : Option FieldType} {pc : Nat} {idx : Nat} (hd : decode cc pc = .ok (.invokestatic idx, 3)) (h1 : Cond.methodLink own idx Lib.Math.min.name ∈ zTab) (h2 : Cond.static Lib.Math.min.name ∈ zTab) (h3 : Cond.initialized "java/lang/Math" ∈ zTab) (h4 : Cond.code Lib.Math.min.name Lib.Math.min.code 2 (some .int) ∈ zTab) : zSnd zMD own cc nL ret pc (zo_mmin (pc + 3)) := by
  intro d p l e R s m args below meth c g σ0 A cells slots Q hC lo st σ x hx
  obtain ⟨hex, hb, hml, hown, hts, hK, ⟨hSt, hNw⟩, hA, hfr, hlo, hce, hsl⟩ := hC
  unfold zo_mmin at hx
  split at hx
  · split at hx
    · rename_i hcat
      cases hx
      intro K H locs ls hP hD hS hF hl
      have hcat := Nat.le_of_ble_eq_true hcat
      exact va_mmin hex hb (hml.trans hl.1.symm) hown (hts _ h1) (hts _ h2) (hts _ h3) (hts _ h4) (by omega) (by rw [zcat_sum]; omega) hce hsl hd (K H locs ls hP hD hS hF hl)
    · cases hx
  · cases hx
def zo_mabs (n : Nat) : zOp := fun lo st σ => match st with
  | .int x :: r => match Nat.ble (zcat r) 8 with
    | true => some (.inl (n, lo, .int (if 0 ≤ x then x else 0 - x) :: r, σ))
    | false => none
  | _ => none
theorem zs_mabs {zMD : List zM} {own : String} {cc : ByteArray} {nL : Nat} {ret : Option FieldType} {pc : Nat} {idx : Nat} (hd : decode cc pc = .ok (.invokestatic idx, 3)) (h1 : Cond.methodLink own idx Lib.Math.abs.name ∈ zTab) (h2 : Cond.static Lib.Math.abs.name ∈ zTab) (h3 : Cond.initialized "java/lang/Math" ∈ zTab) (h4 : Cond.code Lib.Math.abs.name Lib.Math.abs.code 1 (some .int) ∈ zTab) : zSnd zMD own cc nL ret pc (zo_mabs (pc + 3)) := by
  intro d p l e R s m args below meth c g σ0 A cells slots Q hC lo st σ x hx
  obtain ⟨hex, hb, hml, hown, hts, hK, ⟨hSt, hNw⟩, hA, hfr, hlo, hce, hsl⟩ := hC
  unfold zo_mabs at hx
  split at hx
  · split at hx
    · rename_i hcat
      cases hx
      intro K H locs ls hP hD hS hF hl
      have hcat := Nat.le_of_ble_eq_true hcat
      exact va_mabs hex hb (hml.trans hl.1.symm) hown (hts _ h1) (hts _ h2) (hts _ h3) (hts _ h4) (by omega) (by rw [zcat_sum]; omega) hce hsl hd (K H locs ls hP hD hS hF hl)
    · cases hx
  · cases hx
def zo_lmax (n : Nat) : zOp := fun lo st σ => match st with
  | .long y :: .long x :: r => match Nat.ble (zcat r) 8 with
    | true => some (.inl (n, lo, .long (if y < x then x else y) :: r, σ))
    | false => none
  | _ => none
theorem zs_lmax {zMD : List zM} {own : String} {cc : ByteArray} {nL : Nat} {ret : Option FieldType} {pc : Nat} {idx : Nat} (hd : decode cc pc = .ok (.invokestatic idx, 3)) (h1 : Cond.methodLink own idx Lib.MathLoose.max_long.x ∈ zTab) (h2 : Cond.static Lib.MathLoose.max_long.x ∈ zTab) (h3 : Cond.initialized "java/lang/Math" ∈ zTab) (h4 : Cond.code Lib.MathLoose.max_long.x Lib.MathLoose.max_long.code 4 (some .long) ∈ zTab) : zSnd zMD own cc nL ret pc (zo_lmax (pc + 3)) := by
  intro d p l e R s m args below meth c g σ0 A cells slots Q hC lo st σ x hx
  obtain ⟨hex, hb, hml, hown, hts, hK, ⟨hSt, hNw⟩, hA, hfr, hlo, hce, hsl⟩ := hC
  unfold zo_lmax at hx
  split at hx
  · split at hx
    · rename_i hcat
      cases hx
      intro K H locs ls hP hD hS hF hl
      have hcat := Nat.le_of_ble_eq_true hcat
      exact va_mmax_long hex hb (hml.trans hl.1.symm) hown (hts _ h1) (hts _ h2) (hts _ h3) (hts _ h4) (by omega) (by rw [zcat_sum]; omega) hce hsl hd (K H locs ls hP hD hS hF hl)
    · cases hx
  · cases hx
def zo_lmin (n : Nat) : zOp := fun lo st σ => match st with
  | .long y :: .long x :: r => match Nat.ble (zcat r) 8 with
    | true => some (.inl (n, lo, .long (if y < x then y else x) :: r, σ))
    | false => none
  | _ => none
theorem zs_lmin {zMD : List zM} {own : String} {cc : ByteArray} {nL : Nat} {ret : Option FieldType} {pc : Nat} {idx : Nat} (hd : decode cc pc = .ok (.invokestatic idx, 3)) (h1 : Cond.methodLink own idx Lib.MathLoose.min_long.x ∈ zTab) (h2 : Cond.static Lib.MathLoose.min_long.x ∈ zTab) (h3 : Cond.initialized "java/lang/Math" ∈ zTab) (h4 : Cond.code Lib.MathLoose.min_long.x Lib.MathLoose.min_long.code 4 (some .long) ∈ zTab) : zSnd zMD own cc nL ret pc (zo_lmin (pc + 3)) := by
  intro d p l e R s m args below meth c g σ0 A cells slots Q hC lo st σ x hx
  obtain ⟨hex, hb, hml, hown, hts, hK, ⟨hSt, hNw⟩, hA, hfr, hlo, hce, hsl⟩ := hC
  unfold zo_lmin at hx
  split at hx
  · split at hx
    · rename_i hcat
      cases hx
      intro K H locs ls hP hD hS hF hl
      have hcat := Nat.le_of_ble_eq_true hcat
      exact va_mmin_long hex hb (hml.trans hl.1.symm) hown (hts _ h1) (hts _ h2) (hts _ h3) (hts _ h4) (by omega) (by rw [zcat_sum]; omega) hce hsl hd (K H locs ls hP hD hS hF hl)
    · cases hx
  · cases hx
def zo_goto (t : Nat) : zOp := fun lo st σ => some (.inl (t, lo, st, σ))
theorem zs_goto {zMD : List zM} {own : String} {cc : ByteArray} {nL : Nat} {ret : Option FieldType} {pc : Nat} {off : Int} {t : Nat} (hd : decode cc pc = .ok (.goto off, 3)) (ht : (pc : Int) + off = (t : Int)) : zSnd zMD own cc nL ret pc (zo_goto t) := by
  intro d p l e R s m args below meth c g σ0 A cells slots Q hC lo st σ x hx
  obtain ⟨hex, hb, hml, hown, hts, hK, ⟨hSt, hNw⟩, hA, hfr, hlo, hce, hsl⟩ := hC
  cases hx
  intro K H locs ls hP hD hS hF hl
  exact lv_goto hex hb hd ht (K H locs ls hP hD hS hF hl)
/-- a switch: by the list of its values -/
def zsw (x : Int32) : List (Int32 × Nat) → Nat → Nat
  | [], d => d
  | (v, t) :: r, d => if x = v then t else zsw x r d
theorem zsw_spec (x : Int32) (d : Nat) : ∀ ps : List (Int32 × Nat), (∃ q ∈ ps, x = q.1 ∧ zsw x ps d = q.2) ∨ ((∀ q ∈ ps, x ≠ q.1) ∧ zsw x ps d = d)
  | [] => Or.inr ⟨fun _ h => (by cases h), rfl⟩
  | (v, t) :: r => by
    by_cases h : x = v
    · exact Or.inl ⟨(v, t), List.mem_cons_self, h, by simp [zsw, h]⟩
    · rcases zsw_spec x d r with ⟨q, h1, h2, h3⟩ | ⟨h1, h2⟩
      · exact Or.inl ⟨q, List.mem_cons_of_mem _ h1, h2, by simp [zsw, h, h3]⟩
      · refine Or.inr ⟨fun q hq => ?_, by simp [zsw, h, h2]⟩
        rcases List.mem_cons.mp hq with e | e
        · rw [e]; exact h
        · exact h1 q e
def zo_sw (ps : List (Int32 × Nat)) (d : Nat) : zOp := fun lo st σ => match st with
  | .int x :: r => some (.inl (zsw x ps d, lo, r, σ))
  | _ => none
theorem zs_tsw {zMD : List zM} {own : String} {cc : ByteArray} {nL : Nat} {ret : Option FieldType} {pc : Nat} {dflt bot top : Int} {offs : Array Int} {len : Nat} {ps : List (Int32 × Nat)} {t : Nat} (hd : decode cc pc = .ok (.tableswitch dflt bot top offs, len)) (ht : (pc : Int) + dflt = (t : Int))
    (hp : ∀ q ∈ ps, ¬ q.1.toInt < bot ∧ ¬ top < q.1.toInt ∧ (offs[(q.1.toInt - bot).toNat]?).map (fun z => (pc : Int) + z) = some (q.2 : Int)) (hc : ∀ k : Nat, k < (top + 1 - bot).toNat → ∃ q ∈ ps, q.1.toInt = bot + (k : Int)) : zSnd zMD own cc nL ret pc (zo_sw ps t) := by
  intro d p l e R s m args below meth c g σ0 A cells slots Q hC lo st σ x hx
  obtain ⟨hex, hb, hml, hown, hts, hK, ⟨hSt, hNw⟩, hA, hfr, hlo, hce, hsl⟩ := hC
  unfold zo_sw at hx
  split at hx
  · rename_i x r
    cases hx
    intro K H locs ls hP hD hS hF hl
    have K := K H locs ls hP hD hS hF hl
    rcases zsw_spec x t ps with ⟨q, h1, h2, h3⟩ | ⟨h1, h2⟩
    · obtain ⟨a1, a2, a3⟩ := hp q h1
      rw [h3] at K
      rw [← h2] at a1 a2 a3
      obtain ⟨off, b1, b2⟩ := Option.map_eq_some_iff.mp a3
      exact lv_tableIn hex hb hd a1 a2 b1 b2 K
    · rw [h2] at K
      refine lv_tableOut hex hb hd ?_ ht K
      by_cases a1 : x.toInt < bot
      · exact Or.inl a1
      · by_cases a2 : top < x.toInt
        · exact Or.inr a2
        · obtain ⟨q, c1, c2⟩ := hc (x.toInt - bot).toNat (by omega)
          exact absurd (Int32.toInt_inj.mp (by rw [c2]; omega)) (h1 q c1)
  · cases hx
theorem zoff_none {k : Int} {dflt : Int} : ∀ {ps : List (Int × Int)}, (∀ q ∈ ps, q.1 ≠ k) → Op.lookupswitch.offset ps dflt k = dflt
  | [], _ => rfl
  | (a, z) :: r, h => by
    rw [Op.lookupswitch.offset_cons, if_neg (h (a, z) List.mem_cons_self)]
    exact zoff_none (fun q hq => h q (List.mem_cons_of_mem _ hq))
theorem zs_lsw {zMD : List zM} {own : String} {cc : ByteArray} {nL : Nat} {ret : Option FieldType} {pc : Nat} {dflt : Int} {pa : Array (Int × Int)} {len : Nat} {ps : List (Int32 × Nat)} {t : Nat} (hd : decode cc pc = .ok (.lookupswitch dflt pa, len)) (ho : (pa.toList.zip (pa.toList.drop 1)).all (fun (a, next) => a.1 < next.1) = true) (ht : (pc : Int) + dflt = (t : Int))
    (hp : ∀ q ∈ ps, (pc : Int) + Op.lookupswitch.offset pa.toList dflt q.1.toInt = (q.2 : Int)) (hc : ∀ a ∈ pa.toList, ∃ q ∈ ps, q.1.toInt = a.1) : zSnd zMD own cc nL ret pc (zo_sw ps t) := by
  intro d p l e R s m args below meth c g σ0 A cells slots Q hC lo st σ x hx
  obtain ⟨hex, hb, hml, hown, hts, hK, ⟨hSt, hNw⟩, hA, hfr, hlo, hce, hsl⟩ := hC
  unfold zo_sw at hx
  split at hx
  · rename_i x r
    cases hx
    intro K H locs ls hP hD hS hF hl
    have K := K H locs ls hP hD hS hF hl
    rcases zsw_spec x t ps with ⟨q, h1, h2, h3⟩ | ⟨h1, h2⟩
    · rw [h3] at K
      have a := hp q h1
      rw [← h2] at a
      exact lv_lookup hex hb hd ho rfl a K
    · rw [h2] at K
      refine lv_lookup hex hb hd ho (zoff_none (fun a ha e => ?_)) ht K
      obtain ⟨q, c1, c2⟩ := hc a ha
      exact absurd (Int32.toInt_inj.mp (by rw [c2, e])) (h1 q c1)
  · cases hx
/-- how long an array is -/
def zlen (σ : zSo) (k : Nat) : Option Nat := match zLAY[k]? with
  | some (1, n, _) => some n
  | some _ => none
  | none => match zTB[k - 1000]? with
    | some (_, n) => match Nat.ble 1000 k with
      | true => some n
      | false => none
    | none => match Nat.beq k 1100 with
      | true => some (zL σ)
      | false => none
theorem zlen_spec {σ : zSo} {k n : Nat} (h : zlen σ k = some n) : (∃ c, zLAY[k]? = some (1, n, c)) ∨ (∃ j s, k = 1000 + j ∧ zTB[j]? = some (s, n)) ∨ (k = 1100 ∧ n = zL σ) := by
  unfold zlen at h
  split at h
  · rename_i n' c hc
    cases h
    exact Or.inl ⟨c, hc⟩
  · cases h
  · split at h
    · rename_i s n' hs
      split at h
      · rename_i hb
        cases h
        have := Nat.le_of_ble_eq_true hb
        exact Or.inr (Or.inl ⟨k - 1000, s, by omega, hs⟩)
      · cases h
    · split at h
      · rename_i hb
        cases h
        exact Or.inr (Or.inr ⟨Nat.eq_of_beq_eq_true hb, rfl⟩)
      · cases h
section ZT
variable {p : Program} {l : Launch} {e : Env} {R : Room} {s : State} {m : MethodId} {args : Array Value} {below : List Frame} {meth : Method} {c : Code} {H : Heap} {locs : List Loc} {cells slots : Nat} {Q : State → Prop} {A : Nat → Prop} {cc : ByteArray} {pc : Nat} {ls : Array Slot} {rest : List Value}
theorem zT_ld (hexec : p.tables.exec = Jvm.exec) (hb : c.code = cc) {t N : Nat} {f : Nat → Int32} (hT : va_T .int t N (fun j => .int (f j)) A s s.heap) (hS : va_S A s.heap H locs) {i : Int32} (hin : ¬ (i < 0 ∨ N ≤ i.toNatClampNeg)) (hdg : decode cc pc = .ok (.iaload, 1))
    (kk : W p l e R s m args below meth c H locs cells slots Q (F0 m (pc + 1) ls (.int (f i.toNatClampNeg) :: rest))) : W p l e R s m args below meth c H locs cells slots Q (F0 m pc ls (.int i :: .ref t :: rest)) := by
  obtain ⟨cell, h1, h2, h3, h4, h5, h6, h7⟩ := hT
  have hlt : i.toNatClampNeg < N := Nat.not_le.mp fun q => hin (Or.inr q)
  exact W.iald (v := .int (f i.toNatClampNeg)) hexec hb (by rw [hS.2.1 t (Array.getElem?_eq_some_iff.mp h1).1 h7]; exact h1) h2 h3 (fun q => q.elim (fun z => hin (Or.inl z)) (fun z => hin (Or.inr (Nat.le_trans h4 z)))) (h6 _ hlt) rfl rfl hdg kk
theorem zT_len (hexec : p.tables.exec = Jvm.exec) (hb : c.code = cc) {t N : Nat} {f : Nat → Int32} (hT : va_T .int t N (fun j => .int (f j)) A s s.heap) (hS : va_S A s.heap H locs) (hdg : decode cc pc = .ok (.arraylength, 1))
    (kk : W p l e R s m args below meth c H locs cells slots Q (F0 m (pc + 1) ls (.int (Int32.ofNat N) :: rest))) : W p l e R s m args below meth c H locs cells slots Q (F0 m pc ls (.ref t :: rest)) := by
  obtain ⟨cell, h1, h2, h3, h4, h5, h6, h7⟩ := hT
  exact W.alen (n := Int32.ofNat N) hexec hb (by rw [hS.2.1 t (Array.getElem?_eq_some_iff.mp h1).1 h7]; exact h1) h2 h5 rfl rfl hdg kk
end ZT
def zo_iald (n : Nat) : zOp := fun lo st σ => match st with
  | .int i :: .ref k :: r => match zlen σ k with
    | some N => if ¬ (i < 0 ∨ N ≤ i.toNatClampNeg) then some (.inl (n, lo, .int (σ k i.toNatClampNeg) :: r, σ)) else none
    | none => none
  | _ => none
theorem zs_iald {zMD : List zM} {own : String} {cc : ByteArray} {nL : Nat} {ret : Option FieldType} {pc : Nat} (hd : decode cc pc = .ok (.iaload, 1)) : zSnd zMD own cc nL ret pc (zo_iald (pc + 1)) := by
  intro d p l e R s m args below meth c g σ0 A cells slots Q hC lo st σ x hx
  obtain ⟨hex, hb, hml, hown, hts, hK, ⟨hSt, hNw⟩, hA, hfr, hlo, hce, hsl⟩ := hC
  unfold zo_iald at hx
  split at hx
  · rename_i i k r
    split at hx
    · rename_i N hN
      split at hx
      · rename_i hg
        cases hx
        intro K H locs ls hP hD hS hF hl
        have K := K H locs ls hP hD hS hF hl
        rcases zlen_spec hN with ⟨w, hc⟩ | ⟨j, q, rfl, hj⟩ | ⟨rfl, rfl⟩
        · exact va_iald (q0 := k) (t0 := 0) hex hb hK hP (zW_at g σ hc) rfl hg hd K
        · have hT := (hSt.1 j _ hj).2
          rw [hF (1000 + j) (by omega)] at K
          exact zT_ld hex hb hT hS hg hd K
        · have hT := hSt.2
          rw [hF 1100 (by omega)] at K
          rw [show zL σ = zL σ0 from by rw [zL, zL, hF 1101 (by omega)]] at hg
          exact zT_ld hex hb hT hS hg hd K
      · cases hx
    · cases hx
  · cases hx
def zo_alen (n : Nat) : zOp := fun lo st σ => match st with
  | .ref k :: r => match Nat.beq k 1100 with
    | true => some (.inl (n, lo, .int (Int32.ofNat (zL σ)) :: r, σ))
    | false => none
  | _ => none
theorem zs_alen {zMD : List zM} {own : String} {cc : ByteArray} {nL : Nat} {ret : Option FieldType} {pc : Nat} (hd : decode cc pc = .ok (.arraylength, 1)) : zSnd zMD own cc nL ret pc (zo_alen (pc + 1)) := by
  intro d p l e R s m args below meth c g σ0 A cells slots Q hC lo st σ x hx
  obtain ⟨hex, hb, hml, hown, hts, hK, ⟨hSt, hNw⟩, hA, hfr, hlo, hce, hsl⟩ := hC
  unfold zo_alen at hx
  split at hx
  · rename_i k r
    split at hx
    · rename_i hk
      cases hx
      intro K H locs ls hP hD hS hF hl
      have K := K H locs ls hP hD hS hF hl
      rw [show zL σ = zL σ0 from by rw [zL, zL, hF 1101 (by omega)]] at K
      cases Nat.eq_of_beq_eq_true hk
      exact zT_len hex hb hSt.2 hS hd K
    · cases hx
  · cases hx
def zo_iast (n : Nat) : zOp := fun lo st σ => match st with
  | .int v :: .int i :: .ref k :: r => match zLAY[k]? with
    | some (1, N, _) => if ¬ (i < 0 ∨ N ≤ i.toNatClampNeg) then some (.inl (n, lo, r, zup σ k i.toNatClampNeg v)) else none
    | _ => none
  | _ => none
theorem zLAY_lt {k : Nat} {c : zCell} (h : zLAY[k]? = some c) : k < 1000 := Nat.lt_of_lt_of_le (List.getElem?_eq_some_iff.mp h).1 (by decide)
theorem zfix {σ σ0 : zSo} {k j : Nat} {v : Int32} {c : zCell} (h : zLAY[k]? = some c) (hF : ∀ k, 1000 ≤ k → σ k = σ0 k) : ∀ q, 1000 ≤ q → zup σ k j v q = σ0 q := fun q hq => by
  rw [zup_o σ j v (by have := zLAY_lt h; omega)]; exact hF q hq
theorem zs_iast {zMD : List zM} {own : String} {cc : ByteArray} {nL : Nat} {ret : Option FieldType} {pc : Nat} (hd : decode cc pc = .ok (.iastore, 1)) : zSnd zMD own cc nL ret pc (zo_iast (pc + 1)) := by
  intro d p l e R s m args below meth c g σ0 A cells slots Q hC lo st σ x hx
  obtain ⟨hex, hb, hml, hown, hts, hK, ⟨hSt, hNw⟩, hA, hfr, hlo, hce, hsl⟩ := hC
  unfold zo_iast at hx
  split at hx
  · rename_i v i k r
    split at hx
    · rename_i N w hc
      split at hx
      · rename_i hg
        cases hx
        intro K H locs ls hP hD hS hF hl
        refine va_iast (q0 := k) (t0 := 0) hex hb hK hP hD hS (zW_at g σ hc) rfl hg hd (fun H1 locs1 hP1 hD1 hS1 => ?_)
        have e : (zW g σ).set k (g.1 k, Sum.inl (g.2.2 0, N, Sum.inl (upd (σ k) i.toNatClampNeg v))) = zW g (zup σ k i.toNatClampNeg v) := by
          have := zW_set g (σ := σ) (σ' := zup σ k i.toNatClampNeg v) hc (fun a ha => zup_o σ _ _ ha)
          rw [zup_k] at this
          exact this
        rw [e] at hP1 hD1
        exact K H1 locs1 ls hP1 hD1 hS1 (zfix hc hF) hl
      · cases hx
    · cases hx
  · cases hx
def zo_bald (n : Nat) : zOp := fun lo st σ => match st with
  | .int i :: .ref k :: r => match zLAY[k]? with
    | some (2, N, _) => if ¬ (i < 0 ∨ N ≤ i.toNatClampNeg) then some (.inl (n, lo, .int (σ k i.toNatClampNeg) :: r, σ)) else none
    | _ => none
  | _ => none
theorem zs_bald {zMD : List zM} {own : String} {cc : ByteArray} {nL : Nat} {ret : Option FieldType} {pc : Nat} (hd : decode cc pc = .ok (.baload, 1)) : zSnd zMD own cc nL ret pc (zo_bald (pc + 1)) := by
  intro d p l e R s m args below meth c g σ0 A cells slots Q hC lo st σ x hx
  obtain ⟨hex, hb, hml, hown, hts, hK, ⟨hSt, hNw⟩, hA, hfr, hlo, hce, hsl⟩ := hC
  unfold zo_bald at hx
  split at hx
  · rename_i i k r
    split at hx
    · rename_i N w hc
      split at hx
      · rename_i hg
        cases hx
        intro K H locs ls hP hD hS hF hl
        exact va_zald (q0 := k) (t0 := 1) hex hb hK hP (zW_at g σ hc) rfl hg hd (K H locs ls hP hD hS hF hl)
      · cases hx
    · cases hx
  · cases hx
def zo_bast (n : Nat) : zOp := fun lo st σ => match st with
  | .int v :: .int i :: .ref k :: r => match zLAY[k]? with
    | some (2, N, _) => if ¬ (i < 0 ∨ N ≤ i.toNatClampNeg) then some (.inl (n, lo, r, zup σ k i.toNatClampNeg (vp_nar .boolean v))) else none
    | _ => none
  | _ => none
theorem zs_bast {zMD : List zM} {own : String} {cc : ByteArray} {nL : Nat} {ret : Option FieldType} {pc : Nat} (hd : decode cc pc = .ok (.bastore, 1)) : zSnd zMD own cc nL ret pc (zo_bast (pc + 1)) := by
  intro d p l e R s m args below meth c g σ0 A cells slots Q hC lo st σ x hx
  obtain ⟨hex, hb, hml, hown, hts, hK, ⟨hSt, hNw⟩, hA, hfr, hlo, hce, hsl⟩ := hC
  unfold zo_bast at hx
  split at hx
  · rename_i v i k r
    split at hx
    · rename_i N w hc
      split at hx
      · rename_i hg
        cases hx
        intro K H locs ls hP hD hS hF hl
        refine va_zast (q0 := k) (t0 := 1) hex hb hK hP hD hS (zW_at g σ hc) rfl hg hd (fun H1 locs1 hP1 hD1 hS1 => ?_)
        have e : (zW g σ).set k (g.1 k, Sum.inl (g.2.2 1, N, Sum.inl (upd (σ k) i.toNatClampNeg (vp_nar .boolean v)))) = zW g (zup σ k i.toNatClampNeg (vp_nar .boolean v)) := by
          have := zW_set g (σ := σ) (σ' := zup σ k i.toNatClampNeg (vp_nar .boolean v)) hc (fun a ha => zup_o σ _ _ ha)
          rw [zup_k] at this
          exact this
        rw [e] at hP1 hD1
        exact K H1 locs1 ls hP1 hD1 hS1 (zfix hc hF) hl
      · cases hx
    · cases hx
  · cases hx
def zo_aald (n : Nat) : zOp := fun lo st σ => match st with
  | .int i :: .ref k :: r => match zLAY[k]? with
    | some (3, t, fs) => if ¬ (i < 0 ∨ fs.length ≤ i.toNatClampNeg) then (match fs[i.toNatClampNeg]? with
      | some (some q) => some (.inl (n, lo, .ref q :: r, σ))
      | _ => none) else none
    | _ => none
  | _ => none
theorem zs_aald {zMD : List zM} {own : String} {cc : ByteArray} {nL : Nat} {ret : Option FieldType} {pc : Nat} (hd : decode cc pc = .ok (.aaload, 1)) (hlay : ∀ (k t : Nat) (fs : List (Option Nat)), zLAY[k]? = some (3, t, fs) → t = 2 ∨ t = 3) : zSnd zMD own cc nL ret pc (zo_aald (pc + 1)) := by
  intro d p l e R s m args below meth c g σ0 A cells slots Q hC lo st σ x hx
  obtain ⟨hex, hb, hml, hown, hts, hK, ⟨hSt, hNw⟩, hA, hfr, hlo, hce, hsl⟩ := hC
  unfold zo_aald at hx
  split at hx
  · rename_i i k r
    split at hx
    · rename_i t fs hc
      split at hx
      · rename_i hg
        split at hx
        · rename_i q hq
          cases hx
          intro K H locs ls hP hD hS hF hl
          have K := K H locs ls hP hD hS hF hl
          have e : va_rf ((fs.getD i.toNatClampNeg none).map g.1) = .ref (g.1 q) := by rw [List.getD_eq_getElem?_getD, hq]; rfl
          rcases hlay k t fs hc with rfl | rfl
          · refine va_aldq (C := "BeatBounds$Row") (q0 := k) (t0 := 2) hex hb hK hP (zW_at g σ hc) rfl hg hd ?_
            rw [e]
            exact K
          · refine va_aldq (C := "BeatBounds$Parish") (q0 := k) (t0 := 3) hex hb hK hP (zW_at g σ hc) rfl hg hd ?_
            rw [e]
            exact K
        · cases hx
      · cases hx
    · cases hx
  · cases hx
def zo_get (ci j n : Nat) : zOp := fun lo st σ => match st with
  | .ref k :: r => match zLAY[k]? with
    | some (0, cj, fs) => match Nat.beq cj ci with
      | true => match fs[j]? with
        | some none => some (.inl (n, lo, .int (σ k j) :: r, σ))
        | some (some q) => some (.inl (n, lo, .ref q :: r, σ))
        | none => none
      | false => none
    | _ => none
  | _ => none
theorem zs_get {zMD : List zM} {own : String} {cc : ByteArray} {nL : Nat} {ret : Option FieldType} {pc : Nat} {ci j idx N : Nat} {C : String} {T : u_T} (hd : decode cc pc = .ok (.getfield idx, 3)) (hc : vwCl[ci]? = some (C, T, N)) (hin : ∀ w ∈ u_ws C T N, w ∈ zTab) (hj : j < N) (hm : Cond.fieldLink own idx (T j).1 (T j).2.1 (T j).2.2.1 ∈ zTab) : zSnd zMD own cc nL ret pc (zo_get ci j (pc + 3)) := by
  intro d p l e R s m args below meth c g σ0 A cells slots Q hC lo st σ x hx
  obtain ⟨hex, hb, hml, hown, hts, hK, ⟨hSt, hNw⟩, hA, hfr, hlo, hce, hsl⟩ := hC
  unfold zo_get at hx
  split at hx
  · rename_i k r
    split at hx
    · rename_i cj fs hk
      split at hx
      · rename_i hb2
        cases Nat.eq_of_beq_eq_true hb2
        split at hx
        · rename_i hf
          cases hx
          intro K H locs ls hP hD hS hF hl
          refine va_get (q0 := k) (ci := ci) hex hb hts hin hown hK hP (zW_at g σ hk) hc j hj (hts _ hm) (fun _ h => h) (v := .int (σ k j)) ?_ hd (K H locs ls hP hD hS hF hl)
          rw [List.getElem?_mapIdx, hf]; rfl
        · rename_i q hf
          cases hx
          intro K H locs ls hP hD hS hF hl
          refine va_get (q0 := k) (ci := ci) hex hb hts hin hown hK hP (zW_at g σ hk) hc j hj (hts _ hm) (fun _ h => h) (v := .ref (g.1 q)) ?_ hd (K H locs ls hP hD hS hF hl)
          rw [List.getElem?_mapIdx, hf]; rfl
        · cases hx
      · cases hx
    · cases hx
  · cases hx
def zo_put (ci j n : Nat) : zOp := fun lo st σ => match st with
  | .int v :: .ref k :: r => match zLAY[k]? with
    | some (0, cj, fs) => match Nat.beq cj ci with
      | true => match fs[j]? with
        | some none => some (.inl (n, lo, r, zup σ k j v))
        | _ => none
      | false => none
    | _ => none
  | _ => none
/-- the same, of a boolean -/
def zo_putZ (ci j n : Nat) : zOp := fun lo st σ => match st with
  | .int v :: .ref k :: r => match zLAY[k]? with
    | some (0, cj, fs) => match Nat.beq cj ci with
      | true => match fs[j]? with
        | some none => if v = 0 ∨ v = 1 then some (.inl (n, lo, r, zup σ k j v)) else none
        | _ => none
      | false => none
    | _ => none
  | _ => none
theorem zputW (g : zG) (σ : zSo) {k ci j : Nat} {fs : List (Option Nat)} (v : Int32) (hk : zLAY[k]? = some (0, ci, fs)) (hf : fs[j]? = some none) : (zW g σ).set k (g.1 k, Sum.inr (ci, (fs.mapIdx fun j r => zf g (σ k) j r).set j (.int v))) = zW g (zup σ k j v) := by
  rw [zE_put g (σ k) fs hf v]
  have := zW_set g (σ := σ) (σ' := zup σ k j v) hk (fun a ha => zup_o σ _ _ ha)
  rw [zup_k] at this
  exact this
theorem zs_put {zMD : List zM} {own : String} {cc : ByteArray} {nL : Nat} {ret : Option FieldType} {pc : Nat} {ci j idx N : Nat} {C : String} {T : u_T} {ty0 : Nat → FieldType} (hd : decode cc pc = .ok (.putfield idx, 3)) (hc : vwCl[ci]? = some (C, T, N)) (hin : ∀ w ∈ u_ws C T N, w ∈ zTab) (hty : ∀ k, k < N → parseFieldDescriptor (T k).2.2.1 = some (ty0 k)) (hnm : ∀ a, a < N → ∀ b, b < N → a ≠ b → (T a).2.1 ≠ (T b).2.1) (hj : j < N) (hm : Cond.fieldLink own idx (T j).1 (T j).2.1 (T j).2.2.1 ∈ zTab) (hfin : (T j).2.2.2 = false) (hi : ty0 j = .int) : zSnd zMD own cc nL ret pc (zo_put ci j (pc + 3)) := by
  intro d p l e R s m args below meth c g σ0 A cells slots Q hC lo st σ x hx
  obtain ⟨hex, hb, hml, hown, hts, hK, ⟨hSt, hNw⟩, hA, hfr, hlo, hce, hsl⟩ := hC
  unfold zo_put at hx
  split at hx
  · rename_i v k r
    split at hx
    · rename_i cj fs hk
      split at hx
      · rename_i hb2
        cases Nat.eq_of_beq_eq_true hb2
        split at hx
        · rename_i hf
          cases hx
          intro K H locs ls hP hD hS hF hl
          refine va_put (q0 := k) (ci := ci) (v := .int v) (ty := .int) hex hb hts hin ty0 hty hnm hown hK hP hD hS (zW_at g σ hk) hc j hj (hts _ hm) (fun _ h => h) hfin (by rw [hty j hj, hi]) rfl rfl (by rw [List.length_mapIdx]; exact (List.getElem?_eq_some_iff.mp hf).1) hd (fun H1 locs1 hP1 hD1 hS1 => ?_)
          rw [zputW g σ v hk hf] at hP1 hD1
          exact K H1 locs1 ls hP1 hD1 hS1 (zfix hk hF) hl
        · cases hx
      · cases hx
    · cases hx
  · cases hx
theorem znarZ {v : Int32} (h : v = 0 ∨ v = 1) : narrow .boolean (.int v) = .int v ∧ fits .boolean (.int v) = true := by
  rcases h with rfl | rfl <;> exact ⟨by decide, by decide⟩
theorem zs_putZ {zMD : List zM} {own : String} {cc : ByteArray} {nL : Nat} {ret : Option FieldType} {pc : Nat} {ci j idx N : Nat} {C : String} {T : u_T} {ty0 : Nat → FieldType} (hd : decode cc pc = .ok (.putfield idx, 3)) (hc : vwCl[ci]? = some (C, T, N)) (hin : ∀ w ∈ u_ws C T N, w ∈ zTab) (hty : ∀ k, k < N → parseFieldDescriptor (T k).2.2.1 = some (ty0 k)) (hnm : ∀ a, a < N → ∀ b, b < N → a ≠ b → (T a).2.1 ≠ (T b).2.1) (hj : j < N) (hm : Cond.fieldLink own idx (T j).1 (T j).2.1 (T j).2.2.1 ∈ zTab) (hfin : (T j).2.2.2 = false) (hi : ty0 j = .boolean) : zSnd zMD own cc nL ret pc (zo_putZ ci j (pc + 3)) := by
  intro d p l e R s m args below meth c g σ0 A cells slots Q hC lo st σ x hx
  obtain ⟨hex, hb, hml, hown, hts, hK, ⟨hSt, hNw⟩, hA, hfr, hlo, hce, hsl⟩ := hC
  unfold zo_putZ at hx
  split at hx
  · rename_i v k r
    split at hx
    · rename_i cj fs hk
      split at hx
      · rename_i hb2
        cases Nat.eq_of_beq_eq_true hb2
        split at hx
        · rename_i hf
          split at hx
          · rename_i hg
            cases hx
            intro K H locs ls hP hD hS hF hl
            refine va_put (q0 := k) (ci := ci) (v := .int v) (ty := .boolean) hex hb hts hin ty0 hty hnm hown hK hP hD hS (zW_at g σ hk) hc j hj (hts _ hm) (fun _ h => h) hfin (by rw [hty j hj, hi]) (znarZ hg).1 (znarZ hg).2 (by rw [List.length_mapIdx]; exact (List.getElem?_eq_some_iff.mp hf).1) hd (fun H1 locs1 hP1 hD1 hS1 => ?_)
            rw [zputW g σ v hk hf] at hP1 hD1
            exact K H1 locs1 ls hP1 hD1 hS1 (zfix hk hF) hl
          · cases hx
        · cases hx
      · cases hx
    · cases hx
  · cases hx
def zo_gets (k n : Nat) : zOp := fun lo st σ => some (.inl (n, lo, .ref (1000 + k) :: st, σ))
theorem zs_gets {zMD : List zM} {own : String} {cc : ByteArray} {nL : Nat} {ret : Option FieldType} {pc : Nat} {k idx : Nat} {q : String × Nat} (hd : decode cc pc = .ok (.getstatic idx, 3)) (hq : zTB[k]? = some q) (hm : Cond.fieldLink own idx "BeatBounds" q.1 "[I" ∈ zTab) : zSnd zMD own cc nL ret pc (zo_gets k (pc + 3)) := by
  intro d p l e R s m args below meth c g σ0 A cells slots Q hC lo st σ x hx
  obtain ⟨hex, hb, hml, hown, hts, hK, ⟨hSt, hNw⟩, hA, hfr, hlo, hce, hsl⟩ := hC
  cases hx
  intro K H locs ls hP hD hS hF hl
  exact va_gets hex hb (hSt.1 k q hq).1 hS hown (hts _ hm) (fun _ h => h) hd (K H locs ls hP hD hS hF hl)
theorem zs_getsN {zMD : List zM} {own : String} {cc : ByteArray} {nL : Nat} {ret : Option FieldType} {pc : Nat} {k idx : Nat} {q : String × Nat} (hd : decode cc pc = .ok (.getstatic idx, 3)) (hq : zTB[k]? = some q) (hm : (own, idx, q.1) ∈ zNW) : zSnd zMD own cc nL ret pc (zo_gets k (pc + 3)) := by
  intro d p l e R s m args below meth c g σ0 A cells slots Q hC lo st σ x hx
  obtain ⟨hex, hb, hml, hown, hts, hK, ⟨hSt, hNw⟩, hA, hfr, hlo, hce, hsl⟩ := hC
  cases hx
  intro K H locs ls hP hD hS hF hl
  exact va_getsN hex hb (hSt.1 k q hq).1 hS hown ((hNw _ hm).use rfl) (fun _ h => h) hd (K H locs ls hP hD hS hF hl)
def zo_copy (n : Nat) : zOp := fun lo st σ => match st with
  | .int cn :: .int dp :: .ref b :: .int sp :: .ref a :: r => match zLAY[a]? with
    | some (1, N0, _) => match zLAY[b]? with
      | some (1, N1, _) => match Nat.ble (zcat r) 8 with
        | true => if ¬ sp < 0 ∧ ¬ dp < 0 ∧ ¬ cn < 0 ∧ sp.toNatClampNeg + cn.toNatClampNeg ≤ N0 ∧ dp.toNatClampNeg + cn.toNatClampNeg ≤ N1 then some (.inl (n, lo, r, zcp σ a b sp.toNatClampNeg dp.toNatClampNeg cn.toNatClampNeg)) else none
        | false => none
      | _ => none
    | _ => none
  | _ => none
theorem zs_copy {zMD : List zM} {own : String} {cc : ByteArray} {nL : Nat} {ret : Option FieldType} {pc : Nat} {idx : Nat} (hd : decode cc pc = .ok (.invokestatic idx, 3)) (h1 : Cond.methodLink own idx arraycopyName ∈ zTab) (h2 : Cond.native arraycopyName ∈ zTab) (h3 : Cond.static arraycopyName ∈ zTab) (h4 : Cond.initialized "java/lang/System" ∈ zTab) : zSnd zMD own cc nL ret pc (zo_copy (pc + 3)) := by
  intro d p l e R s m args below meth c g σ0 A cells slots Q hC lo st σ x hx
  obtain ⟨hex, hb, hml, hown, hts, hK, ⟨hSt, hNw⟩, hA, hfr, hlo, hce, hsl⟩ := hC
  unfold zo_copy at hx
  split at hx
  · rename_i cn dp b sp a r
    split at hx
    · rename_i N0 w0 ha
      split at hx
      · rename_i N1 w1 hbb
        split at hx
        · rename_i hcat
          split at hx
          · rename_i hg
            cases hx
            obtain ⟨g1, g2, g3, g4, g5⟩ := hg
            intro K H locs ls hP hD hS hF hl
            refine va_copyi (q0 := a) (q1 := b) (t0 := 0) (t1 := 0) (ty := .int) hex hb (hml.trans hl.1.symm) hown (hts _ h1) (hts _ h2) (hts _ h3) (hts _ h4) hK hP hD hS (zW_at g σ ha) (zW_at g σ hbb) rfl rfl rfl g1 g2 g3 g4 g5 (fun _ _ => rfl) (by omega) ?_ hd (fun H1 locs1 hP1 hD1 hS1 => ?_)
            · have := Nat.le_of_ble_eq_true hcat
              rw [show List.map (zcv g.1) r = r.map (zcv g.1) from rfl, zcat_sum]
              have e : nativeFrameWords "java/lang/System" "arraycopy" 5 = 7 := by decide
              rw [e]
              omega
            · have e : (zW g σ).set b (g.1 b, Sum.inl (g.2.2 0, N1, Sum.inl (va_cpy (σ a) (σ b) sp.toNatClampNeg dp.toNatClampNeg cn.toNatClampNeg))) = zW g (zcp σ a b sp.toNatClampNeg dp.toNatClampNeg cn.toNatClampNeg) := by
                have := zW_set g (σ := σ) (σ' := zcp σ a b sp.toNatClampNeg dp.toNatClampNeg cn.toNatClampNeg) hbb (fun q hq => zcp_o σ _ _ _ hq)
                rw [zcp_k] at this
                exact this
              rw [e] at hP1 hD1
              refine K H1 locs1 ls hP1 hD1 hS1 (fun q hq => ?_) hl
              rw [zcp_o σ _ _ _ (by have := zLAY_lt hbb; omega)]
              exact hF q hq
          · cases hx
        · cases hx
      · cases hx
    · cases hx
  · cases hx
/-- the uppermost n values, the lowest first, and the rest -/
def zpop : Nat → zSt → List Value → Option (List Value × zSt)
  | 0, st, acc => some (acc, st)
  | n + 1, v :: r, acc => zpop n r (v :: acc)
  | _ + 1, [], _ => none
theorem zpop_spec : ∀ {n : Nat} {st : zSt} {acc as : List Value} {rest : zSt}, zpop n st acc = some (as, rest) → ∃ bs, as = bs ++ acc ∧ st = bs.reverse ++ rest ∧ bs.length = n
  | 0, st, acc, as, rest, h => by cases h; exact ⟨[], rfl, rfl, rfl⟩
  | n + 1, v :: r, acc, as, rest, h => by
    obtain ⟨bs, h1, h2, h3⟩ := zpop_spec (n := n) h
    exact ⟨bs ++ [v], by rw [h1, List.append_assoc]; rfl, by rw [h2, List.reverse_append]; rfl, by rw [List.length_append, h3]; rfl⟩
  | _ + 1, [], _, _, _, h => by cases h
def zo_invS (i k n : Nat) : zOp := fun lo st σ => match zpop k st [] with
  | some (as, rest) => match Nat.ble (zcat rest) 8 with
    | true => some (.inr (.inl (i, as, rest, n)))
    | false => none
  | none => none
/-- a call of an object of the class ci, with k values besides it -/
def zo_invV (i ci k n : Nat) : zOp := fun lo st σ => match zpop k st [] with
  | some (as, rest) => match rest with
    | .ref b :: rs => match zLAY[b]? with
      | some (0, cj, _) => match Nat.beq cj ci && Nat.ble (zcat rs) 8 with
        | true => some (.inr (.inl (i, .ref b :: as, rs, n)))
        | false => none
      | _ => none
    | _ => none
  | none => none
section ZC
variable {p : Program} {l : Launch} {e : Env} {R : Room} {s : State} {m : MethodId} {args : Array Value} {below : List Frame} {meth : Method} {c : Code} {H : Heap} {locs : List Loc} {cells slots : Nat} {Q : State → Prop} {A : Nat → Prop} {pc : Nat} {ls : Array Slot} {rest st0 : List Value} {a : Array Value} {g : zG} {σ0 σ σ1 : zSo} {r : Option Value}
theorem zcall (hr : va_Run p l e R s m args below meth c H locs cells slots 0 0 (F0 m pc ls st0) rest (zQc g σ0 σ H.size r σ1 a) (va_A (zW g σ) H.size)) (hS : va_S A s.heap H locs) (hf : ∀ q, va_A (zW g σ) H.size q → A q)
    (kk : ∀ (H1 : Heap) (locs1 : List Loc), va_P g.2.1 vwCl (zW g σ1) H1 → va_D (va_A (zW g σ) H.size) (zW g σ1) → va_S A s.heap H1 locs1 → (∀ k, 1000 ≤ k → σ1 k = σ0 k) → W p l e R s m args below meth c H1 locs1 cells slots Q (F0 m (pc + 3) ls ((r.map (zcv g.1)).toList ++ rest))) : W p l e R s m args below meth c H locs cells slots Q (F0 m pc ls st0) := by
  intro T hT X
  obtain ⟨v, st₀, t, T', L, h0, X', hL, e1, e2, ⟨hv, hp, hd, hx, hz, hk⟩, st⟩ := hr T hT X
  cases hv
  rw [h0] at hz hk
  obtain ⟨t2, a1, b1⟩ := kk T'.heap (locs ++ L) (by rw [e1]; exact hp) hd
    ⟨Nat.le_trans hS.1 (by rw [e1]; exact hz), fun q h1 h2 => by rw [e1, hk q (Nat.lt_of_lt_of_le h1 hS.1) (fun z => h2 (hf q z))]; exact hS.2.1 q h1 h2, fun q hq => by
      rcases List.mem_append.mp hq with h | h
      · exact hS.2.2 q h
      · exact hf _ (hL q h)⟩ hx T' rfl X'
  exact ⟨t2, st t2 a1, b1⟩
end ZC
theorem zgoodIn {q : zM} (hq : Cond.code q.1 q.2.1 q.2.2.1 q.2.2.2 ∈ zTab) : GoodIn zTab (zws q) := by
  intro w hw
  rcases List.mem_cons.mp hw with e | e
  · rw [e]
    exact ⟨hq, good_of_word (List.mem_filter.mp hq).2⟩
  · exact ⟨e, good_of_word (List.mem_filter.mp e).2⟩
theorem zblind (g : zG) (σ0 : zSo) (as : List Value) (σ : zSo) (sz : Nat) : FrameBlind (zPc g σ0 as σ sz) := by
  intro a U f mk h
  obtain ⟨h0, h1, h2, h3, h4, ⟨h5, h7⟩, h6⟩ := h
  exact ⟨h0, h1, h2, va_K.moved (u := U) (U := U.calling f mk a) (Vm.Alike.refl U.vm) h3, h4, ⟨zStat.moved (u := U) (U := U.calling f mk a) (Vm.Alike.refl U.vm) h5, fun q hq => (h7 q hq).same rfl rfl⟩, h6⟩
theorem zcallPre {g : zG} {σ0 σ : zSo} {A : Nat → Prop} {s U : State} {H : Heap} {locs : List Loc} {as : List Value} (hK : va_K g.2.1 vwCl (zty g) s) (hSt : zStat g σ0 A s s.heap) (hN : zNk s) (hP : va_P g.2.1 vwCl (zW g σ) H) (hD : va_D A (zW g σ)) (hS : va_S A s.heap H locs) (hf : ∀ q, va_A (zW g σ) H.size q → A q) (hF : ∀ k, 1000 ≤ k → σ k = σ0 k) (hU : U.heap = H) (hW : s.WarmedH U.vm) : zPc g σ0 as σ H.size (as.map (zcv g.1)).toArray U := by
  refine ⟨rfl, by rw [hU], by rw [hU]; exact hP, va_K.moved hW.alike hK, hD.weaken (fun _ _ _ _ => trivial), ⟨?_, fun q hq => (hN q hq).warmF hW⟩, hF⟩
  rw [hU]
  exact ((hSt.kept (fun a h1 h2 => hS.2.1 a h1 h2)).narrow hf).moved hW.alike
theorem zfree {g : zG} {σ : zSo} {A : Nat → Prop} {s : State} {H : Heap} {locs : List Loc} (hA : ∀ q, s.heap.size ≤ q → A q) (hD : va_D A (zW g σ)) (hS : va_S A s.heap H locs) : ∀ q, va_A (zW g σ) H.size q → A q := by
  intro q h
  rcases h with ⟨k, e, h⟩ | h
  · exact hD.2 k (q, e) h
  · exact hA q (Nat.le_trans hS.1 h)
/-- what is fixed of a method: its words are in the table, its class has no rows of its own in the machine -/
def zMok (q : zM) (n : Nat) : Prop := Cond.code q.1 q.2.1 q.2.2.1 q.2.2.2 ∈ zTab ∧ Cond.initialized q.1.cls ∈ zTab ∧ q.1.cls ≠ "java/lang/invoke/MethodHandle" ∧ q.1.cls ≠ "java/lang/invoke/VarHandle" ∧ (parseMethodDescriptor q.1.desc).map (fun d => d.parameters.length) = some n ∧ q.2.2.1 ≤ 21
theorem zs_invS {zMD : List zM} {own : String} {cc : ByteArray} {nL : Nat} {ret : Option FieldType} {pc : Nat} {i k idx : Nat} {q : zM} (hd : decode cc pc = .ok (.invokestatic idx, 3)) (hq : zMD[i]? = some q) (hk : zMok q k) (h1 : Cond.methodLink own idx q.1 ∈ zTab) (h2 : Cond.static q.1 ∈ zTab) : zSnd zMD own cc nL ret pc (zo_invS i k (pc + 3)) := by
  intro d p l e R s m args below meth c g σ0 A cells slots Q hC lo st σ x hx
  obtain ⟨hex, hb, hml, hown, hts, hK, ⟨hSt, hNw⟩, hA, hfr, hlo, hce, hsl⟩ := hC
  unfold zo_invS at hx
  split at hx
  · rename_i as rest hp
    split at hx
    · rename_i hcat
      cases hx
      refine ⟨q, hq, fun d' r σ1 hdd hM K H locs ls hP hD hS hF hl => ?_⟩
      subst hdd
      obtain ⟨bs, e1, e2, e3⟩ := zpop_spec hp
      rw [List.append_nil] at e1
      subst e1
      obtain ⟨k1, k2, k3, k4, k5, k6⟩ := hk
      have hf := zfree hA hD hS
      have hR : (zrm d').frames + 1 ≤ R.frames ∧ 8 + (q.2.2.1 + 11) + (zrm d').locals ≤ R.locals := by
        constructor
        · show d' + 1 + 1 ≤ R.frames
          omega
        · show 8 + (q.2.2.1 + 11) + 40 * (d' + 1) ≤ R.locals
          omega
      have hrun := va_runS (As := as.map (zcv g.1)) (rest := rest.map (zcv g.1)) (g := F0 m pc ls (st.map (zcv g.1))) (p := p) (e := e) (below := below) (meth := meth) (locs := locs) (cells := cells) (slots := slots) (H := H) (index := idx) (bytes := q.2.1) (maxL := q.2.2.1) (ret := q.2.2.2) (n := k) (R := R) ⟨hex, hb, hml, hown, hts⟩ (hM H.size) ⟨callB_of k hts (zgoodIn k1) rfl rfl rfl (hts _ k2) (hts _ h1) ⟨k3, k4, k5⟩ hR, hts _ h2⟩ ⟨zblind _ _ _ _ _, fun U hU hW => zcallPre hK hSt hNw hP hD hS hf hF hU hW⟩ rfl (by rw [List.length_map]; exact e3) hl.1 (by show st.map (zcv g.1) = _; rw [e2, List.map_append, List.map_reverse]) (lv_room (by rw [zcat_sum]; exact Nat.le_of_ble_eq_true hcat)) hd ⟨hce, hsl⟩
      refine zcall hrun hS hf (fun H1 locs1 hP1 hD1 hS1 hF1 => ?_)
      have KK := K H1 locs1 ls hP1 (hD1.weaken (fun _ q _ h => hf q.1 h)) hS1 hF1 hl
      rw [List.map_append] at KK
      have e9 : (r.map (zcv g.1)).toList = r.toList.map (zcv g.1) := by cases r <;> rfl
      rw [e9]
      exact KK
    · cases hx
  · cases hx
theorem zs_invV {zMD : List zM} {own : String} {cc : ByteArray} {nL : Nat} {ret : Option FieldType} {pc : Nat} {i ci k idx N : Nat} {q : zM} {T : u_T} (hd : decode cc pc = .ok (.invokevirtual idx, 3)) (hq : zMD[i]? = some q) (hc : vwCl[ci]? = some (q.1.cls, T, N)) (hk : zMok q k) (h1 : Cond.methodLink own idx q.1 ∈ zTab) (h2 : Cond.instanceMethod q.1 ∈ zTab) (h3 : Cond.selects q.1.cls q.1 q.1 ∈ zTab) : zSnd zMD own cc nL ret pc (zo_invV i ci k (pc + 3)) := by
  intro d p l e R s m args below meth c g σ0 A cells slots Q hC lo st σ x hx
  obtain ⟨hex, hb, hml, hown, hts, hK, ⟨hSt, hNw⟩, hA, hfr, hlo, hce, hsl⟩ := hC
  unfold zo_invV at hx
  split at hx
  · rename_i as rest hp
    split at hx
    · rename_i b rs
      split at hx
      · rename_i cj fs hb1
        split at hx
        · rename_i hcat
          rw [Bool.and_eq_true] at hcat
          obtain ⟨hcj, hcat⟩ := hcat
          cases Nat.eq_of_beq_eq_true hcj
          cases hx
          refine ⟨q, hq, fun d' r σ1 hdd hM K H locs ls hP hD hS hF hl => ?_⟩
          subst hdd
          obtain ⟨bs, e1, e2, e3⟩ := zpop_spec hp
          rw [List.append_nil] at e1
          subst e1
          obtain ⟨k1, k2, k3, k4, k5, k6⟩ := hk
          have hf := zfree hA hD hS
          have hR : (zrm d').frames + 1 ≤ R.frames ∧ 8 + (q.2.2.1 + 11) + (zrm d').locals ≤ R.locals := by
            constructor
            · show d' + 1 + 1 ≤ R.frames
              omega
            · show 8 + (q.2.2.1 + 11) + 40 * (d' + 1) ≤ R.locals
              omega
          have hrun := va_runV (As := as.map (zcv g.1)) (b := g.1 b) (rest := rs.map (zcv g.1)) (C := q.1.cls) (g := F0 m pc ls (st.map (zcv g.1))) (p := p) (e := e) (below := below) (meth := meth) (locs := locs) (cells := cells) (slots := slots) (H := H) (index := idx) (bytes := q.2.1) (maxL := q.2.2.1) (ret := q.2.2.2) (n := k) (R := R) ⟨hex, hb, hml, hown, hts⟩ (hM H.size) ⟨callB_of k hts (zgoodIn k1) rfl rfl rfl (hts _ k2) (hts _ h1) ⟨k3, k4, k5⟩ hR, hts _ h2, hts _ h3⟩ ⟨zblind _ _ _ _ _, va_recv hK hP hc (zW_at g σ hb1), fun U hU hW => zcallPre (as := .ref b :: as) hK hSt hNw hP hD hS hf hF hU hW⟩ rfl (by rw [List.length_map]; exact e3) hl.1 (by show st.map (zcv g.1) = _; rw [e2, List.map_append, List.map_reverse]; rfl) (lv_room (by rw [zcat_sum]; exact Nat.le_of_ble_eq_true hcat)) hd ⟨hce, hsl⟩
          refine zcall hrun hS hf (fun H1 locs1 hP1 hD1 hS1 hF1 => ?_)
          have KK := K H1 locs1 ls hP1 (hD1.weaken (fun _ q _ h => hf q.1 h)) hS1 hF1 hl
          rw [List.map_append] at KK
          have e9 : (r.map (zcv g.1)).toList = r.toList.map (zcv g.1) := by cases r <;> rfl
          rw [e9]
          exact KK
        · cases hx
      · cases hx
    · cases hx
  · cases hx
def zo_iret : zOp := fun lo st σ => match st with
  | [.int v] => some (.inr (.inr (some (.int v))))
  | _ => none
theorem zs_iret {zMD : List zM} {own : String} {cc : ByteArray} {nL pc : Nat} (hd : decode cc pc = .ok (.ireturn, 1)) : zSnd zMD own cc nL (some .int) pc zo_iret := by
  intro d p l e R s m args below meth c g σ0 A cells slots Q hC lo st σ x hx
  obtain ⟨hex, hb, hml, hown, hts, hK, ⟨hSt, hNw⟩, hA, hfr, hlo, hce, hsl⟩ := hC
  unfold zo_iret at hx
  split at hx
  · cases hx
    intro K
    exact K.1 pc lo _ .int hd rfl rfl rfl
  · cases hx
def zo_zret : zOp := fun lo st σ => match st with
  | [.int v] => if v = 0 ∨ v = 1 then some (.inr (.inr (some (.int v)))) else none
  | _ => none
theorem zs_zret {zMD : List zM} {own : String} {cc : ByteArray} {nL pc : Nat} (hd : decode cc pc = .ok (.ireturn, 1)) : zSnd zMD own cc nL (some .boolean) pc zo_zret := by
  intro d p l e R s m args below meth c g σ0 A cells slots Q hC lo st σ x hx
  obtain ⟨hex, hb, hml, hown, hts, hK, ⟨hSt, hNw⟩, hA, hfr, hlo, hce, hsl⟩ := hC
  unfold zo_zret at hx
  split at hx
  · split at hx
    · rename_i hg
      cases hx
      intro K
      exact K.1 pc lo _ .boolean hd rfl rfl (znarZ hg).1
    · cases hx
  · cases hx
def zo_lret : zOp := fun lo st σ => match st with
  | [.long v] => some (.inr (.inr (some (.long v))))
  | _ => none
theorem zs_lret {zMD : List zM} {own : String} {cc : ByteArray} {nL pc : Nat} (hd : decode cc pc = .ok (.lreturn, 1)) : zSnd zMD own cc nL (some .long) pc zo_lret := by
  intro d p l e R s m args below meth c g σ0 A cells slots Q hC lo st σ x hx
  obtain ⟨hex, hb, hml, hown, hts, hK, ⟨hSt, hNw⟩, hA, hfr, hlo, hce, hsl⟩ := hC
  unfold zo_lret at hx
  split at hx
  · cases hx
    intro K
    exact K.2.1 pc lo _ hd rfl rfl
  · cases hx
def zo_vret : zOp := fun lo st σ => match st with
  | [] => some (.inr (.inr none))
  | _ => none
theorem zs_vret {zMD : List zM} {own : String} {cc : ByteArray} {nL pc : Nat} (hd : decode cc pc = .ok (.return_, 1)) : zSnd zMD own cc nL none pc zo_vret := by
  intro d p l e R s m args below meth c g σ0 A cells slots Q hC lo st σ x hx
  obtain ⟨hex, hb, hml, hown, hts, hK, ⟨hSt, hNw⟩, hA, hfr, hlo, hce, hsl⟩ := hC
  unfold zo_vret at hx
  split at hx
  · cases hx
    intro K
    exact K.2.2 pc lo hd rfl rfl
  · cases hx
/-- a stretch of a method's table -/
def zOk (zMD : List zM) (own : String) (cc : ByteArray) (nL : Nat) (ret : Option FieldType) (b : Nat) (t : List zOp) : Prop := ∀ (j : Nat) (f : zOp), t[j]? = some f → zSnd zMD own cc nL ret (b + j) f
theorem zok_nil {zMD : List zM} {own : String} {cc : ByteArray} {nL : Nat} {ret : Option FieldType} {b : Nat} : zOk zMD own cc nL ret b [] := fun j f h => by simp at h
theorem zok_cons {zMD : List zM} {own : String} {cc : ByteArray} {nL : Nat} {ret : Option FieldType} {b : Nat} {f : zOp} {t : List zOp} (hf : zSnd zMD own cc nL ret b f) (h : zOk zMD own cc nL ret (b + 1) t) : zOk zMD own cc nL ret b (f :: t) := fun j f' hj => by
  cases j with
  | zero => cases hj; exact hf
  | succ j =>
    have := h j f' hj
    rw [show b + (j + 1) = b + 1 + j from by omega]
    exact this
/-- only some of the locals are needed from here on: a loop's head -/
def zlkeep (ks : List Nat) : zLo → Option zLo
  | [] => some []
  | (j, v) :: t => match zlkeep ks t with
    | some t' => match ks.elem j with
      | true => some ((j, v) :: t')
      | false => some t'
    | none => none
theorem zlkeep_mem {ks : List Nat} : ∀ {lo lo' : zLo}, zlkeep ks lo = some lo' → ∀ q ∈ lo', q ∈ lo
  | [], _, h => by cases h; intro q hq; cases hq
  | (j, v) :: t, lo', h => by
    unfold zlkeep at h
    split at h
    · rename_i t' ht
      split at h
      · cases h
        intro q hq
        rcases List.mem_cons.mp hq with e | e
        · rw [e]; exact List.mem_cons_self
        · exact List.mem_cons_of_mem _ (zlkeep_mem ht q e)
      · cases h
        intro q hq
        exact List.mem_cons_of_mem _ (zlkeep_mem ht q hq)
    · cases h
def zo_keep (ks : List Nat) (f : zOp) : zOp := fun lo st σ => match zlkeep ks lo with
  | some lo' => f lo' st σ
  | none => none
def zInl (f : zOp) : Prop := ∀ lo st σ x, f lo st σ = some x → ∃ nx, x = .inl nx
theorem zi_ild (k n : Nat) : zInl (zo_ild k n) := by
  intro lo st σ x h
  unfold zo_ild at h
  split at h
  · cases h; exact ⟨_, rfl⟩
  · cases h
theorem zi_lld (k n : Nat) : zInl (zo_lld k n) := by
  intro lo st σ x h
  unfold zo_lld at h
  split at h
  · cases h; exact ⟨_, rfl⟩
  · cases h
theorem zi_ald (k n : Nat) : zInl (zo_ald k n) := by
  intro lo st σ x h
  unfold zo_ald at h
  split at h
  · cases h; exact ⟨_, rfl⟩
  · cases h
theorem zi_c (v : Int32) (n : Nat) : zInl (zo_c v n) := by
  intro lo st σ x h
  cases h
  exact ⟨_, rfl⟩
theorem zs_keep {zMD : List zM} {own : String} {cc : ByteArray} {nL : Nat} {ret : Option FieldType} {pc : Nat} {ks : List Nat} {f : zOp} (hi : zInl f) (hf : zSnd zMD own cc nL ret pc f) : zSnd zMD own cc nL ret pc (zo_keep ks f) := by
  intro d p l e R s m args below meth c g σ0 A cells slots Q hC lo st σ x hx
  unfold zo_keep at hx
  split at hx
  · rename_i lo' hk
    obtain ⟨nx, rfl⟩ := hi lo' st σ x hx
    have h := hf d p l e R s m args below meth c g σ0 A cells slots Q hC lo' st σ _ hx
    intro K H locs ls hP hD hS hF hl
    exact h K H locs ls hP hD hS hF ⟨hl.1, hl.2.1, fun q hq => by
      obtain ⟨a, ha, rfl⟩ := List.mem_map.mp hq
      exact hl.2.2 _ (List.mem_map.mpr ⟨a, zlkeep_mem hk a ha, rfl⟩)⟩
  · cases hx

