/-! THE WORLD OF THE CLAIM AS NUMBERS: a fixed list of cells (objects and arrays), of which only the ints change -/
abbrev zLo : Type := List (Nat × Value)
abbrev zSt : Type := List Value
abbrev zSo : Type := Nat → Nat → Int32
abbrev zNx : Type := Nat × zLo × zSt × zSo
abbrev zR : Type := zNx ⊕ ((Nat × List Value × zSt × Nat) ⊕ Option Value)
abbrev zOp : Type := zLo → zSt → zSo → Option zR
abbrev zCell : Type := Nat × Nat × List (Option Nat)
abbrev zG : Type := (Nat → Nat) × va_G × (Nat → ClassId)
abbrev zM : Type := MethodName × ByteArray × Nat × Option FieldType
/-- the cells: (0, class, fields: none a number, some k the cell k), (1, n) ints, (2, n) booleans, (3, type, cells) references -/
def zLAY : List zCell := [
  (0, 6, [some 1, some 18, some 20, some 29, some 38, some 57, some 64, some 68, none]),
  (3, 2, [some 2, some 4, some 6, some 8, some 10, some 12, some 14, some 16]),
  (0, 4, [some 3, none, none, none]),
  (1, 40, []),
  (0, 4, [some 5, none, none, none]),
  (1, 40, []),
  (0, 4, [some 7, none, none, none]),
  (1, 40, []),
  (0, 4, [some 9, none, none, none]),
  (1, 40, []),
  (0, 4, [some 11, none, none, none]),
  (1, 40, []),
  (0, 4, [some 13, none, none, none]),
  (1, 40, []),
  (0, 4, [some 15, none, none, none]),
  (1, 40, []),
  (0, 4, [some 17, none, none, none]),
  (1, 40, []),
  (0, 5, [some 19, none, none, none, none]),
  (1, 120, []),
  (0, 3, [none, none, none, none, none, none, some 21, some 22, some 23, some 24, some 25, some 26, some 27, some 28]),
  (1, 6, []),
  (1, 6, []),
  (1, 6, []),
  (1, 6, []),
  (1, 6, []),
  (1, 36, []),
  (1, 36, []),
  (1, 36, []),
  (0, 3, [none, none, none, none, none, none, some 30, some 31, some 32, some 33, some 34, some 35, some 36, some 37]),
  (1, 6, []),
  (1, 6, []),
  (1, 6, []),
  (1, 6, []),
  (1, 6, []),
  (1, 36, []),
  (1, 36, []),
  (1, 36, []),
  (3, 3, [some 39, some 48]),
  (0, 3, [none, none, none, none, none, none, some 40, some 41, some 42, some 43, some 44, some 45, some 46, some 47]),
  (1, 6, []),
  (1, 6, []),
  (1, 6, []),
  (1, 6, []),
  (1, 6, []),
  (1, 36, []),
  (1, 36, []),
  (1, 36, []),
  (0, 3, [none, none, none, none, none, none, some 49, some 50, some 51, some 52, some 53, some 54, some 55, some 56]),
  (1, 6, []),
  (1, 6, []),
  (1, 6, []),
  (1, 6, []),
  (1, 6, []),
  (1, 36, []),
  (1, 36, []),
  (1, 36, []),
  (0, 0, [none, none, some 58, some 59, some 60, some 61, some 62, some 63]),
  (1, 24, []),
  (1, 24, []),
  (1, 24, []),
  (1, 144, []),
  (1, 144, []),
  (1, 144, []),
  (0, 2, [none, some 65, some 66, some 67]),
  (1, 6, []),
  (1, 6, []),
  (1, 384, []),
  (0, 1, [some 69, none]),
  (1, 16, []),
  (0, 7, [none, none, some 71, some 72, some 73, some 74, some 75, some 76, some 77, none, some 78, none, none, none, none, none, none, none, none, some 79, some 80, some 81, some 82, some 83, none]),
  (1, 8, []),
  (1, 8, []),
  (1, 320, []),
  (1, 143, []),
  (1, 143, []),
  (1, 143, []),
  (1, 3432, []),
  (1, 120, []),
  (1, 6, []),
  (1, 384, []),
  (2, 2, []),
  (1, 286, []),
  (1, 16, [])]
/-- the statics that are tables: name, length; the k-th is 'cell' 1000 + k; the script is 1100, its length in 1101 -/
def zTB : List (String × Nat) := [("ABOVE", 6), ("SIZE_BODIES", 6), ("MARK_BODIES", 6)]
/-- the words of the tables that a callee may take along -/
def zTab : List Cond := lw_tbl.filter goodWord
/-- links to private statics of the nest: whose, by which number, which static -/
def zNW : List (String × Nat × String) := [("BeatBounds$Asks", 32, "SIZE_BODIES"), ("BeatBounds$Asks", 35, "MARK_BODIES"), ("BeatBounds$Asks", 38, "ABOVE")]
def zNk (U : State) : Prop := ∀ q ∈ zNW, va_Nw (.fieldLinkNest q.1 q.2.1 "BeatBounds" q.2.2 "[I" "BeatBounds") U
def zL (σ : zSo) : Nat := (σ 1101 0).toNatClampNeg
def zcv (ad : Nat → Nat) (v : Value) : Value := match v with
  | .ref k => .ref (ad k)
  | u => u
def zlo (ad : Nat → Nat) (ls : zLo) : List (Nat × Value) := ls.map fun q => (q.1, zcv ad q.2)
theorem zcv_cat (ad : Nat → Nat) (v : Value) : (zcv ad v).category = v.category := by cases v <;> rfl
def zf (g : zG) (f : Nat → Int32) (j : Nat) (r : Option Nat) : Value := match r with
  | none => .int (f j)
  | some q => .ref (g.1 q)
def zE (g : zG) (f : Nat → Int32) (c : zCell) : va_E := match c.1 with
  | 0 => .inr (c.2.1, c.2.2.mapIdx fun j r => zf g f j r)
  | 1 => .inl (g.2.2 0, c.2.1, .inl f)
  | 2 => .inl (g.2.2 1, c.2.1, .inl f)
  | _ => .inl (g.2.2 c.2.1, c.2.2.length, .inr (.inr (.inr (.inr fun j => (c.2.2.getD j none).map g.1))))
def zW (g : zG) (σ : zSo) : va_W := zLAY.mapIdx fun k c => (g.1 k, zE g (σ k) c)
theorem zW_at (g : zG) (σ : zSo) {k : Nat} {c : zCell} (h : zLAY[k]? = some c) : (zW g σ)[k]? = some (g.1 k, zE g (σ k) c) := by
  rw [zW, List.getElem?_mapIdx, h]; rfl
theorem zW_len (g : zG) (σ : zSo) : (zW g σ).length = zLAY.length := by rw [zW, List.length_mapIdx]
theorem zW_set (g : zG) {σ σ' : zSo} {k : Nat} {c : zCell} (h : zLAY[k]? = some c) (ho : ∀ a, a ≠ k → σ' a = σ a) : (zW g σ).set k (g.1 k, zE g (σ' k) c) = zW g σ' := by
  apply List.ext_getElem?
  intro i
  rw [List.getElem?_set]
  by_cases hi : k = i
  · subst hi
    have hlt : k < (zW g σ).length := by rw [zW_len]; exact (List.getElem?_eq_some_iff.mp h).1
    rw [if_pos rfl, if_pos hlt, zW_at g σ' h]
  · rw [if_neg hi, zW, zW, List.getElem?_mapIdx, List.getElem?_mapIdx, ho i (fun e => hi e.symm)]
/-- one number becomes another -/
def zup (σ : zSo) (k j : Nat) (v : Int32) : zSo := fun a => if a = k then upd (σ a) j v else σ a
theorem zup_k (σ : zSo) (k j : Nat) (v : Int32) : zup σ k j v k = upd (σ k) j v := by simp [zup]
theorem zup_o (σ : zSo) {k a : Nat} (j : Nat) (v : Int32) (h : a ≠ k) : zup σ k j v a = σ a := by simp [zup, h]
/-- a stretch of one array comes into another (or the same) -/
def zcp (σ : zSo) (a b sp dp n : Nat) : zSo := fun q => if q = b then va_cpy (σ a) (σ b) sp dp n else σ q
theorem zcp_k (σ : zSo) (a b sp dp n : Nat) : zcp σ a b sp dp n b = va_cpy (σ a) (σ b) sp dp n := by simp [zcp]
theorem zcp_o (σ : zSo) {a b q : Nat} (sp dp n : Nat) (h : q ≠ b) : zcp σ a b sp dp n q = σ q := by simp [zcp, h]
theorem zE_put (g : zG) (f : Nat → Int32) (fs : List (Option Nat)) {j : Nat} (h : fs[j]? = some none) (v : Int32) :
    (fs.mapIdx fun j r => zf g f j r).set j (.int v) = fs.mapIdx fun i r => zf g (upd f j v) i r := by
  apply List.ext_getElem?
  intro i
  rw [List.getElem?_set]
  by_cases hi : j = i
  · subst hi
    have hlt : j < (fs.mapIdx fun j r => zf g f j r).length := by rw [List.length_mapIdx]; exact (List.getElem?_eq_some_iff.mp h).1
    rw [if_pos rfl, if_pos hlt, List.getElem?_mapIdx, h]
    simp [zf, upd]
  · rw [if_neg hi, List.getElem?_mapIdx, List.getElem?_mapIdx]
    cases fs[i]? with
    | none => rfl
    | some r =>
      cases r with
      | none =>
        have hi' : ¬ i = j := fun e => hi e.symm
        simp [zf, upd, hi']
      | some q => rfl
def zty (g : zG) : List (ClassId × FieldType) := [(g.2.2 0, .int), (g.2.2 1, .boolean), (g.2.2 2, .object "BeatBounds$Row"), (g.2.2 3, .object "BeatBounds$Parish")]
def zStat (g : zG) (σ : zSo) (A : Nat → Prop) (U : State) (H : Heap) : Prop :=
  (∀ (k : Nat) (q : String × Nat), zTB[k]? = some q → va_Z "BeatBounds" q.1 "[I" (.ref (g.1 (1000 + k))) A U H ∧ va_T .int (g.1 (1000 + k)) q.2 (fun j => .int (σ (1000 + k) j)) A U H) ∧ va_T .int (g.1 1100) (zL σ) (fun j => .int (σ 1100 j)) A U H
theorem zStat.moved {g : zG} {σ : zSo} {A : Nat → Prop} {u U : State} {H : Heap} (hvm : u.vm.Alike U.vm) (h : zStat g σ A u H) : zStat g σ A U H :=
  ⟨fun k q hk => ⟨(h.1 k q hk).1.moved hvm, (h.1 k q hk).2.moved hvm⟩, h.2.moved hvm⟩
theorem zStat.kept {g : zG} {σ : zSo} {A : Nat → Prop} {U : State} {H H1 : Heap} (h : zStat g σ A U H) (hq : ∀ a : Nat, a < H.size → ¬ A a → H1[a]? = H[a]?) : zStat g σ A U H1 :=
  ⟨fun k q hk => ⟨(h.1 k q hk).1.kept hq, (h.1 k q hk).2.kept hq⟩, h.2.kept hq⟩
theorem zStat.narrow {g : zG} {σ : zSo} {A B : Nat → Prop} {U : State} {H : Heap} (h : zStat g σ A U H) (hq : ∀ q, B q → A q) : zStat g σ B U H :=
  ⟨fun k q hk => ⟨(h.1 k q hk).1.narrow hq, (h.1 k q hk).2.narrow hq⟩, h.2.narrow hq⟩
/-- where a method's frame stands -/
def zCx (own : String) (cc : ByteArray) (nL d : Nat) (p : Program) (R : Room) (s : State) (m : MethodId) (args : Array Value) (c : Code) (g : zG) (σ0 : zSo) (A : Nat → Prop) (cells slots : Nat) : Prop :=
  p.tables.exec = Jvm.exec ∧ c.code = cc ∧ c.maxLocals = nL ∧ s.vm.findClass own = some m.cls ∧ (∀ w ∈ zTab, w.before args s = true) ∧ va_K g.2.1 vwCl (zty g) s ∧ (zStat g σ0 A s s.heap ∧ zNk s) ∧ (∀ q, s.heap.size ≤ q → A q) ∧ d + 1 ≤ R.frames ∧ 40 * (d + 1) ≤ R.locals ∧ cells ≤ R.cells ∧ slots ≤ R.slots
/-- from every state of the machine that the numbers tell: it comes to Q -/
def zGo (nL : Nat) (p : Program) (l : Launch) (e : Env) (R : Room) (s : State) (m : MethodId) (args : Array Value) (below : List Frame) (meth : Method) (c : Code) (g : zG) (σ0 : zSo) (A : Nat → Prop) (cells slots : Nat) (Q : State → Prop) (pc : Nat) (lo : zLo) (st : zSt) (σ : zSo) : Prop :=
  ∀ (H : Heap) (locs : List Loc) (ls : Array Slot), va_P g.2.1 vwCl (zW g σ) H → va_D A (zW g σ) → va_S A s.heap H locs → (∀ k, 1000 ≤ k → σ k = σ0 k) → lv_has ls nL (zlo g.1 lo) → W p l e R s m args below meth c H locs cells slots Q (F0 m pc ls (st.map (zcv g.1)))
def zrm (d : Nat) : Room := { frames := d + 1, cells := 0, slots := 0, locals := 40 * (d + 1) }
def zws (q : zM) : List Cond := .code q.1 q.2.1 q.2.2.1 q.2.2.2 :: zTab
def zPc (g : zG) (σ0 : zSo) (as : List Value) (σ : zSo) (sz : Nat) : Array Value → State → Prop := va_Pc (as.map (zcv g.1)) (fun U => U.heap.size = sz ∧ va_P g.2.1 vwCl (zW g σ) U.heap ∧ va_K g.2.1 vwCl (zty g) U ∧ va_D (fun _ => True) (zW g σ) ∧ (zStat g σ0 (va_A (zW g σ) sz) U U.heap ∧ zNk U) ∧ ∀ k, 1000 ≤ k → σ k = σ0 k)
def zQc (g : zG) (σ0 σ : zSo) (sz : Nat) (r : Option Value) (σ1 : zSo) : Array Value → State → Outcome → State → Prop := fun _ st oc t => oc = .returned (r.map (zcv g.1)) ∧ va_P g.2.1 vwCl (zW g σ1) t.heap ∧ va_D (va_A (zW g σ) sz) (zW g σ1) ∧ (∀ k, 1000 ≤ k → σ1 k = σ0 k) ∧ va_F (va_A (zW g σ) sz) st t
def zMet (l : Launch) (d : Nat) (q : zM) (as : List Value) (σ : zSo) (r : Option Value) (σ1 : zSo) (g : zG) (σ0 : zSo) : Prop := ∀ sz, Met l q.1 (zws q) (zrm d) (zPc g σ0 as σ sz) (zQc g σ0 σ sz r σ1) 0 0 (va_A (zW g σ) sz)
/-- what is done at a return -/
def zRet (cc : ByteArray) (nL : Nat) (ret : Option FieldType) (p : Program) (l : Launch) (e : Env) (R : Room) (s : State) (m : MethodId) (args : Array Value) (below : List Frame) (meth : Method) (c : Code) (g : zG) (σ0 : zSo) (A : Nat → Prop) (cells slots : Nat) (Q : State → Prop) (r : Option Value) (σ : zSo) : Prop :=
  (∀ (pc : Nat) (lo : zLo) (v : Int32) (ty : FieldType), decode cc pc = .ok (.ireturn, 1) → r = some (.int v) → ret = some ty → narrow ty (.int v) = .int v → zGo nL p l e R s m args below meth c g σ0 A cells slots Q pc lo [.int v] σ) ∧
  (∀ (pc : Nat) (lo : zLo) (v : Int64), decode cc pc = .ok (.lreturn, 1) → r = some (.long v) → ret = some .long → zGo nL p l e R s m args below meth c g σ0 A cells slots Q pc lo [.long v] σ) ∧
  (∀ (pc : Nat) (lo : zLo), decode cc pc = .ok (.return_, 1) → r = none → ret = none → zGo nL p l e R s m args below meth c g σ0 A cells slots Q pc lo [] σ)
/-- the method list: by number -/
def zOc (zMD : List zM) (nL : Nat) (cc : ByteArray) (ret : Option FieldType) (d : Nat) (p : Program) (l : Launch) (e : Env) (R : Room) (s : State) (m : MethodId) (args : Array Value) (below : List Frame) (meth : Method) (c : Code) (g : zG) (σ0 : zSo) (A : Nat → Prop) (cells slots : Nat) (Q : State → Prop) (lo : zLo) (σ : zSo) (K : Prop) (x : zR) : Prop := match x with
  | .inl (pc', lo', st', σ') => zGo nL p l e R s m args below meth c g σ0 A cells slots Q pc' lo' st' σ' → K
  | .inr (.inl (i, as, rest, pc')) => ∃ q, zMD[i]? = some q ∧ ∀ (d' : Nat) (r : Option Value) (σ1 : zSo), d = d' + 1 → zMet l d' q as σ r σ1 g σ0 → zGo nL p l e R s m args below meth c g σ0 A cells slots Q pc' lo (r.toList ++ rest) σ1 → K
  | .inr (.inr r) => zRet cc nL ret p l e R s m args below meth c g σ0 A cells slots Q r σ → K
/-- an instruction and what it does to the numbers -/
def zSnd (zMD : List zM) (own : String) (cc : ByteArray) (nL : Nat) (ret : Option FieldType) (pc : Nat) (f : zOp) : Prop :=
  ∀ (d : Nat) (p : Program) (l : Launch) (e : Env) (R : Room) (s : State) (m : MethodId) (args : Array Value) (below : List Frame) (meth : Method) (c : Code) (g : zG) (σ0 : zSo) (A : Nat → Prop) (cells slots : Nat) (Q : State → Prop),
    zCx own cc nL d p R s m args c g σ0 A cells slots → ∀ (lo : zLo) (st : zSt) (σ : zSo) (x : zR), f lo st σ = some x → zOc zMD nL cc ret d p l e R s m args below meth c g σ0 A cells slots Q lo σ (zGo nL p l e R s m args below meth c g σ0 A cells slots Q pc lo st σ) x
