/-! checks -/
theorem zsc_hi {k j : Nat} (h : 1000 ≤ k) : zsc k j = false := by
  have b : ∀ n, n < 1000 → Nat.beq k n = false := fun n hn => by
    cases hb : Nat.beq k n with
    | false => rfl
    | true => have := Nat.eq_of_beq_eq_true hb; omega
  have c : ∀ n, n < 1000 → Nat.ble k n = false := fun n hn => by
    cases hb : Nat.ble k n with
    | false => rfl
    | true => have := Nat.le_of_ble_eq_true hb; omega
  unfold zsc
  rw [b 75 (by decide), b 76 (by decide), b 79 (by decide), b 80 (by decide), b 18 (by decide), b 70 (by decide), c 37 (by decide), c 67 (by decide)]
  simp
theorem zK.hi {σ σ' : zSo} (h : zK σ σ') : ∀ k, 1000 ≤ k → σ' k = σ k := fun k hk => funext fun j => h k j (zsc_hi hk)
theorem R.kp {σ σ' : zSo} (h : R σ) (hk : zK σ σ') : R σ' ∧ ∀ k, 1000 ≤ k → σ' k = σ k := ⟨h.keep hk hk.hi, hk.hi⟩

set_option maxHeartbeats 4000000 in
set_option maxRecDepth 100000 in
theorem cl_isYard {d : Nat} {σ : zSo} {Q : Option Value → zSo → Prop} {x : Int32} (ht : 0 ≤ x.toInt → x.toInt ≤ 99 → Q (some (.int 1)) σ) (hf : ¬ (0 ≤ x.toInt ∧ x.toInt ≤ 99) → Q (some (.int 0)) σ) : zC d 100 [.int x] σ Q := by
  show zA d _ 0 [(0, .int x)] [] σ Q
  repeat refine zA_step rfl rfl ?_
  refine zA_c (fun c => ?_) (fun c => ?_)
  all_goals simp only [nu_lt, Int32.reduceToInt] at c
  · repeat refine zA_step rfl rfl ?_
    exact zA_ret rfl (hf (by omega))
  · repeat refine zA_step rfl rfl ?_
    refine zA_c (fun c2 => ?_) (fun c2 => ?_)
    all_goals simp only [nu_lt, nu_le, Int32.reduceToInt] at c2
    · repeat refine zA_step rfl rfl ?_
      exact zA_ret rfl (hf (by omega))
    · repeat refine zA_step rfl rfl ?_
      exact zA_ret rfl (ht (by omega) (by omega))
set_option maxHeartbeats 4000000 in
set_option maxRecDepth 100000 in
theorem cl_isPain {d : Nat} {σ : zSo} {Q : Option Value → zSo → Prop} {x : Int32} (ht : 1 ≤ x.toInt → x.toInt ≤ 9 → Q (some (.int 1)) σ) (hf : ¬ (1 ≤ x.toInt ∧ x.toInt ≤ 9) → Q (some (.int 0)) σ) : zC d 101 [.int x] σ Q := by
  show zA d _ 0 [(0, .int x)] [] σ Q
  repeat refine zA_step rfl rfl ?_
  refine zA_c (fun c => ?_) (fun c => ?_)
  all_goals simp only [nu_lt, Int32.reduceToInt] at c
  · repeat refine zA_step rfl rfl ?_
    exact zA_ret rfl (hf (by omega))
  · repeat refine zA_step rfl rfl ?_
    refine zA_c (fun c2 => ?_) (fun c2 => ?_)
    all_goals simp only [nu_lt, nu_le, Int32.reduceToInt] at c2
    · repeat refine zA_step rfl rfl ?_
      exact zA_ret rfl (hf (by omega))
    · repeat refine zA_step rfl rfl ?_
      exact zA_ret rfl (ht (by omega) (by omega))
set_option maxHeartbeats 4000000 in
set_option maxRecDepth 100000 in
theorem cl_isMany {d : Nat} {σ : zSo} {Q : Option Value → zSo → Prop} {x : Int32} (ht : 1 ≤ x.toInt → x.toInt ≤ 6 → Q (some (.int 1)) σ) (hf : ¬ (1 ≤ x.toInt ∧ x.toInt ≤ 6) → Q (some (.int 0)) σ) : zC d 102 [.int x] σ Q := by
  show zA d _ 0 [(0, .int x)] [] σ Q
  repeat refine zA_step rfl rfl ?_
  refine zA_c (fun c => ?_) (fun c => ?_)
  all_goals simp only [nu_lt, Int32.reduceToInt] at c
  · repeat refine zA_step rfl rfl ?_
    exact zA_ret rfl (hf (by omega))
  · repeat refine zA_step rfl rfl ?_
    refine zA_c (fun c2 => ?_) (fun c2 => ?_)
    all_goals simp only [nu_lt, nu_le, Int32.reduceToInt] at c2
    · repeat refine zA_step rfl rfl ?_
      exact zA_ret rfl (hf (by omega))
    · repeat refine zA_step rfl rfl ?_
      exact zA_ret rfl (ht (by omega) (by omega))
set_option maxHeartbeats 4000000 in
set_option maxRecDepth 100000 in
theorem cl_isLater {d : Nat} {σ : zSo} {Q : Option Value → zSo → Prop} {x : Int32} (ht : 1 ≤ x.toInt → x.toInt ≤ 60 → Q (some (.int 1)) σ) (hf : ¬ (1 ≤ x.toInt ∧ x.toInt ≤ 60) → Q (some (.int 0)) σ) : zC d 103 [.int x] σ Q := by
  show zA d _ 0 [(0, .int x)] [] σ Q
  repeat refine zA_step rfl rfl ?_
  refine zA_c (fun c => ?_) (fun c => ?_)
  all_goals simp only [nu_lt, Int32.reduceToInt] at c
  · repeat refine zA_step rfl rfl ?_
    exact zA_ret rfl (hf (by omega))
  · repeat refine zA_step rfl rfl ?_
    refine zA_c (fun c2 => ?_) (fun c2 => ?_)
    all_goals simp only [nu_lt, nu_le, Int32.reduceToInt] at c2
    · repeat refine zA_step rfl rfl ?_
      exact zA_ret rfl (hf (by omega))
    · repeat refine zA_step rfl rfl ?_
      exact zA_ret rfl (ht (by omega) (by omega))
set_option maxHeartbeats 4000000 in
set_option maxRecDepth 100000 in
theorem cl_isRow {d : Nat} {σ : zSo} {Q : Option Value → zSo → Prop} {x : Int32} (ht : 0 ≤ x.toInt → x.toInt ≤ 7 → Q (some (.int 1)) σ) (hf : ¬ (0 ≤ x.toInt ∧ x.toInt ≤ 7) → Q (some (.int 0)) σ) : zC d 99 [.int x] σ Q := by
  show zA d _ 0 [(0, .int x)] [] σ Q
  repeat refine zA_step rfl rfl ?_
  refine zA_c (fun c => ?_) (fun c => ?_)
  all_goals simp only [nu_lt, Int32.reduceToInt] at c
  · repeat refine zA_step rfl rfl ?_
    exact zA_ret rfl (hf (by omega))
  · repeat refine zA_step rfl rfl ?_
    refine zA_c (fun c2 => ?_) (fun c2 => ?_)
    all_goals simp only [nu_lt, nu_le, Int32.reduceToInt] at c2
    · repeat refine zA_step rfl rfl ?_
      exact zA_ret rfl (hf (by omega))
    · repeat refine zA_step rfl rfl ?_
      exact zA_ret rfl (ht (by omega) (by omega))
set_option maxHeartbeats 4000000 in
set_option maxRecDepth 100000 in
theorem cl_isEither {d : Nat} {σ : zSo} {Q : Option Value → zSo → Prop} {x : Int32} (ht : ∀ k, k < 2 → x = nI k → Q (some (.int 1)) σ) (hf : ¬ (0 ≤ x.toInt ∧ x.toInt ≤ 1) → Q (some (.int 0)) σ) : zC d 104 [.int x] σ Q := by
  show zA d _ 0 [(0, .int x)] [] σ Q
  repeat refine zA_step rfl rfl ?_
  refine zA_c (fun c => ?_) (fun c => ?_)
  · repeat refine zA_step rfl rfl ?_
    exact zA_ret rfl (ht 0 (by omega) c)
  · repeat refine zA_step rfl rfl ?_
    refine zA_c (fun c2 => ?_) (fun c2 => ?_)
    · repeat refine zA_step rfl rfl ?_
      exact zA_ret rfl (ht 1 (by omega) c2)
    · repeat refine zA_step rfl rfl ?_
      simp only [nu_eq, Int32.reduceToInt] at c c2
      exact zA_ret rfl (hf (by omega))
set_option maxHeartbeats 4000000 in
set_option maxRecDepth 100000 in
theorem cl_isStone {d : Nat} {σ : zSo} {Q : Option Value → zSo → Prop} {x : Int32} {p : paT} (hP : PC σ 20 p) (h6 : ps p ≤ 6) (ht : ∀ s, s < ps p → x = nI s → Q (some (.int 1)) σ) (hf : ¬ (0 ≤ x.toInt ∧ x.toInt < ps p) → Q (some (.int 0)) σ) : zC d 97 [.ref 0, .int x] σ Q := by
  show zA d _ 0 [(0, .ref 0), (1, .int x)] [] σ Q
  have h : σ 20 4 = nI (ps p) := hP.2.1
  repeat refine zA_step rfl rfl ?_
  refine zA_c (fun c => ?_) (fun c => ?_)
  all_goals simp only [nu_lt, Int32.reduceToInt] at c
  · repeat refine zA_step rfl rfl ?_
    exact zA_ret rfl (hf (by omega))
  · repeat refine zA_step rfl rfl ?_
    rw [h]
    refine zA_c (fun c2 => ?_) (fun c2 => ?_)
    all_goals rw [nu_le, nu_I (by omega)] at c2
    · repeat refine zA_step rfl rfl ?_
      exact zA_ret rfl (hf (by omega))
    · repeat refine zA_step rfl rfl ?_
      obtain ⟨s, hs, e⟩ := nu_of (n := ps p) (x := x) (by omega) (by omega)
      exact zA_ret rfl (ht s hs e)
set_option maxHeartbeats 4000000 in
set_option maxRecDepth 100000 in
theorem cl_isWitness {d : Nat} {σ : zSo} {Q : Option Value → zSo → Prop} {x : Int32} {p : paT} (hP : PC σ 20 p) (h6 : pw p ≤ 6) (ht : ∀ s, s < pw p → x = nI s → Q (some (.int 1)) σ) (hf : ¬ (0 ≤ x.toInt ∧ x.toInt < pw p) → Q (some (.int 0)) σ) : zC d 98 [.ref 0, .int x] σ Q := by
  show zA d _ 0 [(0, .ref 0), (1, .int x)] [] σ Q
  have h : σ 20 5 = nI (pw p) := hP.2.2.1
  repeat refine zA_step rfl rfl ?_
  refine zA_c (fun c => ?_) (fun c => ?_)
  all_goals simp only [nu_lt, Int32.reduceToInt] at c
  · repeat refine zA_step rfl rfl ?_
    exact zA_ret rfl (hf (by omega))
  · repeat refine zA_step rfl rfl ?_
    rw [h]
    refine zA_c (fun c2 => ?_) (fun c2 => ?_)
    all_goals rw [nu_le, nu_I (by omega)] at c2
    · repeat refine zA_step rfl rfl ?_
      exact zA_ret rfl (hf (by omega))
    · repeat refine zA_step rfl rfl ?_
      obtain ⟨s, hs, e⟩ := nu_of (n := pw p) (x := x) (by omega) (by omega)
      exact zA_ret rfl (ht s hs e)
set_option maxHeartbeats 4000000 in
set_option maxRecDepth 100000 in
theorem mo_isStone {d : Nat} {σ : zSo} {Q : Option Value → zSo → Prop} {x : Int32} {p : paT} (hP : PM (σ 74) p) (h6 : ps p ≤ 6) (ht : ∀ s, s < ps p → x = nI s → Q (some (.int 1)) σ) (hf : ¬ (0 ≤ x.toInt ∧ x.toInt < ps p) → Q (some (.int 0)) σ) : zC (d + 1) 130 [.ref 70, .int x] σ Q := by
  show zA (d + 1) _ 0 [(0, .ref 70), (1, .int x)] [] σ Q
  have h : σ 74 2 = nI (ps p) := hP.2.1
  repeat refine zA_step rfl rfl ?_
  simp only [nu_c2, h]
  have e1 : (nI (ps p) - 1).toInt64.toInt = (ps p : Int) - 1 := by
    rw [nu_wide, nu_sub (by rw [nu_I (by omega)]; simp only [Int32.reduceToInt]; omega) (by rw [nu_I (by omega)]; simp only [Int32.reduceToInt]; omega), nu_I (by omega)]
    rfl
  refine zA_call rfl rfl (mo_inI 0 ((ps p : Int) - 1) (by decide) e1 (fun h1 h2 => ?_) (fun h1 => ?_))
  · obtain ⟨s, hs, e⟩ := nu_of (n := ps p) (x := x) (by omega) (by omega)
    exact zA_ret rfl (ht s hs e)
  · exact zA_ret rfl (hf (by omega))
set_option maxHeartbeats 4000000 in
set_option maxRecDepth 100000 in
theorem mo_isWitness {d : Nat} {σ : zSo} {Q : Option Value → zSo → Prop} {x : Int32} {p : paT} (hP : PM (σ 74) p) (h6 : pw p ≤ 6) (ht : ∀ s, s < pw p → x = nI s → Q (some (.int 1)) σ) (hf : ¬ (0 ≤ x.toInt ∧ x.toInt < pw p) → Q (some (.int 0)) σ) : zC (d + 1) 131 [.ref 70, .int x] σ Q := by
  show zA (d + 1) _ 0 [(0, .ref 70), (1, .int x)] [] σ Q
  have h : σ 74 3 = nI (pw p) := hP.2.2.1
  repeat refine zA_step rfl rfl ?_
  simp only [nu_c3, h]
  have e1 : (nI (pw p) - 1).toInt64.toInt = (pw p : Int) - 1 := by
    rw [nu_wide, nu_sub (by rw [nu_I (by omega)]; simp only [Int32.reduceToInt]; omega) (by rw [nu_I (by omega)]; simp only [Int32.reduceToInt]; omega), nu_I (by omega)]
    rfl
  refine zA_call rfl rfl (mo_inI 0 ((pw p : Int) - 1) (by decide) e1 (fun h1 h2 => ?_) (fun h1 => ?_))
  · obtain ⟨s, hs, e⟩ := nu_of (n := pw p) (x := x) (by omega) (by omega)
    exact zA_ret rfl (ht s hs e)
  · exact zA_ret rfl (hf (by omega))
set_option maxHeartbeats 4000000 in
set_option maxRecDepth 100000 in
theorem mo_isThere {d : Nat} {σ : zSo} {Q : Option Value → zSo → Prop} {p : paT} (hP : PM (σ 74) p) (h6 : ps p ≤ 6) (ht : 0 < ps p → Q (some (.int 1)) σ) (hf : ps p = 0 → Q (some (.int 0)) σ) : zC d 129 [.ref 70] σ Q := by
  show zA d _ 0 [(0, .ref 70)] [] σ Q
  have h : σ 74 2 = nI (ps p) := hP.2.1
  repeat refine zA_step rfl rfl ?_
  simp only [nu_c2, h]
  refine zA_c (fun c => ?_) (fun c => ?_)
  all_goals rw [nu_le, nu_I (by omega)] at c; simp only [Int32.reduceToInt] at c
  · repeat refine zA_step rfl rfl ?_
    exact zA_ret rfl (hf (by omega))
  · repeat refine zA_step rfl rfl ?_
    exact zA_ret rfl (ht (by omega))
set_option maxHeartbeats 4000000 in
set_option maxRecDepth 100000 in
theorem mo_everybody {d : Nat} {σ : zSo} {Q : Option Value → zSo → Prop} {p : paT} (hP : PM (σ 74) p) (h6 : pw p ≤ 6) (hQ : Q (some (.int (nI (2 ^ pw p - 1)))) σ) : zC d 132 [.ref 70] σ Q := by
  show zA d _ 0 [(0, .ref 70)] [] σ Q
  have h : σ 74 3 = nI (pw p) := hP.2.2.1
  repeat refine zA_step rfl rfl ?_
  simp only [nu_c3, h]
  rw [nu_every _ (by omega)]
  exact zA_ret rfl hQ
set_option maxHeartbeats 4000000 in
set_option maxRecDepth 100000 in
theorem cl_finding {d : Nat} {σ : zSo} {Q : Option Value → zSo → Prop} {x : Int32} (hQ : Q (some (.int (-1000010 - x))) (zup σ 0 8 x)) : zC d 93 [.ref 0, .int x] σ Q := by
  show zA d _ 0 [(0, .ref 0), (1, .int x)] [] σ Q
  repeat refine zA_step rfl rfl ?_
  exact zA_ret rfl hQ
set_option maxHeartbeats 4000000 in
set_option maxRecDepth 100000 in
theorem cl_fine {d : Nat} {σ : zSo} {Q : Option Value → zSo → Prop} {x : Int32} (hQ : Q (some (.int x)) (zup σ 0 8 0)) : zC d 94 [.ref 0, .int x] σ Q := by
  show zA d _ 0 [(0, .ref 0), (1, .int x)] [] σ Q
  repeat refine zA_step rfl rfl ?_
  exact zA_ret rfl hQ
set_option maxHeartbeats 4000000 in
set_option maxRecDepth 100000 in
theorem mo_finding {d : Nat} {σ : zSo} {Q : Option Value → zSo → Prop} {x : Int32} (hQ : Q (some (.int (-1000010 - x))) (zup σ 70 1 x)) : zC d 108 [.ref 70, .int x] σ Q := by
  show zA d _ 0 [(0, .ref 70), (1, .int x)] [] σ Q
  repeat refine zA_step rfl rfl ?_
  exact zA_ret rfl hQ
/-! the first pairs -/
set_option maxHeartbeats 4000000 in
set_option maxRecDepth 100000 in
theorem pr_stone {d : Nat} {σ : zSo} (x : Int32) (hR : R σ) : zPair (d + 20) 72 154 [.int x] σ := by
  obtain ⟨-, -, -, -, ⟨p, ⟨hW, hC, hM, -, -⟩, -⟩, -⟩ := id hR
  have ws6 := hW.2.2.2.1
  have hk : zK σ (zup σ 70 0 0) := zK.rf.up rfl
  have hM' : PM (zup σ 70 0 0 74) p := hM
  show zA (d + 20) _ 0 [(0, .ref 0), (1, .int x)] [] σ _
  repeat refine zA_step rfl rfl ?_
  refine zA_call rfl rfl (cl_isStone hC ws6 (fun s hs e => ?_) (fun h => ?_))
  · subst e
    repeat refine zA_step rfl rfl ?_
    refine zA_ld (j := s) rfl rfl (by omega) (by decide) (hC.2.2.2.2.1 s hs) ?_
    repeat refine zA_step rfl rfl ?_
    refine zA_ret rfl ⟨_, rfl, ?_⟩
    show zA (d + 20) _ 0 [(0, .ref 70), (1, .int (nI s))] [] σ _
    repeat refine zA_step rfl rfl ?_
    refine zA_call rfl rfl (mo_isStone hM' ws6 (fun s' hs' e => ?_) (fun h => ?_))
    · repeat refine zA_step rfl rfl ?_
      refine zA_ld (j := 5 + s) rfl (nI_add 5 s) (by omega) (by decide) (hM'.2.2.2.2.1 s hs) ?_
      repeat refine zA_step rfl rfl ?_
      exact zA_ret rfl ⟨rfl, hR.kp hk⟩
    · rw [nu_I (by omega)] at h
      exact absurd ⟨by omega, by omega⟩ h
  · repeat refine zA_step rfl rfl ?_
    refine zA_ret rfl ⟨_, rfl, ?_⟩
    show zA (d + 20) _ 0 [(0, .ref 70), (1, .int x)] [] σ _
    repeat refine zA_step rfl rfl ?_
    refine zA_call rfl rfl (mo_isStone hM' ws6 (fun s' hs' e => ?_) (fun h => ?_))
    · subst e
      rw [nu_I (by omega)] at h
      exact absurd ⟨by omega, by omega⟩ h
    · repeat refine zA_step rfl rfl ?_
      exact zA_ret rfl ⟨rfl, hR.kp hk⟩
set_option maxHeartbeats 4000000 in
set_option maxRecDepth 100000 in
theorem pr_fault {d : Nat} {σ : zSo} (hR : R σ) : zPair (d + 20) 64 123 [] σ := by
  have hm := hR.2.2.1.2.1
  have hk : zK σ (zup σ 70 0 0) := zK.rf.up rfl
  show zA (d + 20) _ 0 [(0, .ref 0)] [] σ _
  repeat refine zA_step rfl rfl ?_
  refine zA_ret rfl ⟨_, rfl, ?_⟩
  show zA (d + 20) _ 0 [(0, .ref 70)] [] σ _
  repeat refine zA_step rfl rfl ?_
  refine zA_ret rfl ⟨?_, hR.kp hk⟩
  rw [hm]
  rfl
set_option maxHeartbeats 4000000 in
set_option maxRecDepth 100000 in
theorem pr_status {d : Nat} {σ : zSo} (hR : R σ) : zPair (d + 20) 92 186 [] σ := by
  have hm := hR.2.2.1.1
  have hk : zK σ (zup σ 70 0 0) := zK.rf.up rfl
  show zA (d + 20) _ 0 [(0, .ref 0)] [] σ _
  repeat refine zA_step rfl rfl ?_
  refine zA_ret rfl ⟨_, rfl, ?_⟩
  show zA (d + 20) _ 0 [(0, .ref 70)] [] σ _
  repeat refine zA_step rfl rfl ?_
  refine zA_ret rfl ⟨?_, hR.kp hk⟩
  rw [hm]
  rfl
set_option maxHeartbeats 4000000 in
set_option maxRecDepth 100000 in
theorem pr_kind {d : Nat} {σ : zSo} (x : Int32) (hR : R σ) : zPair (d + 20) 87 176 [.int x] σ := by
  obtain ⟨-, -, -, -, ⟨p, ⟨hW, hC, hM, -, -⟩, -⟩, -⟩ := id hR
  have ww6 := hW.2.2.2.2.1
  have hk : zK σ (zup σ 70 0 0) := zK.rf.up rfl
  have hM' : PM (zup σ 70 0 0 74) p := hM
  show zA (d + 20) _ 0 [(0, .ref 0), (1, .int x)] [] σ _
  repeat refine zA_step rfl rfl ?_
  refine zA_call rfl rfl (cl_isWitness hC ww6 (fun w hw e => ?_) (fun h => ?_))
  · subst e
    repeat refine zA_step rfl rfl ?_
    refine zA_ld (j := w) rfl rfl (by omega) (by decide) (hC.2.2.2.2.2.1 w hw).1 ?_
    repeat refine zA_step rfl rfl ?_
    refine zA_ret rfl ⟨_, rfl, ?_⟩
    show zA (d + 20) _ 0 [(0, .ref 70), (1, .int (nI w))] [] σ _
    repeat refine zA_step rfl rfl ?_
    refine zA_call rfl rfl (mo_isWitness hM' ww6 (fun s' hs' e => ?_) (fun h => ?_))
    · repeat refine zA_step rfl rfl ?_
      refine zA_call rfl rfl (mo_of (Or.inl rfl) (by omega) (k := 0) (by omega) (hM'.2.2.2.2.2.1 w hw).1 ?_)
      repeat refine zA_step rfl rfl ?_
      exact zA_ret rfl ⟨rfl, hR.kp hk⟩
    · rw [nu_I (by omega)] at h
      exact absurd ⟨by omega, by omega⟩ h
  · repeat refine zA_step rfl rfl ?_
    refine zA_ret rfl ⟨_, rfl, ?_⟩
    show zA (d + 20) _ 0 [(0, .ref 70), (1, .int x)] [] σ _
    repeat refine zA_step rfl rfl ?_
    refine zA_call rfl rfl (mo_isWitness hM' ww6 (fun s' hs' e => ?_) (fun h => ?_))
    · subst e
      rw [nu_I (by omega)] at h
      exact absurd ⟨by omega, by omega⟩ h
    · repeat refine zA_step rfl rfl ?_
      exact zA_ret rfl ⟨rfl, hR.kp hk⟩
set_option maxHeartbeats 4000000 in
set_option maxRecDepth 100000 in
theorem pr_trace {d : Nat} {σ : zSo} (x : Int32) (hR : R σ) : zPair (d + 20) 90 184 [.int x] σ := by
  obtain ⟨t, ht, h1, h2, h3⟩ := hR.2.2.1.2.2
  have hk : zK σ (zup σ 70 0 0) := zK.rf.up rfl
  have h2' : zup σ 70 0 0 70 24 = nI t := h2
  have e1 : (nI t - 1).toInt64.toInt = (t : Int) - 1 := by
    rw [nu_wide, nu_sub (by rw [nu_I (by omega)]; simp only [Int32.reduceToInt]; omega) (by rw [nu_I (by omega)]; simp only [Int32.reduceToInt]; omega), nu_I (by omega)]
    rfl
  show zA (d + 20) _ 0 [(0, .ref 0), (1, .int x)] [] σ _
  have no : ¬ (0 ≤ x.toInt ∧ x.toInt < t) → zC (d + 20) 184 [.ref 70, .int x] σ (fun r2 σ2 => r2 = some (.int (-1000000)) ∧ R σ2 ∧ ∀ k, 1000 ≤ k → σ2 k = σ k) := by
    intro hn
    show zA (d + 20) _ 0 [(0, .ref 70), (1, .int x)] [] σ _
    repeat refine zA_step rfl rfl ?_
    rw [h2']
    refine zA_call rfl rfl (mo_inI 0 ((t : Int) - 1) (by decide) e1 (fun z1 z2 => ?_) (fun z1 => ?_))
    · exact absurd ⟨z1, by omega⟩ hn
    · repeat refine zA_step rfl rfl ?_
      exact zA_ret rfl ⟨rfl, hR.kp hk⟩
  repeat refine zA_step rfl rfl ?_
  refine zA_c (fun c => ?_) (fun c => ?_)
  all_goals simp only [nu_lt, Int32.reduceToInt] at c
  · repeat refine zA_step rfl rfl ?_
    exact zA_ret rfl ⟨_, rfl, no (by omega)⟩
  · repeat refine zA_step rfl rfl ?_
    rw [h1]
    refine zA_c (fun c2 => ?_) (fun c2 => ?_)
    all_goals rw [nu_lt, nu_I (by omega)] at c2
    · repeat refine zA_step rfl rfl ?_
      obtain ⟨j, hj, e⟩ := nu_of (n := t) (x := x) (by omega) (by omega)
      subst e
      refine zA_ld (j := j) rfl rfl (by omega) (by decide) (h3 j hj) ?_
      refine zA_ret rfl ⟨_, rfl, ?_⟩
      show zA (d + 20) _ 0 [(0, .ref 70), (1, .int (nI j))] [] σ _
      repeat refine zA_step rfl rfl ?_
      rw [h2']
      refine zA_call rfl rfl (mo_inI 0 ((t : Int) - 1) (by decide) e1 (fun z1 z2 => ?_) (fun z1 => ?_))
      · repeat refine zA_step rfl rfl ?_
        refine zA_ld (j := j) rfl rfl (by omega) (by decide) rfl ?_
        repeat refine zA_step rfl rfl ?_
        exact zA_ret rfl ⟨rfl, hR.kp hk⟩
      · exact absurd ⟨by omega, by omega⟩ z1
    · repeat refine zA_step rfl rfl ?_
      exact zA_ret rfl ⟨_, rfl, no (by omega)⟩

