/-! THE LAW, from its entry -/
theorem in_3_196 : Cond.laysStatic "BeatBounds" "ABOVE" "[I" ∈ lw_tbl := mt3 (List.mem_of_getElem? (i := 196) rfl)
theorem in_3_209 : Cond.laysStatic "BeatBounds" "SIZE_BODIES" "[I" ∈ lw_tbl := mt3 (List.mem_of_getElem? (i := 209) rfl)
theorem in_3_211 : Cond.laysStatic "BeatBounds" "MARK_BODIES" "[I" ∈ lw_tbl := mt3 (List.mem_of_getElem? (i := 211) rfl)
set_option maxHeartbeats 4000000 in
set_option maxRecDepth 100000 in
theorem whole_start {p : Program} {e : Env} {s : State} {m : MethodId} {below : List Frame} {meth : Method} {c : Code} (l : Launch) {b L : Nat} {xs : Nat → Int32} (hL : L ≤ 3072) (C0 : lw_At p s m meth c b L xs) : W p l e room_1 s m #[Value.ref b] below meth c s.heap [] 0 0 (lw_Z below #[Value.ref b] s) (entryFrame m ([Value.ref b] : List Value).toArray 4) := by
  obtain ⟨hx, hb, hr, hml, hown, hts0, hX, hbl, hlocks, hgv⟩ := id C0
  have hts : ∀ w ∈ zTab, w.before #[Value.ref b] s = true := fun w h => hts0 w (List.mem_filter.mp h).1
  obtain ⟨A, hAe⟩ : ∃ A : Nat → Prop, A = fun q => s.heap.size ≤ q := ⟨_, rfl⟩
  have hA : ∀ q : Nat, s.heap.size ≤ q → A q := fun q h => by rw [hAe]; exact h
  have hAn : ∀ a : Nat, a < s.heap.size → ¬ A a := fun a h => by rw [hAe]; exact Nat.not_le.mpr h
  obtain ⟨c0, s0, hn0⟩ := u_known (C := RX0) (T := TX0) (N := 8) (n := 8) hts igX0 (hts _ iw_1_128)
  obtain ⟨c1, s1, hn1⟩ := u_known (C := RX1) (T := TX1) (N := 2) (n := 2) hts igX1 (hts _ iw_1_180)
  obtain ⟨c2, s2, hn2⟩ := u_known (C := RX2) (T := TX2) (N := 4) (n := 4) hts igX2 (hts _ iw_1_160)
  obtain ⟨c3, s3, hn3⟩ := u_known (C := RX3) (T := TX3) (N := 14) (n := 14) hts igX3 (hts _ iw_1_49)
  obtain ⟨c4, s4, hn4⟩ := u_known (C := RX4) (T := TX4) (N := 4) (n := 4) hts igX4 (hts _ iw_1_194)
  obtain ⟨c5, s5, hn5⟩ := u_known (C := RX5) (T := TX5) (N := 5) (n := 5) hts igX5 (hts _ iw_1_23)
  obtain ⟨c6, s6, hn6⟩ := u_known (C := RX6) (T := TX6) (N := 9) (n := 9) hts igX6 (hts _ iw_1_13)
  obtain ⟨c7, s7, hn7⟩ := u_known (C := RX7) (T := TX7) (N := 25) (n := 25) hts igX7 (hts _ iw_4_5)
  obtain ⟨D, hKc⟩ : ∃ D : va_G, ∀ (k : Nat) (q : vw_C), vwCl[k]? = some q → u_Kn s q.1 q.2.1 q.2.2 (D.1 k) (D.2 k) := by
    refine ⟨(fun k => if k = 0 then c0 else if k = 1 then c1 else if k = 2 then c2 else if k = 3 then c3 else if k = 4 then c4 else if k = 5 then c5 else if k = 6 then c6 else c7, fun k => if k = 0 then s0 else if k = 1 then s1 else if k = 2 then s2 else if k = 3 then s3 else if k = 4 then s4 else if k = 5 then s5 else if k = 6 then s6 else s7), ?_⟩
    intro k q hq
    match k, hq with
    | 0, hq => cases hq; exact hn0
    | 1, hq => cases hq; exact hn1
    | 2, hq => cases hq; exact hn2
    | 3, hq => cases hq; exact hn3
    | 4, hq => cases hq; exact hn4
    | 5, hq => cases hq; exact hn5
    | 6, hq => cases hq; exact hn6
    | 7, hq => cases hq; exact hn7
    | k + 8, hq => simp [vwCl] at hq
  obtain ⟨cI, kI, oI, a1, a2, a3⟩ := Cond.arrayClass_spec (hts _ iw_1_47)
  obtain ⟨cZ, kZ, oZ, b1, b2, b3⟩ := Cond.arrayClass_spec (hts _ iw_4_86)
  obtain ⟨oR, cR, kR, d1, -, d2, d3, d4⟩ := Cond.arrayOver_spec (hts0 _ in_1_21)
  obtain ⟨oP, cP, kP, e1, -, e2, e3, e4⟩ := Cond.arrayOver_spec (hts0 _ in_1_126)
  obtain ⟨cA, hK⟩ : ∃ cA : Nat → ClassId, va_K D vwCl (zT cA) s := by
    refine ⟨fun k => if k = 0 then cI else if k = 1 then cZ else if k = 2 then cR else cP, hKc, ?_⟩
    intro k q hq
    match k, hq with
    | 0, hq => cases hq; exact ⟨fun n z => ⟨fun k h => (by cases h), kI, a2, oI, a3⟩, a1⟩
    | 1, hq => cases hq; exact ⟨fun n z => ⟨fun k h => (by cases h), kZ, b2, oZ, b3⟩, b1⟩
    | 2, hq => cases hq; exact ⟨fun n z => ⟨fun k h => (by cases h), kR, d2, oR, d3⟩, kR, oR, d2, d3, d1, d4⟩
    | 3, hq => cases hq; exact ⟨fun n z => ⟨fun k h => (by cases h), kP, e2, oP, e3⟩, kP, oP, e2, e3, e1, e4⟩
    | k + 4, hq => simp [zT] at hq
  have hN : iN s := ⟨⟨va_Nw.of rfl (hts0 _ in_1_24), va_Nw.of rfl (hts0 _ in_1_50), va_Nw.of rfl (hts0 _ in_1_129), va_Nw.of rfl (hts0 _ in_1_161), va_Nw.of rfl (hts0 _ in_1_181), va_Nw.of rfl (hts0 _ in_1_195)⟩, va_AO.of (hts0 _ in_1_21), va_AO.of (hts0 _ in_1_126)⟩
  have hNk : zNk s := by
    intro q hq
    simp only [zNW, List.mem_cons, List.not_mem_nil, or_false] at hq
    rcases hq with rfl | rfl | rfl
    · exact va_Nw.of rfl (hts0 _ in_3_208)
    · exact va_Nw.of rfl (hts0 _ in_3_210)
    · exact va_Nw.of rfl (hts0 _ in_3_212)
  obtain ⟨t0, t1, t2, hSt⟩ := zStat_ini (A := A) hL hgv (hts0 _ in_3_196) (hts0 _ in_3_209) (hts0 _ in_3_211) (hts _ iw_1_1) hX hAn
  have hS : va_S A s.heap s.heap [] := va_S.rf
  have hP : va_P D vwCl [] s.heap := fun k q h => by simp at h
  have hD : va_D A [] := ⟨fun i j p q h => by simp at h, fun k q h => by simp at h⟩
  have hl := lv_entry ([.ref b]) (n := 4) (Nat.le_of_ble_eq_true rfl)
  rw [lg_entry_eq]
  generalize (lg_sl ([.ref b]) ++ List.replicate (4 - (lg_sl ([.ref b])).length) Slot.unset).toArray = ls at hl ⊢
  have hl : lv_has ls 4 [(0, .ref b)] := hl
  refine zi_mkI (ci := 6) (N := 9) (C := RX6) (T := TX6) (ty := tyX6) (own := RL) (nL := 4) hx hb hml hown hts (cX6_ok l D cA) rfl igX6 tyX6_ok dfX6 iw_1_12 iw_1_13 iw_1_1 iw_1_16 iw_1_15 iw_1_14 rfl rfl (by decide +kernel) ⟨Nat.le_of_ble_eq_true rfl, Nat.le_of_ble_eq_true rfl⟩ iN.call (fun U hW => hN.warm hW) hK hP hD hS hA hl.1 (Nat.le_of_ble_eq_true rfl) (Nat.le_of_ble_eq_true rfl) (Nat.le_of_ble_eq_true rfl) dL_law_0 dL_law_3 dL_law_4 (fun q0 u0 H locs hP hD hS => ?_)
  refine W.widen (k := 70) (n := 2034) (by omega) (by omega) ?_
  refine lv_astore_n (lv' := [(1, .ref q0), (0, .ref b)]) hx hb dL_law_7 rfl hl (by decide) rfl (fun ls hl => ?_)
  refine zi_mkI (ci := 7) (N := 25) (C := RX7) (T := TX7) (ty := tyX7) (own := RL) (nL := 4) hx hb hml hown hts (cX7_ok l D cA) rfl igX7 tyX7_ok dfX7 iw_4_4 iw_4_5 iw_1_8 iw_4_8 iw_4_7 iw_4_6 rfl rfl (by decide +kernel) ⟨Nat.le_of_ble_eq_true rfl, Nat.le_of_ble_eq_true rfl⟩ (fun _ _ _ _ _ => trivial) (fun _ _ => trivial) hK hP hD hS hA hl.1 (Nat.le_of_ble_eq_true rfl) (Nat.le_of_ble_eq_true rfl) (Nat.le_of_ble_eq_true rfl) dL_law_8 dL_law_11 dL_law_12 (fun q1 u1 H locs hP hD hS => ?_)
  refine W.widen (k := 600000) (n := 7302250) (by omega) (by omega) ?_
  refine lv_astore_n (lv' := [(2, .ref q1), (1, .ref q0), (0, .ref b)]) hx hb dL_law_15 rfl hl (by decide) rfl (fun ls hl => ?_)
  refine lv_iconst (v := 0) hx hb dL_law_16 (by decide) ?_
  refine lv_istore_n (lv' := [(3, .int 0), (2, .ref q1), (1, .ref q0), (0, .ref b)]) hx hb dL_law_17 rfl hl (by decide) rfl (fun ls hl => ?_)
  have hC : zCx RL cL_law 4 41 p room_1 s m #[Value.ref b] c (iA q0 q1 u0 u1 t0 t1 t2 b, D, cA) (iS xs L) A 600000 7302250 := ⟨hx, hb, hml, hown, hts, hK, ⟨hSt q0 q1 u0 u1 D cA, hNk⟩, hA, Nat.le_of_ble_eq_true rfl, Nat.le_of_ble_eq_true rfl, Nat.le_refl _, Nat.le_refl _⟩
  have hZ := zHyp_go (l := l) (e := e) (below := below) (meth := meth) (Q := lw_Z below #[Value.ref b] s) hC (fun σ => ⟨fun pc lo v ty hd h1 h2 h3 H locs ls hP hD hS hF hl => by
    cases h1
    refine va_forget (fun q hq => by have := hS.2.2 q hq; rw [hAe] at this; exact this) ?_
    exact lw_ret hx hb hr hlocks hd, fun pc lo v hd h1 h2 => (by cases h1), fun pc lo hd h1 h2 => (by cases h1)⟩)
  have key := lw_loop hZ (L := L) rfl hL L 0 (iS xs L) (by omega) (by omega) (fun _ _ => rfl) (R_init xs L)
  exact key H locs ls (by rw [zW_ini]; exact hP) (by rw [zW_ini]; exact hD) hS (fun _ _ => rfl) (lv_sub hl [3, 2, 1, 0] rfl)
