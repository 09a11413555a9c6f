/-! THE CONSTRUCTOR of BeatBounds: a turn of its loops -/
theorem dfX4 : ∀ j, j < 4 → defaultValue (tyX4 j) = vp_V fX4 j := by
  intro j hj
  rcases (show j = 0 ∨ j = 1 ∨ j = 2 ∨ j = 3 by omega) with rfl | rfl | rfl | rfl <;> rfl
theorem dfX5 : ∀ j, j < 5 → defaultValue (tyX5 j) = vp_V fX5 j := by
  intro j hj
  rcases (show j = 0 ∨ j = 1 ∨ j = 2 ∨ j = 3 ∨ j = 4 by omega) with rfl | rfl | rfl | rfl | rfl <;> rfl
theorem dfX3 : ∀ j, j < 14 → defaultValue (tyX3 j) = vp_V fX3 j := by
  intro j hj
  rcases (show j = 0 ∨ j = 1 ∨ j = 2 ∨ j = 3 ∨ j = 4 ∨ j = 5 ∨ j = 6 ∨ j = 7 ∨ j = 8 ∨ j = 9 ∨ j = 10 ∨ j = 11 ∨ j = 12 ∨ j = 13 by omega) with rfl | rfl | rfl | rfl | rfl | rfl | rfl | rfl | rfl | rfl | rfl | rfl | rfl | rfl <;> rfl
theorem dfX0 : ∀ j, j < 8 → defaultValue (tyX0 j) = vp_V fX0 j := by
  intro j hj
  rcases (show j = 0 ∨ j = 1 ∨ j = 2 ∨ j = 3 ∨ j = 4 ∨ j = 5 ∨ j = 6 ∨ j = 7 by omega) with rfl | rfl | rfl | rfl | rfl | rfl | rfl | rfl <;> rfl
theorem dfX2 : ∀ j, j < 4 → defaultValue (tyX2 j) = vp_V fX2 j := by
  intro j hj
  rcases (show j = 0 ∨ j = 1 ∨ j = 2 ∨ j = 3 by omega) with rfl | rfl | rfl | rfl <;> rfl
theorem dfX1 : ∀ j, j < 2 → defaultValue (tyX1 j) = vp_V fX1 j := by
  intro j hj
  rcases (show j = 0 ∨ j = 1 by omega) with rfl | rfl <;> rfl
theorem dfX7 : ∀ j, j < 25 → defaultValue (tyX7 j) = vp_V fX7 j := by
  intro j hj
  rcases (show j = 0 ∨ j = 1 ∨ j = 2 ∨ j = 3 ∨ j = 4 ∨ j = 5 ∨ j = 6 ∨ j = 7 ∨ j = 8 ∨ j = 9 ∨ j = 10 ∨ j = 11 ∨ j = 12 ∨ j = 13 ∨ j = 14 ∨ j = 15 ∨ j = 16 ∨ j = 17 ∨ j = 18 ∨ j = 19 ∨ j = 20 ∨ j = 21 ∨ j = 22 ∨ j = 23 ∨ j = 24 by omega) with rfl | rfl | rfl | rfl | rfl | rfl | rfl | rfl | rfl | rfl | rfl | rfl | rfl | rfl | rfl | rfl | rfl | rfl | rfl | rfl | rfl | rfl | rfl | rfl | rfl <;> rfl
def fX6 : List Value := [.null, .null, .null, .null, .null, .null, .null, .null, .int 0]
theorem dfX6 : ∀ j, j < 9 → defaultValue (tyX6 j) = vp_V fX6 j := by
  intro j hj
  rcases (show j = 0 ∨ j = 1 ∨ j = 2 ∨ j = 3 ∨ j = 4 ∨ j = 5 ∨ j = 6 ∨ j = 7 ∨ j = 8 by omega) with rfl | rfl | rfl | rfl | rfl | rfl | rfl | rfl | rfl <;> rfl
def iN (U : State) : Prop := (va_Nw (.methodLinkNest "BeatBounds" 17 yX5_init "BeatBounds") U ∧ va_Nw (.methodLinkNest "BeatBounds" 24 yX3_init "BeatBounds") U ∧ va_Nw (.methodLinkNest "BeatBounds" 38 yX0_init "BeatBounds") U ∧ va_Nw (.methodLinkNest "BeatBounds" 45 yX2_init "BeatBounds") U ∧ va_Nw (.methodLinkNest "BeatBounds" 52 yX1_init "BeatBounds") U ∧ va_Nw (.methodLinkNest "BeatBounds" 61 yX4_init "BeatBounds") U) ∧ va_AO "BeatBounds$Row" U ∧ va_AO "BeatBounds$Parish" U
theorem iN.warm {s U : State} (hW : s.WarmedH U.vm) (h : iN s) : iN U := by
  obtain ⟨⟨h1, h2, h3, h4, h5, h6⟩, h7, h8⟩ := h
  exact ⟨⟨h1.warmM hW, h2.warmM hW, h3.warmM hW, h4.warmM hW, h5.warmM hW, h6.warmM hW⟩, h7.moved hW.alike, h8.moved hW.alike⟩
theorem iN.call (U : State) (f : JFrame) (mk : MethodId) (a : Array Value) (h : iN U) : iN (U.calling f mk a) := by
  obtain ⟨⟨h1, h2, h3, h4, h5, h6⟩, h7, h8⟩ := h
  exact ⟨⟨h1.same rfl rfl, h2.same rfl rfl, h3.same rfl rfl, h4.same rfl rfl, h5.same rfl rfl, h6.same rfl rfl⟩, va_AO.moved (u := U) (U := U.calling f mk a) (Vm.Alike.refl U.vm) h7, va_AO.moved (u := U) (U := U.calling f mk a) (Vm.Alike.refl U.vm) h8⟩
section ZB
variable {p : Program} {l : Launch} {e : Env} {R : Room} {s : State} {m : MethodId} {args : Array Value} {below : List Frame} {meth : Method} {c : Code} {H : Heap} {locs : List Loc} {cells slots : Nat} {Q : State → Prop} {A : Nat → Prop} {ls : Array Slot} {D : va_G} {cA : Nat → ClassId} {h0 : Nat}
set_option maxHeartbeats 4000000 in
set_option maxRecDepth 100000 in
theorem bb_row {f : Nat → Option Nat} {ra k j : Nat} {fs : List Value} {pl : va_W} (hx : p.tables.exec = Jvm.exec) (hb : c.code = cX6_init) (hml : c.maxLocals = 2) (hown : s.vm.findClass RX6 = some m.cls) (hts : ∀ w ∈ zTab, w.before args s = true) (hR : 2 ≤ R.frames ∧ 32 ≤ R.locals) (hN : iN s) (hK : va_K D vwCl (zT cA) s) (hA : ∀ q, s.heap.size ≤ q → A q) (hk : k < 8) (hfs : fs[0]? = some (.ref ra)) (hj : pl[j]? = some (ra, .inl (cA 2, 8, .inr (.inr (.inr (.inr f))))))
    (hP : va_P D vwCl ((h0, .inr (6, fs)) :: pl) H) (hD : va_D A ((h0, .inr (6, fs)) :: pl)) (hS : va_S A s.heap H locs) (hl : lv_has ls 2 [(1, .int (nI k)), (0, .ref h0)]) (hce : cells + 2 ≤ R.cells) (hsl : slots + 44 ≤ R.slots)
    (kk : ∀ (q : Nat) (u : Nat → Nat) (H1 : Heap) (locs1 : List Loc) (ls1 : Array Slot), va_P D vwCl ((h0, .inr (6, fs)) :: (pl.set j (ra, .inl (cA 2, 8, .inr (.inr (.inr (.inr (va_up f k (some q))))))) ++ bX4 cA q u)) H1 → va_D A ((h0, .inr (6, fs)) :: (pl.set j (ra, .inl (cA 2, 8, .inr (.inr (.inr (.inr (va_up f k (some q))))))) ++ bX4 cA q u)) → va_S A s.heap H1 locs1 → lv_has ls1 2 [(1, .int (nI (k + 1))), (0, .ref h0)] → W p l e R s m args below meth c H1 locs1 (cells + 2) (slots + 44) Q (F0 m 94 ls1 [])) : W p l e R s m args below meth c H locs cells slots Q (F0 m 94 ls []) := by
  have hjl : j < pl.length := (List.getElem?_eq_some_iff.mp hj).1
  refine lv_iload_n hx hb dX6_init_94 rfl (lv_at hl 0 rfl) ?_
  refine lv_bipush (v := 8) hx hb dX6_init_95 (by decide) ?_
  refine lv_icmp_ge (tgt := 119) hx hb dX6_init_97 (by decide) (fun h => absurd h ?_) (fun _ => ?_)
  · exact (by simp (disch := omega) only [nu_lt, nu_le, nu_eq, nu_cmp_lt, nu_cmp_gt, nu_cmp_ge, nu_cmp_le, nu_wide, Int32.toInt_add, Int32.toInt_sub, Int32.toInt_mul, nu_I, Nat.reducePow, nu_bm, Int32.reduceToInt, Int64.reduceToInt]; omega)
  refine lv_aload_n hx hb dX6_init_100 rfl (lv_at hl 1 rfl) ?_
  refine va_get (D := D) (ci := 6) (v := .ref ra) (C := RX6) (T := TX6) (N := 9) hx hb hts igX6 hown hK hP 0 rfl rfl 0 (by decide) (hts _ iw_1_216) (fun _ h9 => h9) hfs dX6_init_101 ?_
  refine lv_iload_n hx hb dX6_init_104 rfl (lv_at hl 0 rfl) ?_
  refine zi_mkN (ci := 4) (N := 4) (C := RX4) (T := TX4) (ty := tyX4) (own := RX6) (nL := 2) hx hb hml hown hts (cX4_ok l D cA) rfl igX4 tyX4_ok dfX4 iw_1_20 iw_1_194 iw_1_7 iw_1_197 iw_1_196 hN.1.2.2.2.2.2 rfl rfl (by decide +kernel) hR (fun _ _ _ _ _ => trivial) (fun _ _ => trivial) hK hP hD hS hA hl.1 (Nat.le_of_ble_eq_true rfl) (by omega) (by omega) dX6_init_105 dX6_init_108 dX6_init_109 (fun q u H1 locs1 hP1 hD1 hS1 => ?_)
  refine va_astq hx hb hK hP1 hD1 hS1 (j + 1) 2 (pl.length + 1) 4 (r := (RX4, TX4, 4)) (by show (pl ++ bX4 cA q u)[j]? = _; rw [List.getElem?_append_left hjl]; exact hj) rfl (by show (pl ++ bX4 cA q u)[pl.length]? = _; rw [List.getElem?_append_right (Nat.le_refl _), Nat.sub_self]; rfl) rfl (nI_in hk (by decide)) dX6_init_112 (fun H2 locs2 hP2 hD2 hS2 => ?_)
  have e9 : (((h0, .inr (6, fs)) :: pl : va_W) ++ bX4 cA q u).set (j + 1) (ra, .inl (cA 2, 8, .inr (.inr (.inr (.inr (va_up f (nI k).toNatClampNeg (some q))))))) = ((h0, .inr (6, fs)) :: (pl.set j (ra, .inl (cA 2, 8, .inr (.inr (.inr (.inr (va_up f k (some q))))))) ++ bX4 cA q u)) := by
    rw [nI_clamp (by omega)]
    show ((h0, .inr (6, fs)) :: (pl ++ bX4 cA q u).set j (ra, .inl (cA 2, 8, .inr (.inr (.inr (.inr (va_up f k (some q))))))) : va_W) = _
    rw [List.set_append_left _ _ hjl]
  rw [e9] at hP2 hD2
  refine lv_iinc (v := nI (k + 1)) (lv' := [(1, .int (nI (k + 1))), (0, .ref h0)]) hx hb dX6_init_113 hl (k := 0) rfl (nI_1 k) (by decide) rfl (fun ls1 hl1 => ?_)
  refine lv_goto (tgt := 94) hx hb dX6_init_116 (by decide) ?_
  refine W.widen (k := cells + 2) (n := slots + 44) (by omega) (by omega) ?_
  exact kk q u H2 locs2 ls1 hP2 hD2 hS2 hl1
set_option maxHeartbeats 4000000 in
set_option maxRecDepth 100000 in
theorem bb_img {f : Nat → Option Nat} {ra k j : Nat} {fs : List Value} {pl : va_W} (hx : p.tables.exec = Jvm.exec) (hb : c.code = cX6_init) (hml : c.maxLocals = 2) (hown : s.vm.findClass RX6 = some m.cls) (hts : ∀ w ∈ zTab, w.before args s = true) (hR : 2 ≤ R.frames ∧ 32 ≤ R.locals) (hN : iN s) (hK : va_K D vwCl (zT cA) s) (hA : ∀ q, s.heap.size ≤ q → A q) (hk : k < 2) (hfs : fs[4]? = some (.ref ra)) (hj : pl[j]? = some (ra, .inl (cA 3, 2, .inr (.inr (.inr (.inr f))))))
    (hP : va_P D vwCl ((h0, .inr (6, fs)) :: pl) H) (hD : va_D A ((h0, .inr (6, fs)) :: pl)) (hS : va_S A s.heap H locs) (hl : lv_has ls 2 [(1, .int (nI k)), (0, .ref h0)]) (hce : cells + 9 ≤ R.cells) (hsl : slots + 152 ≤ R.slots)
    (kk : ∀ (q : Nat) (u : Nat → Nat) (H1 : Heap) (locs1 : List Loc) (ls1 : Array Slot), va_P D vwCl ((h0, .inr (6, fs)) :: (pl.set j (ra, .inl (cA 3, 2, .inr (.inr (.inr (.inr (va_up f k (some q))))))) ++ bX3 cA q u)) H1 → va_D A ((h0, .inr (6, fs)) :: (pl.set j (ra, .inl (cA 3, 2, .inr (.inr (.inr (.inr (va_up f k (some q))))))) ++ bX3 cA q u)) → va_S A s.heap H1 locs1 → lv_has ls1 2 [(1, .int (nI (k + 1))), (0, .ref h0)] → W p l e R s m args below meth c H1 locs1 (cells + 9) (slots + 152) Q (F0 m 121 ls1 [])) : W p l e R s m args below meth c H locs cells slots Q (F0 m 121 ls []) := by
  have hjl : j < pl.length := (List.getElem?_eq_some_iff.mp hj).1
  refine lv_iload_n hx hb dX6_init_121 rfl (lv_at hl 0 rfl) ?_
  refine lv_iconst (v := 2) hx hb dX6_init_122 (by decide) ?_
  refine lv_icmp_ge (tgt := 145) hx hb dX6_init_123 (by decide) (fun h => absurd h ?_) (fun _ => ?_)
  · exact (by simp (disch := omega) only [nu_lt, nu_le, nu_eq, nu_cmp_lt, nu_cmp_gt, nu_cmp_ge, nu_cmp_le, nu_wide, Int32.toInt_add, Int32.toInt_sub, Int32.toInt_mul, nu_I, Nat.reducePow, nu_bm, Int32.reduceToInt, Int64.reduceToInt]; omega)
  refine lv_aload_n hx hb dX6_init_126 rfl (lv_at hl 1 rfl) ?_
  refine va_get (D := D) (ci := 6) (v := .ref ra) (C := RX6) (T := TX6) (N := 9) hx hb hts igX6 hown hK hP 0 rfl rfl 4 (by decide) (hts _ iw_1_220) (fun _ h9 => h9) hfs dX6_init_127 ?_
  refine lv_iload_n hx hb dX6_init_130 rfl (lv_at hl 0 rfl) ?_
  refine zi_mkN (ci := 3) (N := 14) (C := RX3) (T := TX3) (ty := tyX3) (own := RX6) (nL := 2) hx hb hml hown hts (cX3_ok l D cA) rfl igX3 tyX3_ok dfX3 iw_1_48 iw_1_49 iw_1_3 iw_1_52 iw_1_51 hN.1.2.1 rfl rfl (by decide +kernel) hR (fun _ _ _ _ _ => trivial) (fun _ _ => trivial) hK hP hD hS hA hl.1 (Nat.le_of_ble_eq_true rfl) (by omega) (by omega) dX6_init_131 dX6_init_134 dX6_init_135 (fun q u H1 locs1 hP1 hD1 hS1 => ?_)
  refine va_astq hx hb hK hP1 hD1 hS1 (j + 1) 3 (pl.length + 1) 3 (r := (RX3, TX3, 14)) (by show (pl ++ bX3 cA q u)[j]? = _; rw [List.getElem?_append_left hjl]; exact hj) rfl (by show (pl ++ bX3 cA q u)[pl.length]? = _; rw [List.getElem?_append_right (Nat.le_refl _), Nat.sub_self]; rfl) rfl (nI_in hk (by decide)) dX6_init_138 (fun H2 locs2 hP2 hD2 hS2 => ?_)
  have e9 : (((h0, .inr (6, fs)) :: pl : va_W) ++ bX3 cA q u).set (j + 1) (ra, .inl (cA 3, 2, .inr (.inr (.inr (.inr (va_up f (nI k).toNatClampNeg (some q))))))) = ((h0, .inr (6, fs)) :: (pl.set j (ra, .inl (cA 3, 2, .inr (.inr (.inr (.inr (va_up f k (some q))))))) ++ bX3 cA q u)) := by
    rw [nI_clamp (by omega)]
    show ((h0, .inr (6, fs)) :: (pl ++ bX3 cA q u).set j (ra, .inl (cA 3, 2, .inr (.inr (.inr (.inr (va_up f k (some q))))))) : va_W) = _
    rw [List.set_append_left _ _ hjl]
  rw [e9] at hP2 hD2
  refine lv_iinc (v := nI (k + 1)) (lv' := [(1, .int (nI (k + 1))), (0, .ref h0)]) hx hb dX6_init_139 hl (k := 0) rfl (nI_1 k) (by decide) rfl (fun ls1 hl1 => ?_)
  refine lv_goto (tgt := 121) hx hb dX6_init_142 (by decide) ?_
  refine W.widen (k := cells + 9) (n := slots + 152) (by omega) (by omega) ?_
  exact kk q u H2 locs2 ls1 hP2 hD2 hS2 hl1
end ZB
