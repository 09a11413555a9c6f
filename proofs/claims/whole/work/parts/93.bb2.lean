/-! THE CONSTRUCTOR of BeatBounds -/
def bX6g (cA : Nat → ClassId) (h0 : Nat) (u : Nat → Nat) (F2 F3 : Nat → Option Nat) : va_W := [(h0, .inr (6, [.ref (u 1), .ref (u 18), .ref (u 20), .ref (u 29), .ref (u 38), .ref (u 57), .ref (u 64), .ref (u 68), .int 0])),
  ((u 1), .inl (cA 2, 8, .inr (.inr (.inr (.inr F2))))),
  ((u 2), .inr (4, [.ref (u 3), .int 0, .int 0, .int 0])),
  ((u 3), .inl (cA 0, 40, .inl (fun _ => 0))),
  ((u 4), .inr (4, [.ref (u 5), .int 0, .int 0, .int 0])),
  ((u 5), .inl (cA 0, 40, .inl (fun _ => 0))),
  ((u 6), .inr (4, [.ref (u 7), .int 0, .int 0, .int 0])),
  ((u 7), .inl (cA 0, 40, .inl (fun _ => 0))),
  ((u 8), .inr (4, [.ref (u 9), .int 0, .int 0, .int 0])),
  ((u 9), .inl (cA 0, 40, .inl (fun _ => 0))),
  ((u 10), .inr (4, [.ref (u 11), .int 0, .int 0, .int 0])),
  ((u 11), .inl (cA 0, 40, .inl (fun _ => 0))),
  ((u 12), .inr (4, [.ref (u 13), .int 0, .int 0, .int 0])),
  ((u 13), .inl (cA 0, 40, .inl (fun _ => 0))),
  ((u 14), .inr (4, [.ref (u 15), .int 0, .int 0, .int 0])),
  ((u 15), .inl (cA 0, 40, .inl (fun _ => 0))),
  ((u 16), .inr (4, [.ref (u 17), .int 0, .int 0, .int 0])),
  ((u 17), .inl (cA 0, 40, .inl (fun _ => 0))),
  ((u 18), .inr (5, [.ref (u 19), .int 0, .int 0, .int 0, .int 0])),
  ((u 19), .inl (cA 0, 120, .inl (fun _ => 0))),
  ((u 20), .inr (3, [.int 0, .int 1, .int 1, .int 0, .int 0, .int 0, .ref (u 21), .ref (u 22), .ref (u 23), .ref (u 24), .ref (u 25), .ref (u 26), .ref (u 27), .ref (u 28)])),
  ((u 21), .inl (cA 0, 6, .inl (fun _ => 0))),
  ((u 22), .inl (cA 0, 6, .inl (fun _ => 0))),
  ((u 23), .inl (cA 0, 6, .inl (fun _ => 0))),
  ((u 24), .inl (cA 0, 6, .inl (fun _ => 0))),
  ((u 25), .inl (cA 0, 6, .inl (fun _ => 0))),
  ((u 26), .inl (cA 0, 36, .inl (fun _ => 0))),
  ((u 27), .inl (cA 0, 36, .inl (fun _ => 0))),
  ((u 28), .inl (cA 0, 36, .inl (fun _ => 0))),
  ((u 29), .inr (3, [.int 0, .int 1, .int 1, .int 0, .int 0, .int 0, .ref (u 30), .ref (u 31), .ref (u 32), .ref (u 33), .ref (u 34), .ref (u 35), .ref (u 36), .ref (u 37)])),
  ((u 30), .inl (cA 0, 6, .inl (fun _ => 0))),
  ((u 31), .inl (cA 0, 6, .inl (fun _ => 0))),
  ((u 32), .inl (cA 0, 6, .inl (fun _ => 0))),
  ((u 33), .inl (cA 0, 6, .inl (fun _ => 0))),
  ((u 34), .inl (cA 0, 6, .inl (fun _ => 0))),
  ((u 35), .inl (cA 0, 36, .inl (fun _ => 0))),
  ((u 36), .inl (cA 0, 36, .inl (fun _ => 0))),
  ((u 37), .inl (cA 0, 36, .inl (fun _ => 0))),
  ((u 38), .inl (cA 3, 2, .inr (.inr (.inr (.inr F3))))),
  ((u 39), .inr (3, [.int 0, .int 1, .int 1, .int 0, .int 0, .int 0, .ref (u 40), .ref (u 41), .ref (u 42), .ref (u 43), .ref (u 44), .ref (u 45), .ref (u 46), .ref (u 47)])),
  ((u 40), .inl (cA 0, 6, .inl (fun _ => 0))),
  ((u 41), .inl (cA 0, 6, .inl (fun _ => 0))),
  ((u 42), .inl (cA 0, 6, .inl (fun _ => 0))),
  ((u 43), .inl (cA 0, 6, .inl (fun _ => 0))),
  ((u 44), .inl (cA 0, 6, .inl (fun _ => 0))),
  ((u 45), .inl (cA 0, 36, .inl (fun _ => 0))),
  ((u 46), .inl (cA 0, 36, .inl (fun _ => 0))),
  ((u 47), .inl (cA 0, 36, .inl (fun _ => 0))),
  ((u 48), .inr (3, [.int 0, .int 1, .int 1, .int 0, .int 0, .int 0, .ref (u 49), .ref (u 50), .ref (u 51), .ref (u 52), .ref (u 53), .ref (u 54), .ref (u 55), .ref (u 56)])),
  ((u 49), .inl (cA 0, 6, .inl (fun _ => 0))),
  ((u 50), .inl (cA 0, 6, .inl (fun _ => 0))),
  ((u 51), .inl (cA 0, 6, .inl (fun _ => 0))),
  ((u 52), .inl (cA 0, 6, .inl (fun _ => 0))),
  ((u 53), .inl (cA 0, 6, .inl (fun _ => 0))),
  ((u 54), .inl (cA 0, 36, .inl (fun _ => 0))),
  ((u 55), .inl (cA 0, 36, .inl (fun _ => 0))),
  ((u 56), .inl (cA 0, 36, .inl (fun _ => 0))),
  ((u 57), .inr (0, [.int 0, .int 0, .ref (u 58), .ref (u 59), .ref (u 60), .ref (u 61), .ref (u 62), .ref (u 63)])),
  ((u 58), .inl (cA 0, 24, .inl (fun _ => 0))),
  ((u 59), .inl (cA 0, 24, .inl (fun _ => 0))),
  ((u 60), .inl (cA 0, 24, .inl (fun _ => 0))),
  ((u 61), .inl (cA 0, 144, .inl (fun _ => 0))),
  ((u 62), .inl (cA 0, 144, .inl (fun _ => 0))),
  ((u 63), .inl (cA 0, 144, .inl (fun _ => 0))),
  ((u 64), .inr (2, [.int 0, .ref (u 65), .ref (u 66), .ref (u 67)])),
  ((u 65), .inl (cA 0, 6, .inl (fun _ => 0))),
  ((u 66), .inl (cA 0, 6, .inl (fun _ => 0))),
  ((u 67), .inl (cA 0, 384, .inl (fun _ => 0))),
  ((u 68), .inr (1, [.ref (u 69), .int 0])),
  ((u 69), .inl (cA 0, 16, .inl (fun _ => 0)))]
def bX6 (cA : Nat → ClassId) (h0 : Nat) (u : Nat → Nat) : va_W := bX6g cA h0 u (va_up (va_up (va_up (va_up (va_up (va_up (va_up (va_up (fun _ => none) 0 (some (u 2))) 1 (some (u 4))) 2 (some (u 6))) 3 (some (u 8))) 4 (some (u 10))) 5 (some (u 12))) 6 (some (u 14))) 7 (some (u 16))) (va_up (va_up (fun _ => none) 0 (some (u 39))) 1 (some (u 48)))
set_option maxHeartbeats 4000000 in
set_option maxRecDepth 100000 in
theorem cX6_ok (l : Launch) (D : va_G) (cA : Nat → ClassId) : iMet l D cA iN yX6_init cX6_init 2 2 32 69 2025 6 fX6 (bX6 cA) := by
  intro h0 sz
  refine Met.ofW (cc := cX6_init) (maxL := 2) (ret := none) (by decide) rfl ?_
  intro p e s m args below meth c s₁ B hml hv
  obtain ⟨rfl, hsz, hP, hK, hN, hD0⟩ := hv
  have hx := B.exec
  have hb := B.bytes
  have hr := B.returns
  have hts0 := atoms_spec (ws := zws (yX6_init, cX6_init, 2, none)) B.pre
  have hts : ∀ w ∈ zTab, w.before _ s = true := fun w h => hts0 w (List.mem_cons_of_mem _ h)
  have hown : s.vm.findClass RX6 = some m.cls := findClass_of_methodNamed B.named
  have hlocks := B.notSynchronized
  have hin : meth.name = "<init>" := (name_of_methodNamed B.named B.method).1
  have hR : 2 ≤ (headSpec (zws (yX6_init, cX6_init, 2, none)) ({ frames := 2, cells := 69, slots := 2025, locals := 32 } : Room)).room.frames ∧ 32 ≤ (headSpec (zws (yX6_init, cX6_init, 2, none)) ({ frames := 2, cells := 69, slots := 2025, locals := 32 } : Room)).room.locals := ⟨Nat.le_refl 2, Nat.le_refl 32⟩
  subst hsz
  have hD := hD0.self (sz := s.heap.size)
  obtain ⟨A, hAe⟩ : ∃ A, va_A [(h0, .inr (6, fX6))] s.heap.size = A := ⟨_, rfl⟩
  rw [hAe] at hD
  have hA : ∀ q : Nat, s.heap.size ≤ q → A q := fun q h => by rw [← hAe]; exact Or.inr h
  have hS : va_S A s.heap s.heap [] := va_S.rf
  have hl := lv_entry ([.ref h0]) (n := 2) (Nat.le_of_ble_eq_true rfl)
  rw [lg_entry_eq]
  generalize (lg_sl ([.ref h0]) ++ List.replicate (2 - (lg_sl ([.ref h0])).length) Slot.unset).toArray = ls at hl ⊢
  have hl : lv_has ls 2 [(0, .ref h0)] := hl
  have hP : va_P D vwCl ((h0, .inr (6, [.null, .null, .null, .null, .null, .null, .null, .null, .int 0])) :: (([] : va_W))) s.heap := hP
  have hD : va_D A ((h0, .inr (6, [.null, .null, .null, .null, .null, .null, .null, .null, .int 0])) :: (([] : va_W))) := hD
  refine lv_aload_n hx hb dX6_init_0 rfl (lv_at hl 0 rfl) ?_
  refine W.objInit hx hb hown (hts _ iw_1_17) (hts _ iw_1_18) (hts _ io_code) rfl (by rw [hml]; exact hl.1) rfl dX6_init_1 (Nat.le_of_ble_eq_true rfl) (Nat.le_of_ble_eq_true rfl) ?_
  refine W.eq (g2 := F0 m 4 ls []) rfl ?_
  refine lv_aload_n hx hb dX6_init_4 rfl (lv_at hl 0 rfl) ?_
  refine lv_bipush (v := 8) hx hb dX6_init_5 (by decide) ?_
  refine zi_newq (own := RX6) (C := "BeatBounds$Row") (c0 := cA 2) (N' := 8) hx hb hown (hts _ iw_1_20) hN.2.1 2 hK rfl hP hD hS hA (by decide) (by decide) (by decide) (Nat.le_of_ble_eq_true rfl) (Nat.le_of_ble_eq_true rfl) dX6_init_7 (fun ra H hP hD hS => ?_)
  have hP : va_P D vwCl ((h0, .inr (6, [.null, .null, .null, .null, .null, .null, .null, .null, .int 0])) :: (([] : va_W) ++ [(ra, .inl (cA 2, 8, .inr (.inr (.inr (.inr (fun _ => none))))))])) H := hP
  have hD : va_D A ((h0, .inr (6, [.null, .null, .null, .null, .null, .null, .null, .null, .int 0])) :: (([] : va_W) ++ [(ra, .inl (cA 2, 8, .inr (.inr (.inr (.inr (fun _ => none))))))])) := hD
  refine W.widen (k := 1) (n := 8) (by omega) (by omega) ?_
  refine va_putF (D := D) (ci := 6) (v := .ref ra) (ty := .array (.object "BeatBounds$Row")) (C := RX6) (T := TX6) (N := 9) hx hb hts igX6 tyX6 tyX6_ok nmX6 hown hK hP hD hS 0 rfl rfl 0 (by decide) (hts _ iw_1_216) (fun _ h9 => h9) rfl hin rfl (by decide +kernel) rfl rfl (Nat.le_of_ble_eq_true rfl) dX6_init_10 (fun H locs hP hD hS => ?_)
  have hP : va_P D vwCl ((h0, .inr (6, [.ref ra, .null, .null, .null, .null, .null, .null, .null, .int 0])) :: (([] : va_W) ++ [(ra, .inl (cA 2, 8, .inr (.inr (.inr (.inr (fun _ => none))))))])) H := hP
  have hD : va_D A ((h0, .inr (6, [.ref ra, .null, .null, .null, .null, .null, .null, .null, .int 0])) :: (([] : va_W) ++ [(ra, .inl (cA 2, 8, .inr (.inr (.inr (.inr (fun _ => none))))))])) := hD
  refine lv_aload_n hx hb dX6_init_13 rfl (lv_at hl 0 rfl) ?_
  refine zi_mkN (ci := 5) (N := 5) (C := RX5) (T := TX5) (ty := tyX5) (own := RX6) (nL := 2) hx hb hml hown hts (cX5_ok l D cA) rfl igX5 tyX5_ok dfX5 iw_1_22 iw_1_23 iw_1_2 iw_1_26 iw_1_25 hN.1.1 rfl rfl (by decide +kernel) hR (fun _ _ _ _ _ => trivial) (fun _ _ => trivial) hK hP hD hS hA hl.1 (Nat.le_of_ble_eq_true rfl) (Nat.le_of_ble_eq_true rfl) (Nat.le_of_ble_eq_true rfl) dX6_init_14 dX6_init_17 dX6_init_18 (fun qt ut H locs hP hD hS => ?_)
  have hP : va_P D vwCl ((h0, .inr (6, [.ref ra, .null, .null, .null, .null, .null, .null, .null, .int 0])) :: (([] : va_W) ++ [(ra, .inl (cA 2, 8, .inr (.inr (.inr (.inr (fun _ => none))))))] ++ bX5 cA qt ut)) H := hP
  have hD : va_D A ((h0, .inr (6, [.ref ra, .null, .null, .null, .null, .null, .null, .null, .int 0])) :: (([] : va_W) ++ [(ra, .inl (cA 2, 8, .inr (.inr (.inr (.inr (fun _ => none))))))] ++ bX5 cA qt ut)) := hD
  refine W.widen (k := 3) (n := 133) (by omega) (by omega) ?_
  refine va_putF (D := D) (ci := 6) (v := .ref qt) (ty := .object "BeatBounds$Tape") (C := RX6) (T := TX6) (N := 9) hx hb hts igX6 tyX6 tyX6_ok nmX6 hown hK hP hD hS 0 rfl rfl 1 (by decide) (hts _ iw_1_217) (fun _ h9 => h9) rfl hin rfl (by decide +kernel) rfl rfl (Nat.le_of_ble_eq_true rfl) dX6_init_21 (fun H locs hP hD hS => ?_)
  have hP : va_P D vwCl ((h0, .inr (6, [.ref ra, .ref qt, .null, .null, .null, .null, .null, .null, .int 0])) :: (([] : va_W) ++ [(ra, .inl (cA 2, 8, .inr (.inr (.inr (.inr (fun _ => none))))))] ++ bX5 cA qt ut)) H := hP
  have hD : va_D A ((h0, .inr (6, [.ref ra, .ref qt, .null, .null, .null, .null, .null, .null, .int 0])) :: (([] : va_W) ++ [(ra, .inl (cA 2, 8, .inr (.inr (.inr (.inr (fun _ => none))))))] ++ bX5 cA qt ut)) := hD
  refine lv_aload_n hx hb dX6_init_24 rfl (lv_at hl 0 rfl) ?_
  refine zi_mkN (ci := 3) (N := 14) (C := RX3) (T := TX3) (ty := tyX3) (own := RX6) (nL := 2) hx hb hml hown hts (cX3_ok l D cA) rfl igX3 tyX3_ok dfX3 iw_1_48 iw_1_49 iw_1_3 iw_1_52 iw_1_51 hN.1.2.1 rfl rfl (by decide +kernel) hR (fun _ _ _ _ _ => trivial) (fun _ _ => trivial) hK hP hD hS hA hl.1 (Nat.le_of_ble_eq_true rfl) (Nat.le_of_ble_eq_true rfl) (Nat.le_of_ble_eq_true rfl) dX6_init_25 dX6_init_28 dX6_init_29 (fun qn un H locs hP hD hS => ?_)
  have hP : va_P D vwCl ((h0, .inr (6, [.ref ra, .ref qt, .null, .null, .null, .null, .null, .null, .int 0])) :: (([] : va_W) ++ [(ra, .inl (cA 2, 8, .inr (.inr (.inr (.inr (fun _ => none))))))] ++ bX5 cA qt ut ++ bX3 cA qn un)) H := hP
  have hD : va_D A ((h0, .inr (6, [.ref ra, .ref qt, .null, .null, .null, .null, .null, .null, .int 0])) :: (([] : va_W) ++ [(ra, .inl (cA 2, 8, .inr (.inr (.inr (.inr (fun _ => none))))))] ++ bX5 cA qt ut ++ bX3 cA qn un)) := hD
  refine W.widen (k := 12) (n := 285) (by omega) (by omega) ?_
  refine va_putF (D := D) (ci := 6) (v := .ref qn) (ty := .object "BeatBounds$Parish") (C := RX6) (T := TX6) (N := 9) hx hb hts igX6 tyX6 tyX6_ok nmX6 hown hK hP hD hS 0 rfl rfl 2 (by decide) (hts _ iw_1_218) (fun _ h9 => h9) rfl hin rfl (by decide +kernel) rfl rfl (Nat.le_of_ble_eq_true rfl) dX6_init_32 (fun H locs hP hD hS => ?_)
  have hP : va_P D vwCl ((h0, .inr (6, [.ref ra, .ref qt, .ref qn, .null, .null, .null, .null, .null, .int 0])) :: (([] : va_W) ++ [(ra, .inl (cA 2, 8, .inr (.inr (.inr (.inr (fun _ => none))))))] ++ bX5 cA qt ut ++ bX3 cA qn un)) H := hP
  have hD : va_D A ((h0, .inr (6, [.ref ra, .ref qt, .ref qn, .null, .null, .null, .null, .null, .int 0])) :: (([] : va_W) ++ [(ra, .inl (cA 2, 8, .inr (.inr (.inr (.inr (fun _ => none))))))] ++ bX5 cA qt ut ++ bX3 cA qn un)) := hD
  refine lv_aload_n hx hb dX6_init_35 rfl (lv_at hl 0 rfl) ?_
  refine zi_mkN (ci := 3) (N := 14) (C := RX3) (T := TX3) (ty := tyX3) (own := RX6) (nL := 2) hx hb hml hown hts (cX3_ok l D cA) rfl igX3 tyX3_ok dfX3 iw_1_48 iw_1_49 iw_1_3 iw_1_52 iw_1_51 hN.1.2.1 rfl rfl (by decide +kernel) hR (fun _ _ _ _ _ => trivial) (fun _ _ => trivial) hK hP hD hS hA hl.1 (Nat.le_of_ble_eq_true rfl) (Nat.le_of_ble_eq_true rfl) (Nat.le_of_ble_eq_true rfl) dX6_init_36 dX6_init_39 dX6_init_40 (fun qr ur H locs hP hD hS => ?_)
  have hP : va_P D vwCl ((h0, .inr (6, [.ref ra, .ref qt, .ref qn, .null, .null, .null, .null, .null, .int 0])) :: (([] : va_W) ++ [(ra, .inl (cA 2, 8, .inr (.inr (.inr (.inr (fun _ => none))))))] ++ bX5 cA qt ut ++ bX3 cA qn un ++ bX3 cA qr ur)) H := hP
  have hD : va_D A ((h0, .inr (6, [.ref ra, .ref qt, .ref qn, .null, .null, .null, .null, .null, .int 0])) :: (([] : va_W) ++ [(ra, .inl (cA 2, 8, .inr (.inr (.inr (.inr (fun _ => none))))))] ++ bX5 cA qt ut ++ bX3 cA qn un ++ bX3 cA qr ur)) := hD
  refine W.widen (k := 21) (n := 437) (by omega) (by omega) ?_
  refine va_putF (D := D) (ci := 6) (v := .ref qr) (ty := .object "BeatBounds$Parish") (C := RX6) (T := TX6) (N := 9) hx hb hts igX6 tyX6 tyX6_ok nmX6 hown hK hP hD hS 0 rfl rfl 3 (by decide) (hts _ iw_1_219) (fun _ h9 => h9) rfl hin rfl (by decide +kernel) rfl rfl (Nat.le_of_ble_eq_true rfl) dX6_init_43 (fun H locs hP hD hS => ?_)
  have hP : va_P D vwCl ((h0, .inr (6, [.ref ra, .ref qt, .ref qn, .ref qr, .null, .null, .null, .null, .int 0])) :: (([] : va_W) ++ [(ra, .inl (cA 2, 8, .inr (.inr (.inr (.inr (fun _ => none))))))] ++ bX5 cA qt ut ++ bX3 cA qn un ++ bX3 cA qr ur)) H := hP
  have hD : va_D A ((h0, .inr (6, [.ref ra, .ref qt, .ref qn, .ref qr, .null, .null, .null, .null, .int 0])) :: (([] : va_W) ++ [(ra, .inl (cA 2, 8, .inr (.inr (.inr (.inr (fun _ => none))))))] ++ bX5 cA qt ut ++ bX3 cA qn un ++ bX3 cA qr ur)) := hD
  refine lv_aload_n hx hb dX6_init_46 rfl (lv_at hl 0 rfl) ?_
  refine lv_iconst (v := 2) hx hb dX6_init_47 (by decide) ?_
  refine zi_newq (own := RX6) (C := "BeatBounds$Parish") (c0 := cA 3) (N' := 2) hx hb hown (hts _ iw_1_48) hN.2.2 3 hK rfl hP hD hS hA (by decide) (by decide) (by decide) (Nat.le_of_ble_eq_true rfl) (Nat.le_of_ble_eq_true rfl) dX6_init_48 (fun ri H hP hD hS => ?_)
  have hP : va_P D vwCl ((h0, .inr (6, [.ref ra, .ref qt, .ref qn, .ref qr, .null, .null, .null, .null, .int 0])) :: (([] : va_W) ++ [(ra, .inl (cA 2, 8, .inr (.inr (.inr (.inr (fun _ => none))))))] ++ bX5 cA qt ut ++ bX3 cA qn un ++ bX3 cA qr ur ++ [(ri, .inl (cA 3, 2, .inr (.inr (.inr (.inr (fun _ => none))))))])) H := hP
  have hD : va_D A ((h0, .inr (6, [.ref ra, .ref qt, .ref qn, .ref qr, .null, .null, .null, .null, .int 0])) :: (([] : va_W) ++ [(ra, .inl (cA 2, 8, .inr (.inr (.inr (.inr (fun _ => none))))))] ++ bX5 cA qt ut ++ bX3 cA qn un ++ bX3 cA qr ur ++ [(ri, .inl (cA 3, 2, .inr (.inr (.inr (.inr (fun _ => none))))))])) := hD
  refine W.widen (k := 22) (n := 439) (by omega) (by omega) ?_
  refine va_putF (D := D) (ci := 6) (v := .ref ri) (ty := .array (.object "BeatBounds$Parish")) (C := RX6) (T := TX6) (N := 9) hx hb hts igX6 tyX6 tyX6_ok nmX6 hown hK hP hD hS 0 rfl rfl 4 (by decide) (hts _ iw_1_220) (fun _ h9 => h9) rfl hin rfl (by decide +kernel) rfl rfl (Nat.le_of_ble_eq_true rfl) dX6_init_51 (fun H locs hP hD hS => ?_)
  have hP : va_P D vwCl ((h0, .inr (6, [.ref ra, .ref qt, .ref qn, .ref qr, .ref ri, .null, .null, .null, .int 0])) :: (([] : va_W) ++ [(ra, .inl (cA 2, 8, .inr (.inr (.inr (.inr (fun _ => none))))))] ++ bX5 cA qt ut ++ bX3 cA qn un ++ bX3 cA qr ur ++ [(ri, .inl (cA 3, 2, .inr (.inr (.inr (.inr (fun _ => none))))))])) H := hP
  have hD : va_D A ((h0, .inr (6, [.ref ra, .ref qt, .ref qn, .ref qr, .ref ri, .null, .null, .null, .int 0])) :: (([] : va_W) ++ [(ra, .inl (cA 2, 8, .inr (.inr (.inr (.inr (fun _ => none))))))] ++ bX5 cA qt ut ++ bX3 cA qn un ++ bX3 cA qr ur ++ [(ri, .inl (cA 3, 2, .inr (.inr (.inr (.inr (fun _ => none))))))])) := hD
  refine lv_aload_n hx hb dX6_init_54 rfl (lv_at hl 0 rfl) ?_
  refine zi_mkN (ci := 0) (N := 8) (C := RX0) (T := TX0) (ty := tyX0) (own := RX6) (nL := 2) hx hb hml hown hts (cX0_ok l D cA) rfl igX0 tyX0_ok dfX0 iw_1_127 iw_1_128 iw_1_4 iw_1_131 iw_1_130 hN.1.2.2.1 rfl rfl (by decide +kernel) hR (fun _ _ _ _ _ => trivial) (fun _ _ => trivial) hK hP hD hS hA hl.1 (Nat.le_of_ble_eq_true rfl) (Nat.le_of_ble_eq_true rfl) (Nat.le_of_ble_eq_true rfl) dX6_init_55 dX6_init_58 dX6_init_59 (fun qa ua H locs hP hD hS => ?_)
  have hP : va_P D vwCl ((h0, .inr (6, [.ref ra, .ref qt, .ref qn, .ref qr, .ref ri, .null, .null, .null, .int 0])) :: (([] : va_W) ++ [(ra, .inl (cA 2, 8, .inr (.inr (.inr (.inr (fun _ => none))))))] ++ bX5 cA qt ut ++ bX3 cA qn un ++ bX3 cA qr ur ++ [(ri, .inl (cA 3, 2, .inr (.inr (.inr (.inr (fun _ => none))))))] ++ bX0 cA qa ua)) H := hP
  have hD : va_D A ((h0, .inr (6, [.ref ra, .ref qt, .ref qn, .ref qr, .ref ri, .null, .null, .null, .int 0])) :: (([] : va_W) ++ [(ra, .inl (cA 2, 8, .inr (.inr (.inr (.inr (fun _ => none))))))] ++ bX5 cA qt ut ++ bX3 cA qn un ++ bX3 cA qr ur ++ [(ri, .inl (cA 3, 2, .inr (.inr (.inr (.inr (fun _ => none))))))] ++ bX0 cA qa ua)) := hD
  refine W.widen (k := 29) (n := 951) (by omega) (by omega) ?_
  refine va_putF (D := D) (ci := 6) (v := .ref qa) (ty := .object "BeatBounds$Acts") (C := RX6) (T := TX6) (N := 9) hx hb hts igX6 tyX6 tyX6_ok nmX6 hown hK hP hD hS 0 rfl rfl 5 (by decide) (hts _ iw_1_221) (fun _ h9 => h9) rfl hin rfl (by decide +kernel) rfl rfl (Nat.le_of_ble_eq_true rfl) dX6_init_62 (fun H locs hP hD hS => ?_)
  have hP : va_P D vwCl ((h0, .inr (6, [.ref ra, .ref qt, .ref qn, .ref qr, .ref ri, .ref qa, .null, .null, .int 0])) :: (([] : va_W) ++ [(ra, .inl (cA 2, 8, .inr (.inr (.inr (.inr (fun _ => none))))))] ++ bX5 cA qt ut ++ bX3 cA qn un ++ bX3 cA qr ur ++ [(ri, .inl (cA 3, 2, .inr (.inr (.inr (.inr (fun _ => none))))))] ++ bX0 cA qa ua)) H := hP
  have hD : va_D A ((h0, .inr (6, [.ref ra, .ref qt, .ref qn, .ref qr, .ref ri, .ref qa, .null, .null, .int 0])) :: (([] : va_W) ++ [(ra, .inl (cA 2, 8, .inr (.inr (.inr (.inr (fun _ => none))))))] ++ bX5 cA qt ut ++ bX3 cA qn un ++ bX3 cA qr ur ++ [(ri, .inl (cA 3, 2, .inr (.inr (.inr (.inr (fun _ => none))))))] ++ bX0 cA qa ua)) := hD
  refine lv_aload_n hx hb dX6_init_65 rfl (lv_at hl 0 rfl) ?_
  refine zi_mkN (ci := 2) (N := 4) (C := RX2) (T := TX2) (ty := tyX2) (own := RX6) (nL := 2) hx hb hml hown hts (cX2_ok l D cA) rfl igX2 tyX2_ok dfX2 iw_1_159 iw_1_160 iw_1_5 iw_1_163 iw_1_162 hN.1.2.2.2.1 rfl rfl (by decide +kernel) hR (fun _ _ _ _ _ => trivial) (fun _ _ => trivial) hK hP hD hS hA hl.1 (Nat.le_of_ble_eq_true rfl) (Nat.le_of_ble_eq_true rfl) (Nat.le_of_ble_eq_true rfl) dX6_init_66 dX6_init_69 dX6_init_70 (fun qo uo H locs hP hD hS => ?_)
  have hP : va_P D vwCl ((h0, .inr (6, [.ref ra, .ref qt, .ref qn, .ref qr, .ref ri, .ref qa, .null, .null, .int 0])) :: (([] : va_W) ++ [(ra, .inl (cA 2, 8, .inr (.inr (.inr (.inr (fun _ => none))))))] ++ bX5 cA qt ut ++ bX3 cA qn un ++ bX3 cA qr ur ++ [(ri, .inl (cA 3, 2, .inr (.inr (.inr (.inr (fun _ => none))))))] ++ bX0 cA qa ua ++ bX2 cA qo uo)) H := hP
  have hD : va_D A ((h0, .inr (6, [.ref ra, .ref qt, .ref qn, .ref qr, .ref ri, .ref qa, .null, .null, .int 0])) :: (([] : va_W) ++ [(ra, .inl (cA 2, 8, .inr (.inr (.inr (.inr (fun _ => none))))))] ++ bX5 cA qt ut ++ bX3 cA qn un ++ bX3 cA qr ur ++ [(ri, .inl (cA 3, 2, .inr (.inr (.inr (.inr (fun _ => none))))))] ++ bX0 cA qa ua ++ bX2 cA qo uo)) := hD
  refine W.widen (k := 33) (n := 1351) (by omega) (by omega) ?_
  refine va_putF (D := D) (ci := 6) (v := .ref qo) (ty := .object "BeatBounds$Oaths") (C := RX6) (T := TX6) (N := 9) hx hb hts igX6 tyX6 tyX6_ok nmX6 hown hK hP hD hS 0 rfl rfl 6 (by decide) (hts _ iw_1_222) (fun _ h9 => h9) rfl hin rfl (by decide +kernel) rfl rfl (Nat.le_of_ble_eq_true rfl) dX6_init_73 (fun H locs hP hD hS => ?_)
  have hP : va_P D vwCl ((h0, .inr (6, [.ref ra, .ref qt, .ref qn, .ref qr, .ref ri, .ref qa, .ref qo, .null, .int 0])) :: (([] : va_W) ++ [(ra, .inl (cA 2, 8, .inr (.inr (.inr (.inr (fun _ => none))))))] ++ bX5 cA qt ut ++ bX3 cA qn un ++ bX3 cA qr ur ++ [(ri, .inl (cA 3, 2, .inr (.inr (.inr (.inr (fun _ => none))))))] ++ bX0 cA qa ua ++ bX2 cA qo uo)) H := hP
  have hD : va_D A ((h0, .inr (6, [.ref ra, .ref qt, .ref qn, .ref qr, .ref ri, .ref qa, .ref qo, .null, .int 0])) :: (([] : va_W) ++ [(ra, .inl (cA 2, 8, .inr (.inr (.inr (.inr (fun _ => none))))))] ++ bX5 cA qt ut ++ bX3 cA qn un ++ bX3 cA qr ur ++ [(ri, .inl (cA 3, 2, .inr (.inr (.inr (.inr (fun _ => none))))))] ++ bX0 cA qa ua ++ bX2 cA qo uo)) := hD
  refine lv_aload_n hx hb dX6_init_76 rfl (lv_at hl 0 rfl) ?_
  refine zi_mkN (ci := 1) (N := 2) (C := RX1) (T := TX1) (ty := tyX1) (own := RX6) (nL := 2) hx hb hml hown hts (cX1_ok l D cA) rfl igX1 tyX1_ok dfX1 iw_1_179 iw_1_180 iw_1_6 iw_1_183 iw_1_182 hN.1.2.2.2.2.1 rfl rfl (by decide +kernel) hR (fun _ _ _ _ _ => trivial) (fun _ _ => trivial) hK hP hD hS hA hl.1 (Nat.le_of_ble_eq_true rfl) (Nat.le_of_ble_eq_true rfl) (Nat.le_of_ble_eq_true rfl) dX6_init_77 dX6_init_80 dX6_init_81 (fun qk uk H locs hP hD hS => ?_)
  have hP : va_P D vwCl ((h0, .inr (6, [.ref ra, .ref qt, .ref qn, .ref qr, .ref ri, .ref qa, .ref qo, .null, .int 0])) :: (([] : va_W) ++ [(ra, .inl (cA 2, 8, .inr (.inr (.inr (.inr (fun _ => none))))))] ++ bX5 cA qt ut ++ bX3 cA qn un ++ bX3 cA qr ur ++ [(ri, .inl (cA 3, 2, .inr (.inr (.inr (.inr (fun _ => none))))))] ++ bX0 cA qa ua ++ bX2 cA qo uo ++ bX1 cA qk uk)) H := hP
  have hD : va_D A ((h0, .inr (6, [.ref ra, .ref qt, .ref qn, .ref qr, .ref ri, .ref qa, .ref qo, .null, .int 0])) :: (([] : va_W) ++ [(ra, .inl (cA 2, 8, .inr (.inr (.inr (.inr (fun _ => none))))))] ++ bX5 cA qt ut ++ bX3 cA qn un ++ bX3 cA qr ur ++ [(ri, .inl (cA 3, 2, .inr (.inr (.inr (.inr (fun _ => none))))))] ++ bX0 cA qa ua ++ bX2 cA qo uo ++ bX1 cA qk uk)) := hD
  refine W.widen (k := 35) (n := 1369) (by omega) (by omega) ?_
  refine va_putF (D := D) (ci := 6) (v := .ref qk) (ty := .object "BeatBounds$Asks") (C := RX6) (T := TX6) (N := 9) hx hb hts igX6 tyX6 tyX6_ok nmX6 hown hK hP hD hS 0 rfl rfl 7 (by decide) (hts _ iw_1_223) (fun _ h9 => h9) rfl hin rfl (by decide +kernel) rfl rfl (Nat.le_of_ble_eq_true rfl) dX6_init_84 (fun H locs hP hD hS => ?_)
  have hP : va_P D vwCl ((h0, .inr (6, [.ref ra, .ref qt, .ref qn, .ref qr, .ref ri, .ref qa, .ref qo, .ref qk, .int 0])) :: (([] : va_W) ++ [(ra, .inl (cA 2, 8, .inr (.inr (.inr (.inr (fun _ => none))))))] ++ bX5 cA qt ut ++ bX3 cA qn un ++ bX3 cA qr ur ++ [(ri, .inl (cA 3, 2, .inr (.inr (.inr (.inr (fun _ => none))))))] ++ bX0 cA qa ua ++ bX2 cA qo uo ++ bX1 cA qk uk)) H := hP
  have hD : va_D A ((h0, .inr (6, [.ref ra, .ref qt, .ref qn, .ref qr, .ref ri, .ref qa, .ref qo, .ref qk, .int 0])) :: (([] : va_W) ++ [(ra, .inl (cA 2, 8, .inr (.inr (.inr (.inr (fun _ => none))))))] ++ bX5 cA qt ut ++ bX3 cA qn un ++ bX3 cA qr ur ++ [(ri, .inl (cA 3, 2, .inr (.inr (.inr (.inr (fun _ => none))))))] ++ bX0 cA qa ua ++ bX2 cA qo uo ++ bX1 cA qk uk)) := hD
  refine lv_aload_n hx hb dX6_init_87 rfl (lv_at hl 0 rfl) ?_
  refine lv_iconst (v := 0) hx hb dX6_init_88 (by decide) ?_
  refine va_put (D := D) (ci := 6) (v := .int 0) (ty := .int) (C := RX6) (T := TX6) (N := 9) hx hb hts igX6 tyX6 tyX6_ok nmX6 hown hK hP hD hS 0 rfl rfl 8 (by decide) (hts _ iw_1_224) (fun _ h9 => h9) rfl (by decide +kernel) rfl rfl (Nat.le_of_ble_eq_true rfl) dX6_init_89 (fun H locs hP hD hS => ?_)
  have hP : va_P D vwCl ((h0, .inr (6, [.ref ra, .ref qt, .ref qn, .ref qr, .ref ri, .ref qa, .ref qo, .ref qk, .int 0])) :: (([] : va_W) ++ [(ra, .inl (cA 2, 8, .inr (.inr (.inr (.inr (fun _ => none))))))] ++ bX5 cA qt ut ++ bX3 cA qn un ++ bX3 cA qr ur ++ [(ri, .inl (cA 3, 2, .inr (.inr (.inr (.inr (fun _ => none))))))] ++ bX0 cA qa ua ++ bX2 cA qo uo ++ bX1 cA qk uk)) H := hP
  have hD : va_D A ((h0, .inr (6, [.ref ra, .ref qt, .ref qn, .ref qr, .ref ri, .ref qa, .ref qo, .ref qk, .int 0])) :: (([] : va_W) ++ [(ra, .inl (cA 2, 8, .inr (.inr (.inr (.inr (fun _ => none))))))] ++ bX5 cA qt ut ++ bX3 cA qn un ++ bX3 cA qr ur ++ [(ri, .inl (cA 3, 2, .inr (.inr (.inr (.inr (fun _ => none))))))] ++ bX0 cA qa ua ++ bX2 cA qo uo ++ bX1 cA qk uk)) := hD
  refine lv_iconst (v := 0) hx hb dX6_init_92 (by decide) ?_
  refine lv_istore_n (lv' := [(1, .int 0), (0, .ref h0)]) hx hb dX6_init_93 rfl hl (by decide) rfl (fun ls hl => ?_)
  have hl : lv_has ls 2 [(1, .int (nI 0)), (0, .ref h0)] := hl
  have hP : va_P D vwCl ((h0, .inr (6, [.ref ra, .ref qt, .ref qn, .ref qr, .ref ri, .ref qa, .ref qo, .ref qk, .int 0])) :: (ra, .inl (cA 2, 8, .inr (.inr (.inr (.inr (fun _ => none)))))) :: (ri, .inl (cA 3, 2, .inr (.inr (.inr (.inr (fun _ => none)))))) :: (bX5 cA qt ut ++ (bX3 cA qn un ++ (bX3 cA qr ur ++ (bX0 cA qa ua ++ (bX2 cA qo uo ++ bX1 cA qk uk)))))) H := hP.sub [0, 1, 22, 2, 3, 4, 5, 6, 7, 8, 9, 10, 11, 12, 13, 14, 15, 16, 17, 18, 19, 20, 21, 23, 24, 25, 26, 27, 28, 29, 30, 31, 32, 33, 34, 35] rfl
  have hD : va_D A ((h0, .inr (6, [.ref ra, .ref qt, .ref qn, .ref qr, .ref ri, .ref qa, .ref qo, .ref qk, .int 0])) :: (ra, .inl (cA 2, 8, .inr (.inr (.inr (.inr (fun _ => none)))))) :: (ri, .inl (cA 3, 2, .inr (.inr (.inr (.inr (fun _ => none)))))) :: (bX5 cA qt ut ++ (bX3 cA qn un ++ (bX3 cA qr ur ++ (bX0 cA qa ua ++ (bX2 cA qo uo ++ bX1 cA qk uk)))))) := hD.sub [0, 1, 22, 2, 3, 4, 5, 6, 7, 8, 9, 10, 11, 12, 13, 14, 15, 16, 17, 18, 19, 20, 21, 23, 24, 25, 26, 27, 28, 29, 30, 31, 32, 33, 34, 35] (by decide) rfl
  obtain ⟨pl, hq_pl⟩ : ∃ z, (bX5 cA qt ut ++ (bX3 cA qn un ++ (bX3 cA qr ur ++ (bX0 cA qa ua ++ (bX2 cA qo uo ++ bX1 cA qk uk))))) = z := ⟨_, rfl⟩
  rw [hq_pl] at hP hD
  refine bb_row (k := 0) (j := 0) (f := (fun _ => none)) (ra := ra) hx hb hml hown hts hR hN hK hA (by decide) rfl rfl hP hD hS hl (Nat.le_of_ble_eq_true rfl) (Nat.le_of_ble_eq_true rfl) (fun r0 v0 H locs ls hP hD hS hl => ?_)
  have hP : va_P D vwCl ((h0, .inr (6, [.ref ra, .ref qt, .ref qn, .ref qr, .ref ri, .ref qa, .ref qo, .ref qk, .int 0])) :: (ra, .inl (cA 2, 8, .inr (.inr (.inr (.inr (va_up (fun _ => none) 0 (some r0))))))) :: (ri, .inl (cA 3, 2, .inr (.inr (.inr (.inr (fun _ => none)))))) :: (pl ++ bX4 cA r0 v0)) H := hP
  have hD : va_D A ((h0, .inr (6, [.ref ra, .ref qt, .ref qn, .ref qr, .ref ri, .ref qa, .ref qo, .ref qk, .int 0])) :: (ra, .inl (cA 2, 8, .inr (.inr (.inr (.inr (va_up (fun _ => none) 0 (some r0))))))) :: (ri, .inl (cA 3, 2, .inr (.inr (.inr (.inr (fun _ => none)))))) :: (pl ++ bX4 cA r0 v0)) := hD
  refine W.widen (k := 37) (n := 1413) (by omega) (by omega) ?_
  obtain ⟨plr0, hq_plr0⟩ : ∃ z, (pl ++ bX4 cA r0 v0) = z := ⟨_, rfl⟩
  rw [hq_plr0] at hP hD
  refine bb_row (k := 1) (j := 0) (f := (va_up (fun _ => none) 0 (some r0))) (ra := ra) hx hb hml hown hts hR hN hK hA (by decide) rfl rfl hP hD hS hl (Nat.le_of_ble_eq_true rfl) (Nat.le_of_ble_eq_true rfl) (fun r1 v1 H locs ls hP hD hS hl => ?_)
  have hP : va_P D vwCl ((h0, .inr (6, [.ref ra, .ref qt, .ref qn, .ref qr, .ref ri, .ref qa, .ref qo, .ref qk, .int 0])) :: (ra, .inl (cA 2, 8, .inr (.inr (.inr (.inr (va_up (va_up (fun _ => none) 0 (some r0)) 1 (some r1))))))) :: (ri, .inl (cA 3, 2, .inr (.inr (.inr (.inr (fun _ => none)))))) :: (plr0 ++ bX4 cA r1 v1)) H := hP
  have hD : va_D A ((h0, .inr (6, [.ref ra, .ref qt, .ref qn, .ref qr, .ref ri, .ref qa, .ref qo, .ref qk, .int 0])) :: (ra, .inl (cA 2, 8, .inr (.inr (.inr (.inr (va_up (va_up (fun _ => none) 0 (some r0)) 1 (some r1))))))) :: (ri, .inl (cA 3, 2, .inr (.inr (.inr (.inr (fun _ => none)))))) :: (plr0 ++ bX4 cA r1 v1)) := hD
  refine W.widen (k := 39) (n := 1457) (by omega) (by omega) ?_
  obtain ⟨plr1, hq_plr1⟩ : ∃ z, (plr0 ++ bX4 cA r1 v1) = z := ⟨_, rfl⟩
  rw [hq_plr1] at hP hD
  refine bb_row (k := 2) (j := 0) (f := (va_up (va_up (fun _ => none) 0 (some r0)) 1 (some r1))) (ra := ra) hx hb hml hown hts hR hN hK hA (by decide) rfl rfl hP hD hS hl (Nat.le_of_ble_eq_true rfl) (Nat.le_of_ble_eq_true rfl) (fun r2 v2 H locs ls hP hD hS hl => ?_)
  have hP : va_P D vwCl ((h0, .inr (6, [.ref ra, .ref qt, .ref qn, .ref qr, .ref ri, .ref qa, .ref qo, .ref qk, .int 0])) :: (ra, .inl (cA 2, 8, .inr (.inr (.inr (.inr (va_up (va_up (va_up (fun _ => none) 0 (some r0)) 1 (some r1)) 2 (some r2))))))) :: (ri, .inl (cA 3, 2, .inr (.inr (.inr (.inr (fun _ => none)))))) :: (plr1 ++ bX4 cA r2 v2)) H := hP
  have hD : va_D A ((h0, .inr (6, [.ref ra, .ref qt, .ref qn, .ref qr, .ref ri, .ref qa, .ref qo, .ref qk, .int 0])) :: (ra, .inl (cA 2, 8, .inr (.inr (.inr (.inr (va_up (va_up (va_up (fun _ => none) 0 (some r0)) 1 (some r1)) 2 (some r2))))))) :: (ri, .inl (cA 3, 2, .inr (.inr (.inr (.inr (fun _ => none)))))) :: (plr1 ++ bX4 cA r2 v2)) := hD
  refine W.widen (k := 41) (n := 1501) (by omega) (by omega) ?_
  obtain ⟨plr2, hq_plr2⟩ : ∃ z, (plr1 ++ bX4 cA r2 v2) = z := ⟨_, rfl⟩
  rw [hq_plr2] at hP hD
  refine bb_row (k := 3) (j := 0) (f := (va_up (va_up (va_up (fun _ => none) 0 (some r0)) 1 (some r1)) 2 (some r2))) (ra := ra) hx hb hml hown hts hR hN hK hA (by decide) rfl rfl hP hD hS hl (Nat.le_of_ble_eq_true rfl) (Nat.le_of_ble_eq_true rfl) (fun r3 v3 H locs ls hP hD hS hl => ?_)
  have hP : va_P D vwCl ((h0, .inr (6, [.ref ra, .ref qt, .ref qn, .ref qr, .ref ri, .ref qa, .ref qo, .ref qk, .int 0])) :: (ra, .inl (cA 2, 8, .inr (.inr (.inr (.inr (va_up (va_up (va_up (va_up (fun _ => none) 0 (some r0)) 1 (some r1)) 2 (some r2)) 3 (some r3))))))) :: (ri, .inl (cA 3, 2, .inr (.inr (.inr (.inr (fun _ => none)))))) :: (plr2 ++ bX4 cA r3 v3)) H := hP
  have hD : va_D A ((h0, .inr (6, [.ref ra, .ref qt, .ref qn, .ref qr, .ref ri, .ref qa, .ref qo, .ref qk, .int 0])) :: (ra, .inl (cA 2, 8, .inr (.inr (.inr (.inr (va_up (va_up (va_up (va_up (fun _ => none) 0 (some r0)) 1 (some r1)) 2 (some r2)) 3 (some r3))))))) :: (ri, .inl (cA 3, 2, .inr (.inr (.inr (.inr (fun _ => none)))))) :: (plr2 ++ bX4 cA r3 v3)) := hD
  refine W.widen (k := 43) (n := 1545) (by omega) (by omega) ?_
  obtain ⟨plr3, hq_plr3⟩ : ∃ z, (plr2 ++ bX4 cA r3 v3) = z := ⟨_, rfl⟩
  rw [hq_plr3] at hP hD
  refine bb_row (k := 4) (j := 0) (f := (va_up (va_up (va_up (va_up (fun _ => none) 0 (some r0)) 1 (some r1)) 2 (some r2)) 3 (some r3))) (ra := ra) hx hb hml hown hts hR hN hK hA (by decide) rfl rfl hP hD hS hl (Nat.le_of_ble_eq_true rfl) (Nat.le_of_ble_eq_true rfl) (fun r4 v4 H locs ls hP hD hS hl => ?_)
  have hP : va_P D vwCl ((h0, .inr (6, [.ref ra, .ref qt, .ref qn, .ref qr, .ref ri, .ref qa, .ref qo, .ref qk, .int 0])) :: (ra, .inl (cA 2, 8, .inr (.inr (.inr (.inr (va_up (va_up (va_up (va_up (va_up (fun _ => none) 0 (some r0)) 1 (some r1)) 2 (some r2)) 3 (some r3)) 4 (some r4))))))) :: (ri, .inl (cA 3, 2, .inr (.inr (.inr (.inr (fun _ => none)))))) :: (plr3 ++ bX4 cA r4 v4)) H := hP
  have hD : va_D A ((h0, .inr (6, [.ref ra, .ref qt, .ref qn, .ref qr, .ref ri, .ref qa, .ref qo, .ref qk, .int 0])) :: (ra, .inl (cA 2, 8, .inr (.inr (.inr (.inr (va_up (va_up (va_up (va_up (va_up (fun _ => none) 0 (some r0)) 1 (some r1)) 2 (some r2)) 3 (some r3)) 4 (some r4))))))) :: (ri, .inl (cA 3, 2, .inr (.inr (.inr (.inr (fun _ => none)))))) :: (plr3 ++ bX4 cA r4 v4)) := hD
  refine W.widen (k := 45) (n := 1589) (by omega) (by omega) ?_
  obtain ⟨plr4, hq_plr4⟩ : ∃ z, (plr3 ++ bX4 cA r4 v4) = z := ⟨_, rfl⟩
  rw [hq_plr4] at hP hD
  refine bb_row (k := 5) (j := 0) (f := (va_up (va_up (va_up (va_up (va_up (fun _ => none) 0 (some r0)) 1 (some r1)) 2 (some r2)) 3 (some r3)) 4 (some r4))) (ra := ra) hx hb hml hown hts hR hN hK hA (by decide) rfl rfl hP hD hS hl (Nat.le_of_ble_eq_true rfl) (Nat.le_of_ble_eq_true rfl) (fun r5 v5 H locs ls hP hD hS hl => ?_)
  have hP : va_P D vwCl ((h0, .inr (6, [.ref ra, .ref qt, .ref qn, .ref qr, .ref ri, .ref qa, .ref qo, .ref qk, .int 0])) :: (ra, .inl (cA 2, 8, .inr (.inr (.inr (.inr (va_up (va_up (va_up (va_up (va_up (va_up (fun _ => none) 0 (some r0)) 1 (some r1)) 2 (some r2)) 3 (some r3)) 4 (some r4)) 5 (some r5))))))) :: (ri, .inl (cA 3, 2, .inr (.inr (.inr (.inr (fun _ => none)))))) :: (plr4 ++ bX4 cA r5 v5)) H := hP
  have hD : va_D A ((h0, .inr (6, [.ref ra, .ref qt, .ref qn, .ref qr, .ref ri, .ref qa, .ref qo, .ref qk, .int 0])) :: (ra, .inl (cA 2, 8, .inr (.inr (.inr (.inr (va_up (va_up (va_up (va_up (va_up (va_up (fun _ => none) 0 (some r0)) 1 (some r1)) 2 (some r2)) 3 (some r3)) 4 (some r4)) 5 (some r5))))))) :: (ri, .inl (cA 3, 2, .inr (.inr (.inr (.inr (fun _ => none)))))) :: (plr4 ++ bX4 cA r5 v5)) := hD
  refine W.widen (k := 47) (n := 1633) (by omega) (by omega) ?_
  obtain ⟨plr5, hq_plr5⟩ : ∃ z, (plr4 ++ bX4 cA r5 v5) = z := ⟨_, rfl⟩
  rw [hq_plr5] at hP hD
  refine bb_row (k := 6) (j := 0) (f := (va_up (va_up (va_up (va_up (va_up (va_up (fun _ => none) 0 (some r0)) 1 (some r1)) 2 (some r2)) 3 (some r3)) 4 (some r4)) 5 (some r5))) (ra := ra) hx hb hml hown hts hR hN hK hA (by decide) rfl rfl hP hD hS hl (Nat.le_of_ble_eq_true rfl) (Nat.le_of_ble_eq_true rfl) (fun r6 v6 H locs ls hP hD hS hl => ?_)
  have hP : va_P D vwCl ((h0, .inr (6, [.ref ra, .ref qt, .ref qn, .ref qr, .ref ri, .ref qa, .ref qo, .ref qk, .int 0])) :: (ra, .inl (cA 2, 8, .inr (.inr (.inr (.inr (va_up (va_up (va_up (va_up (va_up (va_up (va_up (fun _ => none) 0 (some r0)) 1 (some r1)) 2 (some r2)) 3 (some r3)) 4 (some r4)) 5 (some r5)) 6 (some r6))))))) :: (ri, .inl (cA 3, 2, .inr (.inr (.inr (.inr (fun _ => none)))))) :: (plr5 ++ bX4 cA r6 v6)) H := hP
  have hD : va_D A ((h0, .inr (6, [.ref ra, .ref qt, .ref qn, .ref qr, .ref ri, .ref qa, .ref qo, .ref qk, .int 0])) :: (ra, .inl (cA 2, 8, .inr (.inr (.inr (.inr (va_up (va_up (va_up (va_up (va_up (va_up (va_up (fun _ => none) 0 (some r0)) 1 (some r1)) 2 (some r2)) 3 (some r3)) 4 (some r4)) 5 (some r5)) 6 (some r6))))))) :: (ri, .inl (cA 3, 2, .inr (.inr (.inr (.inr (fun _ => none)))))) :: (plr5 ++ bX4 cA r6 v6)) := hD
  refine W.widen (k := 49) (n := 1677) (by omega) (by omega) ?_
  obtain ⟨plr6, hq_plr6⟩ : ∃ z, (plr5 ++ bX4 cA r6 v6) = z := ⟨_, rfl⟩
  rw [hq_plr6] at hP hD
  refine bb_row (k := 7) (j := 0) (f := (va_up (va_up (va_up (va_up (va_up (va_up (va_up (fun _ => none) 0 (some r0)) 1 (some r1)) 2 (some r2)) 3 (some r3)) 4 (some r4)) 5 (some r5)) 6 (some r6))) (ra := ra) hx hb hml hown hts hR hN hK hA (by decide) rfl rfl hP hD hS hl (Nat.le_of_ble_eq_true rfl) (Nat.le_of_ble_eq_true rfl) (fun r7 v7 H locs ls hP hD hS hl => ?_)
  have hP : va_P D vwCl ((h0, .inr (6, [.ref ra, .ref qt, .ref qn, .ref qr, .ref ri, .ref qa, .ref qo, .ref qk, .int 0])) :: (ra, .inl (cA 2, 8, .inr (.inr (.inr (.inr (va_up (va_up (va_up (va_up (va_up (va_up (va_up (va_up (fun _ => none) 0 (some r0)) 1 (some r1)) 2 (some r2)) 3 (some r3)) 4 (some r4)) 5 (some r5)) 6 (some r6)) 7 (some r7))))))) :: (ri, .inl (cA 3, 2, .inr (.inr (.inr (.inr (fun _ => none)))))) :: (plr6 ++ bX4 cA r7 v7)) H := hP
  have hD : va_D A ((h0, .inr (6, [.ref ra, .ref qt, .ref qn, .ref qr, .ref ri, .ref qa, .ref qo, .ref qk, .int 0])) :: (ra, .inl (cA 2, 8, .inr (.inr (.inr (.inr (va_up (va_up (va_up (va_up (va_up (va_up (va_up (va_up (fun _ => none) 0 (some r0)) 1 (some r1)) 2 (some r2)) 3 (some r3)) 4 (some r4)) 5 (some r5)) 6 (some r6)) 7 (some r7))))))) :: (ri, .inl (cA 3, 2, .inr (.inr (.inr (.inr (fun _ => none)))))) :: (plr6 ++ bX4 cA r7 v7)) := hD
  refine W.widen (k := 51) (n := 1721) (by omega) (by omega) ?_
  obtain ⟨plr7, hq_plr7⟩ : ∃ z, (plr6 ++ bX4 cA r7 v7) = z := ⟨_, rfl⟩
  rw [hq_plr7] at hP hD
  refine lv_iload_n hx hb dX6_init_94 rfl (lv_at hl 0 rfl) ?_
  refine lv_bipush (v := 8) hx hb dX6_init_95 (by decide) ?_
  refine lv_icmp_ge (tgt := 119) hx hb dX6_init_97 (by decide) (fun _ => ?_) (fun h => absurd (by decide) h)
  refine lv_iconst (v := 0) hx hb dX6_init_119 (by decide) ?_
  refine lv_istore_n (lv' := [(1, .int 0), (0, .ref h0)]) hx hb dX6_init_120 rfl hl (by decide) rfl (fun ls hl => ?_)
  have hl : lv_has ls 2 [(1, .int (nI 0)), (0, .ref h0)] := hl
  refine bb_img (k := 0) (j := 1) (f := (fun _ => none)) (ra := ri) hx hb hml hown hts hR hN hK hA (by decide) rfl rfl hP hD hS hl (Nat.le_of_ble_eq_true rfl) (Nat.le_of_ble_eq_true rfl) (fun i0 w0 H locs ls hP hD hS hl => ?_)
  have hP : va_P D vwCl ((h0, .inr (6, [.ref ra, .ref qt, .ref qn, .ref qr, .ref ri, .ref qa, .ref qo, .ref qk, .int 0])) :: (ra, .inl (cA 2, 8, .inr (.inr (.inr (.inr (va_up (va_up (va_up (va_up (va_up (va_up (va_up (va_up (fun _ => none) 0 (some r0)) 1 (some r1)) 2 (some r2)) 3 (some r3)) 4 (some r4)) 5 (some r5)) 6 (some r6)) 7 (some r7))))))) :: (ri, .inl (cA 3, 2, .inr (.inr (.inr (.inr (va_up (fun _ => none) 0 (some i0))))))) :: (plr7 ++ bX3 cA i0 w0)) H := hP
  have hD : va_D A ((h0, .inr (6, [.ref ra, .ref qt, .ref qn, .ref qr, .ref ri, .ref qa, .ref qo, .ref qk, .int 0])) :: (ra, .inl (cA 2, 8, .inr (.inr (.inr (.inr (va_up (va_up (va_up (va_up (va_up (va_up (va_up (va_up (fun _ => none) 0 (some r0)) 1 (some r1)) 2 (some r2)) 3 (some r3)) 4 (some r4)) 5 (some r5)) 6 (some r6)) 7 (some r7))))))) :: (ri, .inl (cA 3, 2, .inr (.inr (.inr (.inr (va_up (fun _ => none) 0 (some i0))))))) :: (plr7 ++ bX3 cA i0 w0)) := hD
  refine W.widen (k := 60) (n := 1873) (by omega) (by omega) ?_
  obtain ⟨pli0, hq_pli0⟩ : ∃ z, (plr7 ++ bX3 cA i0 w0) = z := ⟨_, rfl⟩
  rw [hq_pli0] at hP hD
  refine bb_img (k := 1) (j := 1) (f := (va_up (fun _ => none) 0 (some i0))) (ra := ri) hx hb hml hown hts hR hN hK hA (by decide) rfl rfl hP hD hS hl (Nat.le_of_ble_eq_true rfl) (Nat.le_of_ble_eq_true rfl) (fun i1 w1 H locs ls hP hD hS hl => ?_)
  have hP : va_P D vwCl ((h0, .inr (6, [.ref ra, .ref qt, .ref qn, .ref qr, .ref ri, .ref qa, .ref qo, .ref qk, .int 0])) :: (ra, .inl (cA 2, 8, .inr (.inr (.inr (.inr (va_up (va_up (va_up (va_up (va_up (va_up (va_up (va_up (fun _ => none) 0 (some r0)) 1 (some r1)) 2 (some r2)) 3 (some r3)) 4 (some r4)) 5 (some r5)) 6 (some r6)) 7 (some r7))))))) :: (ri, .inl (cA 3, 2, .inr (.inr (.inr (.inr (va_up (va_up (fun _ => none) 0 (some i0)) 1 (some i1))))))) :: (pli0 ++ bX3 cA i1 w1)) H := hP
  have hD : va_D A ((h0, .inr (6, [.ref ra, .ref qt, .ref qn, .ref qr, .ref ri, .ref qa, .ref qo, .ref qk, .int 0])) :: (ra, .inl (cA 2, 8, .inr (.inr (.inr (.inr (va_up (va_up (va_up (va_up (va_up (va_up (va_up (va_up (fun _ => none) 0 (some r0)) 1 (some r1)) 2 (some r2)) 3 (some r3)) 4 (some r4)) 5 (some r5)) 6 (some r6)) 7 (some r7))))))) :: (ri, .inl (cA 3, 2, .inr (.inr (.inr (.inr (va_up (va_up (fun _ => none) 0 (some i0)) 1 (some i1))))))) :: (pli0 ++ bX3 cA i1 w1)) := hD
  refine W.widen (k := 69) (n := 2025) (by omega) (by omega) ?_
  obtain ⟨pli1, hq_pli1⟩ : ∃ z, (pli0 ++ bX3 cA i1 w1) = z := ⟨_, rfl⟩
  rw [hq_pli1] at hP hD
  refine lv_iload_n hx hb dX6_init_121 rfl (lv_at hl 0 rfl) ?_
  refine lv_iconst (v := 2) hx hb dX6_init_122 (by decide) ?_
  refine lv_icmp_ge (tgt := 145) hx hb dX6_init_123 (by decide) (fun _ => ?_) (fun h => absurd (by decide) h)
  subst hq_pli1
  subst hq_pli0
  subst hq_plr7
  subst hq_plr6
  subst hq_plr5
  subst hq_plr4
  subst hq_plr3
  subst hq_plr2
  subst hq_plr1
  subst hq_plr0
  subst hq_pl
  simp only [bX0, bX1, bX2, bX3, bX4, bX5, List.cons_append, List.nil_append] at hP hD
  have hP9 : va_P D vwCl (bX6 cA h0 (fun j => ([h0, ra, r0, v0 0, r1, v1 0, r2, v2 0, r3, v3 0, r4, v4 0, r5, v5 0, r6, v6 0, r7, v7 0, qt, ut 0, qn, un 0, un 1, un 2, un 3, un 4, un 5, un 6, un 7, qr, ur 0, ur 1, ur 2, ur 3, ur 4, ur 5, ur 6, ur 7, ri, i0, w0 0, w0 1, w0 2, w0 3, w0 4, w0 5, w0 6, w0 7, i1, w1 0, w1 1, w1 2, w1 3, w1 4, w1 5, w1 6, w1 7, qa, ua 0, ua 1, ua 2, ua 3, ua 4, ua 5, qo, uo 0, uo 1, uo 2, qk, uk 0] : List Nat).getD j 0)) H := hP.sub [0, 1, 36, 37, 38, 39, 40, 41, 42, 43, 44, 45, 46, 47, 48, 49, 50, 51, 3, 4, 5, 6, 7, 8, 9, 10, 11, 12, 13, 14, 15, 16, 17, 18, 19, 20, 21, 22, 2, 52, 53, 54, 55, 56, 57, 58, 59, 60, 61, 62, 63, 64, 65, 66, 67, 68, 69, 23, 24, 25, 26, 27, 28, 29, 30, 31, 32, 33, 34, 35] rfl
  have hD9 : va_D A (bX6 cA h0 (fun j => ([h0, ra, r0, v0 0, r1, v1 0, r2, v2 0, r3, v3 0, r4, v4 0, r5, v5 0, r6, v6 0, r7, v7 0, qt, ut 0, qn, un 0, un 1, un 2, un 3, un 4, un 5, un 6, un 7, qr, ur 0, ur 1, ur 2, ur 3, ur 4, ur 5, ur 6, ur 7, ri, i0, w0 0, w0 1, w0 2, w0 3, w0 4, w0 5, w0 6, w0 7, i1, w1 0, w1 1, w1 2, w1 3, w1 4, w1 5, w1 6, w1 7, qa, ua 0, ua 1, ua 2, ua 3, ua 4, ua 5, qo, uo 0, uo 1, uo 2, qk, uk 0] : List Nat).getD j 0)) := hD.sub [0, 1, 36, 37, 38, 39, 40, 41, 42, 43, 44, 45, 46, 47, 48, 49, 50, 51, 3, 4, 5, 6, 7, 8, 9, 10, 11, 12, 13, 14, 15, 16, 17, 18, 19, 20, 21, 22, 2, 52, 53, 54, 55, 56, 57, 58, 59, 60, 61, 62, 63, 64, 65, 66, 67, 68, 69, 23, 24, 25, 26, 27, 28, 29, 30, 31, 32, 33, 34, 35] (by decide) rfl
  subst hAe
  exact W.vret hx hb hr (fun t ht hW => ⟨⟨(fun j => ([h0, ra, r0, v0 0, r1, v1 0, r2, v2 0, r3, v3 0, r4, v4 0, r5, v5 0, r6, v6 0, r7, v7 0, qt, ut 0, qn, un 0, un 1, un 2, un 3, un 4, un 5, un 6, un 7, qr, ur 0, ur 1, ur 2, ur 3, ur 4, ur 5, ur 6, ur 7, ri, i0, w0 0, w0 1, w0 2, w0 3, w0 4, w0 5, w0 6, w0 7, i1, w1 0, w1 1, w1 2, w1 3, w1 4, w1 5, w1 6, w1 7, qa, ua 0, ua 1, ua 2, ua 3, ua 4, ua 5, qo, uo 0, uo 1, uo 2, qk, uk 0] : List Nat).getD j 0), rfl, trivial, by rw [ht]; exact hP9, hD9⟩, hS.F ht⟩) hS.2.2 dX6_init_145
