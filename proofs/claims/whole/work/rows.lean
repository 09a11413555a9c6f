section
-- ===== PART A: goes FIRST, ahead of the names: the tables' words, and 'selects' of the private methods out of them =====
/-- a private method of a class that the tables say can be made, by its rows of tables_1 -/
def lw_okq (q : MethodName × Nat) : Prop := (q.1.cls ≠ "java/lang/invoke/MethodHandle" ∧ q.1.cls ≠ "java/lang/invoke/VarHandle") ∧ Cond.instantiable q.1.cls q.2 ∈ tables_1 ∧ Cond.privateMethod q.1 ∈ tables_1 ∧ Cond.instanceMethod q.1 ∈ tables_1
theorem lw_p0 : lw_okq (⟨"BeatBounds", "finding", "(I)I"⟩, 9) := ⟨⟨by decide +kernel, by decide +kernel⟩, List.mem_of_getElem? (i := 13) (by decide +kernel), List.mem_of_getElem? (i := 253) (by decide +kernel), List.mem_of_getElem? (i := 254) (by decide +kernel)⟩
theorem lw_p1 : lw_okq (⟨"BeatBounds", "fine", "(I)I"⟩, 9) := ⟨⟨by decide +kernel, by decide +kernel⟩, List.mem_of_getElem? (i := 13) (by decide +kernel), List.mem_of_getElem? (i := 262) (by decide +kernel), List.mem_of_getElem? (i := 263) (by decide +kernel)⟩
theorem lw_p2 : lw_okq (⟨"BeatBounds$Tape", "readLaw", "(LBeatBounds$Parish;)Z"⟩, 5) := ⟨⟨by decide +kernel, by decide +kernel⟩, List.mem_of_getElem? (i := 23) (by decide +kernel), List.mem_of_getElem? (i := 315) (by decide +kernel), List.mem_of_getElem? (i := 316) (by decide +kernel)⟩
theorem lw_p3 : lw_okq (⟨"BeatBounds$Tape", "passes", "(I)Z"⟩, 5) := ⟨⟨by decide +kernel, by decide +kernel⟩, List.mem_of_getElem? (i := 23) (by decide +kernel), List.mem_of_getElem? (i := 319) (by decide +kernel), List.mem_of_getElem? (i := 320) (by decide +kernel)⟩
theorem lw_p4 : lw_okq (⟨"BeatBounds$Tape", "letterAt", "(I)I"⟩, 5) := ⟨⟨by decide +kernel, by decide +kernel⟩, List.mem_of_getElem? (i := 23) (by decide +kernel), List.mem_of_getElem? (i := 323) (by decide +kernel), List.mem_of_getElem? (i := 324) (by decide +kernel)⟩
theorem lw_p5 : lw_okq (⟨"BeatBounds$Tape", "fails", "(I)Z"⟩, 5) := ⟨⟨by decide +kernel, by decide +kernel⟩, List.mem_of_getElem? (i := 23) (by decide +kernel), List.mem_of_getElem? (i := 327) (by decide +kernel), List.mem_of_getElem? (i := 328) (by decide +kernel)⟩
theorem lw_p6 : lw_okq (⟨"BeatBounds$Tape", "number", "(II)I"⟩, 5) := ⟨⟨by decide +kernel, by decide +kernel⟩, List.mem_of_getElem? (i := 23) (by decide +kernel), List.mem_of_getElem? (i := 331) (by decide +kernel), List.mem_of_getElem? (i := 332) (by decide +kernel)⟩
theorem lw_p7 : lw_okq (⟨"BeatBounds$Tape", "readStones", "(LBeatBounds$Parish;)Z"⟩, 5) := ⟨⟨by decide +kernel, by decide +kernel⟩, List.mem_of_getElem? (i := 23) (by decide +kernel), List.mem_of_getElem? (i := 338) (by decide +kernel), List.mem_of_getElem? (i := 339) (by decide +kernel)⟩
theorem lw_p8 : lw_okq (⟨"BeatBounds$Tape", "readWitnesses", "(LBeatBounds$Parish;)Z"⟩, 5) := ⟨⟨by decide +kernel, by decide +kernel⟩, List.mem_of_getElem? (i := 23) (by decide +kernel), List.mem_of_getElem? (i := 342) (by decide +kernel), List.mem_of_getElem? (i := 343) (by decide +kernel)⟩
theorem lw_p9 : lw_okq (⟨"BeatBounds$Tape", "readLife", "(LBeatBounds$Parish;I)Z"⟩, 5) := ⟨⟨by decide +kernel, by decide +kernel⟩, List.mem_of_getElem? (i := 23) (by decide +kernel), List.mem_of_getElem? (i := 349) (by decide +kernel), List.mem_of_getElem? (i := 350) (by decide +kernel)⟩
theorem lw_p10 : lw_okq (⟨"BeatBounds$Acts", "takeBumpsBack", "(ILBeatBounds$Parish;)V"⟩, 8) := ⟨⟨by decide +kernel, by decide +kernel⟩, List.mem_of_getElem? (i := 128) (by decide +kernel), List.mem_of_getElem? (i := 376) (by decide +kernel), List.mem_of_getElem? (i := 377) (by decide +kernel)⟩
theorem lw_p11 : lw_okq (⟨"BeatBounds", "isStone", "(I)Z"⟩, 9) := ⟨⟨by decide +kernel, by decide +kernel⟩, List.mem_of_getElem? (i := 13) (by decide +kernel), List.mem_of_getElem? (i := 388) (by decide +kernel), List.mem_of_getElem? (i := 389) (by decide +kernel)⟩
theorem lw_p12 : lw_okq (⟨"BeatBounds$Acts", "keepBumps", "(ILBeatBounds$Parish;)V"⟩, 8) := ⟨⟨by decide +kernel, by decide +kernel⟩, List.mem_of_getElem? (i := 128) (by decide +kernel), List.mem_of_getElem? (i := 403) (by decide +kernel), List.mem_of_getElem? (i := 404) (by decide +kernel)⟩
theorem lw_p13 : lw_okq (⟨"BeatBounds", "isWitness", "(I)Z"⟩, 9) := ⟨⟨by decide +kernel, by decide +kernel⟩, List.mem_of_getElem? (i := 13) (by decide +kernel), List.mem_of_getElem? (i := 438) (by decide +kernel), List.mem_of_getElem? (i := 439) (by decide +kernel)⟩
theorem lw_p14 : lw_okq (⟨"BeatBounds", "swearersIfTaken", "(III)I"⟩, 9) := ⟨⟨by decide +kernel, by decide +kernel⟩, List.mem_of_getElem? (i := 13) (by decide +kernel), List.mem_of_getElem? (i := 564) (by decide +kernel), List.mem_of_getElem? (i := 565) (by decide +kernel)⟩
theorem lw_p15 : lw_okq (⟨"BeatBounds$Oaths", "waysOn", "(II)I"⟩, 4) := ⟨⟨by decide +kernel, by decide +kernel⟩, List.mem_of_getElem? (i := 160) (by decide +kernel), List.mem_of_getElem? (i := 580) (by decide +kernel), List.mem_of_getElem? (i := 581) (by decide +kernel)⟩
def lw_privs_1 : List (MethodName × Nat) := [(⟨"BeatBounds", "finding", "(I)I"⟩, 9), (⟨"BeatBounds", "fine", "(I)I"⟩, 9), (⟨"BeatBounds$Tape", "readLaw", "(LBeatBounds$Parish;)Z"⟩, 5), (⟨"BeatBounds$Tape", "passes", "(I)Z"⟩, 5), (⟨"BeatBounds$Tape", "letterAt", "(I)I"⟩, 5), (⟨"BeatBounds$Tape", "fails", "(I)Z"⟩, 5), (⟨"BeatBounds$Tape", "number", "(II)I"⟩, 5), (⟨"BeatBounds$Tape", "readStones", "(LBeatBounds$Parish;)Z"⟩, 5), (⟨"BeatBounds$Tape", "readWitnesses", "(LBeatBounds$Parish;)Z"⟩, 5), (⟨"BeatBounds$Tape", "readLife", "(LBeatBounds$Parish;I)Z"⟩, 5), (⟨"BeatBounds$Acts", "takeBumpsBack", "(ILBeatBounds$Parish;)V"⟩, 8), (⟨"BeatBounds", "isStone", "(I)Z"⟩, 9), (⟨"BeatBounds$Acts", "keepBumps", "(ILBeatBounds$Parish;)V"⟩, 8), (⟨"BeatBounds", "isWitness", "(I)Z"⟩, 9), (⟨"BeatBounds", "swearersIfTaken", "(III)I"⟩, 9), (⟨"BeatBounds$Oaths", "waysOn", "(II)I"⟩, 4)]
theorem lw_r1 : ∀ q ∈ lw_privs_1, lw_okq q := List.forall_mem_cons.mpr ⟨lw_p0, List.forall_mem_cons.mpr ⟨lw_p1, List.forall_mem_cons.mpr ⟨lw_p2, List.forall_mem_cons.mpr ⟨lw_p3, List.forall_mem_cons.mpr ⟨lw_p4, List.forall_mem_cons.mpr ⟨lw_p5, List.forall_mem_cons.mpr ⟨lw_p6, List.forall_mem_cons.mpr ⟨lw_p7, List.forall_mem_cons.mpr ⟨lw_p8, List.forall_mem_cons.mpr ⟨lw_p9, List.forall_mem_cons.mpr ⟨lw_p10, List.forall_mem_cons.mpr ⟨lw_p11, List.forall_mem_cons.mpr ⟨lw_p12, List.forall_mem_cons.mpr ⟨lw_p13, List.forall_mem_cons.mpr ⟨lw_p14, List.forall_mem_cons.mpr ⟨lw_p15, fun _ h => absurd h List.not_mem_nil⟩⟩⟩⟩⟩⟩⟩⟩⟩⟩⟩⟩⟩⟩⟩⟩
theorem lw_p16 : lw_okq (⟨"BeatBounds$Oaths", "areNear", "(II)Z"⟩, 4) := ⟨⟨by decide +kernel, by decide +kernel⟩, List.mem_of_getElem? (i := 160) (by decide +kernel), List.mem_of_getElem? (i := 584) (by decide +kernel), List.mem_of_getElem? (i := 585) (by decide +kernel)⟩
theorem lw_p17 : lw_okq (⟨"BeatBounds$Oaths", "firstNext", "(II)I"⟩, 4) := ⟨⟨by decide +kernel, by decide +kernel⟩, List.mem_of_getElem? (i := 160) (by decide +kernel), List.mem_of_getElem? (i := 599) (by decide +kernel), List.mem_of_getElem? (i := 600) (by decide +kernel)⟩
theorem lw_p18 : lw_okq (⟨"BeatBounds$Asks", "begin", "(ILBeatBounds$Parish;II)I"⟩, 2) := ⟨⟨by decide +kernel, by decide +kernel⟩, List.mem_of_getElem? (i := 180) (by decide +kernel), List.mem_of_getElem? (i := 694) (by decide +kernel), List.mem_of_getElem? (i := 695) (by decide +kernel)⟩
theorem lw_p19 : lw_okq (⟨"BeatBounds$Asks", "leave", "(I)V"⟩, 2) := ⟨⟨by decide +kernel, by decide +kernel⟩, List.mem_of_getElem? (i := 180) (by decide +kernel), List.mem_of_getElem? (i := 698) (by decide +kernel), List.mem_of_getElem? (i := 699) (by decide +kernel)⟩
theorem lw_p20 : lw_okq (⟨"BeatBounds$Asks", "anew", "(ILBeatBounds$Parish;II)I"⟩, 2) := ⟨⟨by decide +kernel, by decide +kernel⟩, List.mem_of_getElem? (i := 180) (by decide +kernel), List.mem_of_getElem? (i := 704) (by decide +kernel), List.mem_of_getElem? (i := 705) (by decide +kernel)⟩
theorem lw_p21 : lw_okq (⟨"BeatBounds", "rowsThere", "()I"⟩, 9) := ⟨⟨by decide +kernel, by decide +kernel⟩, List.mem_of_getElem? (i := 13) (by decide +kernel), List.mem_of_getElem? (i := 717) (by decide +kernel), List.mem_of_getElem? (i := 718) (by decide +kernel)⟩
theorem lw_p22 : lw_okq (⟨"BeatBoundsModel", "finding", "(I)I"⟩, 25) := ⟨⟨by decide +kernel, by decide +kernel⟩, List.mem_of_getElem? (i := 725) (by decide +kernel), List.mem_of_getElem? (i := 821) (by decide +kernel), List.mem_of_getElem? (i := 822) (by decide +kernel)⟩
theorem lw_p23 : lw_okq (⟨"BeatBoundsModel", "begin", "()V"⟩, 25) := ⟨⟨by decide +kernel, by decide +kernel⟩, List.mem_of_getElem? (i := 725) (by decide +kernel), List.mem_of_getElem? (i := 852) (by decide +kernel), List.mem_of_getElem? (i := 853) (by decide +kernel)⟩
theorem lw_p24 : lw_okq (⟨"BeatBoundsModel", "nextToken", "()V"⟩, 25) := ⟨⟨by decide +kernel, by decide +kernel⟩, List.mem_of_getElem? (i := 725) (by decide +kernel), List.mem_of_getElem? (i := 856) (by decide +kernel), List.mem_of_getElem? (i := 857) (by decide +kernel)⟩
theorem lw_p25 : lw_okq (⟨"BeatBoundsModel", "isLetter", "(I)Z"⟩, 25) := ⟨⟨by decide +kernel, by decide +kernel⟩, List.mem_of_getElem? (i := 725) (by decide +kernel), List.mem_of_getElem? (i := 865) (by decide +kernel), List.mem_of_getElem? (i := 866) (by decide +kernel)⟩
theorem lw_p26 : lw_okq (⟨"BeatBoundsModel", "must", "(Z)V"⟩, 25) := ⟨⟨by decide +kernel, by decide +kernel⟩, List.mem_of_getElem? (i := 725) (by decide +kernel), List.mem_of_getElem? (i := 869) (by decide +kernel), List.mem_of_getElem? (i := 870) (by decide +kernel)⟩
theorem lw_p27 : lw_okq (⟨"BeatBoundsModel", "bad", "(I)V"⟩, 25) := ⟨⟨by decide +kernel, by decide +kernel⟩, List.mem_of_getElem? (i := 725) (by decide +kernel), List.mem_of_getElem? (i := 873) (by decide +kernel), List.mem_of_getElem? (i := 874) (by decide +kernel)⟩
theorem lw_p28 : lw_okq (⟨"BeatBoundsModel", "number", "(II)I"⟩, 25) := ⟨⟨by decide +kernel, by decide +kernel⟩, List.mem_of_getElem? (i := 725) (by decide +kernel), List.mem_of_getElem? (i := 877) (by decide +kernel), List.mem_of_getElem? (i := 878) (by decide +kernel)⟩
theorem lw_p29 : lw_okq (⟨"BeatBoundsModel", "mustSign", "(I)V"⟩, 25) := ⟨⟨by decide +kernel, by decide +kernel⟩, List.mem_of_getElem? (i := 725) (by decide +kernel), List.mem_of_getElem? (i := 881) (by decide +kernel), List.mem_of_getElem? (i := 882) (by decide +kernel)⟩
theorem lw_p30 : lw_okq (⟨"BeatBoundsModel", "readStone", "()V"⟩, 25) := ⟨⟨by decide +kernel, by decide +kernel⟩, List.mem_of_getElem? (i := 725) (by decide +kernel), List.mem_of_getElem? (i := 885) (by decide +kernel), List.mem_of_getElem? (i := 886) (by decide +kernel)⟩
theorem lw_p31 : lw_okq (⟨"BeatBoundsModel", "isSort", "()Z"⟩, 25) := ⟨⟨by decide +kernel, by decide +kernel⟩, List.mem_of_getElem? (i := 725) (by decide +kernel), List.mem_of_getElem? (i := 889) (by decide +kernel), List.mem_of_getElem? (i := 890) (by decide +kernel)⟩
def lw_privs_2 : List (MethodName × Nat) := [(⟨"BeatBounds$Oaths", "areNear", "(II)Z"⟩, 4), (⟨"BeatBounds$Oaths", "firstNext", "(II)I"⟩, 4), (⟨"BeatBounds$Asks", "begin", "(ILBeatBounds$Parish;II)I"⟩, 2), (⟨"BeatBounds$Asks", "leave", "(I)V"⟩, 2), (⟨"BeatBounds$Asks", "anew", "(ILBeatBounds$Parish;II)I"⟩, 2), (⟨"BeatBounds", "rowsThere", "()I"⟩, 9), (⟨"BeatBoundsModel", "finding", "(I)I"⟩, 25), (⟨"BeatBoundsModel", "begin", "()V"⟩, 25), (⟨"BeatBoundsModel", "nextToken", "()V"⟩, 25), (⟨"BeatBoundsModel", "isLetter", "(I)Z"⟩, 25), (⟨"BeatBoundsModel", "must", "(Z)V"⟩, 25), (⟨"BeatBoundsModel", "bad", "(I)V"⟩, 25), (⟨"BeatBoundsModel", "number", "(II)I"⟩, 25), (⟨"BeatBoundsModel", "mustSign", "(I)V"⟩, 25), (⟨"BeatBoundsModel", "readStone", "()V"⟩, 25), (⟨"BeatBoundsModel", "isSort", "()Z"⟩, 25)]
theorem lw_r2 : ∀ q ∈ lw_privs_2, lw_okq q := List.forall_mem_cons.mpr ⟨lw_p16, List.forall_mem_cons.mpr ⟨lw_p17, List.forall_mem_cons.mpr ⟨lw_p18, List.forall_mem_cons.mpr ⟨lw_p19, List.forall_mem_cons.mpr ⟨lw_p20, List.forall_mem_cons.mpr ⟨lw_p21, List.forall_mem_cons.mpr ⟨lw_p22, List.forall_mem_cons.mpr ⟨lw_p23, List.forall_mem_cons.mpr ⟨lw_p24, List.forall_mem_cons.mpr ⟨lw_p25, List.forall_mem_cons.mpr ⟨lw_p26, List.forall_mem_cons.mpr ⟨lw_p27, List.forall_mem_cons.mpr ⟨lw_p28, List.forall_mem_cons.mpr ⟨lw_p29, List.forall_mem_cons.mpr ⟨lw_p30, List.forall_mem_cons.mpr ⟨lw_p31, fun _ h => absurd h List.not_mem_nil⟩⟩⟩⟩⟩⟩⟩⟩⟩⟩⟩⟩⟩⟩⟩⟩
theorem lw_p32 : lw_okq (⟨"BeatBoundsModel", "readWitness", "()V"⟩, 25) := ⟨⟨by decide +kernel, by decide +kernel⟩, List.mem_of_getElem? (i := 725) (by decide +kernel), List.mem_of_getElem? (i := 896) (by decide +kernel), List.mem_of_getElem? (i := 897) (by decide +kernel)⟩
theorem lw_p33 : lw_okq (⟨"BeatBoundsModel", "failed", "()Z"⟩, 25) := ⟨⟨by decide +kernel, by decide +kernel⟩, List.mem_of_getElem? (i := 725) (by decide +kernel), List.mem_of_getElem? (i := 900) (by decide +kernel), List.mem_of_getElem? (i := 901) (by decide +kernel)⟩
theorem lw_p34 : lw_okq (⟨"BeatBoundsModel", "isStone", "(I)Z"⟩, 25) := ⟨⟨by decide +kernel, by decide +kernel⟩, List.mem_of_getElem? (i := 725) (by decide +kernel), List.mem_of_getElem? (i := 909) (by decide +kernel), List.mem_of_getElem? (i := 910) (by decide +kernel)⟩
theorem lw_p35 : lw_okq (⟨"BeatBoundsModel", "everybody", "()I"⟩, 25) := ⟨⟨by decide +kernel, by decide +kernel⟩, List.mem_of_getElem? (i := 725) (by decide +kernel), List.mem_of_getElem? (i := 913) (by decide +kernel), List.mem_of_getElem? (i := 914) (by decide +kernel)⟩
theorem lw_p36 : lw_okq (⟨"BeatBoundsModel", "keep", "()V"⟩, 25) := ⟨⟨by decide +kernel, by decide +kernel⟩, List.mem_of_getElem? (i := 725) (by decide +kernel), List.mem_of_getElem? (i := 918) (by decide +kernel), List.mem_of_getElem? (i := 919) (by decide +kernel)⟩
theorem lw_p37 : lw_okq (⟨"BeatBoundsModel", "isWitness", "(I)Z"⟩, 25) := ⟨⟨by decide +kernel, by decide +kernel⟩, List.mem_of_getElem? (i := 725) (by decide +kernel), List.mem_of_getElem? (i := 949) (by decide +kernel), List.mem_of_getElem? (i := 950) (by decide +kernel)⟩
theorem lw_p38 : lw_okq (⟨"BeatBoundsModel", "isThere", "()Z"⟩, 25) := ⟨⟨by decide +kernel, by decide +kernel⟩, List.mem_of_getElem? (i := 725) (by decide +kernel), List.mem_of_getElem? (i := 960) (by decide +kernel), List.mem_of_getElem? (i := 961) (by decide +kernel)⟩
theorem lw_p39 : lw_okq (⟨"BeatBoundsModel", "alive", "()I"⟩, 25) := ⟨⟨by decide +kernel, by decide +kernel⟩, List.mem_of_getElem? (i := 725) (by decide +kernel), List.mem_of_getElem? (i := 968) (by decide +kernel), List.mem_of_getElem? (i := 969) (by decide +kernel)⟩
theorem lw_p40 : lw_okq (⟨"BeatBoundsModel", "stonesOf", "(I)I"⟩, 25) := ⟨⟨by decide +kernel, by decide +kernel⟩, List.mem_of_getElem? (i := 725) (by decide +kernel), List.mem_of_getElem? (i := 983) (by decide +kernel), List.mem_of_getElem? (i := 984) (by decide +kernel)⟩
theorem lw_p41 : lw_okq (⟨"BeatBoundsModel", "laySaid", "(II)I"⟩, 25) := ⟨⟨by decide +kernel, by decide +kernel⟩, List.mem_of_getElem? (i := 725) (by decide +kernel), List.mem_of_getElem? (i := 1007) (by decide +kernel), List.mem_of_getElem? (i := 1008) (by decide +kernel)⟩
theorem lw_p42 : lw_okq (⟨"BeatBoundsModel", "sayYard", "(II)I"⟩, 25) := ⟨⟨by decide +kernel, by decide +kernel⟩, List.mem_of_getElem? (i := 725) (by decide +kernel), List.mem_of_getElem? (i := 1015) (by decide +kernel), List.mem_of_getElem? (i := 1016) (by decide +kernel)⟩
theorem lw_p43 : lw_okq (⟨"BeatBoundsModel", "layThen", "()V"⟩, 25) := ⟨⟨by decide +kernel, by decide +kernel⟩, List.mem_of_getElem? (i := 725) (by decide +kernel), List.mem_of_getElem? (i := 1028) (by decide +kernel), List.mem_of_getElem? (i := 1029) (by decide +kernel)⟩
theorem lw_p44 : lw_okq (⟨"BeatBoundsModel", "takeable", "()I"⟩, 25) := ⟨⟨by decide +kernel, by decide +kernel⟩, List.mem_of_getElem? (i := 725) (by decide +kernel), List.mem_of_getElem? (i := 1037) (by decide +kernel), List.mem_of_getElem? (i := 1038) (by decide +kernel)⟩
theorem lw_p45 : lw_okq (⟨"BeatBoundsModel", "sworeLater", "(IIII)I"⟩, 25) := ⟨⟨by decide +kernel, by decide +kernel⟩, List.mem_of_getElem? (i := 725) (by decide +kernel), List.mem_of_getElem? (i := 1041) (by decide +kernel), List.mem_of_getElem? (i := 1042) (by decide +kernel)⟩
theorem lw_p46 : lw_okq (⟨"BeatBoundsModel", "follow", "(IIII)I"⟩, 25) := ⟨⟨by decide +kernel, by decide +kernel⟩, List.mem_of_getElem? (i := 725) (by decide +kernel), List.mem_of_getElem? (i := 1054) (by decide +kernel), List.mem_of_getElem? (i := 1055) (by decide +kernel)⟩
theorem lw_p47 : lw_okq (⟨"BeatBoundsModel", "isNear", "(III)Z"⟩, 25) := ⟨⟨by decide +kernel, by decide +kernel⟩, List.mem_of_getElem? (i := 725) (by decide +kernel), List.mem_of_getElem? (i := 1058) (by decide +kernel), List.mem_of_getElem? (i := 1059) (by decide +kernel)⟩
def lw_privs_3 : List (MethodName × Nat) := [(⟨"BeatBoundsModel", "readWitness", "()V"⟩, 25), (⟨"BeatBoundsModel", "failed", "()Z"⟩, 25), (⟨"BeatBoundsModel", "isStone", "(I)Z"⟩, 25), (⟨"BeatBoundsModel", "everybody", "()I"⟩, 25), (⟨"BeatBoundsModel", "keep", "()V"⟩, 25), (⟨"BeatBoundsModel", "isWitness", "(I)Z"⟩, 25), (⟨"BeatBoundsModel", "isThere", "()Z"⟩, 25), (⟨"BeatBoundsModel", "alive", "()I"⟩, 25), (⟨"BeatBoundsModel", "stonesOf", "(I)I"⟩, 25), (⟨"BeatBoundsModel", "laySaid", "(II)I"⟩, 25), (⟨"BeatBoundsModel", "sayYard", "(II)I"⟩, 25), (⟨"BeatBoundsModel", "layThen", "()V"⟩, 25), (⟨"BeatBoundsModel", "takeable", "()I"⟩, 25), (⟨"BeatBoundsModel", "sworeLater", "(IIII)I"⟩, 25), (⟨"BeatBoundsModel", "follow", "(IIII)I"⟩, 25), (⟨"BeatBoundsModel", "isNear", "(III)Z"⟩, 25)]
theorem lw_r3 : ∀ q ∈ lw_privs_3, lw_okq q := List.forall_mem_cons.mpr ⟨lw_p32, List.forall_mem_cons.mpr ⟨lw_p33, List.forall_mem_cons.mpr ⟨lw_p34, List.forall_mem_cons.mpr ⟨lw_p35, List.forall_mem_cons.mpr ⟨lw_p36, List.forall_mem_cons.mpr ⟨lw_p37, List.forall_mem_cons.mpr ⟨lw_p38, List.forall_mem_cons.mpr ⟨lw_p39, List.forall_mem_cons.mpr ⟨lw_p40, List.forall_mem_cons.mpr ⟨lw_p41, List.forall_mem_cons.mpr ⟨lw_p42, List.forall_mem_cons.mpr ⟨lw_p43, List.forall_mem_cons.mpr ⟨lw_p44, List.forall_mem_cons.mpr ⟨lw_p45, List.forall_mem_cons.mpr ⟨lw_p46, List.forall_mem_cons.mpr ⟨lw_p47, fun _ h => absurd h List.not_mem_nil⟩⟩⟩⟩⟩⟩⟩⟩⟩⟩⟩⟩⟩⟩⟩⟩
theorem lw_p48 : lw_okq (⟨"BeatBoundsModel", "sizeOf", "(I)I"⟩, 25) := ⟨⟨by decide +kernel, by decide +kernel⟩, List.mem_of_getElem? (i := 725) (by decide +kernel), List.mem_of_getElem? (i := 1110) (by decide +kernel), List.mem_of_getElem? (i := 1111) (by decide +kernel)⟩
theorem lw_p49 : lw_okq (⟨"BeatBoundsModel", "twinSize", "(I)I"⟩, 25) := ⟨⟨by decide +kernel, by decide +kernel⟩, List.mem_of_getElem? (i := 725) (by decide +kernel), List.mem_of_getElem? (i := 1114) (by decide +kernel), List.mem_of_getElem? (i := 1115) (by decide +kernel)⟩
theorem lw_p50 : lw_okq (⟨"BeatBoundsModel", "began", "(I)V"⟩, 25) := ⟨⟨by decide +kernel, by decide +kernel⟩, List.mem_of_getElem? (i := 725) (by decide +kernel), List.mem_of_getElem? (i := 1118) (by decide +kernel), List.mem_of_getElem? (i := 1119) (by decide +kernel)⟩
theorem lw_p51 : lw_okq (⟨"BeatBoundsModel", "plainSize", "(I)I"⟩, 25) := ⟨⟨by decide +kernel, by decide +kernel⟩, List.mem_of_getElem? (i := 725) (by decide +kernel), List.mem_of_getElem? (i := 1122) (by decide +kernel), List.mem_of_getElem? (i := 1123) (by decide +kernel)⟩
theorem lw_p52 : lw_okq (⟨"BeatBoundsModel", "markOf", "(I)I"⟩, 25) := ⟨⟨by decide +kernel, by decide +kernel⟩, List.mem_of_getElem? (i := 725) (by decide +kernel), List.mem_of_getElem? (i := 1126) (by decide +kernel), List.mem_of_getElem? (i := 1127) (by decide +kernel)⟩
def lw_privs_4 : List (MethodName × Nat) := [(⟨"BeatBoundsModel", "sizeOf", "(I)I"⟩, 25), (⟨"BeatBoundsModel", "twinSize", "(I)I"⟩, 25), (⟨"BeatBoundsModel", "began", "(I)V"⟩, 25), (⟨"BeatBoundsModel", "plainSize", "(I)I"⟩, 25), (⟨"BeatBoundsModel", "markOf", "(I)I"⟩, 25)]
theorem lw_r4 : ∀ q ∈ lw_privs_4, lw_okq q := List.forall_mem_cons.mpr ⟨lw_p48, List.forall_mem_cons.mpr ⟨lw_p49, List.forall_mem_cons.mpr ⟨lw_p50, List.forall_mem_cons.mpr ⟨lw_p51, List.forall_mem_cons.mpr ⟨lw_p52, fun _ h => absurd h List.not_mem_nil⟩⟩⟩⟩⟩
def lw_privs : List (MethodName × Nat) := lw_privs_1 ++ (lw_privs_2 ++ (lw_privs_3 ++ (lw_privs_4)))
def lw_tbl : List Cond := k2_sels lw_privs ++ tables_1
theorem lw_privs_ok : ∀ q ∈ lw_privs, lw_okq q := by
  show ∀ q ∈ lw_privs_1 ++ (lw_privs_2 ++ (lw_privs_3 ++ (lw_privs_4))), lw_okq q
  exact List.forall_mem_append.mpr ⟨lw_r1, List.forall_mem_append.mpr ⟨lw_r2, List.forall_mem_append.mpr ⟨lw_r3, lw_r4⟩⟩⟩
end
section
def RX0 : String := "BeatBounds$Acts"
def TX0 : u_T := fun k => match k with
  | 0 => ("BeatBounds$Acts", "size", "I", false)
  | 1 => ("BeatBounds$Acts", "next", "I", false)
  | 2 => ("BeatBounds$Acts", "sorts", "[I", true)
  | 3 => ("BeatBounds$Acts", "whose", "[I", true)
  | 4 => ("BeatBounds$Acts", "was", "[I", true)
  | 5 => ("BeatBounds$Acts", "wasYard", "[I", true)
  | 6 => ("BeatBounds$Acts", "wasPain", "[I", true)
  | _ => ("BeatBounds$Acts", "wasYear", "[I", true)
def tyX0 : Nat → FieldType := fun k => match k with
  | 0 => .int
  | 1 => .int
  | 2 => .array .int
  | 3 => .array .int
  | 4 => .array .int
  | 5 => .array .int
  | 6 => .array .int
  | _ => .array .int
abbrev wsX00 : List Cond := u_ws RX0 TX0 8
theorem nmX0 : ∀ a, a < 8 → ∀ b, b < 8 → a ≠ b → (TX0 a).2.1 ≠ (TX0 b).2.1 := by decide +kernel
theorem tyX0_ok : ∀ k, k < 8 → parseFieldDescriptor (TX0 k).2.2.1 = some (tyX0 k) := by decide +kernel
abbrev cX0_init : ByteArray := prog_2_method_1_code
def yX0_init : MethodName := ⟨RX0, "<init>", "()V"⟩
abbrev cX0_forgetAll : ByteArray := prog_2_method_2_code
def yX0_forgetAll : MethodName := ⟨RX0, "forgetAll", "()V"⟩
abbrev cX0_keep : ByteArray := prog_2_method_3_code
def yX0_keep : MethodName := ⟨RX0, "keep", "(IILBeatBounds$Parish;)V"⟩
abbrev cX0_takeBack : ByteArray := prog_2_method_4_code
def yX0_takeBack : MethodName := ⟨RX0, "takeBack", "(LBeatBounds$Parish;)V"⟩
abbrev cX0_keepBumps : ByteArray := prog_2_method_5_code
def yX0_keepBumps : MethodName := ⟨RX0, "keepBumps", "(ILBeatBounds$Parish;)V"⟩
abbrev cX0_takeBumpsBack : ByteArray := prog_2_method_6_code
def yX0_takeBumpsBack : MethodName := ⟨RX0, "takeBumpsBack", "(ILBeatBounds$Parish;)V"⟩
def RX1 : String := "BeatBounds$Asks"
def TX1 : u_T := fun k => match k with
  | 0 => ("BeatBounds$Asks", "traces", "[I", true)
  | _ => ("BeatBounds$Asks", "traced", "I", false)
def tyX1 : Nat → FieldType := fun k => match k with
  | 0 => .array .int
  | _ => .int
abbrev wsX10 : List Cond := u_ws RX1 TX1 2
theorem nmX1 : ∀ a, a < 2 → ∀ b, b < 2 → a ≠ b → (TX1 a).2.1 ≠ (TX1 b).2.1 := by decide +kernel
theorem tyX1_ok : ∀ k, k < 2 → parseFieldDescriptor (TX1 k).2.2.1 = some (tyX1 k) := by decide +kernel
abbrev cX1_init : ByteArray := prog_3_method_1_code
def yX1_init : MethodName := ⟨RX1, "<init>", "()V"⟩
abbrev cX1_answer : ByteArray := prog_3_method_2_code
def yX1_answer : MethodName := ⟨RX1, "answer", "(LBeatBounds$Parish;II)I"⟩
abbrev cX1_bodyOf : ByteArray := prog_3_method_3_code
def yX1_bodyOf : MethodName := ⟨RX1, "bodyOf", "(II)I"⟩
abbrev cX1_anew : ByteArray := prog_3_method_4_code
def yX1_anew : MethodName := ⟨RX1, "anew", "(ILBeatBounds$Parish;II)I"⟩
abbrev cX1_begin : ByteArray := prog_3_method_5_code
def yX1_begin : MethodName := ⟨RX1, "begin", "(ILBeatBounds$Parish;II)I"⟩
abbrev cX1_leave : ByteArray := prog_3_method_6_code
def yX1_leave : MethodName := ⟨RX1, "leave", "(I)V"⟩
def RX2 : String := "BeatBounds$Oaths"
def TX2 : u_T := fun k => match k with
  | 0 => ("BeatBounds$Oaths", "many", "I", false)
  | 1 => ("BeatBounds$Oaths", "who", "[I", true)
  | 2 => ("BeatBounds$Oaths", "says", "[I", true)
  | _ => ("BeatBounds$Oaths", "ways", "[I", true)
def tyX2 : Nat → FieldType := fun k => match k with
  | 0 => .int
  | 1 => .array .int
  | 2 => .array .int
  | _ => .array .int
abbrev wsX20 : List Cond := u_ws RX2 TX2 4
theorem nmX2 : ∀ a, a < 4 → ∀ b, b < 4 → a ≠ b → (TX2 a).2.1 ≠ (TX2 b).2.1 := by decide +kernel
theorem tyX2_ok : ∀ k, k < 4 → parseFieldDescriptor (TX2 k).2.2.1 = some (tyX2 k) := by decide +kernel
abbrev cX2_init : ByteArray := prog_4_method_1_code
def yX2_init : MethodName := ⟨RX2, "<init>", "()V"⟩
abbrev cX2_gather : ByteArray := prog_4_method_2_code
def yX2_gather : MethodName := ⟨RX2, "gather", "(LBeatBounds$Parish;I)V"⟩
abbrev cX2_least : ByteArray := prog_4_method_3_code
def yX2_least : MethodName := ⟨RX2, "least", "()I"⟩
abbrev cX2_greatest : ByteArray := prog_4_method_4_code
def yX2_greatest : MethodName := ⟨RX2, "greatest", "()I"⟩
abbrev cX2_middle : ByteArray := prog_4_method_5_code
def yX2_middle : MethodName := ⟨RX2, "middle", "()I"⟩
abbrev cX2_ofOldest : ByteArray := prog_4_method_6_code
def yX2_ofOldest : MethodName := ⟨RX2, "ofOldest", "(LBeatBounds$Parish;)I"⟩
abbrev cX2_below : ByteArray := prog_4_method_7_code
def yX2_below : MethodName := ⟨RX2, "below", "(I)I"⟩
abbrev cX2_alike : ByteArray := prog_4_method_8_code
def yX2_alike : MethodName := ⟨RX2, "alike", "(I)I"⟩
abbrev cX2_likeliestYard : ByteArray := prog_4_method_9_code
def yX2_likeliestYard : MethodName := ⟨RX2, "likeliestYard", "()I"⟩
abbrev cX2_raiseBribed : ByteArray := prog_4_method_10_code
def yX2_raiseBribed : MethodName := ⟨RX2, "raiseBribed", "(LBeatBounds$Parish;I)V"⟩
abbrev cX2_countOrders : ByteArray := prog_4_method_11_code
def yX2_countOrders : MethodName := ⟨RX2, "countOrders", "()V"⟩
abbrev cX2_waysOn : ByteArray := prog_4_method_12_code
def yX2_waysOn : MethodName := ⟨RX2, "waysOn", "(II)I"⟩
abbrev cX2_areNear : ByteArray := prog_4_method_13_code
def yX2_areNear : MethodName := ⟨RX2, "areNear", "(II)Z"⟩
abbrev cX2_orders : ByteArray := prog_4_method_14_code
def yX2_orders : MethodName := ⟨RX2, "orders", "()I"⟩
abbrev cX2_inFirstOrder : ByteArray := prog_4_method_15_code
def yX2_inFirstOrder : MethodName := ⟨RX2, "inFirstOrder", "(I)I"⟩
abbrev cX2_firstNext : ByteArray := prog_4_method_16_code
def yX2_firstNext : MethodName := ⟨RX2, "firstNext", "(II)I"⟩
def RX3 : String := "BeatBounds$Parish"
def TX3 : u_T := fun k => match k with
  | 0 => ("BeatBounds$Parish", "told", "Z", false)
  | 1 => ("BeatBounds$Parish", "lasts", "I", false)
  | 2 => ("BeatBounds$Parish", "drift", "I", false)
  | 3 => ("BeatBounds$Parish", "year", "I", false)
  | 4 => ("BeatBounds$Parish", "stones", "I", false)
  | 5 => ("BeatBounds$Parish", "witnesses", "I", false)
  | 6 => ("BeatBounds$Parish", "yards", "[I", true)
  | 7 => ("BeatBounds$Parish", "kinds", "[I", true)
  | 8 => ("BeatBounds$Parish", "firstAges", "[I", true)
  | 9 => ("BeatBounds$Parish", "ends", "[I", true)
  | 10 => ("BeatBounds$Parish", "bribes", "[I", true)
  | 11 => ("BeatBounds$Parish", "bumpYard", "[I", true)
  | 12 => ("BeatBounds$Parish", "bumpPain", "[I", true)
  | _ => ("BeatBounds$Parish", "bumpYear", "[I", true)
def tyX3 : Nat → FieldType := fun k => match k with
  | 0 => .boolean
  | 1 => .int
  | 2 => .int
  | 3 => .int
  | 4 => .int
  | 5 => .int
  | 6 => .array .int
  | 7 => .array .int
  | 8 => .array .int
  | 9 => .array .int
  | 10 => .array .int
  | 11 => .array .int
  | 12 => .array .int
  | _ => .array .int
abbrev wsX30 : List Cond := u_ws RX3 TX3 14
theorem nmX3 : ∀ a, a < 14 → ∀ b, b < 14 → a ≠ b → (TX3 a).2.1 ≠ (TX3 b).2.1 := by decide +kernel
theorem tyX3_ok : ∀ k, k < 14 → parseFieldDescriptor (TX3 k).2.2.1 = some (tyX3 k) := by decide +kernel
abbrev cX3_init : ByteArray := prog_5_method_1_code
def yX3_init : MethodName := ⟨RX3, "<init>", "()V"⟩
abbrev cX3_clear : ByteArray := prog_5_method_2_code
def yX3_clear : MethodName := ⟨RX3, "clear", "()V"⟩
abbrev cX3_become : ByteArray := prog_5_method_3_code
def yX3_become : MethodName := ⟨RX3, "become", "(LBeatBounds$Parish;)V"⟩
abbrev cX3_placeOf : ByteArray := prog_5_method_4_code
def yX3_placeOf : MethodName := ⟨RX3, "placeOf", "(II)I"⟩
abbrev cX3_everybody : ByteArray := prog_5_method_5_code
def yX3_everybody : MethodName := ⟨RX3, "everybody", "()I"⟩
abbrev cX3_age : ByteArray := prog_5_method_6_code
def yX3_age : MethodName := ⟨RX3, "age", "(I)I"⟩
abbrev cX3_isAlive : ByteArray := prog_5_method_7_code
def yX3_isAlive : MethodName := ⟨RX3, "isAlive", "(I)Z"⟩
abbrev cX3_isTakable : ByteArray := prog_5_method_8_code
def yX3_isTakable : MethodName := ⟨RX3, "isTakable", "(I)Z"⟩
abbrev cX3_living : ByteArray := prog_5_method_9_code
def yX3_living : MethodName := ⟨RX3, "living", "()I"⟩
abbrev cX3_takable : ByteArray := prog_5_method_10_code
def yX3_takable : MethodName := ⟨RX3, "takable", "()I"⟩
abbrev cX3_bump : ByteArray := prog_5_method_11_code
def yX3_bump : MethodName := ⟨RX3, "bump", "(III)I"⟩
abbrev cX3_oath : ByteArray := prog_5_method_12_code
def yX3_oath : MethodName := ⟨RX3, "oath", "(II)I"⟩
abbrev cX3_stonesSwornBy : ByteArray := prog_5_method_13_code
def yX3_stonesSwornBy : MethodName := ⟨RX3, "stonesSwornBy", "(I)I"⟩
abbrev cX3_swearersTo : ByteArray := prog_5_method_14_code
def yX3_swearersTo : MethodName := ⟨RX3, "swearersTo", "(I)I"⟩
abbrev cX3_stonesSworn : ByteArray := prog_5_method_15_code
def yX3_stonesSworn : MethodName := ⟨RX3, "stonesSworn", "()I"⟩
abbrev cX3_yardsSworn : ByteArray := prog_5_method_16_code
def yX3_yardsSworn : MethodName := ⟨RX3, "yardsSworn", "()I"⟩
abbrev cX3_passYearBy : ByteArray := prog_5_method_17_code
def yX3_passYearBy : MethodName := ⟨RX3, "passYearBy", "(J)V"⟩
def RX4 : String := "BeatBounds$Row"
def TX4 : u_T := fun k => match k with
  | 0 => ("BeatBounds$Row", "items", "[I", true)
  | 1 => ("BeatBounds$Row", "there", "Z", false)
  | 2 => ("BeatBounds$Row", "lane", "I", false)
  | _ => ("BeatBounds$Row", "size", "I", false)
def tyX4 : Nat → FieldType := fun k => match k with
  | 0 => .array .int
  | 1 => .boolean
  | 2 => .int
  | _ => .int
abbrev wsX40 : List Cond := u_ws RX4 TX4 4
theorem nmX4 : ∀ a, a < 4 → ∀ b, b < 4 → a ≠ b → (TX4 a).2.1 ≠ (TX4 b).2.1 := by decide +kernel
theorem tyX4_ok : ∀ k, k < 4 → parseFieldDescriptor (TX4 k).2.2.1 = some (tyX4 k) := by decide +kernel
abbrev cX4_init : ByteArray := prog_6_method_1_code
def yX4_init : MethodName := ⟨RX4, "<init>", "()V"⟩
abbrev cX4_begin : ByteArray := prog_6_method_2_code
def yX4_begin : MethodName := ⟨RX4, "begin", "(II)V"⟩
abbrev cX4_holds : ByteArray := prog_6_method_3_code
def yX4_holds : MethodName := ⟨RX4, "holds", "(II)Z"⟩
abbrev cX4_cut : ByteArray := prog_6_method_4_code
def yX4_cut : MethodName := ⟨RX4, "cut", "(I)I"⟩
def RX5 : String := "BeatBounds$Tape"
def TX5 : u_T := fun k => match k with
  | 0 => ("BeatBounds$Tape", "bytes", "[I", true)
  | 1 => ("BeatBounds$Tape", "length", "I", false)
  | 2 => ("BeatBounds$Tape", "place", "I", false)
  | 3 => ("BeatBounds$Tape", "fault", "I", false)
  | _ => ("BeatBounds$Tape", "faultPlace", "I", false)
def tyX5 : Nat → FieldType := fun k => match k with
  | 0 => .array .int
  | 1 => .int
  | 2 => .int
  | 3 => .int
  | _ => .int
abbrev wsX50 : List Cond := u_ws RX5 TX5 5
theorem nmX5 : ∀ a, a < 5 → ∀ b, b < 5 → a ≠ b → (TX5 a).2.1 ≠ (TX5 b).2.1 := by decide +kernel
theorem tyX5_ok : ∀ k, k < 5 → parseFieldDescriptor (TX5 k).2.2.1 = some (tyX5 k) := by decide +kernel
abbrev cX5_init : ByteArray := prog_7_method_1_code
def yX5_init : MethodName := ⟨RX5, "<init>", "()V"⟩
abbrev cX5_hasRoom : ByteArray := prog_7_method_2_code
def yX5_hasRoom : MethodName := ⟨RX5, "hasRoom", "()Z"⟩
abbrev cX5_append : ByteArray := prog_7_method_3_code
def yX5_append : MethodName := ⟨RX5, "append", "(I)I"⟩
abbrev cX5_readInto : ByteArray := prog_7_method_4_code
def yX5_readInto : MethodName := ⟨RX5, "readInto", "(LBeatBounds$Parish;)Z"⟩
abbrev cX5_readLaw : ByteArray := prog_7_method_5_code
def yX5_readLaw : MethodName := ⟨RX5, "readLaw", "(LBeatBounds$Parish;)Z"⟩
abbrev cX5_readStones : ByteArray := prog_7_method_6_code
def yX5_readStones : MethodName := ⟨RX5, "readStones", "(LBeatBounds$Parish;)Z"⟩
abbrev cX5_readWitnesses : ByteArray := prog_7_method_7_code
def yX5_readWitnesses : MethodName := ⟨RX5, "readWitnesses", "(LBeatBounds$Parish;)Z"⟩
abbrev cX5_readLife : ByteArray := prog_7_method_8_code
def yX5_readLife : MethodName := ⟨RX5, "readLife", "(LBeatBounds$Parish;I)Z"⟩
abbrev cX5_fails : ByteArray := prog_7_method_9_code
def yX5_fails : MethodName := ⟨RX5, "fails", "(I)Z"⟩
abbrev cX5_letterAt : ByteArray := prog_7_method_10_code
def yX5_letterAt : MethodName := ⟨RX5, "letterAt", "(I)I"⟩
abbrev cX5_passes : ByteArray := prog_7_method_11_code
def yX5_passes : MethodName := ⟨RX5, "passes", "(I)Z"⟩
abbrev cX5_number : ByteArray := prog_7_method_12_code
def yX5_number : MethodName := ⟨RX5, "number", "(II)I"⟩
abbrev cX5_isFigure : ByteArray := prog_7_method_13_code
def yX5_isFigure : MethodName := ⟨RX5, "isFigure", "(I)Z"⟩
abbrev cX5_kindTold : ByteArray := prog_7_method_14_code
def yX5_kindTold : MethodName := ⟨RX5, "kindTold", "(I)I"⟩
def RX6 : String := "BeatBounds"
def TX6 : u_T := fun k => match k with
  | 0 => ("BeatBounds", "rows", "[LBeatBounds$Row;", true)
  | 1 => ("BeatBounds", "tape", "LBeatBounds$Tape;", true)
  | 2 => ("BeatBounds", "now", "LBeatBounds$Parish;", true)
  | 3 => ("BeatBounds", "trial", "LBeatBounds$Parish;", true)
  | 4 => ("BeatBounds", "images", "[LBeatBounds$Parish;", true)
  | 5 => ("BeatBounds", "acts", "LBeatBounds$Acts;", true)
  | 6 => ("BeatBounds", "oaths", "LBeatBounds$Oaths;", true)
  | 7 => ("BeatBounds", "asks", "LBeatBounds$Asks;", true)
  | _ => ("BeatBounds", "status", "I", false)
def tyX6 : Nat → FieldType := fun k => match k with
  | 0 => .array (.object "BeatBounds$Row")
  | 1 => .object "BeatBounds$Tape"
  | 2 => .object "BeatBounds$Parish"
  | 3 => .object "BeatBounds$Parish"
  | 4 => .array (.object "BeatBounds$Parish")
  | 5 => .object "BeatBounds$Acts"
  | 6 => .object "BeatBounds$Oaths"
  | 7 => .object "BeatBounds$Asks"
  | _ => .int
abbrev wsX60 : List Cond := u_ws RX6 TX6 9
theorem nmX6 : ∀ a, a < 9 → ∀ b, b < 9 → a ≠ b → (TX6 a).2.1 ≠ (TX6 b).2.1 := by decide +kernel
theorem tyX6_ok : ∀ k, k < 9 → parseFieldDescriptor (TX6 k).2.2.1 = some (tyX6 k) := by decide +kernel
abbrev cX6_init : ByteArray := prog_1_method_1_code
def yX6_init : MethodName := ⟨RX6, "<init>", "()V"⟩
abbrev cX6_row : ByteArray := prog_1_method_2_code
def yX6_row : MethodName := ⟨RX6, "row", "(III)I"⟩
abbrev cX6_set : ByteArray := prog_1_method_3_code
def yX6_set : MethodName := ⟨RX6, "set", "(III)I"⟩
abbrev cX6_copy : ByteArray := prog_1_method_4_code
def yX6_copy : MethodName := ⟨RX6, "copy", "(IIIII)I"⟩
abbrev cX6_drop : ByteArray := prog_1_method_5_code
def yX6_drop : MethodName := ⟨RX6, "drop", "(I)I"⟩
abbrev cX6_feed : ByteArray := prog_1_method_6_code
def yX6_feed : MethodName := ⟨RX6, "feed", "(I)I"⟩
abbrev cX6_parish : ByteArray := prog_1_method_7_code
def yX6_parish : MethodName := ⟨RX6, "parish", "()I"⟩
abbrev cX6_fault : ByteArray := prog_1_method_8_code
def yX6_fault : MethodName := ⟨RX6, "fault", "()I"⟩
abbrev cX6_undo : ByteArray := prog_1_method_9_code
def yX6_undo : MethodName := ⟨RX6, "undo", "()I"⟩
abbrev cX6_walk : ByteArray := prog_1_method_10_code
def yX6_walk : MethodName := ⟨RX6, "walk", "(III)I"⟩
abbrev cX6_move : ByteArray := prog_1_method_11_code
def yX6_move : MethodName := ⟨RX6, "move", "(II)I"⟩
abbrev cX6_bribe : ByteArray := prog_1_method_12_code
def yX6_bribe : MethodName := ⟨RX6, "bribe", "(II)I"⟩
abbrev cX6_years : ByteArray := prog_1_method_13_code
def yX6_years : MethodName := ⟨RX6, "years", "(I)I"⟩
abbrev cX6_witness : ByteArray := prog_1_method_14_code
def yX6_witness : MethodName := ⟨RX6, "witness", "(II)I"⟩
abbrev cX6_memory : ByteArray := prog_1_method_15_code
def yX6_memory : MethodName := ⟨RX6, "memory", "(III)I"⟩
abbrev cX6_stone : ByteArray := prog_1_method_16_code
def yX6_stone : MethodName := ⟨RX6, "stone", "(I)I"⟩
abbrev cX6_sworn : ByteArray := prog_1_method_17_code
def yX6_sworn : MethodName := ⟨RX6, "sworn", "(II)I"⟩
abbrev cX6_belief : ByteArray := prog_1_method_18_code
def yX6_belief : MethodName := ⟨RX6, "belief", "(III)I"⟩
abbrev cX6_likeliest : ByteArray := prog_1_method_19_code
def yX6_likeliest : MethodName := ⟨RX6, "likeliest", "(I)I"⟩
abbrev cX6_till : ByteArray := prog_1_method_20_code
def yX6_till : MethodName := ⟨RX6, "till", "(II)I"⟩
abbrev cX6_take : ByteArray := prog_1_method_21_code
def yX6_take : MethodName := ⟨RX6, "take", "(IIIII)I"⟩
abbrev cX6_pain : ByteArray := prog_1_method_22_code
def yX6_pain : MethodName := ⟨RX6, "pain", "(III)I"⟩
abbrev cX6_order : ByteArray := prog_1_method_23_code
def yX6_order : MethodName := ⟨RX6, "order", "(II)I"⟩
abbrev cX6_stood : ByteArray := prog_1_method_24_code
def yX6_stood : MethodName := ⟨RX6, "stood", "(III)I"⟩
abbrev cX6_shift : ByteArray := prog_1_method_25_code
def yX6_shift : MethodName := ⟨RX6, "shift", "(II)I"⟩
abbrev cX6_map : ByteArray := prog_1_method_26_code
def yX6_map : MethodName := ⟨RX6, "map", "(II)I"⟩
abbrev cX6_agree : ByteArray := prog_1_method_27_code
def yX6_agree : MethodName := ⟨RX6, "agree", "(I)I"⟩
abbrev cX6_drawn : ByteArray := prog_1_method_28_code
def yX6_drawn : MethodName := ⟨RX6, "drawn", "(III)I"⟩
abbrev cX6_image : ByteArray := prog_1_method_29_code
def yX6_image : MethodName := ⟨RX6, "image", "(I)I"⟩
abbrev cX6_restore : ByteArray := prog_1_method_30_code
def yX6_restore : MethodName := ⟨RX6, "restore", "(I)I"⟩
abbrev cX6_kind : ByteArray := prog_1_method_31_code
def yX6_kind : MethodName := ⟨RX6, "kind", "(I)I"⟩
abbrev cX6_as : ByteArray := prog_1_method_32_code
def yX6_as : MethodName := ⟨RX6, "as", "(II)I"⟩
abbrev cX6_ask : ByteArray := prog_1_method_33_code
def yX6_ask : MethodName := ⟨RX6, "ask", "(II)I"⟩
abbrev cX6_trace : ByteArray := prog_1_method_34_code
def yX6_trace : MethodName := ⟨RX6, "trace", "(I)I"⟩
abbrev cX6_count : ByteArray := prog_1_method_35_code
def yX6_count : MethodName := ⟨RX6, "count", "(I)I"⟩
abbrev cX6_status : ByteArray := prog_1_method_36_code
def yX6_status : MethodName := ⟨RX6, "status", "()I"⟩
abbrev cX6_finding : ByteArray := prog_1_method_37_code
def yX6_finding : MethodName := ⟨RX6, "finding", "(I)I"⟩
abbrev cX6_fine : ByteArray := prog_1_method_38_code
def yX6_fine : MethodName := ⟨RX6, "fine", "(I)I"⟩
abbrev cX6_rowsThere : ByteArray := prog_1_method_39_code
def yX6_rowsThere : MethodName := ⟨RX6, "rowsThere", "()I"⟩
abbrev cX6_swearersIfTaken : ByteArray := prog_1_method_40_code
def yX6_swearersIfTaken : MethodName := ⟨RX6, "swearersIfTaken", "(III)I"⟩
abbrev cX6_isStone : ByteArray := prog_1_method_41_code
def yX6_isStone : MethodName := ⟨RX6, "isStone", "(I)Z"⟩
abbrev cX6_isWitness : ByteArray := prog_1_method_42_code
def yX6_isWitness : MethodName := ⟨RX6, "isWitness", "(I)Z"⟩
abbrev cX6_isRow : ByteArray := prog_1_method_43_code
def yX6_isRow : MethodName := ⟨RX6, "isRow", "(I)Z"⟩
abbrev cX6_isYard : ByteArray := prog_1_method_44_code
def yX6_isYard : MethodName := ⟨RX6, "isYard", "(I)Z"⟩
abbrev cX6_isPain : ByteArray := prog_1_method_45_code
def yX6_isPain : MethodName := ⟨RX6, "isPain", "(I)Z"⟩
abbrev cX6_isMany : ByteArray := prog_1_method_46_code
def yX6_isMany : MethodName := ⟨RX6, "isMany", "(I)Z"⟩
abbrev cX6_isLater : ByteArray := prog_1_method_47_code
def yX6_isLater : MethodName := ⟨RX6, "isLater", "(I)Z"⟩
abbrev cX6_isEither : ByteArray := prog_1_method_48_code
def yX6_isEither : MethodName := ⟨RX6, "isEither", "(I)Z"⟩
abbrev cX6_commonDivisor : ByteArray := prog_1_method_49_code
def yX6_commonDivisor : MethodName := ⟨RX6, "commonDivisor", "(II)I"⟩
abbrev cX6_isOf : ByteArray := prog_1_method_50_code
def yX6_isOf : MethodName := ⟨RX6, "isOf", "(II)Z"⟩
def RX7 : String := "BeatBoundsModel"
def TX7 : u_T := fun k => match k with
  | 0 => ("BeatBoundsModel", "thrown", "I", false)
  | 1 => ("BeatBoundsModel", "status", "I", false)
  | 2 => ("BeatBoundsModel", "lane", "[I", true)
  | 3 => ("BeatBoundsModel", "many", "[I", true)
  | 4 => ("BeatBoundsModel", "item", "[I", true)
  | 5 => ("BeatBoundsModel", "parish", "[I", true)
  | 6 => ("BeatBoundsModel", "fresh", "[I", true)
  | 7 => ("BeatBoundsModel", "then", "[I", true)
  | 8 => ("BeatBoundsModel", "was", "[I", true)
  | 9 => ("BeatBoundsModel", "acts", "I", false)
  | 10 => ("BeatBoundsModel", "tape", "[I", true)
  | 11 => ("BeatBoundsModel", "taped", "I", false)
  | 12 => ("BeatBoundsModel", "cursor", "I", false)
  | 13 => ("BeatBoundsModel", "start", "I", false)
  | 14 => ("BeatBoundsModel", "token", "I", false)
  | 15 => ("BeatBoundsModel", "value", "I", false)
  | 16 => ("BeatBoundsModel", "fault", "I", false)
  | 17 => ("BeatBoundsModel", "faultAt", "I", false)
  | 18 => ("BeatBoundsModel", "latest", "I", false)
  | 19 => ("BeatBoundsModel", "said", "[I", true)
  | 20 => ("BeatBoundsModel", "orders", "[I", true)
  | 21 => ("BeatBoundsModel", "isKept", "[Z", true)
  | 22 => ("BeatBoundsModel", "kept", "[I", true)
  | 23 => ("BeatBoundsModel", "trace", "[I", true)
  | _ => ("BeatBoundsModel", "traced", "I", false)
def tyX7 : Nat → FieldType := fun k => match k with
  | 0 => .int
  | 1 => .int
  | 2 => .array .int
  | 3 => .array .int
  | 4 => .array .int
  | 5 => .array .int
  | 6 => .array .int
  | 7 => .array .int
  | 8 => .array .int
  | 9 => .int
  | 10 => .array .int
  | 11 => .int
  | 12 => .int
  | 13 => .int
  | 14 => .int
  | 15 => .int
  | 16 => .int
  | 17 => .int
  | 18 => .int
  | 19 => .array .int
  | 20 => .array .int
  | 21 => .array .boolean
  | 22 => .array .int
  | 23 => .array .int
  | _ => .int
abbrev wsX70 : List Cond := u_ws RX7 TX7 25
theorem nmX7 : ∀ a, a < 25 → ∀ b, b < 25 → a ≠ b → (TX7 a).2.1 ≠ (TX7 b).2.1 := by decide +kernel
theorem tyX7_ok : ∀ k, k < 25 → parseFieldDescriptor (TX7 k).2.2.1 = some (tyX7 k) := by decide +kernel
abbrev cX7_init : ByteArray := prog_9_method_1_code
def yX7_init : MethodName := ⟨RX7, "<init>", "()V"⟩
abbrev cX7_in : ByteArray := prog_9_method_3_code
def yX7_in : MethodName := ⟨RX7, "in", "(JJJ)Z"⟩
abbrev cX7_finding : ByteArray := prog_9_method_4_code
def yX7_finding : MethodName := ⟨RX7, "finding", "(I)I"⟩
abbrev cX7_isRow : ByteArray := prog_9_method_5_code
def yX7_isRow : MethodName := ⟨RX7, "isRow", "(I)Z"⟩
abbrev cX7_row : ByteArray := prog_9_method_6_code
def yX7_row : MethodName := ⟨RX7, "row", "(III)I"⟩
abbrev cX7_set : ByteArray := prog_9_method_7_code
def yX7_set : MethodName := ⟨RX7, "set", "(III)I"⟩
abbrev cX7_copy : ByteArray := prog_9_method_8_code
def yX7_copy : MethodName := ⟨RX7, "copy", "(IIIII)I"⟩
abbrev cX7_drop : ByteArray := prog_9_method_9_code
def yX7_drop : MethodName := ⟨RX7, "drop", "(I)I"⟩
abbrev cX7_feed : ByteArray := prog_9_method_10_code
def yX7_feed : MethodName := ⟨RX7, "feed", "(I)I"⟩
abbrev cX7_bad : ByteArray := prog_9_method_11_code
def yX7_bad : MethodName := ⟨RX7, "bad", "(I)V"⟩
abbrev cX7_nextToken : ByteArray := prog_9_method_12_code
def yX7_nextToken : MethodName := ⟨RX7, "nextToken", "()V"⟩
abbrev cX7_must : ByteArray := prog_9_method_13_code
def yX7_must : MethodName := ⟨RX7, "must", "(Z)V"⟩
abbrev cX7_isLetter : ByteArray := prog_9_method_14_code
def yX7_isLetter : MethodName := ⟨RX7, "isLetter", "(I)Z"⟩
abbrev cX7_number : ByteArray := prog_9_method_15_code
def yX7_number : MethodName := ⟨RX7, "number", "(II)I"⟩
abbrev cX7_mustSign : ByteArray := prog_9_method_16_code
def yX7_mustSign : MethodName := ⟨RX7, "mustSign", "(I)V"⟩
abbrev cX7_begin : ByteArray := prog_9_method_17_code
def yX7_begin : MethodName := ⟨RX7, "begin", "()V"⟩
abbrev cX7_failed : ByteArray := prog_9_method_18_code
def yX7_failed : MethodName := ⟨RX7, "failed", "()Z"⟩
abbrev cX7_fault : ByteArray := prog_9_method_19_code
def yX7_fault : MethodName := ⟨RX7, "fault", "()I"⟩
abbrev cX7_kindBy : ByteArray := prog_9_method_20_code
def yX7_kindBy : MethodName := ⟨RX7, "kindBy", "(I)I"⟩
abbrev cX7_isSort : ByteArray := prog_9_method_21_code
def yX7_isSort : MethodName := ⟨RX7, "isSort", "()Z"⟩
abbrev cX7_readStone : ByteArray := prog_9_method_22_code
def yX7_readStone : MethodName := ⟨RX7, "readStone", "()V"⟩
abbrev cX7_readWitness : ByteArray := prog_9_method_23_code
def yX7_readWitness : MethodName := ⟨RX7, "readWitness", "()V"⟩
abbrev cX7_parish : ByteArray := prog_9_method_24_code
def yX7_parish : MethodName := ⟨RX7, "parish", "()I"⟩
abbrev cX7_isThere : ByteArray := prog_9_method_25_code
def yX7_isThere : MethodName := ⟨RX7, "isThere", "()Z"⟩
abbrev cX7_isStone : ByteArray := prog_9_method_26_code
def yX7_isStone : MethodName := ⟨RX7, "isStone", "(I)Z"⟩
abbrev cX7_isWitness : ByteArray := prog_9_method_27_code
def yX7_isWitness : MethodName := ⟨RX7, "isWitness", "(I)Z"⟩
abbrev cX7_everybody : ByteArray := prog_9_method_28_code
def yX7_everybody : MethodName := ⟨RX7, "everybody", "()I"⟩
abbrev cX7_bits : ByteArray := prog_9_method_29_code
def yX7_bits : MethodName := ⟨RX7, "bits", "(I)I"⟩
abbrev cX7_has : ByteArray := prog_9_method_30_code
def yX7_has : MethodName := ⟨RX7, "has", "(II)Z"⟩
abbrev cX7_of : ByteArray := prog_9_method_31_code
def yX7_of : MethodName := ⟨RX7, "of", "([III)I"⟩
abbrev cX7_known : ByteArray := prog_9_method_32_code
def yX7_known : MethodName := ⟨RX7, "known", "(II)I"⟩
abbrev cX7_isAlive : ByteArray := prog_9_method_33_code
def yX7_isAlive : MethodName := ⟨RX7, "isAlive", "([II)Z"⟩
abbrev cX7_isTaken : ByteArray := prog_9_method_34_code
def yX7_isTaken : MethodName := ⟨RX7, "isTaken", "([II)Z"⟩
abbrev cX7_says : ByteArray := prog_9_method_35_code
def yX7_says : MethodName := ⟨RX7, "says", "([III)I"⟩
abbrev cX7_whoSwears : ByteArray := prog_9_method_36_code
def yX7_whoSwears : MethodName := ⟨RX7, "whoSwears", "([II)I"⟩
abbrev cX7_bump : ByteArray := prog_9_method_37_code
def yX7_bump : MethodName := ⟨RX7, "bump", "([IIII)I"⟩
abbrev cX7_age : ByteArray := prog_9_method_38_code
def yX7_age : MethodName := ⟨RX7, "age", "([II)V"⟩
abbrev cX7_layThen : ByteArray := prog_9_method_39_code
def yX7_layThen : MethodName := ⟨RX7, "layThen", "()V"⟩
abbrev cX7_keep : ByteArray := prog_9_method_40_code
def yX7_keep : MethodName := ⟨RX7, "keep", "()V"⟩
abbrev cX7_walk : ByteArray := prog_9_method_41_code
def yX7_walk : MethodName := ⟨RX7, "walk", "(III)I"⟩
abbrev cX7_move : ByteArray := prog_9_method_42_code
def yX7_move : MethodName := ⟨RX7, "move", "(II)I"⟩
abbrev cX7_bribe : ByteArray := prog_9_method_43_code
def yX7_bribe : MethodName := ⟨RX7, "bribe", "(II)I"⟩
abbrev cX7_alive : ByteArray := prog_9_method_44_code
def yX7_alive : MethodName := ⟨RX7, "alive", "()I"⟩
abbrev cX7_years : ByteArray := prog_9_method_45_code
def yX7_years : MethodName := ⟨RX7, "years", "(I)I"⟩
abbrev cX7_undo : ByteArray := prog_9_method_46_code
def yX7_undo : MethodName := ⟨RX7, "undo", "()I"⟩
abbrev cX7_stonesOf : ByteArray := prog_9_method_47_code
def yX7_stonesOf : MethodName := ⟨RX7, "stonesOf", "(I)I"⟩
abbrev cX7_witness : ByteArray := prog_9_method_48_code
def yX7_witness : MethodName := ⟨RX7, "witness", "(II)I"⟩
abbrev cX7_memory : ByteArray := prog_9_method_49_code
def yX7_memory : MethodName := ⟨RX7, "memory", "(III)I"⟩
abbrev cX7_stone : ByteArray := prog_9_method_50_code
def yX7_stone : MethodName := ⟨RX7, "stone", "(I)I"⟩
abbrev cX7_laySaid : ByteArray := prog_9_method_51_code
def yX7_laySaid : MethodName := ⟨RX7, "laySaid", "(II)I"⟩
abbrev cX7_sworn : ByteArray := prog_9_method_52_code
def yX7_sworn : MethodName := ⟨RX7, "sworn", "(II)I"⟩
abbrev cX7_sayYard : ByteArray := prog_9_method_53_code
def yX7_sayYard : MethodName := ⟨RX7, "sayYard", "(II)I"⟩
abbrev cX7_belief : ByteArray := prog_9_method_54_code
def yX7_belief : MethodName := ⟨RX7, "belief", "(III)I"⟩
abbrev cX7_likeliest : ByteArray := prog_9_method_55_code
def yX7_likeliest : MethodName := ⟨RX7, "likeliest", "(I)I"⟩
abbrev cX7_till : ByteArray := prog_9_method_56_code
def yX7_till : MethodName := ⟨RX7, "till", "(II)I"⟩
abbrev cX7_sworeLater : ByteArray := prog_9_method_57_code
def yX7_sworeLater : MethodName := ⟨RX7, "sworeLater", "(IIII)I"⟩
abbrev cX7_takeable : ByteArray := prog_9_method_58_code
def yX7_takeable : MethodName := ⟨RX7, "takeable", "()I"⟩
abbrev cX7_take : ByteArray := prog_9_method_59_code
def yX7_take : MethodName := ⟨RX7, "take", "(IIIII)I"⟩
abbrev cX7_pain : ByteArray := prog_9_method_60_code
def yX7_pain : MethodName := ⟨RX7, "pain", "(III)I"⟩
abbrev cX7_isNear : ByteArray := prog_9_method_61_code
def yX7_isNear : MethodName := ⟨RX7, "isNear", "(III)Z"⟩
abbrev cX7_follow : ByteArray := prog_9_method_62_code
def yX7_follow : MethodName := ⟨RX7, "follow", "(IIII)I"⟩
abbrev cX7_order : ByteArray := prog_9_method_63_code
def yX7_order : MethodName := ⟨RX7, "order", "(II)I"⟩
abbrev cX7_stood : ByteArray := prog_9_method_64_code
def yX7_stood : MethodName := ⟨RX7, "stood", "(III)I"⟩
abbrev cX7_shift : ByteArray := prog_9_method_65_code
def yX7_shift : MethodName := ⟨RX7, "shift", "(II)I"⟩
abbrev cX7_map : ByteArray := prog_9_method_66_code
def yX7_map : MethodName := ⟨RX7, "map", "(II)I"⟩
abbrev cX7_agree : ByteArray := prog_9_method_67_code
def yX7_agree : MethodName := ⟨RX7, "agree", "(I)I"⟩
abbrev cX7_drawn : ByteArray := prog_9_method_68_code
def yX7_drawn : MethodName := ⟨RX7, "drawn", "(III)I"⟩
abbrev cX7_image : ByteArray := prog_9_method_69_code
def yX7_image : MethodName := ⟨RX7, "image", "(I)I"⟩
abbrev cX7_restore : ByteArray := prog_9_method_70_code
def yX7_restore : MethodName := ⟨RX7, "restore", "(I)I"⟩
abbrev cX7_isOf : ByteArray := prog_9_method_71_code
def yX7_isOf : MethodName := ⟨RX7, "isOf", "(II)Z"⟩
abbrev cX7_kind : ByteArray := prog_9_method_72_code
def yX7_kind : MethodName := ⟨RX7, "kind", "(I)I"⟩
abbrev cX7_as : ByteArray := prog_9_method_73_code
def yX7_as : MethodName := ⟨RX7, "as", "(II)I"⟩
abbrev cX7_began : ByteArray := prog_9_method_74_code
def yX7_began : MethodName := ⟨RX7, "began", "(I)V"⟩
abbrev cX7_plainSize : ByteArray := prog_9_method_75_code
def yX7_plainSize : MethodName := ⟨RX7, "plainSize", "(I)I"⟩
abbrev cX7_twinSize : ByteArray := prog_9_method_76_code
def yX7_twinSize : MethodName := ⟨RX7, "twinSize", "(I)I"⟩
abbrev cX7_markOf : ByteArray := prog_9_method_77_code
def yX7_markOf : MethodName := ⟨RX7, "markOf", "(I)I"⟩
abbrev cX7_sizeOf : ByteArray := prog_9_method_78_code
def yX7_sizeOf : MethodName := ⟨RX7, "sizeOf", "(I)I"⟩
abbrev cX7_ask : ByteArray := prog_9_method_79_code
def yX7_ask : MethodName := ⟨RX7, "ask", "(II)I"⟩
abbrev cX7_trace : ByteArray := prog_9_method_80_code
def yX7_trace : MethodName := ⟨RX7, "trace", "(I)I"⟩
abbrev cX7_count : ByteArray := prog_9_method_81_code
def yX7_count : MethodName := ⟨RX7, "count", "(I)I"⟩
abbrev cX7_status : ByteArray := prog_9_method_82_code
def yX7_status : MethodName := ⟨RX7, "status", "()I"⟩
def RJ6 : String := "java/lang/Integer"
def TJ6 : u_T := fun k => match k with
  | _ => ("", "", "", false)
def tyJ6 : Nat → FieldType := fun k => match k with
  | _ => .int
abbrev wsJ60 : List Cond := u_ws RJ6 TJ6 0
theorem nmJ6 : ∀ a, a < 0 → ∀ b, b < 0 → a ≠ b → (TJ6 a).2.1 ≠ (TJ6 b).2.1 := by decide +kernel
theorem tyJ6_ok : ∀ k, k < 0 → parseFieldDescriptor (TJ6 k).2.2.1 = some (tyJ6 k) := by decide +kernel
abbrev cJ6_bitCount_0f7a4 : ByteArray := prog_10_method_49_code
def yJ6_bitCount_0f7a4 : MethodName := ⟨RJ6, "bitCount", "(I)I"⟩
def RJ9 : String := "java/lang/Math"
def TJ9 : u_T := fun k => match k with
  | _ => ("", "", "", false)
def tyJ9 : Nat → FieldType := fun k => match k with
  | _ => .int
abbrev wsJ90 : List Cond := u_ws RJ9 TJ9 0
theorem nmJ9 : ∀ a, a < 0 → ∀ b, b < 0 → a ≠ b → (TJ9 a).2.1 ≠ (TJ9 b).2.1 := by decide +kernel
theorem tyJ9_ok : ∀ k, k < 0 → parseFieldDescriptor (TJ9 k).2.2.1 = some (tyJ9 k) := by decide +kernel
abbrev cJ9_abs_0f7a4 : ByteArray := prog_11_method_59_code
def yJ9_abs_0f7a4 : MethodName := ⟨RJ9, "abs", "(I)I"⟩
abbrev cJ9_max_7cf53 : ByteArray := prog_11_method_65_code
def yJ9_max_7cf53 : MethodName := ⟨RJ9, "max", "(II)I"⟩
abbrev cJ9_max_f86c9 : ByteArray := prog_11_method_66_code
def yJ9_max_f86c9 : MethodName := ⟨RJ9, "max", "(JJ)J"⟩
abbrev cJ9_min_7cf53 : ByteArray := prog_11_method_69_code
def yJ9_min_7cf53 : MethodName := ⟨RJ9, "min", "(II)I"⟩
abbrev cJ9_min_f86c9 : ByteArray := prog_11_method_70_code
def yJ9_min_f86c9 : MethodName := ⟨RJ9, "min", "(JJ)J"⟩
def RJ10 : String := "java/lang/System"
def TJ10 : u_T := fun k => match k with
  | _ => ("", "", "", false)
def tyJ10 : Nat → FieldType := fun k => match k with
  | _ => .int
abbrev wsJ100 : List Cond := u_ws RJ10 TJ10 0
theorem nmJ10 : ∀ a, a < 0 → ∀ b, b < 0 → a ≠ b → (TJ10 a).2.1 ≠ (TJ10 b).2.1 := by decide +kernel
theorem tyJ10_ok : ∀ k, k < 0 → parseFieldDescriptor (TJ10 k).2.2.1 = some (tyJ10 k) := by decide +kernel
def RL : String := "BeatBoundsLaw"
abbrev cL_law : ByteArray := code
def yL_law : MethodName := ⟨RL, "law", "([I)Z"⟩
abbrev vwCl : List vw_C := [(RX0, TX0, 8), (RX1, TX1, 2), (RX2, TX2, 4), (RX3, TX3, 14), (RX4, TX4, 4), (RX5, TX5, 5), (RX6, TX6, 9), (RX7, TX7, 25)]
theorem inX0 : ∀ w ∈ wsX00, w ∈ lw_tbl := by decide +kernel
theorem inX1 : ∀ w ∈ wsX10, w ∈ lw_tbl := by decide +kernel
theorem inX2 : ∀ w ∈ wsX20, w ∈ lw_tbl := by decide +kernel
theorem inX3 : ∀ w ∈ wsX30, w ∈ lw_tbl := by decide +kernel
theorem inX4 : ∀ w ∈ wsX40, w ∈ lw_tbl := by decide +kernel
theorem inX5 : ∀ w ∈ wsX50, w ∈ lw_tbl := by decide +kernel
theorem inX6 : ∀ w ∈ wsX60, w ∈ lw_tbl := by decide +kernel
theorem inX7 : ∀ w ∈ wsX70, w ∈ lw_tbl := by decide +kernel
end
section
theorem dX0_init_0 : decode cX0_init 0 = .ok (.aload_n 0, 1) := by decide +kernel
theorem dX0_init_1 : decode cX0_init 1 = .ok (.invokespecial 3, 3) := by decide +kernel
theorem dX0_init_4 : decode cX0_init 4 = .ok (.aload_n 0, 1) := by decide +kernel
theorem dX0_init_5 : decode cX0_init 5 = .ok (.iconst 0, 1) := by decide +kernel
theorem dX0_init_6 : decode cX0_init 6 = .ok (.putfield 9, 3) := by decide +kernel
theorem dX0_init_9 : decode cX0_init 9 = .ok (.aload_n 0, 1) := by decide +kernel
theorem dX0_init_10 : decode cX0_init 10 = .ok (.iconst 0, 1) := by decide +kernel
theorem dX0_init_11 : decode cX0_init 11 = .ok (.putfield 15, 3) := by decide +kernel
theorem dX0_init_14 : decode cX0_init 14 = .ok (.aload_n 0, 1) := by decide +kernel
theorem dX0_init_15 : decode cX0_init 15 = .ok (.bipush 24, 2) := by decide +kernel
theorem dX0_init_17 : decode cX0_init 17 = .ok (.newarray .int, 2) := by decide +kernel
theorem dX0_init_19 : decode cX0_init 19 = .ok (.putfield 18, 3) := by decide +kernel
theorem dX0_init_22 : decode cX0_init 22 = .ok (.aload_n 0, 1) := by decide +kernel
theorem dX0_init_23 : decode cX0_init 23 = .ok (.bipush 24, 2) := by decide +kernel
theorem dX0_init_25 : decode cX0_init 25 = .ok (.newarray .int, 2) := by decide +kernel
theorem dX0_init_27 : decode cX0_init 27 = .ok (.putfield 22, 3) := by decide +kernel
theorem dX0_init_30 : decode cX0_init 30 = .ok (.aload_n 0, 1) := by decide +kernel
theorem dX0_init_31 : decode cX0_init 31 = .ok (.bipush 24, 2) := by decide +kernel
theorem dX0_init_33 : decode cX0_init 33 = .ok (.newarray .int, 2) := by decide +kernel
theorem dX0_init_35 : decode cX0_init 35 = .ok (.putfield 25, 3) := by decide +kernel
theorem dX0_init_38 : decode cX0_init 38 = .ok (.aload_n 0, 1) := by decide +kernel
theorem dX0_init_39 : decode cX0_init 39 = .ok (.sipush 144, 3) := by decide +kernel
theorem dX0_init_42 : decode cX0_init 42 = .ok (.newarray .int, 2) := by decide +kernel
theorem dX0_init_44 : decode cX0_init 44 = .ok (.putfield 28, 3) := by decide +kernel
theorem dX0_init_47 : decode cX0_init 47 = .ok (.aload_n 0, 1) := by decide +kernel
theorem dX0_init_48 : decode cX0_init 48 = .ok (.sipush 144, 3) := by decide +kernel
theorem dX0_init_51 : decode cX0_init 51 = .ok (.newarray .int, 2) := by decide +kernel
theorem dX0_init_53 : decode cX0_init 53 = .ok (.putfield 31, 3) := by decide +kernel
theorem dX0_init_56 : decode cX0_init 56 = .ok (.aload_n 0, 1) := by decide +kernel
theorem dX0_init_57 : decode cX0_init 57 = .ok (.sipush 144, 3) := by decide +kernel
theorem dX0_init_60 : decode cX0_init 60 = .ok (.newarray .int, 2) := by decide +kernel
theorem dX0_init_62 : decode cX0_init 62 = .ok (.putfield 34, 3) := by decide +kernel
theorem dX0_init_65 : decode cX0_init 65 = .ok (.return_, 1) := by decide +kernel
theorem dX0_forgetAll_0 : decode cX0_forgetAll 0 = .ok (.aload_n 0, 1) := by decide +kernel
theorem dX0_forgetAll_1 : decode cX0_forgetAll 1 = .ok (.iconst 0, 1) := by decide +kernel
theorem dX0_forgetAll_2 : decode cX0_forgetAll 2 = .ok (.putfield 9, 3) := by decide +kernel
theorem dX0_forgetAll_5 : decode cX0_forgetAll 5 = .ok (.return_, 1) := by decide +kernel
theorem dX0_keep_0 : decode cX0_keep 0 = .ok (.aload_n 0, 1) := by decide +kernel
theorem dX0_keep_1 : decode cX0_keep 1 = .ok (.getfield 18, 3) := by decide +kernel
theorem dX0_keep_4 : decode cX0_keep 4 = .ok (.aload_n 0, 1) := by decide +kernel
theorem dX0_keep_5 : decode cX0_keep 5 = .ok (.getfield 15, 3) := by decide +kernel
theorem dX0_keep_8 : decode cX0_keep 8 = .ok (.iload_n 1, 1) := by decide +kernel
theorem dX0_keep_9 : decode cX0_keep 9 = .ok (.iastore, 1) := by decide +kernel
theorem dX0_keep_10 : decode cX0_keep 10 = .ok (.aload_n 0, 1) := by decide +kernel
theorem dX0_keep_11 : decode cX0_keep 11 = .ok (.getfield 22, 3) := by decide +kernel
theorem dX0_keep_14 : decode cX0_keep 14 = .ok (.aload_n 0, 1) := by decide +kernel
theorem dX0_keep_15 : decode cX0_keep 15 = .ok (.getfield 15, 3) := by decide +kernel
theorem dX0_keep_18 : decode cX0_keep 18 = .ok (.iload_n 2, 1) := by decide +kernel
theorem dX0_keep_19 : decode cX0_keep 19 = .ok (.iastore, 1) := by decide +kernel
theorem dX0_keep_20 : decode cX0_keep 20 = .ok (.iload_n 1, 1) := by decide +kernel
theorem dX0_keep_21 : decode cX0_keep 21 = .ok (.iconst 1, 1) := by decide +kernel
theorem dX0_keep_22 : decode cX0_keep 22 = .ok (.if_icmp .ne 21, 3) := by decide +kernel
theorem dX0_keep_25 : decode cX0_keep 25 = .ok (.aload_n 0, 1) := by decide +kernel
theorem dX0_keep_26 : decode cX0_keep 26 = .ok (.getfield 25, 3) := by decide +kernel
theorem dX0_keep_29 : decode cX0_keep 29 = .ok (.aload_n 0, 1) := by decide +kernel
theorem dX0_keep_30 : decode cX0_keep 30 = .ok (.getfield 15, 3) := by decide +kernel
theorem dX0_keep_33 : decode cX0_keep 33 = .ok (.aload_n 3, 1) := by decide +kernel
theorem dX0_keep_34 : decode cX0_keep 34 = .ok (.getfield 37, 3) := by decide +kernel
theorem dX0_keep_37 : decode cX0_keep 37 = .ok (.iload_n 2, 1) := by decide +kernel
theorem dX0_keep_38 : decode cX0_keep 38 = .ok (.iaload, 1) := by decide +kernel
theorem dX0_keep_39 : decode cX0_keep 39 = .ok (.iastore, 1) := by decide +kernel
theorem dX0_keep_40 : decode cX0_keep 40 = .ok (.goto 36, 3) := by decide +kernel
theorem dX0_keep_43 : decode cX0_keep 43 = .ok (.iload_n 1, 1) := by decide +kernel
theorem dX0_keep_44 : decode cX0_keep 44 = .ok (.iconst 2, 1) := by decide +kernel
theorem dX0_keep_45 : decode cX0_keep 45 = .ok (.if_icmp .ne 21, 3) := by decide +kernel
theorem dX0_keep_48 : decode cX0_keep 48 = .ok (.aload_n 0, 1) := by decide +kernel
theorem dX0_keep_49 : decode cX0_keep 49 = .ok (.getfield 25, 3) := by decide +kernel
theorem dX0_keep_52 : decode cX0_keep 52 = .ok (.aload_n 0, 1) := by decide +kernel
theorem dX0_keep_53 : decode cX0_keep 53 = .ok (.getfield 15, 3) := by decide +kernel
theorem dX0_keep_56 : decode cX0_keep 56 = .ok (.aload_n 3, 1) := by decide +kernel
theorem dX0_keep_57 : decode cX0_keep 57 = .ok (.getfield 42, 3) := by decide +kernel
theorem dX0_keep_60 : decode cX0_keep 60 = .ok (.iload_n 2, 1) := by decide +kernel
theorem dX0_keep_61 : decode cX0_keep 61 = .ok (.iaload, 1) := by decide +kernel
theorem dX0_keep_62 : decode cX0_keep 62 = .ok (.iastore, 1) := by decide +kernel
theorem dX0_keep_63 : decode cX0_keep 63 = .ok (.goto 13, 3) := by decide +kernel
theorem dX0_keep_66 : decode cX0_keep 66 = .ok (.iload_n 1, 1) := by decide +kernel
theorem dX0_keep_67 : decode cX0_keep 67 = .ok (.ifCond .ne 9, 3) := by decide +kernel
theorem dX0_keep_70 : decode cX0_keep 70 = .ok (.aload_n 0, 1) := by decide +kernel
theorem dX0_keep_71 : decode cX0_keep 71 = .ok (.iload_n 2, 1) := by decide +kernel
theorem dX0_keep_72 : decode cX0_keep 72 = .ok (.aload_n 3, 1) := by decide +kernel
theorem dX0_keep_73 : decode cX0_keep 73 = .ok (.invokevirtual 45, 3) := by decide +kernel
theorem dX0_keep_76 : decode cX0_keep 76 = .ok (.aload_n 0, 1) := by decide +kernel
theorem dX0_keep_77 : decode cX0_keep 77 = .ok (.aload_n 0, 1) := by decide +kernel
theorem dX0_keep_78 : decode cX0_keep 78 = .ok (.getfield 15, 3) := by decide +kernel
theorem dX0_keep_81 : decode cX0_keep 81 = .ok (.iconst 1, 1) := by decide +kernel
theorem dX0_keep_82 : decode cX0_keep 82 = .ok (.iadd, 1) := by decide +kernel
theorem dX0_keep_83 : decode cX0_keep 83 = .ok (.bipush 24, 2) := by decide +kernel
theorem dX0_keep_85 : decode cX0_keep 85 = .ok (.if_icmp .ge 12, 3) := by decide +kernel
theorem dX0_keep_88 : decode cX0_keep 88 = .ok (.aload_n 0, 1) := by decide +kernel
theorem dX0_keep_89 : decode cX0_keep 89 = .ok (.getfield 15, 3) := by decide +kernel
theorem dX0_keep_92 : decode cX0_keep 92 = .ok (.iconst 1, 1) := by decide +kernel
theorem dX0_keep_93 : decode cX0_keep 93 = .ok (.iadd, 1) := by decide +kernel
theorem dX0_keep_94 : decode cX0_keep 94 = .ok (.goto 4, 3) := by decide +kernel
theorem dX0_keep_97 : decode cX0_keep 97 = .ok (.iconst 0, 1) := by decide +kernel
theorem dX0_keep_98 : decode cX0_keep 98 = .ok (.putfield 15, 3) := by decide +kernel
theorem dX0_keep_101 : decode cX0_keep 101 = .ok (.aload_n 0, 1) := by decide +kernel
theorem dX0_keep_102 : decode cX0_keep 102 = .ok (.bipush 24, 2) := by decide +kernel
theorem dX0_keep_104 : decode cX0_keep 104 = .ok (.aload_n 0, 1) := by decide +kernel
theorem dX0_keep_105 : decode cX0_keep 105 = .ok (.getfield 9, 3) := by decide +kernel
theorem dX0_keep_108 : decode cX0_keep 108 = .ok (.iconst 1, 1) := by decide +kernel
theorem dX0_keep_109 : decode cX0_keep 109 = .ok (.iadd, 1) := by decide +kernel
theorem dX0_keep_110 : decode cX0_keep 110 = .ok (.invokestatic 49, 3) := by decide +kernel
theorem dX0_keep_113 : decode cX0_keep 113 = .ok (.putfield 9, 3) := by decide +kernel
theorem dX0_keep_116 : decode cX0_keep 116 = .ok (.return_, 1) := by decide +kernel
theorem dX0_takeBack_0 : decode cX0_takeBack 0 = .ok (.aload_n 0, 1) := by decide +kernel
theorem dX0_takeBack_1 : decode cX0_takeBack 1 = .ok (.getfield 9, 3) := by decide +kernel
theorem dX0_takeBack_4 : decode cX0_takeBack 4 = .ok (.ifCond .ne 4, 3) := by decide +kernel
theorem dX0_takeBack_7 : decode cX0_takeBack 7 = .ok (.return_, 1) := by decide +kernel
theorem dX0_takeBack_8 : decode cX0_takeBack 8 = .ok (.aload_n 0, 1) := by decide +kernel
theorem dX0_takeBack_9 : decode cX0_takeBack 9 = .ok (.dup, 1) := by decide +kernel
theorem dX0_takeBack_10 : decode cX0_takeBack 10 = .ok (.getfield 9, 3) := by decide +kernel
theorem dX0_takeBack_13 : decode cX0_takeBack 13 = .ok (.iconst 1, 1) := by decide +kernel
theorem dX0_takeBack_14 : decode cX0_takeBack 14 = .ok (.isub, 1) := by decide +kernel
theorem dX0_takeBack_15 : decode cX0_takeBack 15 = .ok (.putfield 9, 3) := by decide +kernel
theorem dX0_takeBack_18 : decode cX0_takeBack 18 = .ok (.aload_n 0, 1) := by decide +kernel
theorem dX0_takeBack_19 : decode cX0_takeBack 19 = .ok (.aload_n 0, 1) := by decide +kernel
theorem dX0_takeBack_20 : decode cX0_takeBack 20 = .ok (.getfield 15, 3) := by decide +kernel
theorem dX0_takeBack_23 : decode cX0_takeBack 23 = .ok (.ifCond .le 12, 3) := by decide +kernel
theorem dX0_takeBack_26 : decode cX0_takeBack 26 = .ok (.aload_n 0, 1) := by decide +kernel
theorem dX0_takeBack_27 : decode cX0_takeBack 27 = .ok (.getfield 15, 3) := by decide +kernel
theorem dX0_takeBack_30 : decode cX0_takeBack 30 = .ok (.iconst 1, 1) := by decide +kernel
theorem dX0_takeBack_31 : decode cX0_takeBack 31 = .ok (.isub, 1) := by decide +kernel
theorem dX0_takeBack_32 : decode cX0_takeBack 32 = .ok (.goto 5, 3) := by decide +kernel
theorem dX0_takeBack_35 : decode cX0_takeBack 35 = .ok (.bipush 23, 2) := by decide +kernel
theorem dX0_takeBack_37 : decode cX0_takeBack 37 = .ok (.putfield 15, 3) := by decide +kernel
theorem dX0_takeBack_40 : decode cX0_takeBack 40 = .ok (.aload_n 0, 1) := by decide +kernel
theorem dX0_takeBack_41 : decode cX0_takeBack 41 = .ok (.getfield 22, 3) := by decide +kernel
theorem dX0_takeBack_44 : decode cX0_takeBack 44 = .ok (.aload_n 0, 1) := by decide +kernel
theorem dX0_takeBack_45 : decode cX0_takeBack 45 = .ok (.getfield 15, 3) := by decide +kernel
theorem dX0_takeBack_48 : decode cX0_takeBack 48 = .ok (.iaload, 1) := by decide +kernel
theorem dX0_takeBack_49 : decode cX0_takeBack 49 = .ok (.istore_n 2, 1) := by decide +kernel
theorem dX0_takeBack_50 : decode cX0_takeBack 50 = .ok (.aload_n 0, 1) := by decide +kernel
theorem dX0_takeBack_51 : decode cX0_takeBack 51 = .ok (.getfield 18, 3) := by decide +kernel
theorem dX0_takeBack_54 : decode cX0_takeBack 54 = .ok (.aload_n 0, 1) := by decide +kernel
theorem dX0_takeBack_55 : decode cX0_takeBack 55 = .ok (.getfield 15, 3) := by decide +kernel
theorem dX0_takeBack_58 : decode cX0_takeBack 58 = .ok (.iaload, 1) := by decide +kernel
theorem dX0_takeBack_59 : decode cX0_takeBack 59 = .ok (.iconst 1, 1) := by decide +kernel
theorem dX0_takeBack_60 : decode cX0_takeBack 60 = .ok (.if_icmp .ne 21, 3) := by decide +kernel
theorem dX0_takeBack_63 : decode cX0_takeBack 63 = .ok (.aload_n 1, 1) := by decide +kernel
theorem dX0_takeBack_64 : decode cX0_takeBack 64 = .ok (.getfield 37, 3) := by decide +kernel
theorem dX0_takeBack_67 : decode cX0_takeBack 67 = .ok (.iload_n 2, 1) := by decide +kernel
theorem dX0_takeBack_68 : decode cX0_takeBack 68 = .ok (.aload_n 0, 1) := by decide +kernel
theorem dX0_takeBack_69 : decode cX0_takeBack 69 = .ok (.getfield 25, 3) := by decide +kernel
theorem dX0_takeBack_72 : decode cX0_takeBack 72 = .ok (.aload_n 0, 1) := by decide +kernel
theorem dX0_takeBack_73 : decode cX0_takeBack 73 = .ok (.getfield 15, 3) := by decide +kernel
theorem dX0_takeBack_76 : decode cX0_takeBack 76 = .ok (.iaload, 1) := by decide +kernel
theorem dX0_takeBack_77 : decode cX0_takeBack 77 = .ok (.iastore, 1) := by decide +kernel
theorem dX0_takeBack_78 : decode cX0_takeBack 78 = .ok (.goto 65, 3) := by decide +kernel
theorem dX0_takeBack_81 : decode cX0_takeBack 81 = .ok (.aload_n 0, 1) := by decide +kernel
theorem dX0_takeBack_82 : decode cX0_takeBack 82 = .ok (.getfield 18, 3) := by decide +kernel
theorem dX0_takeBack_85 : decode cX0_takeBack 85 = .ok (.aload_n 0, 1) := by decide +kernel
theorem dX0_takeBack_86 : decode cX0_takeBack 86 = .ok (.getfield 15, 3) := by decide +kernel
theorem dX0_takeBack_89 : decode cX0_takeBack 89 = .ok (.iaload, 1) := by decide +kernel
theorem dX0_takeBack_90 : decode cX0_takeBack 90 = .ok (.iconst 2, 1) := by decide +kernel
theorem dX0_takeBack_91 : decode cX0_takeBack 91 = .ok (.if_icmp .ne 21, 3) := by decide +kernel
theorem dX0_takeBack_94 : decode cX0_takeBack 94 = .ok (.aload_n 1, 1) := by decide +kernel
theorem dX0_takeBack_95 : decode cX0_takeBack 95 = .ok (.getfield 42, 3) := by decide +kernel
theorem dX0_takeBack_98 : decode cX0_takeBack 98 = .ok (.iload_n 2, 1) := by decide +kernel
theorem dX0_takeBack_99 : decode cX0_takeBack 99 = .ok (.aload_n 0, 1) := by decide +kernel
theorem dX0_takeBack_100 : decode cX0_takeBack 100 = .ok (.getfield 25, 3) := by decide +kernel
theorem dX0_takeBack_103 : decode cX0_takeBack 103 = .ok (.aload_n 0, 1) := by decide +kernel
theorem dX0_takeBack_104 : decode cX0_takeBack 104 = .ok (.getfield 15, 3) := by decide +kernel
theorem dX0_takeBack_107 : decode cX0_takeBack 107 = .ok (.iaload, 1) := by decide +kernel
theorem dX0_takeBack_108 : decode cX0_takeBack 108 = .ok (.iastore, 1) := by decide +kernel
theorem dX0_takeBack_109 : decode cX0_takeBack 109 = .ok (.goto 34, 3) := by decide +kernel
theorem dX0_takeBack_112 : decode cX0_takeBack 112 = .ok (.aload_n 0, 1) := by decide +kernel
theorem dX0_takeBack_113 : decode cX0_takeBack 113 = .ok (.getfield 18, 3) := by decide +kernel
theorem dX0_takeBack_116 : decode cX0_takeBack 116 = .ok (.aload_n 0, 1) := by decide +kernel
theorem dX0_takeBack_117 : decode cX0_takeBack 117 = .ok (.getfield 15, 3) := by decide +kernel
theorem dX0_takeBack_120 : decode cX0_takeBack 120 = .ok (.iaload, 1) := by decide +kernel
theorem dX0_takeBack_121 : decode cX0_takeBack 121 = .ok (.ifCond .ne 12, 3) := by decide +kernel
theorem dX0_takeBack_124 : decode cX0_takeBack 124 = .ok (.aload_n 0, 1) := by decide +kernel
theorem dX0_takeBack_125 : decode cX0_takeBack 125 = .ok (.iload_n 2, 1) := by decide +kernel
theorem dX0_takeBack_126 : decode cX0_takeBack 126 = .ok (.aload_n 1, 1) := by decide +kernel
theorem dX0_takeBack_127 : decode cX0_takeBack 127 = .ok (.invokevirtual 55, 3) := by decide +kernel
theorem dX0_takeBack_130 : decode cX0_takeBack 130 = .ok (.goto 13, 3) := by decide +kernel
theorem dX0_takeBack_133 : decode cX0_takeBack 133 = .ok (.aload_n 1, 1) := by decide +kernel
theorem dX0_takeBack_134 : decode cX0_takeBack 134 = .ok (.dup, 1) := by decide +kernel
theorem dX0_takeBack_135 : decode cX0_takeBack 135 = .ok (.getfield 58, 3) := by decide +kernel
theorem dX0_takeBack_138 : decode cX0_takeBack 138 = .ok (.iconst 1, 1) := by decide +kernel
theorem dX0_takeBack_139 : decode cX0_takeBack 139 = .ok (.isub, 1) := by decide +kernel
theorem dX0_takeBack_140 : decode cX0_takeBack 140 = .ok (.putfield 58, 3) := by decide +kernel
theorem dX0_takeBack_143 : decode cX0_takeBack 143 = .ok (.return_, 1) := by decide +kernel
theorem dX0_keepBumps_0 : decode cX0_keepBumps 0 = .ok (.iconst 0, 1) := by decide +kernel
theorem dX0_keepBumps_1 : decode cX0_keepBumps 1 = .ok (.istore_n 3, 1) := by decide +kernel
theorem dX0_keepBumps_2 : decode cX0_keepBumps 2 = .ok (.iload_n 3, 1) := by decide +kernel
theorem dX0_keepBumps_3 : decode cX0_keepBumps 3 = .ok (.bipush 6, 2) := by decide +kernel
theorem dX0_keepBumps_5 : decode cX0_keepBumps 5 = .ok (.if_icmp .ge 80, 3) := by decide +kernel
theorem dX0_keepBumps_8 : decode cX0_keepBumps 8 = .ok (.aload_n 2, 1) := by decide +kernel
theorem dX0_keepBumps_9 : decode cX0_keepBumps 9 = .ok (.iload_n 3, 1) := by decide +kernel
theorem dX0_keepBumps_10 : decode cX0_keepBumps 10 = .ok (.iload_n 1, 1) := by decide +kernel
theorem dX0_keepBumps_11 : decode cX0_keepBumps 11 = .ok (.invokevirtual 61, 3) := by decide +kernel
theorem dX0_keepBumps_14 : decode cX0_keepBumps 14 = .ok (.istore 4, 2) := by decide +kernel
theorem dX0_keepBumps_16 : decode cX0_keepBumps 16 = .ok (.aload_n 0, 1) := by decide +kernel
theorem dX0_keepBumps_17 : decode cX0_keepBumps 17 = .ok (.getfield 28, 3) := by decide +kernel
theorem dX0_keepBumps_20 : decode cX0_keepBumps 20 = .ok (.aload_n 0, 1) := by decide +kernel
theorem dX0_keepBumps_21 : decode cX0_keepBumps 21 = .ok (.getfield 15, 3) := by decide +kernel
theorem dX0_keepBumps_24 : decode cX0_keepBumps 24 = .ok (.bipush 6, 2) := by decide +kernel
theorem dX0_keepBumps_26 : decode cX0_keepBumps 26 = .ok (.imul, 1) := by decide +kernel
theorem dX0_keepBumps_27 : decode cX0_keepBumps 27 = .ok (.iload_n 3, 1) := by decide +kernel
theorem dX0_keepBumps_28 : decode cX0_keepBumps 28 = .ok (.iadd, 1) := by decide +kernel
theorem dX0_keepBumps_29 : decode cX0_keepBumps 29 = .ok (.aload_n 2, 1) := by decide +kernel
theorem dX0_keepBumps_30 : decode cX0_keepBumps 30 = .ok (.getfield 64, 3) := by decide +kernel
theorem dX0_keepBumps_33 : decode cX0_keepBumps 33 = .ok (.iload 4, 2) := by decide +kernel
theorem dX0_keepBumps_35 : decode cX0_keepBumps 35 = .ok (.iaload, 1) := by decide +kernel
theorem dX0_keepBumps_36 : decode cX0_keepBumps 36 = .ok (.iastore, 1) := by decide +kernel
theorem dX0_keepBumps_37 : decode cX0_keepBumps 37 = .ok (.aload_n 0, 1) := by decide +kernel
theorem dX0_keepBumps_38 : decode cX0_keepBumps 38 = .ok (.getfield 31, 3) := by decide +kernel
theorem dX0_keepBumps_41 : decode cX0_keepBumps 41 = .ok (.aload_n 0, 1) := by decide +kernel
theorem dX0_keepBumps_42 : decode cX0_keepBumps 42 = .ok (.getfield 15, 3) := by decide +kernel
theorem dX0_keepBumps_45 : decode cX0_keepBumps 45 = .ok (.bipush 6, 2) := by decide +kernel
theorem dX0_keepBumps_47 : decode cX0_keepBumps 47 = .ok (.imul, 1) := by decide +kernel
theorem dX0_keepBumps_48 : decode cX0_keepBumps 48 = .ok (.iload_n 3, 1) := by decide +kernel
theorem dX0_keepBumps_49 : decode cX0_keepBumps 49 = .ok (.iadd, 1) := by decide +kernel
theorem dX0_keepBumps_50 : decode cX0_keepBumps 50 = .ok (.aload_n 2, 1) := by decide +kernel
theorem dX0_keepBumps_51 : decode cX0_keepBumps 51 = .ok (.getfield 67, 3) := by decide +kernel
theorem dX0_keepBumps_54 : decode cX0_keepBumps 54 = .ok (.iload 4, 2) := by decide +kernel
theorem dX0_keepBumps_56 : decode cX0_keepBumps 56 = .ok (.iaload, 1) := by decide +kernel
theorem dX0_keepBumps_57 : decode cX0_keepBumps 57 = .ok (.iastore, 1) := by decide +kernel
theorem dX0_keepBumps_58 : decode cX0_keepBumps 58 = .ok (.aload_n 0, 1) := by decide +kernel
theorem dX0_keepBumps_59 : decode cX0_keepBumps 59 = .ok (.getfield 34, 3) := by decide +kernel
theorem dX0_keepBumps_62 : decode cX0_keepBumps 62 = .ok (.aload_n 0, 1) := by decide +kernel
theorem dX0_keepBumps_63 : decode cX0_keepBumps 63 = .ok (.getfield 15, 3) := by decide +kernel
theorem dX0_keepBumps_66 : decode cX0_keepBumps 66 = .ok (.bipush 6, 2) := by decide +kernel
theorem dX0_keepBumps_68 : decode cX0_keepBumps 68 = .ok (.imul, 1) := by decide +kernel
theorem dX0_keepBumps_69 : decode cX0_keepBumps 69 = .ok (.iload_n 3, 1) := by decide +kernel
theorem dX0_keepBumps_70 : decode cX0_keepBumps 70 = .ok (.iadd, 1) := by decide +kernel
theorem dX0_keepBumps_71 : decode cX0_keepBumps 71 = .ok (.aload_n 2, 1) := by decide +kernel
theorem dX0_keepBumps_72 : decode cX0_keepBumps 72 = .ok (.getfield 70, 3) := by decide +kernel
theorem dX0_keepBumps_75 : decode cX0_keepBumps 75 = .ok (.iload 4, 2) := by decide +kernel
theorem dX0_keepBumps_77 : decode cX0_keepBumps 77 = .ok (.iaload, 1) := by decide +kernel
theorem dX0_keepBumps_78 : decode cX0_keepBumps 78 = .ok (.iastore, 1) := by decide +kernel
theorem dX0_keepBumps_79 : decode cX0_keepBumps 79 = .ok (.iinc 3 1, 3) := by decide +kernel
theorem dX0_keepBumps_82 : decode cX0_keepBumps 82 = .ok (.goto (-80), 3) := by decide +kernel
theorem dX0_keepBumps_85 : decode cX0_keepBumps 85 = .ok (.return_, 1) := by decide +kernel
theorem dX0_takeBumpsBack_0 : decode cX0_takeBumpsBack 0 = .ok (.iconst 0, 1) := by decide +kernel
theorem dX0_takeBumpsBack_1 : decode cX0_takeBumpsBack 1 = .ok (.istore_n 3, 1) := by decide +kernel
theorem dX0_takeBumpsBack_2 : decode cX0_takeBumpsBack 2 = .ok (.iload_n 3, 1) := by decide +kernel
theorem dX0_takeBumpsBack_3 : decode cX0_takeBumpsBack 3 = .ok (.bipush 6, 2) := by decide +kernel
theorem dX0_takeBumpsBack_5 : decode cX0_takeBumpsBack 5 = .ok (.if_icmp .ge 80, 3) := by decide +kernel
theorem dX0_takeBumpsBack_8 : decode cX0_takeBumpsBack 8 = .ok (.aload_n 2, 1) := by decide +kernel
theorem dX0_takeBumpsBack_9 : decode cX0_takeBumpsBack 9 = .ok (.iload_n 3, 1) := by decide +kernel
theorem dX0_takeBumpsBack_10 : decode cX0_takeBumpsBack 10 = .ok (.iload_n 1, 1) := by decide +kernel
theorem dX0_takeBumpsBack_11 : decode cX0_takeBumpsBack 11 = .ok (.invokevirtual 61, 3) := by decide +kernel
theorem dX0_takeBumpsBack_14 : decode cX0_takeBumpsBack 14 = .ok (.istore 4, 2) := by decide +kernel
theorem dX0_takeBumpsBack_16 : decode cX0_takeBumpsBack 16 = .ok (.aload_n 2, 1) := by decide +kernel
theorem dX0_takeBumpsBack_17 : decode cX0_takeBumpsBack 17 = .ok (.getfield 64, 3) := by decide +kernel
theorem dX0_takeBumpsBack_20 : decode cX0_takeBumpsBack 20 = .ok (.iload 4, 2) := by decide +kernel
theorem dX0_takeBumpsBack_22 : decode cX0_takeBumpsBack 22 = .ok (.aload_n 0, 1) := by decide +kernel
theorem dX0_takeBumpsBack_23 : decode cX0_takeBumpsBack 23 = .ok (.getfield 28, 3) := by decide +kernel
theorem dX0_takeBumpsBack_26 : decode cX0_takeBumpsBack 26 = .ok (.aload_n 0, 1) := by decide +kernel
theorem dX0_takeBumpsBack_27 : decode cX0_takeBumpsBack 27 = .ok (.getfield 15, 3) := by decide +kernel
theorem dX0_takeBumpsBack_30 : decode cX0_takeBumpsBack 30 = .ok (.bipush 6, 2) := by decide +kernel
theorem dX0_takeBumpsBack_32 : decode cX0_takeBumpsBack 32 = .ok (.imul, 1) := by decide +kernel
theorem dX0_takeBumpsBack_33 : decode cX0_takeBumpsBack 33 = .ok (.iload_n 3, 1) := by decide +kernel
theorem dX0_takeBumpsBack_34 : decode cX0_takeBumpsBack 34 = .ok (.iadd, 1) := by decide +kernel
theorem dX0_takeBumpsBack_35 : decode cX0_takeBumpsBack 35 = .ok (.iaload, 1) := by decide +kernel
theorem dX0_takeBumpsBack_36 : decode cX0_takeBumpsBack 36 = .ok (.iastore, 1) := by decide +kernel
theorem dX0_takeBumpsBack_37 : decode cX0_takeBumpsBack 37 = .ok (.aload_n 2, 1) := by decide +kernel
theorem dX0_takeBumpsBack_38 : decode cX0_takeBumpsBack 38 = .ok (.getfield 67, 3) := by decide +kernel
theorem dX0_takeBumpsBack_41 : decode cX0_takeBumpsBack 41 = .ok (.iload 4, 2) := by decide +kernel
theorem dX0_takeBumpsBack_43 : decode cX0_takeBumpsBack 43 = .ok (.aload_n 0, 1) := by decide +kernel
theorem dX0_takeBumpsBack_44 : decode cX0_takeBumpsBack 44 = .ok (.getfield 31, 3) := by decide +kernel
theorem dX0_takeBumpsBack_47 : decode cX0_takeBumpsBack 47 = .ok (.aload_n 0, 1) := by decide +kernel
theorem dX0_takeBumpsBack_48 : decode cX0_takeBumpsBack 48 = .ok (.getfield 15, 3) := by decide +kernel
theorem dX0_takeBumpsBack_51 : decode cX0_takeBumpsBack 51 = .ok (.bipush 6, 2) := by decide +kernel
theorem dX0_takeBumpsBack_53 : decode cX0_takeBumpsBack 53 = .ok (.imul, 1) := by decide +kernel
theorem dX0_takeBumpsBack_54 : decode cX0_takeBumpsBack 54 = .ok (.iload_n 3, 1) := by decide +kernel
theorem dX0_takeBumpsBack_55 : decode cX0_takeBumpsBack 55 = .ok (.iadd, 1) := by decide +kernel
theorem dX0_takeBumpsBack_56 : decode cX0_takeBumpsBack 56 = .ok (.iaload, 1) := by decide +kernel
theorem dX0_takeBumpsBack_57 : decode cX0_takeBumpsBack 57 = .ok (.iastore, 1) := by decide +kernel
theorem dX0_takeBumpsBack_58 : decode cX0_takeBumpsBack 58 = .ok (.aload_n 2, 1) := by decide +kernel
theorem dX0_takeBumpsBack_59 : decode cX0_takeBumpsBack 59 = .ok (.getfield 70, 3) := by decide +kernel
theorem dX0_takeBumpsBack_62 : decode cX0_takeBumpsBack 62 = .ok (.iload 4, 2) := by decide +kernel
theorem dX0_takeBumpsBack_64 : decode cX0_takeBumpsBack 64 = .ok (.aload_n 0, 1) := by decide +kernel
theorem dX0_takeBumpsBack_65 : decode cX0_takeBumpsBack 65 = .ok (.getfield 34, 3) := by decide +kernel
theorem dX0_takeBumpsBack_68 : decode cX0_takeBumpsBack 68 = .ok (.aload_n 0, 1) := by decide +kernel
theorem dX0_takeBumpsBack_69 : decode cX0_takeBumpsBack 69 = .ok (.getfield 15, 3) := by decide +kernel
theorem dX0_takeBumpsBack_72 : decode cX0_takeBumpsBack 72 = .ok (.bipush 6, 2) := by decide +kernel
theorem dX0_takeBumpsBack_74 : decode cX0_takeBumpsBack 74 = .ok (.imul, 1) := by decide +kernel
theorem dX0_takeBumpsBack_75 : decode cX0_takeBumpsBack 75 = .ok (.iload_n 3, 1) := by decide +kernel
theorem dX0_takeBumpsBack_76 : decode cX0_takeBumpsBack 76 = .ok (.iadd, 1) := by decide +kernel
theorem dX0_takeBumpsBack_77 : decode cX0_takeBumpsBack 77 = .ok (.iaload, 1) := by decide +kernel
theorem dX0_takeBumpsBack_78 : decode cX0_takeBumpsBack 78 = .ok (.iastore, 1) := by decide +kernel
theorem dX0_takeBumpsBack_79 : decode cX0_takeBumpsBack 79 = .ok (.iinc 3 1, 3) := by decide +kernel
theorem dX0_takeBumpsBack_82 : decode cX0_takeBumpsBack 82 = .ok (.goto (-80), 3) := by decide +kernel
theorem dX0_takeBumpsBack_85 : decode cX0_takeBumpsBack 85 = .ok (.return_, 1) := by decide +kernel
theorem dX1_init_0 : decode cX1_init 0 = .ok (.aload_n 0, 1) := by decide +kernel
theorem dX1_init_1 : decode cX1_init 1 = .ok (.invokespecial 3, 3) := by decide +kernel
theorem dX1_init_4 : decode cX1_init 4 = .ok (.aload_n 0, 1) := by decide +kernel
theorem dX1_init_5 : decode cX1_init 5 = .ok (.bipush 16, 2) := by decide +kernel
theorem dX1_init_7 : decode cX1_init 7 = .ok (.newarray .int, 2) := by decide +kernel
theorem dX1_init_9 : decode cX1_init 9 = .ok (.putfield 9, 3) := by decide +kernel
theorem dX1_init_12 : decode cX1_init 12 = .ok (.aload_n 0, 1) := by decide +kernel
theorem dX1_init_13 : decode cX1_init 13 = .ok (.iconst 0, 1) := by decide +kernel
theorem dX1_init_14 : decode cX1_init 14 = .ok (.putfield 15, 3) := by decide +kernel
theorem dX1_init_17 : decode cX1_init 17 = .ok (.return_, 1) := by decide +kernel
theorem dX1_answer_0 : decode cX1_answer 0 = .ok (.aload_n 0, 1) := by decide +kernel
theorem dX1_answer_1 : decode cX1_answer 1 = .ok (.iconst 0, 1) := by decide +kernel
theorem dX1_answer_2 : decode cX1_answer 2 = .ok (.putfield 15, 3) := by decide +kernel
theorem dX1_answer_5 : decode cX1_answer 5 = .ok (.aload_n 0, 1) := by decide +kernel
theorem dX1_answer_6 : decode cX1_answer 6 = .ok (.aload_n 1, 1) := by decide +kernel
theorem dX1_answer_7 : decode cX1_answer 7 = .ok (.getfield 19, 3) := by decide +kernel
theorem dX1_answer_10 : decode cX1_answer 10 = .ok (.iload_n 2, 1) := by decide +kernel
theorem dX1_answer_11 : decode cX1_answer 11 = .ok (.iaload, 1) := by decide +kernel
theorem dX1_answer_12 : decode cX1_answer 12 = .ok (.iload_n 3, 1) := by decide +kernel
theorem dX1_answer_13 : decode cX1_answer 13 = .ok (.invokestatic 24, 3) := by decide +kernel
theorem dX1_answer_16 : decode cX1_answer 16 = .ok (.aload_n 1, 1) := by decide +kernel
theorem dX1_answer_17 : decode cX1_answer 17 = .ok (.iload_n 2, 1) := by decide +kernel
theorem dX1_answer_18 : decode cX1_answer 18 = .ok (.iconst 0, 1) := by decide +kernel
theorem dX1_answer_19 : decode cX1_answer 19 = .ok (.invokevirtual 28, 3) := by decide +kernel
theorem dX1_answer_22 : decode cX1_answer 22 = .ok (.ireturn, 1) := by decide +kernel
theorem dX1_bodyOf_0 : decode cX1_bodyOf 0 = .ok (.iload_n 0, 1) := by decide +kernel
theorem dX1_bodyOf_1 : decode cX1_bodyOf 1 = .ok (.istore_n 2, 1) := by decide +kernel
theorem dX1_bodyOf_2 : decode cX1_bodyOf 2 = .ok (.iconst 0, 1) := by decide +kernel
theorem dX1_bodyOf_3 : decode cX1_bodyOf 3 = .ok (.istore_n 3, 1) := by decide +kernel
theorem dX1_bodyOf_4 : decode cX1_bodyOf 4 = .ok (.iload_n 3, 1) := by decide +kernel
theorem dX1_bodyOf_5 : decode cX1_bodyOf 5 = .ok (.bipush 6, 2) := by decide +kernel
theorem dX1_bodyOf_7 : decode cX1_bodyOf 7 = .ok (.if_icmp .ge 42, 3) := by decide +kernel
theorem dX1_bodyOf_10 : decode cX1_bodyOf 10 = .ok (.iload_n 1, 1) := by decide +kernel
theorem dX1_bodyOf_11 : decode cX1_bodyOf 11 = .ok (.ifCond .ne 11, 3) := by decide +kernel
theorem dX1_bodyOf_14 : decode cX1_bodyOf 14 = .ok (.getstatic 32, 3) := by decide +kernel
theorem dX1_bodyOf_17 : decode cX1_bodyOf 17 = .ok (.iload_n 2, 1) := by decide +kernel
theorem dX1_bodyOf_18 : decode cX1_bodyOf 18 = .ok (.iaload, 1) := by decide +kernel
theorem dX1_bodyOf_19 : decode cX1_bodyOf 19 = .ok (.goto 8, 3) := by decide +kernel
theorem dX1_bodyOf_22 : decode cX1_bodyOf 22 = .ok (.getstatic 35, 3) := by decide +kernel
theorem dX1_bodyOf_25 : decode cX1_bodyOf 25 = .ok (.iload_n 2, 1) := by decide +kernel
theorem dX1_bodyOf_26 : decode cX1_bodyOf 26 = .ok (.iaload, 1) := by decide +kernel
theorem dX1_bodyOf_27 : decode cX1_bodyOf 27 = .ok (.istore 4, 2) := by decide +kernel
theorem dX1_bodyOf_29 : decode cX1_bodyOf 29 = .ok (.iload 4, 2) := by decide +kernel
theorem dX1_bodyOf_31 : decode cX1_bodyOf 31 = .ok (.ifCond .eq 6, 3) := by decide +kernel
theorem dX1_bodyOf_34 : decode cX1_bodyOf 34 = .ok (.iload 4, 2) := by decide +kernel
theorem dX1_bodyOf_36 : decode cX1_bodyOf 36 = .ok (.ireturn, 1) := by decide +kernel
theorem dX1_bodyOf_37 : decode cX1_bodyOf 37 = .ok (.getstatic 38, 3) := by decide +kernel
theorem dX1_bodyOf_40 : decode cX1_bodyOf 40 = .ok (.iload_n 2, 1) := by decide +kernel
theorem dX1_bodyOf_41 : decode cX1_bodyOf 41 = .ok (.iaload, 1) := by decide +kernel
theorem dX1_bodyOf_42 : decode cX1_bodyOf 42 = .ok (.istore_n 2, 1) := by decide +kernel
theorem dX1_bodyOf_43 : decode cX1_bodyOf 43 = .ok (.iinc 3 1, 3) := by decide +kernel
theorem dX1_bodyOf_46 : decode cX1_bodyOf 46 = .ok (.goto (-42), 3) := by decide +kernel
theorem dX1_bodyOf_49 : decode cX1_bodyOf 49 = .ok (.iconst 0, 1) := by decide +kernel
theorem dX1_bodyOf_50 : decode cX1_bodyOf 50 = .ok (.ireturn, 1) := by decide +kernel
theorem dX1_anew_0 : decode cX1_anew 0 = .ok (.aload_n 0, 1) := by decide +kernel
theorem dX1_anew_1 : decode cX1_anew 1 = .ok (.aload_n 2, 1) := by decide +kernel
theorem dX1_anew_2 : decode cX1_anew 2 = .ok (.getfield 19, 3) := by decide +kernel
theorem dX1_anew_5 : decode cX1_anew 5 = .ok (.iload_n 3, 1) := by decide +kernel
theorem dX1_anew_6 : decode cX1_anew 6 = .ok (.iaload, 1) := by decide +kernel
theorem dX1_anew_7 : decode cX1_anew 7 = .ok (.iload_n 1, 1) := by decide +kernel
theorem dX1_anew_8 : decode cX1_anew 8 = .ok (.invokestatic 24, 3) := by decide +kernel
theorem dX1_anew_11 : decode cX1_anew 11 = .ok (.aload_n 2, 1) := by decide +kernel
theorem dX1_anew_12 : decode cX1_anew 12 = .ok (.iload_n 3, 1) := by decide +kernel
theorem dX1_anew_13 : decode cX1_anew 13 = .ok (.iload 4, 2) := by decide +kernel
theorem dX1_anew_15 : decode cX1_anew 15 = .ok (.invokevirtual 28, 3) := by decide +kernel
theorem dX1_anew_18 : decode cX1_anew 18 = .ok (.ireturn, 1) := by decide +kernel
theorem dX1_begin_0 : decode cX1_begin 0 = .ok (.iload 4, 2) := by decide +kernel
theorem dX1_begin_2 : decode cX1_begin 2 = .ok (.bipush 30, 2) := by decide +kernel
theorem dX1_begin_4 : decode cX1_begin 4 = .ok (.if_icmp .le 5, 3) := by decide +kernel
theorem dX1_begin_7 : decode cX1_begin 7 = .ok (.iconst 0, 1) := by decide +kernel
theorem dX1_begin_8 : decode cX1_begin 8 = .ok (.ireturn, 1) := by decide +kernel
theorem dX1_begin_9 : decode cX1_begin 9 = .ok (.aload_n 0, 1) := by decide +kernel
theorem dX1_begin_10 : decode cX1_begin 10 = .ok (.iload_n 1, 1) := by decide +kernel
theorem dX1_begin_11 : decode cX1_begin 11 = .ok (.invokevirtual 41, 3) := by decide +kernel
theorem dX1_begin_14 : decode cX1_begin 14 = .ok (.iload 4, 2) := by decide +kernel
theorem dX1_begin_16 : decode cX1_begin 16 = .ok (.iconst 1, 1) := by decide +kernel
theorem dX1_begin_17 : decode cX1_begin 17 = .ok (.iadd, 1) := by decide +kernel
theorem dX1_begin_18 : decode cX1_begin 18 = .ok (.istore 5, 2) := by decide +kernel
theorem dX1_begin_20 : decode cX1_begin 20 = .ok (.iload_n 1, 1) := by decide +kernel
theorem dX1_begin_21 : decode cX1_begin 21 = .ok (.tableswitch 212 10 24 #[75, 84, 105, 117, 131, 212, 212, 212, 212, 212, 144, 146, 163, 178, 199], 75) := by decide +kernel
theorem dX1_begin_96 : decode cX1_begin 96 = .ok (.aload_n 2, 1) := by decide +kernel
theorem dX1_begin_97 : decode cX1_begin 97 = .ok (.iload_n 3, 1) := by decide +kernel
theorem dX1_begin_98 : decode cX1_begin 98 = .ok (.invokevirtual 45, 3) := by decide +kernel
theorem dX1_begin_101 : decode cX1_begin 101 = .ok (.invokestatic 49, 3) := by decide +kernel
theorem dX1_begin_104 : decode cX1_begin 104 = .ok (.ireturn, 1) := by decide +kernel
theorem dX1_begin_105 : decode cX1_begin 105 = .ok (.aload_n 0, 1) := by decide +kernel
theorem dX1_begin_106 : decode cX1_begin 106 = .ok (.bipush 10, 2) := by decide +kernel
theorem dX1_begin_108 : decode cX1_begin 108 = .ok (.aload_n 2, 1) := by decide +kernel
theorem dX1_begin_109 : decode cX1_begin 109 = .ok (.iload_n 3, 1) := by decide +kernel
theorem dX1_begin_110 : decode cX1_begin 110 = .ok (.iload 5, 2) := by decide +kernel
theorem dX1_begin_112 : decode cX1_begin 112 = .ok (.invokevirtual 28, 3) := by decide +kernel
theorem dX1_begin_115 : decode cX1_begin 115 = .ok (.aload_n 0, 1) := by decide +kernel
theorem dX1_begin_116 : decode cX1_begin 116 = .ok (.iconst 1, 1) := by decide +kernel
theorem dX1_begin_117 : decode cX1_begin 117 = .ok (.aload_n 2, 1) := by decide +kernel
theorem dX1_begin_118 : decode cX1_begin 118 = .ok (.iload_n 3, 1) := by decide +kernel
theorem dX1_begin_119 : decode cX1_begin 119 = .ok (.iload 5, 2) := by decide +kernel
theorem dX1_begin_121 : decode cX1_begin 121 = .ok (.invokevirtual 54, 3) := by decide +kernel
theorem dX1_begin_124 : decode cX1_begin 124 = .ok (.iadd, 1) := by decide +kernel
theorem dX1_begin_125 : decode cX1_begin 125 = .ok (.ireturn, 1) := by decide +kernel
theorem dX1_begin_126 : decode cX1_begin 126 = .ok (.aload_n 0, 1) := by decide +kernel
theorem dX1_begin_127 : decode cX1_begin 127 = .ok (.bipush 11, 2) := by decide +kernel
theorem dX1_begin_129 : decode cX1_begin 129 = .ok (.aload_n 2, 1) := by decide +kernel
theorem dX1_begin_130 : decode cX1_begin 130 = .ok (.iload_n 3, 1) := by decide +kernel
theorem dX1_begin_131 : decode cX1_begin 131 = .ok (.iload 5, 2) := by decide +kernel
theorem dX1_begin_133 : decode cX1_begin 133 = .ok (.invokevirtual 28, 3) := by decide +kernel
theorem dX1_begin_136 : decode cX1_begin 136 = .ok (.ineg, 1) := by decide +kernel
theorem dX1_begin_137 : decode cX1_begin 137 = .ok (.ireturn, 1) := by decide +kernel
theorem dX1_begin_138 : decode cX1_begin 138 = .ok (.aload_n 0, 1) := by decide +kernel
theorem dX1_begin_139 : decode cX1_begin 139 = .ok (.bipush 10, 2) := by decide +kernel
theorem dX1_begin_141 : decode cX1_begin 141 = .ok (.aload_n 2, 1) := by decide +kernel
theorem dX1_begin_142 : decode cX1_begin 142 = .ok (.iload_n 3, 1) := by decide +kernel
theorem dX1_begin_143 : decode cX1_begin 143 = .ok (.iload 5, 2) := by decide +kernel
theorem dX1_begin_145 : decode cX1_begin 145 = .ok (.invokevirtual 28, 3) := by decide +kernel
theorem dX1_begin_148 : decode cX1_begin 148 = .ok (.bipush 100, 2) := by decide +kernel
theorem dX1_begin_150 : decode cX1_begin 150 = .ok (.isub, 1) := by decide +kernel
theorem dX1_begin_151 : decode cX1_begin 151 = .ok (.ireturn, 1) := by decide +kernel
theorem dX1_begin_152 : decode cX1_begin 152 = .ok (.iconst 2, 1) := by decide +kernel
theorem dX1_begin_153 : decode cX1_begin 153 = .ok (.aload_n 0, 1) := by decide +kernel
theorem dX1_begin_154 : decode cX1_begin 154 = .ok (.bipush 13, 2) := by decide +kernel
theorem dX1_begin_156 : decode cX1_begin 156 = .ok (.aload_n 2, 1) := by decide +kernel
theorem dX1_begin_157 : decode cX1_begin 157 = .ok (.iload_n 3, 1) := by decide +kernel
theorem dX1_begin_158 : decode cX1_begin 158 = .ok (.iload 5, 2) := by decide +kernel
theorem dX1_begin_160 : decode cX1_begin 160 = .ok (.invokevirtual 28, 3) := by decide +kernel
theorem dX1_begin_163 : decode cX1_begin 163 = .ok (.imul, 1) := by decide +kernel
theorem dX1_begin_164 : decode cX1_begin 164 = .ok (.ireturn, 1) := by decide +kernel
theorem dX1_begin_165 : decode cX1_begin 165 = .ok (.iload_n 3, 1) := by decide +kernel
theorem dX1_begin_166 : decode cX1_begin 166 = .ok (.ireturn, 1) := by decide +kernel
theorem dX1_begin_167 : decode cX1_begin 167 = .ok (.aload_n 0, 1) := by decide +kernel
theorem dX1_begin_168 : decode cX1_begin 168 = .ok (.bipush 20, 2) := by decide +kernel
theorem dX1_begin_170 : decode cX1_begin 170 = .ok (.aload_n 2, 1) := by decide +kernel
theorem dX1_begin_171 : decode cX1_begin 171 = .ok (.iload_n 3, 1) := by decide +kernel
theorem dX1_begin_172 : decode cX1_begin 172 = .ok (.iload 5, 2) := by decide +kernel
theorem dX1_begin_174 : decode cX1_begin 174 = .ok (.invokevirtual 28, 3) := by decide +kernel
theorem dX1_begin_177 : decode cX1_begin 177 = .ok (.aload_n 2, 1) := by decide +kernel
theorem dX1_begin_178 : decode cX1_begin 178 = .ok (.iload_n 3, 1) := by decide +kernel
theorem dX1_begin_179 : decode cX1_begin 179 = .ok (.invokevirtual 57, 3) := by decide +kernel
theorem dX1_begin_182 : decode cX1_begin 182 = .ok (.iadd, 1) := by decide +kernel
theorem dX1_begin_183 : decode cX1_begin 183 = .ok (.ireturn, 1) := by decide +kernel
theorem dX1_begin_184 : decode cX1_begin 184 = .ok (.aload_n 0, 1) := by decide +kernel
theorem dX1_begin_185 : decode cX1_begin 185 = .ok (.bipush 21, 2) := by decide +kernel
theorem dX1_begin_187 : decode cX1_begin 187 = .ok (.aload_n 2, 1) := by decide +kernel
theorem dX1_begin_188 : decode cX1_begin 188 = .ok (.iload_n 3, 1) := by decide +kernel
theorem dX1_begin_189 : decode cX1_begin 189 = .ok (.iload 5, 2) := by decide +kernel
theorem dX1_begin_191 : decode cX1_begin 191 = .ok (.invokevirtual 28, 3) := by decide +kernel
theorem dX1_begin_194 : decode cX1_begin 194 = .ok (.sipush 1000, 3) := by decide +kernel
theorem dX1_begin_197 : decode cX1_begin 197 = .ok (.isub, 1) := by decide +kernel
theorem dX1_begin_198 : decode cX1_begin 198 = .ok (.ireturn, 1) := by decide +kernel
theorem dX1_begin_199 : decode cX1_begin 199 = .ok (.aload_n 0, 1) := by decide +kernel
theorem dX1_begin_200 : decode cX1_begin 200 = .ok (.bipush 20, 2) := by decide +kernel
theorem dX1_begin_202 : decode cX1_begin 202 = .ok (.aload_n 2, 1) := by decide +kernel
theorem dX1_begin_203 : decode cX1_begin 203 = .ok (.iload_n 3, 1) := by decide +kernel
theorem dX1_begin_204 : decode cX1_begin 204 = .ok (.iload 5, 2) := by decide +kernel
theorem dX1_begin_206 : decode cX1_begin 206 = .ok (.invokevirtual 28, 3) := by decide +kernel
theorem dX1_begin_209 : decode cX1_begin 209 = .ok (.aload_n 0, 1) := by decide +kernel
theorem dX1_begin_210 : decode cX1_begin 210 = .ok (.iconst 0, 1) := by decide +kernel
theorem dX1_begin_211 : decode cX1_begin 211 = .ok (.aload_n 2, 1) := by decide +kernel
theorem dX1_begin_212 : decode cX1_begin 212 = .ok (.iload_n 3, 1) := by decide +kernel
theorem dX1_begin_213 : decode cX1_begin 213 = .ok (.iload 5, 2) := by decide +kernel
theorem dX1_begin_215 : decode cX1_begin 215 = .ok (.invokevirtual 54, 3) := by decide +kernel
theorem dX1_begin_218 : decode cX1_begin 218 = .ok (.isub, 1) := by decide +kernel
theorem dX1_begin_219 : decode cX1_begin 219 = .ok (.ireturn, 1) := by decide +kernel
theorem dX1_begin_220 : decode cX1_begin 220 = .ok (.iconst 2, 1) := by decide +kernel
theorem dX1_begin_221 : decode cX1_begin 221 = .ok (.aload_n 0, 1) := by decide +kernel
theorem dX1_begin_222 : decode cX1_begin 222 = .ok (.bipush 21, 2) := by decide +kernel
theorem dX1_begin_224 : decode cX1_begin 224 = .ok (.aload_n 2, 1) := by decide +kernel
theorem dX1_begin_225 : decode cX1_begin 225 = .ok (.iload_n 3, 1) := by decide +kernel
theorem dX1_begin_226 : decode cX1_begin 226 = .ok (.iload 5, 2) := by decide +kernel
theorem dX1_begin_228 : decode cX1_begin 228 = .ok (.invokevirtual 28, 3) := by decide +kernel
theorem dX1_begin_231 : decode cX1_begin 231 = .ok (.imul, 1) := by decide +kernel
theorem dX1_begin_232 : decode cX1_begin 232 = .ok (.ireturn, 1) := by decide +kernel
theorem dX1_begin_233 : decode cX1_begin 233 = .ok (.iconst 0, 1) := by decide +kernel
theorem dX1_begin_234 : decode cX1_begin 234 = .ok (.ireturn, 1) := by decide +kernel
theorem dX1_leave_0 : decode cX1_leave 0 = .ok (.aload_n 0, 1) := by decide +kernel
theorem dX1_leave_1 : decode cX1_leave 1 = .ok (.getfield 15, 3) := by decide +kernel
theorem dX1_leave_4 : decode cX1_leave 4 = .ok (.bipush 16, 2) := by decide +kernel
theorem dX1_leave_6 : decode cX1_leave 6 = .ok (.if_icmp .ge 23, 3) := by decide +kernel
theorem dX1_leave_9 : decode cX1_leave 9 = .ok (.aload_n 0, 1) := by decide +kernel
theorem dX1_leave_10 : decode cX1_leave 10 = .ok (.getfield 9, 3) := by decide +kernel
theorem dX1_leave_13 : decode cX1_leave 13 = .ok (.aload_n 0, 1) := by decide +kernel
theorem dX1_leave_14 : decode cX1_leave 14 = .ok (.getfield 15, 3) := by decide +kernel
theorem dX1_leave_17 : decode cX1_leave 17 = .ok (.iload_n 1, 1) := by decide +kernel
theorem dX1_leave_18 : decode cX1_leave 18 = .ok (.iastore, 1) := by decide +kernel
theorem dX1_leave_19 : decode cX1_leave 19 = .ok (.aload_n 0, 1) := by decide +kernel
theorem dX1_leave_20 : decode cX1_leave 20 = .ok (.dup, 1) := by decide +kernel
theorem dX1_leave_21 : decode cX1_leave 21 = .ok (.getfield 15, 3) := by decide +kernel
theorem dX1_leave_24 : decode cX1_leave 24 = .ok (.iconst 1, 1) := by decide +kernel
theorem dX1_leave_25 : decode cX1_leave 25 = .ok (.iadd, 1) := by decide +kernel
theorem dX1_leave_26 : decode cX1_leave 26 = .ok (.putfield 15, 3) := by decide +kernel
theorem dX1_leave_29 : decode cX1_leave 29 = .ok (.return_, 1) := by decide +kernel
theorem dX2_init_0 : decode cX2_init 0 = .ok (.aload_n 0, 1) := by decide +kernel
theorem dX2_init_1 : decode cX2_init 1 = .ok (.invokespecial 3, 3) := by decide +kernel
theorem dX2_init_4 : decode cX2_init 4 = .ok (.aload_n 0, 1) := by decide +kernel
theorem dX2_init_5 : decode cX2_init 5 = .ok (.iconst 0, 1) := by decide +kernel
theorem dX2_init_6 : decode cX2_init 6 = .ok (.putfield 9, 3) := by decide +kernel
theorem dX2_init_9 : decode cX2_init 9 = .ok (.aload_n 0, 1) := by decide +kernel
theorem dX2_init_10 : decode cX2_init 10 = .ok (.bipush 6, 2) := by decide +kernel
theorem dX2_init_12 : decode cX2_init 12 = .ok (.newarray .int, 2) := by decide +kernel
theorem dX2_init_14 : decode cX2_init 14 = .ok (.putfield 15, 3) := by decide +kernel
theorem dX2_init_17 : decode cX2_init 17 = .ok (.aload_n 0, 1) := by decide +kernel
theorem dX2_init_18 : decode cX2_init 18 = .ok (.bipush 6, 2) := by decide +kernel
theorem dX2_init_20 : decode cX2_init 20 = .ok (.newarray .int, 2) := by decide +kernel
theorem dX2_init_22 : decode cX2_init 22 = .ok (.putfield 19, 3) := by decide +kernel
theorem dX2_init_25 : decode cX2_init 25 = .ok (.aload_n 0, 1) := by decide +kernel
theorem dX2_init_26 : decode cX2_init 26 = .ok (.sipush 384, 3) := by decide +kernel
theorem dX2_init_29 : decode cX2_init 29 = .ok (.newarray .int, 2) := by decide +kernel
theorem dX2_init_31 : decode cX2_init 31 = .ok (.putfield 22, 3) := by decide +kernel
theorem dX2_init_34 : decode cX2_init 34 = .ok (.return_, 1) := by decide +kernel
theorem dX2_gather_0 : decode cX2_gather 0 = .ok (.aload_n 0, 1) := by decide +kernel
theorem dX2_gather_1 : decode cX2_gather 1 = .ok (.iconst 0, 1) := by decide +kernel
theorem dX2_gather_2 : decode cX2_gather 2 = .ok (.putfield 9, 3) := by decide +kernel
theorem dX2_gather_5 : decode cX2_gather 5 = .ok (.iconst 0, 1) := by decide +kernel
theorem dX2_gather_6 : decode cX2_gather 6 = .ok (.istore_n 3, 1) := by decide +kernel
theorem dX2_gather_7 : decode cX2_gather 7 = .ok (.iload_n 3, 1) := by decide +kernel
theorem dX2_gather_8 : decode cX2_gather 8 = .ok (.aload_n 1, 1) := by decide +kernel
theorem dX2_gather_9 : decode cX2_gather 9 = .ok (.getfield 25, 3) := by decide +kernel
theorem dX2_gather_12 : decode cX2_gather 12 = .ok (.if_icmp .ge 55, 3) := by decide +kernel
theorem dX2_gather_15 : decode cX2_gather 15 = .ok (.aload_n 1, 1) := by decide +kernel
theorem dX2_gather_16 : decode cX2_gather 16 = .ok (.iload_n 3, 1) := by decide +kernel
theorem dX2_gather_17 : decode cX2_gather 17 = .ok (.iload_n 2, 1) := by decide +kernel
theorem dX2_gather_18 : decode cX2_gather 18 = .ok (.invokevirtual 30, 3) := by decide +kernel
theorem dX2_gather_21 : decode cX2_gather 21 = .ok (.istore 4, 2) := by decide +kernel
theorem dX2_gather_23 : decode cX2_gather 23 = .ok (.iload 4, 2) := by decide +kernel
theorem dX2_gather_25 : decode cX2_gather 25 = .ok (.ldc 34, 2) := by decide +kernel
theorem dX2_gather_27 : decode cX2_gather 27 = .ok (.if_icmp .eq 34, 3) := by decide +kernel
theorem dX2_gather_30 : decode cX2_gather 30 = .ok (.aload_n 0, 1) := by decide +kernel
theorem dX2_gather_31 : decode cX2_gather 31 = .ok (.getfield 15, 3) := by decide +kernel
theorem dX2_gather_34 : decode cX2_gather 34 = .ok (.aload_n 0, 1) := by decide +kernel
theorem dX2_gather_35 : decode cX2_gather 35 = .ok (.getfield 9, 3) := by decide +kernel
theorem dX2_gather_38 : decode cX2_gather 38 = .ok (.iload_n 3, 1) := by decide +kernel
theorem dX2_gather_39 : decode cX2_gather 39 = .ok (.iastore, 1) := by decide +kernel
theorem dX2_gather_40 : decode cX2_gather 40 = .ok (.aload_n 0, 1) := by decide +kernel
theorem dX2_gather_41 : decode cX2_gather 41 = .ok (.getfield 19, 3) := by decide +kernel
theorem dX2_gather_44 : decode cX2_gather 44 = .ok (.aload_n 0, 1) := by decide +kernel
theorem dX2_gather_45 : decode cX2_gather 45 = .ok (.getfield 9, 3) := by decide +kernel
theorem dX2_gather_48 : decode cX2_gather 48 = .ok (.iload 4, 2) := by decide +kernel
theorem dX2_gather_50 : decode cX2_gather 50 = .ok (.iastore, 1) := by decide +kernel
theorem dX2_gather_51 : decode cX2_gather 51 = .ok (.aload_n 0, 1) := by decide +kernel
theorem dX2_gather_52 : decode cX2_gather 52 = .ok (.dup, 1) := by decide +kernel
theorem dX2_gather_53 : decode cX2_gather 53 = .ok (.getfield 9, 3) := by decide +kernel
theorem dX2_gather_56 : decode cX2_gather 56 = .ok (.iconst 1, 1) := by decide +kernel
theorem dX2_gather_57 : decode cX2_gather 57 = .ok (.iadd, 1) := by decide +kernel
theorem dX2_gather_58 : decode cX2_gather 58 = .ok (.putfield 9, 3) := by decide +kernel
theorem dX2_gather_61 : decode cX2_gather 61 = .ok (.iinc 3 1, 3) := by decide +kernel
theorem dX2_gather_64 : decode cX2_gather 64 = .ok (.goto (-57), 3) := by decide +kernel
theorem dX2_gather_67 : decode cX2_gather 67 = .ok (.return_, 1) := by decide +kernel
theorem dX2_least_0 : decode cX2_least 0 = .ok (.bipush 99, 2) := by decide +kernel
theorem dX2_least_2 : decode cX2_least 2 = .ok (.istore_n 1, 1) := by decide +kernel
theorem dX2_least_3 : decode cX2_least 3 = .ok (.iconst 0, 1) := by decide +kernel
theorem dX2_least_4 : decode cX2_least 4 = .ok (.istore_n 2, 1) := by decide +kernel
theorem dX2_least_5 : decode cX2_least 5 = .ok (.iload_n 2, 1) := by decide +kernel
theorem dX2_least_6 : decode cX2_least 6 = .ok (.aload_n 0, 1) := by decide +kernel
theorem dX2_least_7 : decode cX2_least 7 = .ok (.getfield 9, 3) := by decide +kernel
theorem dX2_least_10 : decode cX2_least 10 = .ok (.if_icmp .ge 20, 3) := by decide +kernel
theorem dX2_least_13 : decode cX2_least 13 = .ok (.iload_n 1, 1) := by decide +kernel
theorem dX2_least_14 : decode cX2_least 14 = .ok (.aload_n 0, 1) := by decide +kernel
theorem dX2_least_15 : decode cX2_least 15 = .ok (.getfield 19, 3) := by decide +kernel
theorem dX2_least_18 : decode cX2_least 18 = .ok (.iload_n 2, 1) := by decide +kernel
theorem dX2_least_19 : decode cX2_least 19 = .ok (.iaload, 1) := by decide +kernel
theorem dX2_least_20 : decode cX2_least 20 = .ok (.invokestatic 35, 3) := by decide +kernel
theorem dX2_least_23 : decode cX2_least 23 = .ok (.istore_n 1, 1) := by decide +kernel
theorem dX2_least_24 : decode cX2_least 24 = .ok (.iinc 2 1, 3) := by decide +kernel
theorem dX2_least_27 : decode cX2_least 27 = .ok (.goto (-22), 3) := by decide +kernel
theorem dX2_least_30 : decode cX2_least 30 = .ok (.iload_n 1, 1) := by decide +kernel
theorem dX2_least_31 : decode cX2_least 31 = .ok (.ireturn, 1) := by decide +kernel
theorem dX2_greatest_0 : decode cX2_greatest 0 = .ok (.iconst 0, 1) := by decide +kernel
theorem dX2_greatest_1 : decode cX2_greatest 1 = .ok (.istore_n 1, 1) := by decide +kernel
theorem dX2_greatest_2 : decode cX2_greatest 2 = .ok (.iconst 0, 1) := by decide +kernel
theorem dX2_greatest_3 : decode cX2_greatest 3 = .ok (.istore_n 2, 1) := by decide +kernel
theorem dX2_greatest_4 : decode cX2_greatest 4 = .ok (.iload_n 2, 1) := by decide +kernel
theorem dX2_greatest_5 : decode cX2_greatest 5 = .ok (.aload_n 0, 1) := by decide +kernel
theorem dX2_greatest_6 : decode cX2_greatest 6 = .ok (.getfield 9, 3) := by decide +kernel
theorem dX2_greatest_9 : decode cX2_greatest 9 = .ok (.if_icmp .ge 20, 3) := by decide +kernel
theorem dX2_greatest_12 : decode cX2_greatest 12 = .ok (.iload_n 1, 1) := by decide +kernel
theorem dX2_greatest_13 : decode cX2_greatest 13 = .ok (.aload_n 0, 1) := by decide +kernel
theorem dX2_greatest_14 : decode cX2_greatest 14 = .ok (.getfield 19, 3) := by decide +kernel
theorem dX2_greatest_17 : decode cX2_greatest 17 = .ok (.iload_n 2, 1) := by decide +kernel
theorem dX2_greatest_18 : decode cX2_greatest 18 = .ok (.iaload, 1) := by decide +kernel
theorem dX2_greatest_19 : decode cX2_greatest 19 = .ok (.invokestatic 40, 3) := by decide +kernel
theorem dX2_greatest_22 : decode cX2_greatest 22 = .ok (.istore_n 1, 1) := by decide +kernel
theorem dX2_greatest_23 : decode cX2_greatest 23 = .ok (.iinc 2 1, 3) := by decide +kernel
theorem dX2_greatest_26 : decode cX2_greatest 26 = .ok (.goto (-22), 3) := by decide +kernel
theorem dX2_greatest_29 : decode cX2_greatest 29 = .ok (.iload_n 1, 1) := by decide +kernel
theorem dX2_greatest_30 : decode cX2_greatest 30 = .ok (.ireturn, 1) := by decide +kernel
theorem dX2_middle_0 : decode cX2_middle 0 = .ok (.aload_n 0, 1) := by decide +kernel
theorem dX2_middle_1 : decode cX2_middle 1 = .ok (.getfield 9, 3) := by decide +kernel
theorem dX2_middle_4 : decode cX2_middle 4 = .ok (.iconst 2, 1) := by decide +kernel
theorem dX2_middle_5 : decode cX2_middle 5 = .ok (.idiv, 1) := by decide +kernel
theorem dX2_middle_6 : decode cX2_middle 6 = .ok (.istore_n 1, 1) := by decide +kernel
theorem dX2_middle_7 : decode cX2_middle 7 = .ok (.iconst 0, 1) := by decide +kernel
theorem dX2_middle_8 : decode cX2_middle 8 = .ok (.istore_n 2, 1) := by decide +kernel
theorem dX2_middle_9 : decode cX2_middle 9 = .ok (.iload_n 2, 1) := by decide +kernel
theorem dX2_middle_10 : decode cX2_middle 10 = .ok (.aload_n 0, 1) := by decide +kernel
theorem dX2_middle_11 : decode cX2_middle 11 = .ok (.getfield 9, 3) := by decide +kernel
theorem dX2_middle_14 : decode cX2_middle 14 = .ok (.if_icmp .ge 48, 3) := by decide +kernel
theorem dX2_middle_17 : decode cX2_middle 17 = .ok (.aload_n 0, 1) := by decide +kernel
theorem dX2_middle_18 : decode cX2_middle 18 = .ok (.aload_n 0, 1) := by decide +kernel
theorem dX2_middle_19 : decode cX2_middle 19 = .ok (.getfield 19, 3) := by decide +kernel
theorem dX2_middle_22 : decode cX2_middle 22 = .ok (.iload_n 2, 1) := by decide +kernel
theorem dX2_middle_23 : decode cX2_middle 23 = .ok (.iaload, 1) := by decide +kernel
theorem dX2_middle_24 : decode cX2_middle 24 = .ok (.invokevirtual 43, 3) := by decide +kernel
theorem dX2_middle_27 : decode cX2_middle 27 = .ok (.istore_n 3, 1) := by decide +kernel
theorem dX2_middle_28 : decode cX2_middle 28 = .ok (.iload_n 3, 1) := by decide +kernel
theorem dX2_middle_29 : decode cX2_middle 29 = .ok (.iload_n 1, 1) := by decide +kernel
theorem dX2_middle_30 : decode cX2_middle 30 = .ok (.if_icmp .gt 26, 3) := by decide +kernel
theorem dX2_middle_33 : decode cX2_middle 33 = .ok (.iload_n 1, 1) := by decide +kernel
theorem dX2_middle_34 : decode cX2_middle 34 = .ok (.iload_n 3, 1) := by decide +kernel
theorem dX2_middle_35 : decode cX2_middle 35 = .ok (.aload_n 0, 1) := by decide +kernel
theorem dX2_middle_36 : decode cX2_middle 36 = .ok (.aload_n 0, 1) := by decide +kernel
theorem dX2_middle_37 : decode cX2_middle 37 = .ok (.getfield 19, 3) := by decide +kernel
theorem dX2_middle_40 : decode cX2_middle 40 = .ok (.iload_n 2, 1) := by decide +kernel
theorem dX2_middle_41 : decode cX2_middle 41 = .ok (.iaload, 1) := by decide +kernel
theorem dX2_middle_42 : decode cX2_middle 42 = .ok (.invokevirtual 47, 3) := by decide +kernel
theorem dX2_middle_45 : decode cX2_middle 45 = .ok (.iadd, 1) := by decide +kernel
theorem dX2_middle_46 : decode cX2_middle 46 = .ok (.if_icmp .ge 10, 3) := by decide +kernel
theorem dX2_middle_49 : decode cX2_middle 49 = .ok (.aload_n 0, 1) := by decide +kernel
theorem dX2_middle_50 : decode cX2_middle 50 = .ok (.getfield 19, 3) := by decide +kernel
theorem dX2_middle_53 : decode cX2_middle 53 = .ok (.iload_n 2, 1) := by decide +kernel
theorem dX2_middle_54 : decode cX2_middle 54 = .ok (.iaload, 1) := by decide +kernel
theorem dX2_middle_55 : decode cX2_middle 55 = .ok (.ireturn, 1) := by decide +kernel
theorem dX2_middle_56 : decode cX2_middle 56 = .ok (.iinc 2 1, 3) := by decide +kernel
theorem dX2_middle_59 : decode cX2_middle 59 = .ok (.goto (-50), 3) := by decide +kernel
theorem dX2_middle_62 : decode cX2_middle 62 = .ok (.ldc 34, 2) := by decide +kernel
theorem dX2_middle_64 : decode cX2_middle 64 = .ok (.ireturn, 1) := by decide +kernel
theorem dX2_ofOldest_0 : decode cX2_ofOldest 0 = .ok (.ldc 34, 2) := by decide +kernel
theorem dX2_ofOldest_2 : decode cX2_ofOldest 2 = .ok (.istore_n 2, 1) := by decide +kernel
theorem dX2_ofOldest_3 : decode cX2_ofOldest 3 = .ok (.ldc 34, 2) := by decide +kernel
theorem dX2_ofOldest_5 : decode cX2_ofOldest 5 = .ok (.istore_n 3, 1) := by decide +kernel
theorem dX2_ofOldest_6 : decode cX2_ofOldest 6 = .ok (.iconst 0, 1) := by decide +kernel
theorem dX2_ofOldest_7 : decode cX2_ofOldest 7 = .ok (.istore 4, 2) := by decide +kernel
theorem dX2_ofOldest_9 : decode cX2_ofOldest 9 = .ok (.iload 4, 2) := by decide +kernel
theorem dX2_ofOldest_11 : decode cX2_ofOldest 11 = .ok (.aload_n 0, 1) := by decide +kernel
theorem dX2_ofOldest_12 : decode cX2_ofOldest 12 = .ok (.getfield 9, 3) := by decide +kernel
theorem dX2_ofOldest_15 : decode cX2_ofOldest 15 = .ok (.if_icmp .ge 44, 3) := by decide +kernel
theorem dX2_ofOldest_18 : decode cX2_ofOldest 18 = .ok (.aload_n 1, 1) := by decide +kernel
theorem dX2_ofOldest_19 : decode cX2_ofOldest 19 = .ok (.aload_n 0, 1) := by decide +kernel
theorem dX2_ofOldest_20 : decode cX2_ofOldest 20 = .ok (.getfield 15, 3) := by decide +kernel
theorem dX2_ofOldest_23 : decode cX2_ofOldest 23 = .ok (.iload 4, 2) := by decide +kernel
theorem dX2_ofOldest_25 : decode cX2_ofOldest 25 = .ok (.iaload, 1) := by decide +kernel
theorem dX2_ofOldest_26 : decode cX2_ofOldest 26 = .ok (.invokevirtual 50, 3) := by decide +kernel
theorem dX2_ofOldest_29 : decode cX2_ofOldest 29 = .ok (.iload_n 2, 1) := by decide +kernel
theorem dX2_ofOldest_30 : decode cX2_ofOldest 30 = .ok (.if_icmp .le 23, 3) := by decide +kernel
theorem dX2_ofOldest_33 : decode cX2_ofOldest 33 = .ok (.aload_n 1, 1) := by decide +kernel
theorem dX2_ofOldest_34 : decode cX2_ofOldest 34 = .ok (.aload_n 0, 1) := by decide +kernel
theorem dX2_ofOldest_35 : decode cX2_ofOldest 35 = .ok (.getfield 15, 3) := by decide +kernel
theorem dX2_ofOldest_38 : decode cX2_ofOldest 38 = .ok (.iload 4, 2) := by decide +kernel
theorem dX2_ofOldest_40 : decode cX2_ofOldest 40 = .ok (.iaload, 1) := by decide +kernel
theorem dX2_ofOldest_41 : decode cX2_ofOldest 41 = .ok (.invokevirtual 50, 3) := by decide +kernel
theorem dX2_ofOldest_44 : decode cX2_ofOldest 44 = .ok (.istore_n 2, 1) := by decide +kernel
theorem dX2_ofOldest_45 : decode cX2_ofOldest 45 = .ok (.aload_n 0, 1) := by decide +kernel
theorem dX2_ofOldest_46 : decode cX2_ofOldest 46 = .ok (.getfield 19, 3) := by decide +kernel
theorem dX2_ofOldest_49 : decode cX2_ofOldest 49 = .ok (.iload 4, 2) := by decide +kernel
theorem dX2_ofOldest_51 : decode cX2_ofOldest 51 = .ok (.iaload, 1) := by decide +kernel
theorem dX2_ofOldest_52 : decode cX2_ofOldest 52 = .ok (.istore_n 3, 1) := by decide +kernel
theorem dX2_ofOldest_53 : decode cX2_ofOldest 53 = .ok (.iinc 4 1, 3) := by decide +kernel
theorem dX2_ofOldest_56 : decode cX2_ofOldest 56 = .ok (.goto (-47), 3) := by decide +kernel
theorem dX2_ofOldest_59 : decode cX2_ofOldest 59 = .ok (.iload_n 3, 1) := by decide +kernel
theorem dX2_ofOldest_60 : decode cX2_ofOldest 60 = .ok (.ireturn, 1) := by decide +kernel
theorem dX2_below_0 : decode cX2_below 0 = .ok (.iconst 0, 1) := by decide +kernel
theorem dX2_below_1 : decode cX2_below 1 = .ok (.istore_n 2, 1) := by decide +kernel
theorem dX2_below_2 : decode cX2_below 2 = .ok (.iconst 0, 1) := by decide +kernel
theorem dX2_below_3 : decode cX2_below 3 = .ok (.istore_n 3, 1) := by decide +kernel
theorem dX2_below_4 : decode cX2_below 4 = .ok (.iload_n 3, 1) := by decide +kernel
theorem dX2_below_5 : decode cX2_below 5 = .ok (.aload_n 0, 1) := by decide +kernel
theorem dX2_below_6 : decode cX2_below 6 = .ok (.getfield 9, 3) := by decide +kernel
theorem dX2_below_9 : decode cX2_below 9 = .ok (.if_icmp .ge 22, 3) := by decide +kernel
theorem dX2_below_12 : decode cX2_below 12 = .ok (.aload_n 0, 1) := by decide +kernel
theorem dX2_below_13 : decode cX2_below 13 = .ok (.getfield 19, 3) := by decide +kernel
theorem dX2_below_16 : decode cX2_below 16 = .ok (.iload_n 3, 1) := by decide +kernel
theorem dX2_below_17 : decode cX2_below 17 = .ok (.iaload, 1) := by decide +kernel
theorem dX2_below_18 : decode cX2_below 18 = .ok (.iload_n 1, 1) := by decide +kernel
theorem dX2_below_19 : decode cX2_below 19 = .ok (.if_icmp .ge 6, 3) := by decide +kernel
theorem dX2_below_22 : decode cX2_below 22 = .ok (.iinc 2 1, 3) := by decide +kernel
theorem dX2_below_25 : decode cX2_below 25 = .ok (.iinc 3 1, 3) := by decide +kernel
theorem dX2_below_28 : decode cX2_below 28 = .ok (.goto (-24), 3) := by decide +kernel
theorem dX2_below_31 : decode cX2_below 31 = .ok (.iload_n 2, 1) := by decide +kernel
theorem dX2_below_32 : decode cX2_below 32 = .ok (.ireturn, 1) := by decide +kernel
theorem dX2_alike_0 : decode cX2_alike 0 = .ok (.iconst 0, 1) := by decide +kernel
theorem dX2_alike_1 : decode cX2_alike 1 = .ok (.istore_n 2, 1) := by decide +kernel
theorem dX2_alike_2 : decode cX2_alike 2 = .ok (.iconst 0, 1) := by decide +kernel
theorem dX2_alike_3 : decode cX2_alike 3 = .ok (.istore_n 3, 1) := by decide +kernel
theorem dX2_alike_4 : decode cX2_alike 4 = .ok (.iload_n 3, 1) := by decide +kernel
theorem dX2_alike_5 : decode cX2_alike 5 = .ok (.aload_n 0, 1) := by decide +kernel
theorem dX2_alike_6 : decode cX2_alike 6 = .ok (.getfield 9, 3) := by decide +kernel
theorem dX2_alike_9 : decode cX2_alike 9 = .ok (.if_icmp .ge 22, 3) := by decide +kernel
theorem dX2_alike_12 : decode cX2_alike 12 = .ok (.aload_n 0, 1) := by decide +kernel
theorem dX2_alike_13 : decode cX2_alike 13 = .ok (.getfield 19, 3) := by decide +kernel
theorem dX2_alike_16 : decode cX2_alike 16 = .ok (.iload_n 3, 1) := by decide +kernel
theorem dX2_alike_17 : decode cX2_alike 17 = .ok (.iaload, 1) := by decide +kernel
theorem dX2_alike_18 : decode cX2_alike 18 = .ok (.iload_n 1, 1) := by decide +kernel
theorem dX2_alike_19 : decode cX2_alike 19 = .ok (.if_icmp .ne 6, 3) := by decide +kernel
theorem dX2_alike_22 : decode cX2_alike 22 = .ok (.iinc 2 1, 3) := by decide +kernel
theorem dX2_alike_25 : decode cX2_alike 25 = .ok (.iinc 3 1, 3) := by decide +kernel
theorem dX2_alike_28 : decode cX2_alike 28 = .ok (.goto (-24), 3) := by decide +kernel
theorem dX2_alike_31 : decode cX2_alike 31 = .ok (.iload_n 2, 1) := by decide +kernel
theorem dX2_alike_32 : decode cX2_alike 32 = .ok (.ireturn, 1) := by decide +kernel
theorem dX2_likeliestYard_0 : decode cX2_likeliestYard 0 = .ok (.ldc 34, 2) := by decide +kernel
theorem dX2_likeliestYard_2 : decode cX2_likeliestYard 2 = .ok (.istore_n 1, 1) := by decide +kernel
theorem dX2_likeliestYard_3 : decode cX2_likeliestYard 3 = .ok (.iconst 0, 1) := by decide +kernel
theorem dX2_likeliestYard_4 : decode cX2_likeliestYard 4 = .ok (.istore_n 2, 1) := by decide +kernel
theorem dX2_likeliestYard_5 : decode cX2_likeliestYard 5 = .ok (.iconst 0, 1) := by decide +kernel
theorem dX2_likeliestYard_6 : decode cX2_likeliestYard 6 = .ok (.istore_n 3, 1) := by decide +kernel
theorem dX2_likeliestYard_7 : decode cX2_likeliestYard 7 = .ok (.iload_n 3, 1) := by decide +kernel
theorem dX2_likeliestYard_8 : decode cX2_likeliestYard 8 = .ok (.aload_n 0, 1) := by decide +kernel
theorem dX2_likeliestYard_9 : decode cX2_likeliestYard 9 = .ok (.getfield 9, 3) := by decide +kernel
theorem dX2_likeliestYard_12 : decode cX2_likeliestYard 12 = .ok (.if_icmp .ge 53, 3) := by decide +kernel
theorem dX2_likeliestYard_15 : decode cX2_likeliestYard 15 = .ok (.aload_n 0, 1) := by decide +kernel
theorem dX2_likeliestYard_16 : decode cX2_likeliestYard 16 = .ok (.aload_n 0, 1) := by decide +kernel
theorem dX2_likeliestYard_17 : decode cX2_likeliestYard 17 = .ok (.getfield 19, 3) := by decide +kernel
theorem dX2_likeliestYard_20 : decode cX2_likeliestYard 20 = .ok (.iload_n 3, 1) := by decide +kernel
theorem dX2_likeliestYard_21 : decode cX2_likeliestYard 21 = .ok (.iaload, 1) := by decide +kernel
theorem dX2_likeliestYard_22 : decode cX2_likeliestYard 22 = .ok (.invokevirtual 47, 3) := by decide +kernel
theorem dX2_likeliestYard_25 : decode cX2_likeliestYard 25 = .ok (.istore 4, 2) := by decide +kernel
theorem dX2_likeliestYard_27 : decode cX2_likeliestYard 27 = .ok (.iload 4, 2) := by decide +kernel
theorem dX2_likeliestYard_29 : decode cX2_likeliestYard 29 = .ok (.iload_n 2, 1) := by decide +kernel
theorem dX2_likeliestYard_30 : decode cX2_likeliestYard 30 = .ok (.if_icmp .gt 19, 3) := by decide +kernel
theorem dX2_likeliestYard_33 : decode cX2_likeliestYard 33 = .ok (.iload 4, 2) := by decide +kernel
theorem dX2_likeliestYard_35 : decode cX2_likeliestYard 35 = .ok (.iload_n 2, 1) := by decide +kernel
theorem dX2_likeliestYard_36 : decode cX2_likeliestYard 36 = .ok (.if_icmp .ne 23, 3) := by decide +kernel
theorem dX2_likeliestYard_39 : decode cX2_likeliestYard 39 = .ok (.aload_n 0, 1) := by decide +kernel
theorem dX2_likeliestYard_40 : decode cX2_likeliestYard 40 = .ok (.getfield 19, 3) := by decide +kernel
theorem dX2_likeliestYard_43 : decode cX2_likeliestYard 43 = .ok (.iload_n 3, 1) := by decide +kernel
theorem dX2_likeliestYard_44 : decode cX2_likeliestYard 44 = .ok (.iaload, 1) := by decide +kernel
theorem dX2_likeliestYard_45 : decode cX2_likeliestYard 45 = .ok (.iload_n 1, 1) := by decide +kernel
theorem dX2_likeliestYard_46 : decode cX2_likeliestYard 46 = .ok (.if_icmp .ge 13, 3) := by decide +kernel
theorem dX2_likeliestYard_49 : decode cX2_likeliestYard 49 = .ok (.iload 4, 2) := by decide +kernel
theorem dX2_likeliestYard_51 : decode cX2_likeliestYard 51 = .ok (.istore_n 2, 1) := by decide +kernel
theorem dX2_likeliestYard_52 : decode cX2_likeliestYard 52 = .ok (.aload_n 0, 1) := by decide +kernel
theorem dX2_likeliestYard_53 : decode cX2_likeliestYard 53 = .ok (.getfield 19, 3) := by decide +kernel
theorem dX2_likeliestYard_56 : decode cX2_likeliestYard 56 = .ok (.iload_n 3, 1) := by decide +kernel
theorem dX2_likeliestYard_57 : decode cX2_likeliestYard 57 = .ok (.iaload, 1) := by decide +kernel
theorem dX2_likeliestYard_58 : decode cX2_likeliestYard 58 = .ok (.istore_n 1, 1) := by decide +kernel
theorem dX2_likeliestYard_59 : decode cX2_likeliestYard 59 = .ok (.iinc 3 1, 3) := by decide +kernel
theorem dX2_likeliestYard_62 : decode cX2_likeliestYard 62 = .ok (.goto (-55), 3) := by decide +kernel
theorem dX2_likeliestYard_65 : decode cX2_likeliestYard 65 = .ok (.iload_n 1, 1) := by decide +kernel
theorem dX2_likeliestYard_66 : decode cX2_likeliestYard 66 = .ok (.ireturn, 1) := by decide +kernel
theorem dX2_raiseBribed_0 : decode cX2_raiseBribed 0 = .ok (.iconst 0, 1) := by decide +kernel
theorem dX2_raiseBribed_1 : decode cX2_raiseBribed 1 = .ok (.istore_n 3, 1) := by decide +kernel
theorem dX2_raiseBribed_2 : decode cX2_raiseBribed 2 = .ok (.iload_n 3, 1) := by decide +kernel
theorem dX2_raiseBribed_3 : decode cX2_raiseBribed 3 = .ok (.iload_n 2, 1) := by decide +kernel
theorem dX2_raiseBribed_4 : decode cX2_raiseBribed 4 = .ok (.if_icmp .ge 98, 3) := by decide +kernel
theorem dX2_raiseBribed_7 : decode cX2_raiseBribed 7 = .ok (.iconst (-1), 1) := by decide +kernel
theorem dX2_raiseBribed_8 : decode cX2_raiseBribed 8 = .ok (.istore 4, 2) := by decide +kernel
theorem dX2_raiseBribed_10 : decode cX2_raiseBribed 10 = .ok (.iconst 0, 1) := by decide +kernel
theorem dX2_raiseBribed_11 : decode cX2_raiseBribed 11 = .ok (.istore 5, 2) := by decide +kernel
theorem dX2_raiseBribed_13 : decode cX2_raiseBribed 13 = .ok (.iload 5, 2) := by decide +kernel
theorem dX2_raiseBribed_15 : decode cX2_raiseBribed 15 = .ok (.aload_n 0, 1) := by decide +kernel
theorem dX2_raiseBribed_16 : decode cX2_raiseBribed 16 = .ok (.getfield 9, 3) := by decide +kernel
theorem dX2_raiseBribed_19 : decode cX2_raiseBribed 19 = .ok (.if_icmp .ge 63, 3) := by decide +kernel
theorem dX2_raiseBribed_22 : decode cX2_raiseBribed 22 = .ok (.aload_n 1, 1) := by decide +kernel
theorem dX2_raiseBribed_23 : decode cX2_raiseBribed 23 = .ok (.getfield 53, 3) := by decide +kernel
theorem dX2_raiseBribed_26 : decode cX2_raiseBribed 26 = .ok (.aload_n 0, 1) := by decide +kernel
theorem dX2_raiseBribed_27 : decode cX2_raiseBribed 27 = .ok (.getfield 15, 3) := by decide +kernel
theorem dX2_raiseBribed_30 : decode cX2_raiseBribed 30 = .ok (.iload 5, 2) := by decide +kernel
theorem dX2_raiseBribed_32 : decode cX2_raiseBribed 32 = .ok (.iaload, 1) := by decide +kernel
theorem dX2_raiseBribed_33 : decode cX2_raiseBribed 33 = .ok (.iaload, 1) := by decide +kernel
theorem dX2_raiseBribed_34 : decode cX2_raiseBribed 34 = .ok (.iconst 2, 1) := by decide +kernel
theorem dX2_raiseBribed_35 : decode cX2_raiseBribed 35 = .ok (.if_icmp .ne 7, 3) := by decide +kernel
theorem dX2_raiseBribed_38 : decode cX2_raiseBribed 38 = .ok (.iconst 1, 1) := by decide +kernel
theorem dX2_raiseBribed_39 : decode cX2_raiseBribed 39 = .ok (.goto 4, 3) := by decide +kernel
theorem dX2_raiseBribed_42 : decode cX2_raiseBribed 42 = .ok (.iconst 0, 1) := by decide +kernel
theorem dX2_raiseBribed_43 : decode cX2_raiseBribed 43 = .ok (.istore 6, 2) := by decide +kernel
theorem dX2_raiseBribed_45 : decode cX2_raiseBribed 45 = .ok (.iload 6, 2) := by decide +kernel
theorem dX2_raiseBribed_47 : decode cX2_raiseBribed 47 = .ok (.ifCond .eq 29, 3) := by decide +kernel
theorem dX2_raiseBribed_50 : decode cX2_raiseBribed 50 = .ok (.iload 4, 2) := by decide +kernel
theorem dX2_raiseBribed_52 : decode cX2_raiseBribed 52 = .ok (.ifCond .lt 20, 3) := by decide +kernel
theorem dX2_raiseBribed_55 : decode cX2_raiseBribed 55 = .ok (.aload_n 0, 1) := by decide +kernel
theorem dX2_raiseBribed_56 : decode cX2_raiseBribed 56 = .ok (.getfield 19, 3) := by decide +kernel
theorem dX2_raiseBribed_59 : decode cX2_raiseBribed 59 = .ok (.iload 5, 2) := by decide +kernel
theorem dX2_raiseBribed_61 : decode cX2_raiseBribed 61 = .ok (.iaload, 1) := by decide +kernel
theorem dX2_raiseBribed_62 : decode cX2_raiseBribed 62 = .ok (.aload_n 0, 1) := by decide +kernel
theorem dX2_raiseBribed_63 : decode cX2_raiseBribed 63 = .ok (.getfield 19, 3) := by decide +kernel
theorem dX2_raiseBribed_66 : decode cX2_raiseBribed 66 = .ok (.iload 4, 2) := by decide +kernel
theorem dX2_raiseBribed_68 : decode cX2_raiseBribed 68 = .ok (.iaload, 1) := by decide +kernel
theorem dX2_raiseBribed_69 : decode cX2_raiseBribed 69 = .ok (.if_icmp .ge 7, 3) := by decide +kernel
theorem dX2_raiseBribed_72 : decode cX2_raiseBribed 72 = .ok (.iload 5, 2) := by decide +kernel
theorem dX2_raiseBribed_74 : decode cX2_raiseBribed 74 = .ok (.istore 4, 2) := by decide +kernel
theorem dX2_raiseBribed_76 : decode cX2_raiseBribed 76 = .ok (.iinc 5 1, 3) := by decide +kernel
theorem dX2_raiseBribed_79 : decode cX2_raiseBribed 79 = .ok (.goto (-66), 3) := by decide +kernel
theorem dX2_raiseBribed_82 : decode cX2_raiseBribed 82 = .ok (.iload 4, 2) := by decide +kernel
theorem dX2_raiseBribed_84 : decode cX2_raiseBribed 84 = .ok (.ifCond .lt 12, 3) := by decide +kernel
theorem dX2_raiseBribed_87 : decode cX2_raiseBribed 87 = .ok (.aload_n 0, 1) := by decide +kernel
theorem dX2_raiseBribed_88 : decode cX2_raiseBribed 88 = .ok (.getfield 19, 3) := by decide +kernel
theorem dX2_raiseBribed_91 : decode cX2_raiseBribed 91 = .ok (.iload 4, 2) := by decide +kernel
theorem dX2_raiseBribed_93 : decode cX2_raiseBribed 93 = .ok (.bipush 99, 2) := by decide +kernel
theorem dX2_raiseBribed_95 : decode cX2_raiseBribed 95 = .ok (.iastore, 1) := by decide +kernel
theorem dX2_raiseBribed_96 : decode cX2_raiseBribed 96 = .ok (.iinc 3 1, 3) := by decide +kernel
theorem dX2_raiseBribed_99 : decode cX2_raiseBribed 99 = .ok (.goto (-97), 3) := by decide +kernel
theorem dX2_raiseBribed_102 : decode cX2_raiseBribed 102 = .ok (.return_, 1) := by decide +kernel
theorem dX2_countOrders_0 : decode cX2_countOrders 0 = .ok (.iconst 1, 1) := by decide +kernel
theorem dX2_countOrders_1 : decode cX2_countOrders 1 = .ok (.aload_n 0, 1) := by decide +kernel
theorem dX2_countOrders_2 : decode cX2_countOrders 2 = .ok (.getfield 9, 3) := by decide +kernel
theorem dX2_countOrders_5 : decode cX2_countOrders 5 = .ok (.ishl, 1) := by decide +kernel
theorem dX2_countOrders_6 : decode cX2_countOrders 6 = .ok (.iconst 1, 1) := by decide +kernel
theorem dX2_countOrders_7 : decode cX2_countOrders 7 = .ok (.isub, 1) := by decide +kernel
theorem dX2_countOrders_8 : decode cX2_countOrders 8 = .ok (.istore_n 1, 1) := by decide +kernel
theorem dX2_countOrders_9 : decode cX2_countOrders 9 = .ok (.iload_n 1, 1) := by decide +kernel
theorem dX2_countOrders_10 : decode cX2_countOrders 10 = .ok (.istore_n 2, 1) := by decide +kernel
theorem dX2_countOrders_11 : decode cX2_countOrders 11 = .ok (.iload_n 2, 1) := by decide +kernel
theorem dX2_countOrders_12 : decode cX2_countOrders 12 = .ok (.ifCond .le 60, 3) := by decide +kernel
theorem dX2_countOrders_15 : decode cX2_countOrders 15 = .ok (.iconst 0, 1) := by decide +kernel
theorem dX2_countOrders_16 : decode cX2_countOrders 16 = .ok (.istore_n 3, 1) := by decide +kernel
theorem dX2_countOrders_17 : decode cX2_countOrders 17 = .ok (.iload_n 3, 1) := by decide +kernel
theorem dX2_countOrders_18 : decode cX2_countOrders 18 = .ok (.aload_n 0, 1) := by decide +kernel
theorem dX2_countOrders_19 : decode cX2_countOrders 19 = .ok (.getfield 9, 3) := by decide +kernel
theorem dX2_countOrders_22 : decode cX2_countOrders 22 = .ok (.if_icmp .ge 44, 3) := by decide +kernel
theorem dX2_countOrders_25 : decode cX2_countOrders 25 = .ok (.iload_n 2, 1) := by decide +kernel
theorem dX2_countOrders_26 : decode cX2_countOrders 26 = .ok (.iload_n 3, 1) := by decide +kernel
theorem dX2_countOrders_27 : decode cX2_countOrders 27 = .ok (.ishr, 1) := by decide +kernel
theorem dX2_countOrders_28 : decode cX2_countOrders 28 = .ok (.iconst 1, 1) := by decide +kernel
theorem dX2_countOrders_29 : decode cX2_countOrders 29 = .ok (.iand, 1) := by decide +kernel
theorem dX2_countOrders_30 : decode cX2_countOrders 30 = .ok (.iconst 1, 1) := by decide +kernel
theorem dX2_countOrders_31 : decode cX2_countOrders 31 = .ok (.if_icmp .ne 29, 3) := by decide +kernel
theorem dX2_countOrders_34 : decode cX2_countOrders 34 = .ok (.aload_n 0, 1) := by decide +kernel
theorem dX2_countOrders_35 : decode cX2_countOrders 35 = .ok (.getfield 22, 3) := by decide +kernel
theorem dX2_countOrders_38 : decode cX2_countOrders 38 = .ok (.iload_n 2, 1) := by decide +kernel
theorem dX2_countOrders_39 : decode cX2_countOrders 39 = .ok (.bipush 6, 2) := by decide +kernel
theorem dX2_countOrders_41 : decode cX2_countOrders 41 = .ok (.imul, 1) := by decide +kernel
theorem dX2_countOrders_42 : decode cX2_countOrders 42 = .ok (.iload_n 3, 1) := by decide +kernel
theorem dX2_countOrders_43 : decode cX2_countOrders 43 = .ok (.iadd, 1) := by decide +kernel
theorem dX2_countOrders_44 : decode cX2_countOrders 44 = .ok (.iload_n 2, 1) := by decide +kernel
theorem dX2_countOrders_45 : decode cX2_countOrders 45 = .ok (.iload_n 1, 1) := by decide +kernel
theorem dX2_countOrders_46 : decode cX2_countOrders 46 = .ok (.if_icmp .ne 7, 3) := by decide +kernel
theorem dX2_countOrders_49 : decode cX2_countOrders 49 = .ok (.iconst 1, 1) := by decide +kernel
theorem dX2_countOrders_50 : decode cX2_countOrders 50 = .ok (.goto 9, 3) := by decide +kernel
theorem dX2_countOrders_53 : decode cX2_countOrders 53 = .ok (.aload_n 0, 1) := by decide +kernel
theorem dX2_countOrders_54 : decode cX2_countOrders 54 = .ok (.iload_n 2, 1) := by decide +kernel
theorem dX2_countOrders_55 : decode cX2_countOrders 55 = .ok (.iload_n 3, 1) := by decide +kernel
theorem dX2_countOrders_56 : decode cX2_countOrders 56 = .ok (.invokevirtual 56, 3) := by decide +kernel
theorem dX2_countOrders_59 : decode cX2_countOrders 59 = .ok (.iastore, 1) := by decide +kernel
theorem dX2_countOrders_60 : decode cX2_countOrders 60 = .ok (.iinc 3 1, 3) := by decide +kernel
theorem dX2_countOrders_63 : decode cX2_countOrders 63 = .ok (.goto (-46), 3) := by decide +kernel
theorem dX2_countOrders_66 : decode cX2_countOrders 66 = .ok (.iinc 2 (-1), 3) := by decide +kernel
theorem dX2_countOrders_69 : decode cX2_countOrders 69 = .ok (.goto (-58), 3) := by decide +kernel
theorem dX2_countOrders_72 : decode cX2_countOrders 72 = .ok (.return_, 1) := by decide +kernel
theorem dX2_waysOn_0 : decode cX2_waysOn 0 = .ok (.iconst 0, 1) := by decide +kernel
theorem dX2_waysOn_1 : decode cX2_waysOn 1 = .ok (.istore_n 3, 1) := by decide +kernel
theorem dX2_waysOn_2 : decode cX2_waysOn 2 = .ok (.iconst 0, 1) := by decide +kernel
theorem dX2_waysOn_3 : decode cX2_waysOn 3 = .ok (.istore 4, 2) := by decide +kernel
theorem dX2_waysOn_5 : decode cX2_waysOn 5 = .ok (.iload 4, 2) := by decide +kernel
theorem dX2_waysOn_7 : decode cX2_waysOn 7 = .ok (.aload_n 0, 1) := by decide +kernel
theorem dX2_waysOn_8 : decode cX2_waysOn 8 = .ok (.getfield 9, 3) := by decide +kernel
theorem dX2_waysOn_11 : decode cX2_waysOn 11 = .ok (.if_icmp .ge 48, 3) := by decide +kernel
theorem dX2_waysOn_14 : decode cX2_waysOn 14 = .ok (.iload_n 1, 1) := by decide +kernel
theorem dX2_waysOn_15 : decode cX2_waysOn 15 = .ok (.iload 4, 2) := by decide +kernel
theorem dX2_waysOn_17 : decode cX2_waysOn 17 = .ok (.ishr, 1) := by decide +kernel
theorem dX2_waysOn_18 : decode cX2_waysOn 18 = .ok (.iconst 1, 1) := by decide +kernel
theorem dX2_waysOn_19 : decode cX2_waysOn 19 = .ok (.iand, 1) := by decide +kernel
theorem dX2_waysOn_20 : decode cX2_waysOn 20 = .ok (.ifCond .ne 33, 3) := by decide +kernel
theorem dX2_waysOn_23 : decode cX2_waysOn 23 = .ok (.aload_n 0, 1) := by decide +kernel
theorem dX2_waysOn_24 : decode cX2_waysOn 24 = .ok (.iload_n 2, 1) := by decide +kernel
theorem dX2_waysOn_25 : decode cX2_waysOn 25 = .ok (.iload 4, 2) := by decide +kernel
theorem dX2_waysOn_27 : decode cX2_waysOn 27 = .ok (.invokevirtual 59, 3) := by decide +kernel
theorem dX2_waysOn_30 : decode cX2_waysOn 30 = .ok (.ifCond .eq 23, 3) := by decide +kernel
theorem dX2_waysOn_33 : decode cX2_waysOn 33 = .ok (.iload_n 3, 1) := by decide +kernel
theorem dX2_waysOn_34 : decode cX2_waysOn 34 = .ok (.aload_n 0, 1) := by decide +kernel
theorem dX2_waysOn_35 : decode cX2_waysOn 35 = .ok (.getfield 22, 3) := by decide +kernel
theorem dX2_waysOn_38 : decode cX2_waysOn 38 = .ok (.iload_n 1, 1) := by decide +kernel
theorem dX2_waysOn_39 : decode cX2_waysOn 39 = .ok (.iconst 1, 1) := by decide +kernel
theorem dX2_waysOn_40 : decode cX2_waysOn 40 = .ok (.iload 4, 2) := by decide +kernel
theorem dX2_waysOn_42 : decode cX2_waysOn 42 = .ok (.ishl, 1) := by decide +kernel
theorem dX2_waysOn_43 : decode cX2_waysOn 43 = .ok (.ior, 1) := by decide +kernel
theorem dX2_waysOn_44 : decode cX2_waysOn 44 = .ok (.bipush 6, 2) := by decide +kernel
theorem dX2_waysOn_46 : decode cX2_waysOn 46 = .ok (.imul, 1) := by decide +kernel
theorem dX2_waysOn_47 : decode cX2_waysOn 47 = .ok (.iload 4, 2) := by decide +kernel
theorem dX2_waysOn_49 : decode cX2_waysOn 49 = .ok (.iadd, 1) := by decide +kernel
theorem dX2_waysOn_50 : decode cX2_waysOn 50 = .ok (.iaload, 1) := by decide +kernel
theorem dX2_waysOn_51 : decode cX2_waysOn 51 = .ok (.iadd, 1) := by decide +kernel
theorem dX2_waysOn_52 : decode cX2_waysOn 52 = .ok (.istore_n 3, 1) := by decide +kernel
theorem dX2_waysOn_53 : decode cX2_waysOn 53 = .ok (.iinc 4 1, 3) := by decide +kernel
theorem dX2_waysOn_56 : decode cX2_waysOn 56 = .ok (.goto (-51), 3) := by decide +kernel
theorem dX2_waysOn_59 : decode cX2_waysOn 59 = .ok (.iload_n 3, 1) := by decide +kernel
theorem dX2_waysOn_60 : decode cX2_waysOn 60 = .ok (.ireturn, 1) := by decide +kernel
theorem dX2_areNear_0 : decode cX2_areNear 0 = .ok (.aload_n 0, 1) := by decide +kernel
theorem dX2_areNear_1 : decode cX2_areNear 1 = .ok (.getfield 19, 3) := by decide +kernel
theorem dX2_areNear_4 : decode cX2_areNear 4 = .ok (.iload_n 1, 1) := by decide +kernel
theorem dX2_areNear_5 : decode cX2_areNear 5 = .ok (.iaload, 1) := by decide +kernel
theorem dX2_areNear_6 : decode cX2_areNear 6 = .ok (.aload_n 0, 1) := by decide +kernel
theorem dX2_areNear_7 : decode cX2_areNear 7 = .ok (.getfield 19, 3) := by decide +kernel
theorem dX2_areNear_10 : decode cX2_areNear 10 = .ok (.iload_n 2, 1) := by decide +kernel
theorem dX2_areNear_11 : decode cX2_areNear 11 = .ok (.iaload, 1) := by decide +kernel
theorem dX2_areNear_12 : decode cX2_areNear 12 = .ok (.isub, 1) := by decide +kernel
theorem dX2_areNear_13 : decode cX2_areNear 13 = .ok (.invokestatic 63, 3) := by decide +kernel
theorem dX2_areNear_16 : decode cX2_areNear 16 = .ok (.iconst 2, 1) := by decide +kernel
theorem dX2_areNear_17 : decode cX2_areNear 17 = .ok (.if_icmp .gt 7, 3) := by decide +kernel
theorem dX2_areNear_20 : decode cX2_areNear 20 = .ok (.iconst 1, 1) := by decide +kernel
theorem dX2_areNear_21 : decode cX2_areNear 21 = .ok (.goto 4, 3) := by decide +kernel
theorem dX2_areNear_24 : decode cX2_areNear 24 = .ok (.iconst 0, 1) := by decide +kernel
theorem dX2_areNear_25 : decode cX2_areNear 25 = .ok (.ireturn, 1) := by decide +kernel
theorem dX2_orders_0 : decode cX2_orders 0 = .ok (.aload_n 0, 1) := by decide +kernel
theorem dX2_orders_1 : decode cX2_orders 1 = .ok (.getfield 9, 3) := by decide +kernel
theorem dX2_orders_4 : decode cX2_orders 4 = .ok (.ifCond .ne 5, 3) := by decide +kernel
theorem dX2_orders_7 : decode cX2_orders 7 = .ok (.iconst 1, 1) := by decide +kernel
theorem dX2_orders_8 : decode cX2_orders 8 = .ok (.ireturn, 1) := by decide +kernel
theorem dX2_orders_9 : decode cX2_orders 9 = .ok (.iconst 0, 1) := by decide +kernel
theorem dX2_orders_10 : decode cX2_orders 10 = .ok (.istore_n 1, 1) := by decide +kernel
theorem dX2_orders_11 : decode cX2_orders 11 = .ok (.iconst 0, 1) := by decide +kernel
theorem dX2_orders_12 : decode cX2_orders 12 = .ok (.istore_n 2, 1) := by decide +kernel
theorem dX2_orders_13 : decode cX2_orders 13 = .ok (.iload_n 2, 1) := by decide +kernel
theorem dX2_orders_14 : decode cX2_orders 14 = .ok (.aload_n 0, 1) := by decide +kernel
theorem dX2_orders_15 : decode cX2_orders 15 = .ok (.getfield 9, 3) := by decide +kernel
theorem dX2_orders_18 : decode cX2_orders 18 = .ok (.if_icmp .ge 25, 3) := by decide +kernel
theorem dX2_orders_21 : decode cX2_orders 21 = .ok (.iload_n 1, 1) := by decide +kernel
theorem dX2_orders_22 : decode cX2_orders 22 = .ok (.aload_n 0, 1) := by decide +kernel
theorem dX2_orders_23 : decode cX2_orders 23 = .ok (.getfield 22, 3) := by decide +kernel
theorem dX2_orders_26 : decode cX2_orders 26 = .ok (.iconst 1, 1) := by decide +kernel
theorem dX2_orders_27 : decode cX2_orders 27 = .ok (.iload_n 2, 1) := by decide +kernel
theorem dX2_orders_28 : decode cX2_orders 28 = .ok (.ishl, 1) := by decide +kernel
theorem dX2_orders_29 : decode cX2_orders 29 = .ok (.bipush 6, 2) := by decide +kernel
theorem dX2_orders_31 : decode cX2_orders 31 = .ok (.imul, 1) := by decide +kernel
theorem dX2_orders_32 : decode cX2_orders 32 = .ok (.iload_n 2, 1) := by decide +kernel
theorem dX2_orders_33 : decode cX2_orders 33 = .ok (.iadd, 1) := by decide +kernel
theorem dX2_orders_34 : decode cX2_orders 34 = .ok (.iaload, 1) := by decide +kernel
theorem dX2_orders_35 : decode cX2_orders 35 = .ok (.iadd, 1) := by decide +kernel
theorem dX2_orders_36 : decode cX2_orders 36 = .ok (.istore_n 1, 1) := by decide +kernel
theorem dX2_orders_37 : decode cX2_orders 37 = .ok (.iinc 2 1, 3) := by decide +kernel
theorem dX2_orders_40 : decode cX2_orders 40 = .ok (.goto (-27), 3) := by decide +kernel
theorem dX2_orders_43 : decode cX2_orders 43 = .ok (.iload_n 1, 1) := by decide +kernel
theorem dX2_orders_44 : decode cX2_orders 44 = .ok (.ireturn, 1) := by decide +kernel
theorem dX2_inFirstOrder_0 : decode cX2_inFirstOrder 0 = .ok (.iload_n 1, 1) := by decide +kernel
theorem dX2_inFirstOrder_1 : decode cX2_inFirstOrder 1 = .ok (.ifCond .lt 11, 3) := by decide +kernel
theorem dX2_inFirstOrder_4 : decode cX2_inFirstOrder 4 = .ok (.iload_n 1, 1) := by decide +kernel
theorem dX2_inFirstOrder_5 : decode cX2_inFirstOrder 5 = .ok (.aload_n 0, 1) := by decide +kernel
theorem dX2_inFirstOrder_6 : decode cX2_inFirstOrder 6 = .ok (.getfield 9, 3) := by decide +kernel
theorem dX2_inFirstOrder_9 : decode cX2_inFirstOrder 9 = .ok (.if_icmp .lt 6, 3) := by decide +kernel
theorem dX2_inFirstOrder_12 : decode cX2_inFirstOrder 12 = .ok (.ldc 34, 2) := by decide +kernel
theorem dX2_inFirstOrder_14 : decode cX2_inFirstOrder 14 = .ok (.ireturn, 1) := by decide +kernel
theorem dX2_inFirstOrder_15 : decode cX2_inFirstOrder 15 = .ok (.iconst 0, 1) := by decide +kernel
theorem dX2_inFirstOrder_16 : decode cX2_inFirstOrder 16 = .ok (.istore_n 2, 1) := by decide +kernel
theorem dX2_inFirstOrder_17 : decode cX2_inFirstOrder 17 = .ok (.iconst (-1), 1) := by decide +kernel
theorem dX2_inFirstOrder_18 : decode cX2_inFirstOrder 18 = .ok (.istore_n 3, 1) := by decide +kernel
theorem dX2_inFirstOrder_19 : decode cX2_inFirstOrder 19 = .ok (.iconst 0, 1) := by decide +kernel
theorem dX2_inFirstOrder_20 : decode cX2_inFirstOrder 20 = .ok (.istore 4, 2) := by decide +kernel
theorem dX2_inFirstOrder_22 : decode cX2_inFirstOrder 22 = .ok (.iload 4, 2) := by decide +kernel
theorem dX2_inFirstOrder_24 : decode cX2_inFirstOrder 24 = .ok (.iload_n 1, 1) := by decide +kernel
theorem dX2_inFirstOrder_25 : decode cX2_inFirstOrder 25 = .ok (.if_icmp .gt 29, 3) := by decide +kernel
theorem dX2_inFirstOrder_28 : decode cX2_inFirstOrder 28 = .ok (.aload_n 0, 1) := by decide +kernel
theorem dX2_inFirstOrder_29 : decode cX2_inFirstOrder 29 = .ok (.iload_n 2, 1) := by decide +kernel
theorem dX2_inFirstOrder_30 : decode cX2_inFirstOrder 30 = .ok (.iload_n 3, 1) := by decide +kernel
theorem dX2_inFirstOrder_31 : decode cX2_inFirstOrder 31 = .ok (.invokevirtual 66, 3) := by decide +kernel
theorem dX2_inFirstOrder_34 : decode cX2_inFirstOrder 34 = .ok (.istore_n 3, 1) := by decide +kernel
theorem dX2_inFirstOrder_35 : decode cX2_inFirstOrder 35 = .ok (.iload_n 3, 1) := by decide +kernel
theorem dX2_inFirstOrder_36 : decode cX2_inFirstOrder 36 = .ok (.ifCond .ge 6, 3) := by decide +kernel
theorem dX2_inFirstOrder_39 : decode cX2_inFirstOrder 39 = .ok (.ldc 34, 2) := by decide +kernel
theorem dX2_inFirstOrder_41 : decode cX2_inFirstOrder 41 = .ok (.ireturn, 1) := by decide +kernel
theorem dX2_inFirstOrder_42 : decode cX2_inFirstOrder 42 = .ok (.iload_n 2, 1) := by decide +kernel
theorem dX2_inFirstOrder_43 : decode cX2_inFirstOrder 43 = .ok (.iconst 1, 1) := by decide +kernel
theorem dX2_inFirstOrder_44 : decode cX2_inFirstOrder 44 = .ok (.iload_n 3, 1) := by decide +kernel
theorem dX2_inFirstOrder_45 : decode cX2_inFirstOrder 45 = .ok (.ishl, 1) := by decide +kernel
theorem dX2_inFirstOrder_46 : decode cX2_inFirstOrder 46 = .ok (.ior, 1) := by decide +kernel
theorem dX2_inFirstOrder_47 : decode cX2_inFirstOrder 47 = .ok (.istore_n 2, 1) := by decide +kernel
theorem dX2_inFirstOrder_48 : decode cX2_inFirstOrder 48 = .ok (.iinc 4 1, 3) := by decide +kernel
theorem dX2_inFirstOrder_51 : decode cX2_inFirstOrder 51 = .ok (.goto (-29), 3) := by decide +kernel
theorem dX2_inFirstOrder_54 : decode cX2_inFirstOrder 54 = .ok (.aload_n 0, 1) := by decide +kernel
theorem dX2_inFirstOrder_55 : decode cX2_inFirstOrder 55 = .ok (.getfield 15, 3) := by decide +kernel
theorem dX2_inFirstOrder_58 : decode cX2_inFirstOrder 58 = .ok (.iload_n 3, 1) := by decide +kernel
theorem dX2_inFirstOrder_59 : decode cX2_inFirstOrder 59 = .ok (.iaload, 1) := by decide +kernel
theorem dX2_inFirstOrder_60 : decode cX2_inFirstOrder 60 = .ok (.ireturn, 1) := by decide +kernel
theorem dX2_firstNext_0 : decode cX2_firstNext 0 = .ok (.iconst 0, 1) := by decide +kernel
theorem dX2_firstNext_1 : decode cX2_firstNext 1 = .ok (.istore_n 3, 1) := by decide +kernel
theorem dX2_firstNext_2 : decode cX2_firstNext 2 = .ok (.iload_n 3, 1) := by decide +kernel
theorem dX2_firstNext_3 : decode cX2_firstNext 3 = .ok (.aload_n 0, 1) := by decide +kernel
theorem dX2_firstNext_4 : decode cX2_firstNext 4 = .ok (.getfield 9, 3) := by decide +kernel
theorem dX2_firstNext_7 : decode cX2_firstNext 7 = .ok (.if_icmp .ge 62, 3) := by decide +kernel
theorem dX2_firstNext_10 : decode cX2_firstNext 10 = .ok (.iload_n 1, 1) := by decide +kernel
theorem dX2_firstNext_11 : decode cX2_firstNext 11 = .ok (.iload_n 3, 1) := by decide +kernel
theorem dX2_firstNext_12 : decode cX2_firstNext 12 = .ok (.ishr, 1) := by decide +kernel
theorem dX2_firstNext_13 : decode cX2_firstNext 13 = .ok (.iconst 1, 1) := by decide +kernel
theorem dX2_firstNext_14 : decode cX2_firstNext 14 = .ok (.iand, 1) := by decide +kernel
theorem dX2_firstNext_15 : decode cX2_firstNext 15 = .ok (.ifCond .ne 20, 3) := by decide +kernel
theorem dX2_firstNext_18 : decode cX2_firstNext 18 = .ok (.iload_n 2, 1) := by decide +kernel
theorem dX2_firstNext_19 : decode cX2_firstNext 19 = .ok (.ifCond .lt 12, 3) := by decide +kernel
theorem dX2_firstNext_22 : decode cX2_firstNext 22 = .ok (.aload_n 0, 1) := by decide +kernel
theorem dX2_firstNext_23 : decode cX2_firstNext 23 = .ok (.iload_n 2, 1) := by decide +kernel
theorem dX2_firstNext_24 : decode cX2_firstNext 24 = .ok (.iload_n 3, 1) := by decide +kernel
theorem dX2_firstNext_25 : decode cX2_firstNext 25 = .ok (.invokevirtual 59, 3) := by decide +kernel
theorem dX2_firstNext_28 : decode cX2_firstNext 28 = .ok (.ifCond .eq 7, 3) := by decide +kernel
theorem dX2_firstNext_31 : decode cX2_firstNext 31 = .ok (.iconst 1, 1) := by decide +kernel
theorem dX2_firstNext_32 : decode cX2_firstNext 32 = .ok (.goto 4, 3) := by decide +kernel
theorem dX2_firstNext_35 : decode cX2_firstNext 35 = .ok (.iconst 0, 1) := by decide +kernel
theorem dX2_firstNext_36 : decode cX2_firstNext 36 = .ok (.istore 4, 2) := by decide +kernel
theorem dX2_firstNext_38 : decode cX2_firstNext 38 = .ok (.iload 4, 2) := by decide +kernel
theorem dX2_firstNext_40 : decode cX2_firstNext 40 = .ok (.ifCond .eq 23, 3) := by decide +kernel
theorem dX2_firstNext_43 : decode cX2_firstNext 43 = .ok (.aload_n 0, 1) := by decide +kernel
theorem dX2_firstNext_44 : decode cX2_firstNext 44 = .ok (.getfield 22, 3) := by decide +kernel
theorem dX2_firstNext_47 : decode cX2_firstNext 47 = .ok (.iload_n 1, 1) := by decide +kernel
theorem dX2_firstNext_48 : decode cX2_firstNext 48 = .ok (.iconst 1, 1) := by decide +kernel
theorem dX2_firstNext_49 : decode cX2_firstNext 49 = .ok (.iload_n 3, 1) := by decide +kernel
theorem dX2_firstNext_50 : decode cX2_firstNext 50 = .ok (.ishl, 1) := by decide +kernel
theorem dX2_firstNext_51 : decode cX2_firstNext 51 = .ok (.ior, 1) := by decide +kernel
theorem dX2_firstNext_52 : decode cX2_firstNext 52 = .ok (.bipush 6, 2) := by decide +kernel
theorem dX2_firstNext_54 : decode cX2_firstNext 54 = .ok (.imul, 1) := by decide +kernel
theorem dX2_firstNext_55 : decode cX2_firstNext 55 = .ok (.iload_n 3, 1) := by decide +kernel
theorem dX2_firstNext_56 : decode cX2_firstNext 56 = .ok (.iadd, 1) := by decide +kernel
theorem dX2_firstNext_57 : decode cX2_firstNext 57 = .ok (.iaload, 1) := by decide +kernel
theorem dX2_firstNext_58 : decode cX2_firstNext 58 = .ok (.ifCond .le 5, 3) := by decide +kernel
theorem dX2_firstNext_61 : decode cX2_firstNext 61 = .ok (.iload_n 3, 1) := by decide +kernel
theorem dX2_firstNext_62 : decode cX2_firstNext 62 = .ok (.ireturn, 1) := by decide +kernel
theorem dX2_firstNext_63 : decode cX2_firstNext 63 = .ok (.iinc 3 1, 3) := by decide +kernel
theorem dX2_firstNext_66 : decode cX2_firstNext 66 = .ok (.goto (-64), 3) := by decide +kernel
theorem dX2_firstNext_69 : decode cX2_firstNext 69 = .ok (.iconst (-1), 1) := by decide +kernel
theorem dX2_firstNext_70 : decode cX2_firstNext 70 = .ok (.ireturn, 1) := by decide +kernel
theorem dX3_init_0 : decode cX3_init 0 = .ok (.aload_n 0, 1) := by decide +kernel
theorem dX3_init_1 : decode cX3_init 1 = .ok (.invokespecial 3, 3) := by decide +kernel
theorem dX3_init_4 : decode cX3_init 4 = .ok (.aload_n 0, 1) := by decide +kernel
theorem dX3_init_5 : decode cX3_init 5 = .ok (.iconst 0, 1) := by decide +kernel
theorem dX3_init_6 : decode cX3_init 6 = .ok (.putfield 9, 3) := by decide +kernel
theorem dX3_init_9 : decode cX3_init 9 = .ok (.aload_n 0, 1) := by decide +kernel
theorem dX3_init_10 : decode cX3_init 10 = .ok (.iconst 1, 1) := by decide +kernel
theorem dX3_init_11 : decode cX3_init 11 = .ok (.putfield 15, 3) := by decide +kernel
theorem dX3_init_14 : decode cX3_init 14 = .ok (.aload_n 0, 1) := by decide +kernel
theorem dX3_init_15 : decode cX3_init 15 = .ok (.iconst 1, 1) := by decide +kernel
theorem dX3_init_16 : decode cX3_init 16 = .ok (.putfield 19, 3) := by decide +kernel
theorem dX3_init_19 : decode cX3_init 19 = .ok (.aload_n 0, 1) := by decide +kernel
theorem dX3_init_20 : decode cX3_init 20 = .ok (.iconst 0, 1) := by decide +kernel
theorem dX3_init_21 : decode cX3_init 21 = .ok (.putfield 22, 3) := by decide +kernel
theorem dX3_init_24 : decode cX3_init 24 = .ok (.aload_n 0, 1) := by decide +kernel
theorem dX3_init_25 : decode cX3_init 25 = .ok (.iconst 0, 1) := by decide +kernel
theorem dX3_init_26 : decode cX3_init 26 = .ok (.putfield 25, 3) := by decide +kernel
theorem dX3_init_29 : decode cX3_init 29 = .ok (.aload_n 0, 1) := by decide +kernel
theorem dX3_init_30 : decode cX3_init 30 = .ok (.iconst 0, 1) := by decide +kernel
theorem dX3_init_31 : decode cX3_init 31 = .ok (.putfield 28, 3) := by decide +kernel
theorem dX3_init_34 : decode cX3_init 34 = .ok (.aload_n 0, 1) := by decide +kernel
theorem dX3_init_35 : decode cX3_init 35 = .ok (.bipush 6, 2) := by decide +kernel
theorem dX3_init_37 : decode cX3_init 37 = .ok (.newarray .int, 2) := by decide +kernel
theorem dX3_init_39 : decode cX3_init 39 = .ok (.putfield 31, 3) := by decide +kernel
theorem dX3_init_42 : decode cX3_init 42 = .ok (.aload_n 0, 1) := by decide +kernel
theorem dX3_init_43 : decode cX3_init 43 = .ok (.bipush 6, 2) := by decide +kernel
theorem dX3_init_45 : decode cX3_init 45 = .ok (.newarray .int, 2) := by decide +kernel
theorem dX3_init_47 : decode cX3_init 47 = .ok (.putfield 35, 3) := by decide +kernel
theorem dX3_init_50 : decode cX3_init 50 = .ok (.aload_n 0, 1) := by decide +kernel
theorem dX3_init_51 : decode cX3_init 51 = .ok (.bipush 6, 2) := by decide +kernel
theorem dX3_init_53 : decode cX3_init 53 = .ok (.newarray .int, 2) := by decide +kernel
theorem dX3_init_55 : decode cX3_init 55 = .ok (.putfield 38, 3) := by decide +kernel
theorem dX3_init_58 : decode cX3_init 58 = .ok (.aload_n 0, 1) := by decide +kernel
theorem dX3_init_59 : decode cX3_init 59 = .ok (.bipush 6, 2) := by decide +kernel
theorem dX3_init_61 : decode cX3_init 61 = .ok (.newarray .int, 2) := by decide +kernel
theorem dX3_init_63 : decode cX3_init 63 = .ok (.putfield 41, 3) := by decide +kernel
theorem dX3_init_66 : decode cX3_init 66 = .ok (.aload_n 0, 1) := by decide +kernel
theorem dX3_init_67 : decode cX3_init 67 = .ok (.bipush 6, 2) := by decide +kernel
theorem dX3_init_69 : decode cX3_init 69 = .ok (.newarray .int, 2) := by decide +kernel
theorem dX3_init_71 : decode cX3_init 71 = .ok (.putfield 44, 3) := by decide +kernel
theorem dX3_init_74 : decode cX3_init 74 = .ok (.aload_n 0, 1) := by decide +kernel
theorem dX3_init_75 : decode cX3_init 75 = .ok (.bipush 36, 2) := by decide +kernel
theorem dX3_init_77 : decode cX3_init 77 = .ok (.newarray .int, 2) := by decide +kernel
theorem dX3_init_79 : decode cX3_init 79 = .ok (.putfield 47, 3) := by decide +kernel
theorem dX3_init_82 : decode cX3_init 82 = .ok (.aload_n 0, 1) := by decide +kernel
theorem dX3_init_83 : decode cX3_init 83 = .ok (.bipush 36, 2) := by decide +kernel
theorem dX3_init_85 : decode cX3_init 85 = .ok (.newarray .int, 2) := by decide +kernel
theorem dX3_init_87 : decode cX3_init 87 = .ok (.putfield 50, 3) := by decide +kernel
theorem dX3_init_90 : decode cX3_init 90 = .ok (.aload_n 0, 1) := by decide +kernel
theorem dX3_init_91 : decode cX3_init 91 = .ok (.bipush 36, 2) := by decide +kernel
theorem dX3_init_93 : decode cX3_init 93 = .ok (.newarray .int, 2) := by decide +kernel
theorem dX3_init_95 : decode cX3_init 95 = .ok (.putfield 53, 3) := by decide +kernel
theorem dX3_init_98 : decode cX3_init 98 = .ok (.return_, 1) := by decide +kernel
theorem dX3_clear_0 : decode cX3_clear 0 = .ok (.aload_n 0, 1) := by decide +kernel
theorem dX3_clear_1 : decode cX3_clear 1 = .ok (.iconst 0, 1) := by decide +kernel
theorem dX3_clear_2 : decode cX3_clear 2 = .ok (.putfield 9, 3) := by decide +kernel
theorem dX3_clear_5 : decode cX3_clear 5 = .ok (.aload_n 0, 1) := by decide +kernel
theorem dX3_clear_6 : decode cX3_clear 6 = .ok (.iconst 1, 1) := by decide +kernel
theorem dX3_clear_7 : decode cX3_clear 7 = .ok (.putfield 15, 3) := by decide +kernel
theorem dX3_clear_10 : decode cX3_clear 10 = .ok (.aload_n 0, 1) := by decide +kernel
theorem dX3_clear_11 : decode cX3_clear 11 = .ok (.iconst 1, 1) := by decide +kernel
theorem dX3_clear_12 : decode cX3_clear 12 = .ok (.putfield 19, 3) := by decide +kernel
theorem dX3_clear_15 : decode cX3_clear 15 = .ok (.aload_n 0, 1) := by decide +kernel
theorem dX3_clear_16 : decode cX3_clear 16 = .ok (.iconst 0, 1) := by decide +kernel
theorem dX3_clear_17 : decode cX3_clear 17 = .ok (.putfield 22, 3) := by decide +kernel
theorem dX3_clear_20 : decode cX3_clear 20 = .ok (.aload_n 0, 1) := by decide +kernel
theorem dX3_clear_21 : decode cX3_clear 21 = .ok (.iconst 0, 1) := by decide +kernel
theorem dX3_clear_22 : decode cX3_clear 22 = .ok (.putfield 25, 3) := by decide +kernel
theorem dX3_clear_25 : decode cX3_clear 25 = .ok (.aload_n 0, 1) := by decide +kernel
theorem dX3_clear_26 : decode cX3_clear 26 = .ok (.iconst 0, 1) := by decide +kernel
theorem dX3_clear_27 : decode cX3_clear 27 = .ok (.putfield 28, 3) := by decide +kernel
theorem dX3_clear_30 : decode cX3_clear 30 = .ok (.iconst 0, 1) := by decide +kernel
theorem dX3_clear_31 : decode cX3_clear 31 = .ok (.istore_n 1, 1) := by decide +kernel
theorem dX3_clear_32 : decode cX3_clear 32 = .ok (.iload_n 1, 1) := by decide +kernel
theorem dX3_clear_33 : decode cX3_clear 33 = .ok (.bipush 6, 2) := by decide +kernel
theorem dX3_clear_35 : decode cX3_clear 35 = .ok (.if_icmp .ge 16, 3) := by decide +kernel
theorem dX3_clear_38 : decode cX3_clear 38 = .ok (.aload_n 0, 1) := by decide +kernel
theorem dX3_clear_39 : decode cX3_clear 39 = .ok (.getfield 44, 3) := by decide +kernel
theorem dX3_clear_42 : decode cX3_clear 42 = .ok (.iload_n 1, 1) := by decide +kernel
theorem dX3_clear_43 : decode cX3_clear 43 = .ok (.iconst 0, 1) := by decide +kernel
theorem dX3_clear_44 : decode cX3_clear 44 = .ok (.iastore, 1) := by decide +kernel
theorem dX3_clear_45 : decode cX3_clear 45 = .ok (.iinc 1 1, 3) := by decide +kernel
theorem dX3_clear_48 : decode cX3_clear 48 = .ok (.goto (-16), 3) := by decide +kernel
theorem dX3_clear_51 : decode cX3_clear 51 = .ok (.iconst 0, 1) := by decide +kernel
theorem dX3_clear_52 : decode cX3_clear 52 = .ok (.istore_n 1, 1) := by decide +kernel
theorem dX3_clear_53 : decode cX3_clear 53 = .ok (.iload_n 1, 1) := by decide +kernel
theorem dX3_clear_54 : decode cX3_clear 54 = .ok (.bipush 36, 2) := by decide +kernel
theorem dX3_clear_56 : decode cX3_clear 56 = .ok (.if_icmp .ge 16, 3) := by decide +kernel
theorem dX3_clear_59 : decode cX3_clear 59 = .ok (.aload_n 0, 1) := by decide +kernel
theorem dX3_clear_60 : decode cX3_clear 60 = .ok (.getfield 50, 3) := by decide +kernel
theorem dX3_clear_63 : decode cX3_clear 63 = .ok (.iload_n 1, 1) := by decide +kernel
theorem dX3_clear_64 : decode cX3_clear 64 = .ok (.iconst 0, 1) := by decide +kernel
theorem dX3_clear_65 : decode cX3_clear 65 = .ok (.iastore, 1) := by decide +kernel
theorem dX3_clear_66 : decode cX3_clear 66 = .ok (.iinc 1 1, 3) := by decide +kernel
theorem dX3_clear_69 : decode cX3_clear 69 = .ok (.goto (-16), 3) := by decide +kernel
theorem dX3_clear_72 : decode cX3_clear 72 = .ok (.return_, 1) := by decide +kernel
theorem dX3_become_0 : decode cX3_become 0 = .ok (.aload_n 0, 1) := by decide +kernel
theorem dX3_become_1 : decode cX3_become 1 = .ok (.aload_n 1, 1) := by decide +kernel
theorem dX3_become_2 : decode cX3_become 2 = .ok (.getfield 9, 3) := by decide +kernel
theorem dX3_become_5 : decode cX3_become 5 = .ok (.putfield 9, 3) := by decide +kernel
theorem dX3_become_8 : decode cX3_become 8 = .ok (.aload_n 0, 1) := by decide +kernel
theorem dX3_become_9 : decode cX3_become 9 = .ok (.aload_n 1, 1) := by decide +kernel
theorem dX3_become_10 : decode cX3_become 10 = .ok (.getfield 15, 3) := by decide +kernel
theorem dX3_become_13 : decode cX3_become 13 = .ok (.putfield 15, 3) := by decide +kernel
theorem dX3_become_16 : decode cX3_become 16 = .ok (.aload_n 0, 1) := by decide +kernel
theorem dX3_become_17 : decode cX3_become 17 = .ok (.aload_n 1, 1) := by decide +kernel
theorem dX3_become_18 : decode cX3_become 18 = .ok (.getfield 19, 3) := by decide +kernel
theorem dX3_become_21 : decode cX3_become 21 = .ok (.putfield 19, 3) := by decide +kernel
theorem dX3_become_24 : decode cX3_become 24 = .ok (.aload_n 0, 1) := by decide +kernel
theorem dX3_become_25 : decode cX3_become 25 = .ok (.aload_n 1, 1) := by decide +kernel
theorem dX3_become_26 : decode cX3_become 26 = .ok (.getfield 22, 3) := by decide +kernel
theorem dX3_become_29 : decode cX3_become 29 = .ok (.putfield 22, 3) := by decide +kernel
theorem dX3_become_32 : decode cX3_become 32 = .ok (.aload_n 0, 1) := by decide +kernel
theorem dX3_become_33 : decode cX3_become 33 = .ok (.aload_n 1, 1) := by decide +kernel
theorem dX3_become_34 : decode cX3_become 34 = .ok (.getfield 25, 3) := by decide +kernel
theorem dX3_become_37 : decode cX3_become 37 = .ok (.putfield 25, 3) := by decide +kernel
theorem dX3_become_40 : decode cX3_become 40 = .ok (.aload_n 0, 1) := by decide +kernel
theorem dX3_become_41 : decode cX3_become 41 = .ok (.aload_n 1, 1) := by decide +kernel
theorem dX3_become_42 : decode cX3_become 42 = .ok (.getfield 28, 3) := by decide +kernel
theorem dX3_become_45 : decode cX3_become 45 = .ok (.putfield 28, 3) := by decide +kernel
theorem dX3_become_48 : decode cX3_become 48 = .ok (.aload_n 1, 1) := by decide +kernel
theorem dX3_become_49 : decode cX3_become 49 = .ok (.getfield 31, 3) := by decide +kernel
theorem dX3_become_52 : decode cX3_become 52 = .ok (.iconst 0, 1) := by decide +kernel
theorem dX3_become_53 : decode cX3_become 53 = .ok (.aload_n 0, 1) := by decide +kernel
theorem dX3_become_54 : decode cX3_become 54 = .ok (.getfield 31, 3) := by decide +kernel
theorem dX3_become_57 : decode cX3_become 57 = .ok (.iconst 0, 1) := by decide +kernel
theorem dX3_become_58 : decode cX3_become 58 = .ok (.bipush 6, 2) := by decide +kernel
theorem dX3_become_60 : decode cX3_become 60 = .ok (.invokestatic 56, 3) := by decide +kernel
theorem dX3_become_63 : decode cX3_become 63 = .ok (.aload_n 1, 1) := by decide +kernel
theorem dX3_become_64 : decode cX3_become 64 = .ok (.getfield 35, 3) := by decide +kernel
theorem dX3_become_67 : decode cX3_become 67 = .ok (.iconst 0, 1) := by decide +kernel
theorem dX3_become_68 : decode cX3_become 68 = .ok (.aload_n 0, 1) := by decide +kernel
theorem dX3_become_69 : decode cX3_become 69 = .ok (.getfield 35, 3) := by decide +kernel
theorem dX3_become_72 : decode cX3_become 72 = .ok (.iconst 0, 1) := by decide +kernel
theorem dX3_become_73 : decode cX3_become 73 = .ok (.bipush 6, 2) := by decide +kernel
theorem dX3_become_75 : decode cX3_become 75 = .ok (.invokestatic 56, 3) := by decide +kernel
theorem dX3_become_78 : decode cX3_become 78 = .ok (.aload_n 1, 1) := by decide +kernel
theorem dX3_become_79 : decode cX3_become 79 = .ok (.getfield 38, 3) := by decide +kernel
theorem dX3_become_82 : decode cX3_become 82 = .ok (.iconst 0, 1) := by decide +kernel
theorem dX3_become_83 : decode cX3_become 83 = .ok (.aload_n 0, 1) := by decide +kernel
theorem dX3_become_84 : decode cX3_become 84 = .ok (.getfield 38, 3) := by decide +kernel
theorem dX3_become_87 : decode cX3_become 87 = .ok (.iconst 0, 1) := by decide +kernel
theorem dX3_become_88 : decode cX3_become 88 = .ok (.bipush 6, 2) := by decide +kernel
theorem dX3_become_90 : decode cX3_become 90 = .ok (.invokestatic 56, 3) := by decide +kernel
theorem dX3_become_93 : decode cX3_become 93 = .ok (.aload_n 1, 1) := by decide +kernel
theorem dX3_become_94 : decode cX3_become 94 = .ok (.getfield 41, 3) := by decide +kernel
theorem dX3_become_97 : decode cX3_become 97 = .ok (.iconst 0, 1) := by decide +kernel
theorem dX3_become_98 : decode cX3_become 98 = .ok (.aload_n 0, 1) := by decide +kernel
theorem dX3_become_99 : decode cX3_become 99 = .ok (.getfield 41, 3) := by decide +kernel
theorem dX3_become_102 : decode cX3_become 102 = .ok (.iconst 0, 1) := by decide +kernel
theorem dX3_become_103 : decode cX3_become 103 = .ok (.bipush 6, 2) := by decide +kernel
theorem dX3_become_105 : decode cX3_become 105 = .ok (.invokestatic 56, 3) := by decide +kernel
theorem dX3_become_108 : decode cX3_become 108 = .ok (.aload_n 1, 1) := by decide +kernel
theorem dX3_become_109 : decode cX3_become 109 = .ok (.getfield 44, 3) := by decide +kernel
theorem dX3_become_112 : decode cX3_become 112 = .ok (.iconst 0, 1) := by decide +kernel
theorem dX3_become_113 : decode cX3_become 113 = .ok (.aload_n 0, 1) := by decide +kernel
theorem dX3_become_114 : decode cX3_become 114 = .ok (.getfield 44, 3) := by decide +kernel
theorem dX3_become_117 : decode cX3_become 117 = .ok (.iconst 0, 1) := by decide +kernel
theorem dX3_become_118 : decode cX3_become 118 = .ok (.bipush 6, 2) := by decide +kernel
theorem dX3_become_120 : decode cX3_become 120 = .ok (.invokestatic 56, 3) := by decide +kernel
theorem dX3_become_123 : decode cX3_become 123 = .ok (.aload_n 1, 1) := by decide +kernel
theorem dX3_become_124 : decode cX3_become 124 = .ok (.getfield 47, 3) := by decide +kernel
theorem dX3_become_127 : decode cX3_become 127 = .ok (.iconst 0, 1) := by decide +kernel
theorem dX3_become_128 : decode cX3_become 128 = .ok (.aload_n 0, 1) := by decide +kernel
theorem dX3_become_129 : decode cX3_become 129 = .ok (.getfield 47, 3) := by decide +kernel
theorem dX3_become_132 : decode cX3_become 132 = .ok (.iconst 0, 1) := by decide +kernel
theorem dX3_become_133 : decode cX3_become 133 = .ok (.bipush 36, 2) := by decide +kernel
theorem dX3_become_135 : decode cX3_become 135 = .ok (.invokestatic 56, 3) := by decide +kernel
theorem dX3_become_138 : decode cX3_become 138 = .ok (.aload_n 1, 1) := by decide +kernel
theorem dX3_become_139 : decode cX3_become 139 = .ok (.getfield 50, 3) := by decide +kernel
theorem dX3_become_142 : decode cX3_become 142 = .ok (.iconst 0, 1) := by decide +kernel
theorem dX3_become_143 : decode cX3_become 143 = .ok (.aload_n 0, 1) := by decide +kernel
theorem dX3_become_144 : decode cX3_become 144 = .ok (.getfield 50, 3) := by decide +kernel
theorem dX3_become_147 : decode cX3_become 147 = .ok (.iconst 0, 1) := by decide +kernel
theorem dX3_become_148 : decode cX3_become 148 = .ok (.bipush 36, 2) := by decide +kernel
theorem dX3_become_150 : decode cX3_become 150 = .ok (.invokestatic 56, 3) := by decide +kernel
theorem dX3_become_153 : decode cX3_become 153 = .ok (.aload_n 1, 1) := by decide +kernel
theorem dX3_become_154 : decode cX3_become 154 = .ok (.getfield 53, 3) := by decide +kernel
theorem dX3_become_157 : decode cX3_become 157 = .ok (.iconst 0, 1) := by decide +kernel
theorem dX3_become_158 : decode cX3_become 158 = .ok (.aload_n 0, 1) := by decide +kernel
theorem dX3_become_159 : decode cX3_become 159 = .ok (.getfield 53, 3) := by decide +kernel
theorem dX3_become_162 : decode cX3_become 162 = .ok (.iconst 0, 1) := by decide +kernel
theorem dX3_become_163 : decode cX3_become 163 = .ok (.bipush 36, 2) := by decide +kernel
theorem dX3_become_165 : decode cX3_become 165 = .ok (.invokestatic 56, 3) := by decide +kernel
theorem dX3_become_168 : decode cX3_become 168 = .ok (.return_, 1) := by decide +kernel
theorem dX3_placeOf_0 : decode cX3_placeOf 0 = .ok (.iload_n 1, 1) := by decide +kernel
theorem dX3_placeOf_1 : decode cX3_placeOf 1 = .ok (.bipush 6, 2) := by decide +kernel
theorem dX3_placeOf_3 : decode cX3_placeOf 3 = .ok (.imul, 1) := by decide +kernel
theorem dX3_placeOf_4 : decode cX3_placeOf 4 = .ok (.iload_n 2, 1) := by decide +kernel
theorem dX3_placeOf_5 : decode cX3_placeOf 5 = .ok (.iadd, 1) := by decide +kernel
theorem dX3_placeOf_6 : decode cX3_placeOf 6 = .ok (.ireturn, 1) := by decide +kernel
theorem dX3_everybody_0 : decode cX3_everybody 0 = .ok (.iconst 1, 1) := by decide +kernel
theorem dX3_everybody_1 : decode cX3_everybody 1 = .ok (.aload_n 0, 1) := by decide +kernel
theorem dX3_everybody_2 : decode cX3_everybody 2 = .ok (.getfield 28, 3) := by decide +kernel
theorem dX3_everybody_5 : decode cX3_everybody 5 = .ok (.ishl, 1) := by decide +kernel
theorem dX3_everybody_6 : decode cX3_everybody 6 = .ok (.iconst 1, 1) := by decide +kernel
theorem dX3_everybody_7 : decode cX3_everybody 7 = .ok (.isub, 1) := by decide +kernel
theorem dX3_everybody_8 : decode cX3_everybody 8 = .ok (.ireturn, 1) := by decide +kernel
theorem dX3_age_0 : decode cX3_age 0 = .ok (.aload_n 0, 1) := by decide +kernel
theorem dX3_age_1 : decode cX3_age 1 = .ok (.getfield 38, 3) := by decide +kernel
theorem dX3_age_4 : decode cX3_age 4 = .ok (.iload_n 1, 1) := by decide +kernel
theorem dX3_age_5 : decode cX3_age 5 = .ok (.iaload, 1) := by decide +kernel
theorem dX3_age_6 : decode cX3_age 6 = .ok (.aload_n 0, 1) := by decide +kernel
theorem dX3_age_7 : decode cX3_age 7 = .ok (.getfield 22, 3) := by decide +kernel
theorem dX3_age_10 : decode cX3_age 10 = .ok (.iadd, 1) := by decide +kernel
theorem dX3_age_11 : decode cX3_age 11 = .ok (.ireturn, 1) := by decide +kernel
theorem dX3_isAlive_0 : decode cX3_isAlive 0 = .ok (.aload_n 0, 1) := by decide +kernel
theorem dX3_isAlive_1 : decode cX3_isAlive 1 = .ok (.iload_n 1, 1) := by decide +kernel
theorem dX3_isAlive_2 : decode cX3_isAlive 2 = .ok (.invokevirtual 62, 3) := by decide +kernel
theorem dX3_isAlive_5 : decode cX3_isAlive 5 = .ok (.aload_n 0, 1) := by decide +kernel
theorem dX3_isAlive_6 : decode cX3_isAlive 6 = .ok (.getfield 41, 3) := by decide +kernel
theorem dX3_isAlive_9 : decode cX3_isAlive 9 = .ok (.iload_n 1, 1) := by decide +kernel
theorem dX3_isAlive_10 : decode cX3_isAlive 10 = .ok (.iaload, 1) := by decide +kernel
theorem dX3_isAlive_11 : decode cX3_isAlive 11 = .ok (.if_icmp .ge 7, 3) := by decide +kernel
theorem dX3_isAlive_14 : decode cX3_isAlive 14 = .ok (.iconst 1, 1) := by decide +kernel
theorem dX3_isAlive_15 : decode cX3_isAlive 15 = .ok (.goto 4, 3) := by decide +kernel
theorem dX3_isAlive_18 : decode cX3_isAlive 18 = .ok (.iconst 0, 1) := by decide +kernel
theorem dX3_isAlive_19 : decode cX3_isAlive 19 = .ok (.ireturn, 1) := by decide +kernel
theorem dX3_isTakable_0 : decode cX3_isTakable 0 = .ok (.aload_n 0, 1) := by decide +kernel
theorem dX3_isTakable_1 : decode cX3_isTakable 1 = .ok (.iload_n 1, 1) := by decide +kernel
theorem dX3_isTakable_2 : decode cX3_isTakable 2 = .ok (.invokevirtual 66, 3) := by decide +kernel
theorem dX3_isTakable_5 : decode cX3_isTakable 5 = .ok (.ifCond .eq 17, 3) := by decide +kernel
theorem dX3_isTakable_8 : decode cX3_isTakable 8 = .ok (.aload_n 0, 1) := by decide +kernel
theorem dX3_isTakable_9 : decode cX3_isTakable 9 = .ok (.iload_n 1, 1) := by decide +kernel
theorem dX3_isTakable_10 : decode cX3_isTakable 10 = .ok (.invokevirtual 62, 3) := by decide +kernel
theorem dX3_isTakable_13 : decode cX3_isTakable 13 = .ok (.bipush 60, 2) := by decide +kernel
theorem dX3_isTakable_15 : decode cX3_isTakable 15 = .ok (.if_icmp .gt 7, 3) := by decide +kernel
theorem dX3_isTakable_18 : decode cX3_isTakable 18 = .ok (.iconst 1, 1) := by decide +kernel
theorem dX3_isTakable_19 : decode cX3_isTakable 19 = .ok (.goto 4, 3) := by decide +kernel
theorem dX3_isTakable_22 : decode cX3_isTakable 22 = .ok (.iconst 0, 1) := by decide +kernel
theorem dX3_isTakable_23 : decode cX3_isTakable 23 = .ok (.ireturn, 1) := by decide +kernel
theorem dX3_living_0 : decode cX3_living 0 = .ok (.iconst 0, 1) := by decide +kernel
theorem dX3_living_1 : decode cX3_living 1 = .ok (.istore_n 1, 1) := by decide +kernel
theorem dX3_living_2 : decode cX3_living 2 = .ok (.iconst 0, 1) := by decide +kernel
theorem dX3_living_3 : decode cX3_living 3 = .ok (.istore_n 2, 1) := by decide +kernel
theorem dX3_living_4 : decode cX3_living 4 = .ok (.iload_n 2, 1) := by decide +kernel
theorem dX3_living_5 : decode cX3_living 5 = .ok (.aload_n 0, 1) := by decide +kernel
theorem dX3_living_6 : decode cX3_living 6 = .ok (.getfield 28, 3) := by decide +kernel
theorem dX3_living_9 : decode cX3_living 9 = .ok (.if_icmp .ge 23, 3) := by decide +kernel
theorem dX3_living_12 : decode cX3_living 12 = .ok (.aload_n 0, 1) := by decide +kernel
theorem dX3_living_13 : decode cX3_living 13 = .ok (.iload_n 2, 1) := by decide +kernel
theorem dX3_living_14 : decode cX3_living 14 = .ok (.invokevirtual 66, 3) := by decide +kernel
theorem dX3_living_17 : decode cX3_living 17 = .ok (.ifCond .eq 9, 3) := by decide +kernel
theorem dX3_living_20 : decode cX3_living 20 = .ok (.iload_n 1, 1) := by decide +kernel
theorem dX3_living_21 : decode cX3_living 21 = .ok (.iconst 1, 1) := by decide +kernel
theorem dX3_living_22 : decode cX3_living 22 = .ok (.iload_n 2, 1) := by decide +kernel
theorem dX3_living_23 : decode cX3_living 23 = .ok (.ishl, 1) := by decide +kernel
theorem dX3_living_24 : decode cX3_living 24 = .ok (.ior, 1) := by decide +kernel
theorem dX3_living_25 : decode cX3_living 25 = .ok (.istore_n 1, 1) := by decide +kernel
theorem dX3_living_26 : decode cX3_living 26 = .ok (.iinc 2 1, 3) := by decide +kernel
theorem dX3_living_29 : decode cX3_living 29 = .ok (.goto (-25), 3) := by decide +kernel
theorem dX3_living_32 : decode cX3_living 32 = .ok (.iload_n 1, 1) := by decide +kernel
theorem dX3_living_33 : decode cX3_living 33 = .ok (.ireturn, 1) := by decide +kernel
theorem dX3_takable_0 : decode cX3_takable 0 = .ok (.iconst 0, 1) := by decide +kernel
theorem dX3_takable_1 : decode cX3_takable 1 = .ok (.istore_n 1, 1) := by decide +kernel
theorem dX3_takable_2 : decode cX3_takable 2 = .ok (.iconst 0, 1) := by decide +kernel
theorem dX3_takable_3 : decode cX3_takable 3 = .ok (.istore_n 2, 1) := by decide +kernel
theorem dX3_takable_4 : decode cX3_takable 4 = .ok (.iload_n 2, 1) := by decide +kernel
theorem dX3_takable_5 : decode cX3_takable 5 = .ok (.aload_n 0, 1) := by decide +kernel
theorem dX3_takable_6 : decode cX3_takable 6 = .ok (.getfield 28, 3) := by decide +kernel
theorem dX3_takable_9 : decode cX3_takable 9 = .ok (.if_icmp .ge 23, 3) := by decide +kernel
theorem dX3_takable_12 : decode cX3_takable 12 = .ok (.aload_n 0, 1) := by decide +kernel
theorem dX3_takable_13 : decode cX3_takable 13 = .ok (.iload_n 2, 1) := by decide +kernel
theorem dX3_takable_14 : decode cX3_takable 14 = .ok (.invokevirtual 70, 3) := by decide +kernel
theorem dX3_takable_17 : decode cX3_takable 17 = .ok (.ifCond .eq 9, 3) := by decide +kernel
theorem dX3_takable_20 : decode cX3_takable 20 = .ok (.iload_n 1, 1) := by decide +kernel
theorem dX3_takable_21 : decode cX3_takable 21 = .ok (.iconst 1, 1) := by decide +kernel
theorem dX3_takable_22 : decode cX3_takable 22 = .ok (.iload_n 2, 1) := by decide +kernel
theorem dX3_takable_23 : decode cX3_takable 23 = .ok (.ishl, 1) := by decide +kernel
theorem dX3_takable_24 : decode cX3_takable 24 = .ok (.ior, 1) := by decide +kernel
theorem dX3_takable_25 : decode cX3_takable 25 = .ok (.istore_n 1, 1) := by decide +kernel
theorem dX3_takable_26 : decode cX3_takable 26 = .ok (.iinc 2 1, 3) := by decide +kernel
theorem dX3_takable_29 : decode cX3_takable 29 = .ok (.goto (-25), 3) := by decide +kernel
theorem dX3_takable_32 : decode cX3_takable 32 = .ok (.iload_n 1, 1) := by decide +kernel
theorem dX3_takable_33 : decode cX3_takable 33 = .ok (.ireturn, 1) := by decide +kernel
theorem dX3_bump_0 : decode cX3_bump 0 = .ok (.iconst 0, 1) := by decide +kernel
theorem dX3_bump_1 : decode cX3_bump 1 = .ok (.istore 4, 2) := by decide +kernel
theorem dX3_bump_3 : decode cX3_bump 3 = .ok (.iconst 0, 1) := by decide +kernel
theorem dX3_bump_4 : decode cX3_bump 4 = .ok (.istore 5, 2) := by decide +kernel
theorem dX3_bump_6 : decode cX3_bump 6 = .ok (.iload 5, 2) := by decide +kernel
theorem dX3_bump_8 : decode cX3_bump 8 = .ok (.aload_n 0, 1) := by decide +kernel
theorem dX3_bump_9 : decode cX3_bump 9 = .ok (.getfield 28, 3) := by decide +kernel
theorem dX3_bump_12 : decode cX3_bump 12 = .ok (.if_icmp .ge 72, 3) := by decide +kernel
theorem dX3_bump_15 : decode cX3_bump 15 = .ok (.iload_n 2, 1) := by decide +kernel
theorem dX3_bump_16 : decode cX3_bump 16 = .ok (.iload 5, 2) := by decide +kernel
theorem dX3_bump_18 : decode cX3_bump 18 = .ok (.ishr, 1) := by decide +kernel
theorem dX3_bump_19 : decode cX3_bump 19 = .ok (.iconst 1, 1) := by decide +kernel
theorem dX3_bump_20 : decode cX3_bump 20 = .ok (.iand, 1) := by decide +kernel
theorem dX3_bump_21 : decode cX3_bump 21 = .ok (.iconst 1, 1) := by decide +kernel
theorem dX3_bump_22 : decode cX3_bump 22 = .ok (.if_icmp .ne 56, 3) := by decide +kernel
theorem dX3_bump_25 : decode cX3_bump 25 = .ok (.aload_n 0, 1) := by decide +kernel
theorem dX3_bump_26 : decode cX3_bump 26 = .ok (.iload 5, 2) := by decide +kernel
theorem dX3_bump_28 : decode cX3_bump 28 = .ok (.invokevirtual 70, 3) := by decide +kernel
theorem dX3_bump_31 : decode cX3_bump 31 = .ok (.ifCond .eq 47, 3) := by decide +kernel
theorem dX3_bump_34 : decode cX3_bump 34 = .ok (.aload_n 0, 1) := by decide +kernel
theorem dX3_bump_35 : decode cX3_bump 35 = .ok (.iload 5, 2) := by decide +kernel
theorem dX3_bump_37 : decode cX3_bump 37 = .ok (.iload_n 1, 1) := by decide +kernel
theorem dX3_bump_38 : decode cX3_bump 38 = .ok (.invokevirtual 73, 3) := by decide +kernel
theorem dX3_bump_41 : decode cX3_bump 41 = .ok (.istore 6, 2) := by decide +kernel
theorem dX3_bump_43 : decode cX3_bump 43 = .ok (.aload_n 0, 1) := by decide +kernel
theorem dX3_bump_44 : decode cX3_bump 44 = .ok (.getfield 47, 3) := by decide +kernel
theorem dX3_bump_47 : decode cX3_bump 47 = .ok (.iload 6, 2) := by decide +kernel
theorem dX3_bump_49 : decode cX3_bump 49 = .ok (.aload_n 0, 1) := by decide +kernel
theorem dX3_bump_50 : decode cX3_bump 50 = .ok (.getfield 31, 3) := by decide +kernel
theorem dX3_bump_53 : decode cX3_bump 53 = .ok (.iload_n 1, 1) := by decide +kernel
theorem dX3_bump_54 : decode cX3_bump 54 = .ok (.iaload, 1) := by decide +kernel
theorem dX3_bump_55 : decode cX3_bump 55 = .ok (.iastore, 1) := by decide +kernel
theorem dX3_bump_56 : decode cX3_bump 56 = .ok (.aload_n 0, 1) := by decide +kernel
theorem dX3_bump_57 : decode cX3_bump 57 = .ok (.getfield 50, 3) := by decide +kernel
theorem dX3_bump_60 : decode cX3_bump 60 = .ok (.iload 6, 2) := by decide +kernel
theorem dX3_bump_62 : decode cX3_bump 62 = .ok (.iload_n 3, 1) := by decide +kernel
theorem dX3_bump_63 : decode cX3_bump 63 = .ok (.iastore, 1) := by decide +kernel
end
section
theorem dX3_bump_64 : decode cX3_bump 64 = .ok (.aload_n 0, 1) := by decide +kernel
theorem dX3_bump_65 : decode cX3_bump 65 = .ok (.getfield 53, 3) := by decide +kernel
theorem dX3_bump_68 : decode cX3_bump 68 = .ok (.iload 6, 2) := by decide +kernel
theorem dX3_bump_70 : decode cX3_bump 70 = .ok (.aload_n 0, 1) := by decide +kernel
theorem dX3_bump_71 : decode cX3_bump 71 = .ok (.getfield 22, 3) := by decide +kernel
theorem dX3_bump_74 : decode cX3_bump 74 = .ok (.iastore, 1) := by decide +kernel
theorem dX3_bump_75 : decode cX3_bump 75 = .ok (.iinc 4 1, 3) := by decide +kernel
theorem dX3_bump_78 : decode cX3_bump 78 = .ok (.iinc 5 1, 3) := by decide +kernel
theorem dX3_bump_81 : decode cX3_bump 81 = .ok (.goto (-75), 3) := by decide +kernel
theorem dX3_bump_84 : decode cX3_bump 84 = .ok (.iload 4, 2) := by decide +kernel
theorem dX3_bump_86 : decode cX3_bump 86 = .ok (.ireturn, 1) := by decide +kernel
theorem dX3_oath_0 : decode cX3_oath 0 = .ok (.aload_n 0, 1) := by decide +kernel
theorem dX3_oath_1 : decode cX3_oath 1 = .ok (.iload_n 1, 1) := by decide +kernel
theorem dX3_oath_2 : decode cX3_oath 2 = .ok (.iload_n 2, 1) := by decide +kernel
theorem dX3_oath_3 : decode cX3_oath 3 = .ok (.invokevirtual 73, 3) := by decide +kernel
theorem dX3_oath_6 : decode cX3_oath 6 = .ok (.istore_n 3, 1) := by decide +kernel
theorem dX3_oath_7 : decode cX3_oath 7 = .ok (.aload_n 0, 1) := by decide +kernel
theorem dX3_oath_8 : decode cX3_oath 8 = .ok (.getfield 50, 3) := by decide +kernel
theorem dX3_oath_11 : decode cX3_oath 11 = .ok (.iload_n 3, 1) := by decide +kernel
theorem dX3_oath_12 : decode cX3_oath 12 = .ok (.iaload, 1) := by decide +kernel
theorem dX3_oath_13 : decode cX3_oath 13 = .ok (.istore 4, 2) := by decide +kernel
theorem dX3_oath_15 : decode cX3_oath 15 = .ok (.aload_n 0, 1) := by decide +kernel
theorem dX3_oath_16 : decode cX3_oath 16 = .ok (.getfield 22, 3) := by decide +kernel
theorem dX3_oath_19 : decode cX3_oath 19 = .ok (.aload_n 0, 1) := by decide +kernel
theorem dX3_oath_20 : decode cX3_oath 20 = .ok (.getfield 53, 3) := by decide +kernel
theorem dX3_oath_23 : decode cX3_oath 23 = .ok (.iload_n 3, 1) := by decide +kernel
theorem dX3_oath_24 : decode cX3_oath 24 = .ok (.iaload, 1) := by decide +kernel
theorem dX3_oath_25 : decode cX3_oath 25 = .ok (.isub, 1) := by decide +kernel
theorem dX3_oath_26 : decode cX3_oath 26 = .ok (.istore 5, 2) := by decide +kernel
theorem dX3_oath_28 : decode cX3_oath 28 = .ok (.aload_n 0, 1) := by decide +kernel
theorem dX3_oath_29 : decode cX3_oath 29 = .ok (.getfield 35, 3) := by decide +kernel
theorem dX3_oath_32 : decode cX3_oath 32 = .ok (.iload_n 1, 1) := by decide +kernel
theorem dX3_oath_33 : decode cX3_oath 33 = .ok (.iaload, 1) := by decide +kernel
theorem dX3_oath_34 : decode cX3_oath 34 = .ok (.istore 6, 2) := by decide +kernel
theorem dX3_oath_36 : decode cX3_oath 36 = .ok (.iload 4, 2) := by decide +kernel
theorem dX3_oath_38 : decode cX3_oath 38 = .ok (.ifCond .eq 29, 3) := by decide +kernel
theorem dX3_oath_41 : decode cX3_oath 41 = .ok (.iload 5, 2) := by decide +kernel
theorem dX3_oath_43 : decode cX3_oath 43 = .ok (.aload_n 0, 1) := by decide +kernel
theorem dX3_oath_44 : decode cX3_oath 44 = .ok (.getfield 15, 3) := by decide +kernel
theorem dX3_oath_47 : decode cX3_oath 47 = .ok (.iload 4, 2) := by decide +kernel
theorem dX3_oath_49 : decode cX3_oath 49 = .ok (.imul, 1) := by decide +kernel
theorem dX3_oath_50 : decode cX3_oath 50 = .ok (.if_icmp .ge 17, 3) := by decide +kernel
theorem dX3_oath_53 : decode cX3_oath 53 = .ok (.iload 6, 2) := by decide +kernel
theorem dX3_oath_55 : decode cX3_oath 55 = .ok (.iconst 5, 1) := by decide +kernel
theorem dX3_oath_56 : decode cX3_oath 56 = .ok (.if_icmp .eq 14, 3) := by decide +kernel
theorem dX3_oath_59 : decode cX3_oath 59 = .ok (.aload_n 0, 1) := by decide +kernel
theorem dX3_oath_60 : decode cX3_oath 60 = .ok (.iload_n 1, 1) := by decide +kernel
theorem dX3_oath_61 : decode cX3_oath 61 = .ok (.invokevirtual 66, 3) := by decide +kernel
theorem dX3_oath_64 : decode cX3_oath 64 = .ok (.ifCond .ne 6, 3) := by decide +kernel
theorem dX3_oath_67 : decode cX3_oath 67 = .ok (.ldc 77, 2) := by decide +kernel
theorem dX3_oath_69 : decode cX3_oath 69 = .ok (.ireturn, 1) := by decide +kernel
theorem dX3_oath_70 : decode cX3_oath 70 = .ok (.aload_n 0, 1) := by decide +kernel
theorem dX3_oath_71 : decode cX3_oath 71 = .ok (.getfield 47, 3) := by decide +kernel
theorem dX3_oath_74 : decode cX3_oath 74 = .ok (.iload_n 3, 1) := by decide +kernel
theorem dX3_oath_75 : decode cX3_oath 75 = .ok (.iaload, 1) := by decide +kernel
theorem dX3_oath_76 : decode cX3_oath 76 = .ok (.istore 7, 2) := by decide +kernel
theorem dX3_oath_78 : decode cX3_oath 78 = .ok (.iload 6, 2) := by decide +kernel
theorem dX3_oath_80 : decode cX3_oath 80 = .ok (.tableswitch 90 2 4 #[28, 47, 76], 28) := by decide +kernel
theorem dX3_oath_108 : decode cX3_oath 108 = .ok (.iconst 0, 1) := by decide +kernel
theorem dX3_oath_109 : decode cX3_oath 109 = .ok (.bipush 99, 2) := by decide +kernel
theorem dX3_oath_111 : decode cX3_oath 111 = .ok (.iload 7, 2) := by decide +kernel
theorem dX3_oath_113 : decode cX3_oath 113 = .ok (.aload_n 0, 1) := by decide +kernel
theorem dX3_oath_114 : decode cX3_oath 114 = .ok (.getfield 44, 3) := by decide +kernel
theorem dX3_oath_117 : decode cX3_oath 117 = .ok (.iload_n 1, 1) := by decide +kernel
theorem dX3_oath_118 : decode cX3_oath 118 = .ok (.iaload, 1) := by decide +kernel
theorem dX3_oath_119 : decode cX3_oath 119 = .ok (.iadd, 1) := by decide +kernel
theorem dX3_oath_120 : decode cX3_oath 120 = .ok (.invokestatic 78, 3) := by decide +kernel
theorem dX3_oath_123 : decode cX3_oath 123 = .ok (.invokestatic 83, 3) := by decide +kernel
theorem dX3_oath_126 : decode cX3_oath 126 = .ok (.ireturn, 1) := by decide +kernel
theorem dX3_oath_127 : decode cX3_oath 127 = .ok (.aload_n 0, 1) := by decide +kernel
theorem dX3_oath_128 : decode cX3_oath 128 = .ok (.getfield 19, 3) := by decide +kernel
theorem dX3_oath_131 : decode cX3_oath 131 = .ok (.iconst 1, 1) := by decide +kernel
theorem dX3_oath_132 : decode cX3_oath 132 = .ok (.if_icmp .ge 8, 3) := by decide +kernel
theorem dX3_oath_135 : decode cX3_oath 135 = .ok (.iload 7, 2) := by decide +kernel
theorem dX3_oath_137 : decode cX3_oath 137 = .ok (.goto 18, 3) := by decide +kernel
theorem dX3_oath_140 : decode cX3_oath 140 = .ok (.bipush 99, 2) := by decide +kernel
theorem dX3_oath_142 : decode cX3_oath 142 = .ok (.iload 7, 2) := by decide +kernel
theorem dX3_oath_144 : decode cX3_oath 144 = .ok (.iload 5, 2) := by decide +kernel
theorem dX3_oath_146 : decode cX3_oath 146 = .ok (.aload_n 0, 1) := by decide +kernel
theorem dX3_oath_147 : decode cX3_oath 147 = .ok (.getfield 19, 3) := by decide +kernel
theorem dX3_oath_150 : decode cX3_oath 150 = .ok (.idiv, 1) := by decide +kernel
theorem dX3_oath_151 : decode cX3_oath 151 = .ok (.iadd, 1) := by decide +kernel
theorem dX3_oath_152 : decode cX3_oath 152 = .ok (.invokestatic 78, 3) := by decide +kernel
theorem dX3_oath_155 : decode cX3_oath 155 = .ok (.ireturn, 1) := by decide +kernel
theorem dX3_oath_156 : decode cX3_oath 156 = .ok (.iload 4, 2) := by decide +kernel
theorem dX3_oath_158 : decode cX3_oath 158 = .ok (.iconst 5, 1) := by decide +kernel
theorem dX3_oath_159 : decode cX3_oath 159 = .ok (.if_icmp .lt 8, 3) := by decide +kernel
theorem dX3_oath_162 : decode cX3_oath 162 = .ok (.iload 7, 2) := by decide +kernel
theorem dX3_oath_164 : decode cX3_oath 164 = .ok (.goto 5, 3) := by decide +kernel
theorem dX3_oath_167 : decode cX3_oath 167 = .ok (.ldc 77, 2) := by decide +kernel
theorem dX3_oath_169 : decode cX3_oath 169 = .ok (.ireturn, 1) := by decide +kernel
theorem dX3_oath_170 : decode cX3_oath 170 = .ok (.iload 7, 2) := by decide +kernel
theorem dX3_oath_172 : decode cX3_oath 172 = .ok (.ireturn, 1) := by decide +kernel
theorem dX3_stonesSwornBy_0 : decode cX3_stonesSwornBy 0 = .ok (.iconst 0, 1) := by decide +kernel
theorem dX3_stonesSwornBy_1 : decode cX3_stonesSwornBy 1 = .ok (.istore_n 2, 1) := by decide +kernel
theorem dX3_stonesSwornBy_2 : decode cX3_stonesSwornBy 2 = .ok (.iconst 0, 1) := by decide +kernel
theorem dX3_stonesSwornBy_3 : decode cX3_stonesSwornBy 3 = .ok (.istore_n 3, 1) := by decide +kernel
theorem dX3_stonesSwornBy_4 : decode cX3_stonesSwornBy 4 = .ok (.iload_n 3, 1) := by decide +kernel
theorem dX3_stonesSwornBy_5 : decode cX3_stonesSwornBy 5 = .ok (.aload_n 0, 1) := by decide +kernel
theorem dX3_stonesSwornBy_6 : decode cX3_stonesSwornBy 6 = .ok (.getfield 25, 3) := by decide +kernel
theorem dX3_stonesSwornBy_9 : decode cX3_stonesSwornBy 9 = .ok (.if_icmp .ge 26, 3) := by decide +kernel
theorem dX3_stonesSwornBy_12 : decode cX3_stonesSwornBy 12 = .ok (.aload_n 0, 1) := by decide +kernel
theorem dX3_stonesSwornBy_13 : decode cX3_stonesSwornBy 13 = .ok (.iload_n 1, 1) := by decide +kernel
theorem dX3_stonesSwornBy_14 : decode cX3_stonesSwornBy 14 = .ok (.iload_n 3, 1) := by decide +kernel
theorem dX3_stonesSwornBy_15 : decode cX3_stonesSwornBy 15 = .ok (.invokevirtual 86, 3) := by decide +kernel
theorem dX3_stonesSwornBy_18 : decode cX3_stonesSwornBy 18 = .ok (.ldc 77, 2) := by decide +kernel
theorem dX3_stonesSwornBy_20 : decode cX3_stonesSwornBy 20 = .ok (.if_icmp .eq 9, 3) := by decide +kernel
theorem dX3_stonesSwornBy_23 : decode cX3_stonesSwornBy 23 = .ok (.iload_n 2, 1) := by decide +kernel
theorem dX3_stonesSwornBy_24 : decode cX3_stonesSwornBy 24 = .ok (.iconst 1, 1) := by decide +kernel
theorem dX3_stonesSwornBy_25 : decode cX3_stonesSwornBy 25 = .ok (.iload_n 3, 1) := by decide +kernel
theorem dX3_stonesSwornBy_26 : decode cX3_stonesSwornBy 26 = .ok (.ishl, 1) := by decide +kernel
theorem dX3_stonesSwornBy_27 : decode cX3_stonesSwornBy 27 = .ok (.ior, 1) := by decide +kernel
theorem dX3_stonesSwornBy_28 : decode cX3_stonesSwornBy 28 = .ok (.istore_n 2, 1) := by decide +kernel
theorem dX3_stonesSwornBy_29 : decode cX3_stonesSwornBy 29 = .ok (.iinc 3 1, 3) := by decide +kernel
theorem dX3_stonesSwornBy_32 : decode cX3_stonesSwornBy 32 = .ok (.goto (-28), 3) := by decide +kernel
theorem dX3_stonesSwornBy_35 : decode cX3_stonesSwornBy 35 = .ok (.iload_n 2, 1) := by decide +kernel
theorem dX3_stonesSwornBy_36 : decode cX3_stonesSwornBy 36 = .ok (.ireturn, 1) := by decide +kernel
theorem dX3_swearersTo_0 : decode cX3_swearersTo 0 = .ok (.iconst 0, 1) := by decide +kernel
theorem dX3_swearersTo_1 : decode cX3_swearersTo 1 = .ok (.istore_n 2, 1) := by decide +kernel
theorem dX3_swearersTo_2 : decode cX3_swearersTo 2 = .ok (.iconst 0, 1) := by decide +kernel
theorem dX3_swearersTo_3 : decode cX3_swearersTo 3 = .ok (.istore_n 3, 1) := by decide +kernel
theorem dX3_swearersTo_4 : decode cX3_swearersTo 4 = .ok (.iload_n 3, 1) := by decide +kernel
theorem dX3_swearersTo_5 : decode cX3_swearersTo 5 = .ok (.aload_n 0, 1) := by decide +kernel
theorem dX3_swearersTo_6 : decode cX3_swearersTo 6 = .ok (.getfield 28, 3) := by decide +kernel
theorem dX3_swearersTo_9 : decode cX3_swearersTo 9 = .ok (.if_icmp .ge 26, 3) := by decide +kernel
theorem dX3_swearersTo_12 : decode cX3_swearersTo 12 = .ok (.aload_n 0, 1) := by decide +kernel
theorem dX3_swearersTo_13 : decode cX3_swearersTo 13 = .ok (.iload_n 3, 1) := by decide +kernel
theorem dX3_swearersTo_14 : decode cX3_swearersTo 14 = .ok (.iload_n 1, 1) := by decide +kernel
theorem dX3_swearersTo_15 : decode cX3_swearersTo 15 = .ok (.invokevirtual 86, 3) := by decide +kernel
theorem dX3_swearersTo_18 : decode cX3_swearersTo 18 = .ok (.ldc 77, 2) := by decide +kernel
theorem dX3_swearersTo_20 : decode cX3_swearersTo 20 = .ok (.if_icmp .eq 9, 3) := by decide +kernel
theorem dX3_swearersTo_23 : decode cX3_swearersTo 23 = .ok (.iload_n 2, 1) := by decide +kernel
theorem dX3_swearersTo_24 : decode cX3_swearersTo 24 = .ok (.iconst 1, 1) := by decide +kernel
theorem dX3_swearersTo_25 : decode cX3_swearersTo 25 = .ok (.iload_n 3, 1) := by decide +kernel
theorem dX3_swearersTo_26 : decode cX3_swearersTo 26 = .ok (.ishl, 1) := by decide +kernel
theorem dX3_swearersTo_27 : decode cX3_swearersTo 27 = .ok (.ior, 1) := by decide +kernel
theorem dX3_swearersTo_28 : decode cX3_swearersTo 28 = .ok (.istore_n 2, 1) := by decide +kernel
theorem dX3_swearersTo_29 : decode cX3_swearersTo 29 = .ok (.iinc 3 1, 3) := by decide +kernel
theorem dX3_swearersTo_32 : decode cX3_swearersTo 32 = .ok (.goto (-28), 3) := by decide +kernel
theorem dX3_swearersTo_35 : decode cX3_swearersTo 35 = .ok (.iload_n 2, 1) := by decide +kernel
theorem dX3_swearersTo_36 : decode cX3_swearersTo 36 = .ok (.ireturn, 1) := by decide +kernel
theorem dX3_stonesSworn_0 : decode cX3_stonesSworn 0 = .ok (.iconst 0, 1) := by decide +kernel
theorem dX3_stonesSworn_1 : decode cX3_stonesSworn 1 = .ok (.istore_n 1, 1) := by decide +kernel
theorem dX3_stonesSworn_2 : decode cX3_stonesSworn 2 = .ok (.iconst 0, 1) := by decide +kernel
theorem dX3_stonesSworn_3 : decode cX3_stonesSworn 3 = .ok (.istore_n 2, 1) := by decide +kernel
theorem dX3_stonesSworn_4 : decode cX3_stonesSworn 4 = .ok (.iload_n 2, 1) := by decide +kernel
theorem dX3_stonesSworn_5 : decode cX3_stonesSworn 5 = .ok (.aload_n 0, 1) := by decide +kernel
theorem dX3_stonesSworn_6 : decode cX3_stonesSworn 6 = .ok (.getfield 28, 3) := by decide +kernel
theorem dX3_stonesSworn_9 : decode cX3_stonesSworn 9 = .ok (.if_icmp .ge 17, 3) := by decide +kernel
theorem dX3_stonesSworn_12 : decode cX3_stonesSworn 12 = .ok (.iload_n 1, 1) := by decide +kernel
theorem dX3_stonesSworn_13 : decode cX3_stonesSworn 13 = .ok (.aload_n 0, 1) := by decide +kernel
theorem dX3_stonesSworn_14 : decode cX3_stonesSworn 14 = .ok (.iload_n 2, 1) := by decide +kernel
theorem dX3_stonesSworn_15 : decode cX3_stonesSworn 15 = .ok (.invokevirtual 89, 3) := by decide +kernel
theorem dX3_stonesSworn_18 : decode cX3_stonesSworn 18 = .ok (.ior, 1) := by decide +kernel
theorem dX3_stonesSworn_19 : decode cX3_stonesSworn 19 = .ok (.istore_n 1, 1) := by decide +kernel
theorem dX3_stonesSworn_20 : decode cX3_stonesSworn 20 = .ok (.iinc 2 1, 3) := by decide +kernel
theorem dX3_stonesSworn_23 : decode cX3_stonesSworn 23 = .ok (.goto (-19), 3) := by decide +kernel
theorem dX3_stonesSworn_26 : decode cX3_stonesSworn 26 = .ok (.iload_n 1, 1) := by decide +kernel
theorem dX3_stonesSworn_27 : decode cX3_stonesSworn 27 = .ok (.ireturn, 1) := by decide +kernel
theorem dX3_yardsSworn_0 : decode cX3_yardsSworn 0 = .ok (.iconst 0, 1) := by decide +kernel
theorem dX3_yardsSworn_1 : decode cX3_yardsSworn 1 = .ok (.istore_n 1, 1) := by decide +kernel
theorem dX3_yardsSworn_2 : decode cX3_yardsSworn 2 = .ok (.iconst 0, 1) := by decide +kernel
theorem dX3_yardsSworn_3 : decode cX3_yardsSworn 3 = .ok (.istore_n 2, 1) := by decide +kernel
theorem dX3_yardsSworn_4 : decode cX3_yardsSworn 4 = .ok (.iload_n 2, 1) := by decide +kernel
theorem dX3_yardsSworn_5 : decode cX3_yardsSworn 5 = .ok (.aload_n 0, 1) := by decide +kernel
theorem dX3_yardsSworn_6 : decode cX3_yardsSworn 6 = .ok (.getfield 28, 3) := by decide +kernel
theorem dX3_yardsSworn_9 : decode cX3_yardsSworn 9 = .ok (.if_icmp .ge 49, 3) := by decide +kernel
theorem dX3_yardsSworn_12 : decode cX3_yardsSworn 12 = .ok (.iconst 0, 1) := by decide +kernel
theorem dX3_yardsSworn_13 : decode cX3_yardsSworn 13 = .ok (.istore_n 3, 1) := by decide +kernel
theorem dX3_yardsSworn_14 : decode cX3_yardsSworn 14 = .ok (.iload_n 3, 1) := by decide +kernel
theorem dX3_yardsSworn_15 : decode cX3_yardsSworn 15 = .ok (.aload_n 0, 1) := by decide +kernel
theorem dX3_yardsSworn_16 : decode cX3_yardsSworn 16 = .ok (.getfield 25, 3) := by decide +kernel
theorem dX3_yardsSworn_19 : decode cX3_yardsSworn 19 = .ok (.if_icmp .ge 33, 3) := by decide +kernel
theorem dX3_yardsSworn_22 : decode cX3_yardsSworn 22 = .ok (.aload_n 0, 1) := by decide +kernel
theorem dX3_yardsSworn_23 : decode cX3_yardsSworn 23 = .ok (.iload_n 2, 1) := by decide +kernel
theorem dX3_yardsSworn_24 : decode cX3_yardsSworn 24 = .ok (.iload_n 3, 1) := by decide +kernel
theorem dX3_yardsSworn_25 : decode cX3_yardsSworn 25 = .ok (.invokevirtual 86, 3) := by decide +kernel
theorem dX3_yardsSworn_28 : decode cX3_yardsSworn 28 = .ok (.istore 4, 2) := by decide +kernel
theorem dX3_yardsSworn_30 : decode cX3_yardsSworn 30 = .ok (.iload_n 1, 1) := by decide +kernel
theorem dX3_yardsSworn_31 : decode cX3_yardsSworn 31 = .ok (.iload 4, 2) := by decide +kernel
theorem dX3_yardsSworn_33 : decode cX3_yardsSworn 33 = .ok (.ldc 77, 2) := by decide +kernel
theorem dX3_yardsSworn_35 : decode cX3_yardsSworn 35 = .ok (.if_icmp .ne 7, 3) := by decide +kernel
theorem dX3_yardsSworn_38 : decode cX3_yardsSworn 38 = .ok (.iconst 0, 1) := by decide +kernel
theorem dX3_yardsSworn_39 : decode cX3_yardsSworn 39 = .ok (.goto 5, 3) := by decide +kernel
theorem dX3_yardsSworn_42 : decode cX3_yardsSworn 42 = .ok (.iload 4, 2) := by decide +kernel
theorem dX3_yardsSworn_44 : decode cX3_yardsSworn 44 = .ok (.iadd, 1) := by decide +kernel
theorem dX3_yardsSworn_45 : decode cX3_yardsSworn 45 = .ok (.istore_n 1, 1) := by decide +kernel
theorem dX3_yardsSworn_46 : decode cX3_yardsSworn 46 = .ok (.iinc 3 1, 3) := by decide +kernel
theorem dX3_yardsSworn_49 : decode cX3_yardsSworn 49 = .ok (.goto (-35), 3) := by decide +kernel
theorem dX3_yardsSworn_52 : decode cX3_yardsSworn 52 = .ok (.iinc 2 1, 3) := by decide +kernel
theorem dX3_yardsSworn_55 : decode cX3_yardsSworn 55 = .ok (.goto (-51), 3) := by decide +kernel
theorem dX3_yardsSworn_58 : decode cX3_yardsSworn 58 = .ok (.iload_n 1, 1) := by decide +kernel
theorem dX3_yardsSworn_59 : decode cX3_yardsSworn 59 = .ok (.ireturn, 1) := by decide +kernel
theorem dX3_passYearBy_0 : decode cX3_passYearBy 0 = .ok (.aload_n 0, 1) := by decide +kernel
theorem dX3_passYearBy_1 : decode cX3_passYearBy 1 = .ok (.getfield 25, 3) := by decide +kernel
theorem dX3_passYearBy_4 : decode cX3_passYearBy 4 = .ok (.ifCond .le 69, 3) := by decide +kernel
theorem dX3_passYearBy_7 : decode cX3_passYearBy 7 = .ok (.lload_n 1, 1) := by decide +kernel
theorem dX3_passYearBy_8 : decode cX3_passYearBy 8 = .ok (.aload_n 0, 1) := by decide +kernel
theorem dX3_passYearBy_9 : decode cX3_passYearBy 9 = .ok (.getfield 25, 3) := by decide +kernel
theorem dX3_passYearBy_12 : decode cX3_passYearBy 12 = .ok (.i2l, 1) := by decide +kernel
theorem dX3_passYearBy_13 : decode cX3_passYearBy 13 = .ok (.lrem, 1) := by decide +kernel
theorem dX3_passYearBy_14 : decode cX3_passYearBy 14 = .ok (.l2i, 1) := by decide +kernel
theorem dX3_passYearBy_15 : decode cX3_passYearBy 15 = .ok (.istore_n 3, 1) := by decide +kernel
theorem dX3_passYearBy_16 : decode cX3_passYearBy 16 = .ok (.lload_n 1, 1) := by decide +kernel
theorem dX3_passYearBy_17 : decode cX3_passYearBy 17 = .ok (.ldc2_w 92, 3) := by decide +kernel
theorem dX3_passYearBy_20 : decode cX3_passYearBy 20 = .ok (.lrem, 1) := by decide +kernel
theorem dX3_passYearBy_21 : decode cX3_passYearBy 21 = .ok (.lconst 0, 1) := by decide +kernel
theorem dX3_passYearBy_22 : decode cX3_passYearBy 22 = .ok (.lcmp, 1) := by decide +kernel
theorem dX3_passYearBy_23 : decode cX3_passYearBy 23 = .ok (.ifCond .ne 21, 3) := by decide +kernel
theorem dX3_passYearBy_26 : decode cX3_passYearBy 26 = .ok (.aload_n 0, 1) := by decide +kernel
theorem dX3_passYearBy_27 : decode cX3_passYearBy 27 = .ok (.iload_n 3, 1) := by decide +kernel
theorem dX3_passYearBy_28 : decode cX3_passYearBy 28 = .ok (.aload_n 0, 1) := by decide +kernel
theorem dX3_passYearBy_29 : decode cX3_passYearBy 29 = .ok (.invokevirtual 94, 3) := by decide +kernel
theorem dX3_passYearBy_32 : decode cX3_passYearBy 32 = .ok (.iconst 1, 1) := by decide +kernel
theorem dX3_passYearBy_33 : decode cX3_passYearBy 33 = .ok (.lload_n 1, 1) := by decide +kernel
theorem dX3_passYearBy_34 : decode cX3_passYearBy 34 = .ok (.ldc2_w 98, 3) := by decide +kernel
theorem dX3_passYearBy_37 : decode cX3_passYearBy 37 = .ok (.lrem, 1) := by decide +kernel
theorem dX3_passYearBy_38 : decode cX3_passYearBy 38 = .ok (.l2i, 1) := by decide +kernel
theorem dX3_passYearBy_39 : decode cX3_passYearBy 39 = .ok (.iadd, 1) := by decide +kernel
theorem dX3_passYearBy_40 : decode cX3_passYearBy 40 = .ok (.invokevirtual 100, 3) := by decide +kernel
theorem dX3_passYearBy_43 : decode cX3_passYearBy 43 = .ok (.pop, 1) := by decide +kernel
theorem dX3_passYearBy_44 : decode cX3_passYearBy 44 = .ok (.lload_n 1, 1) := by decide +kernel
theorem dX3_passYearBy_45 : decode cX3_passYearBy 45 = .ok (.ldc2_w 104, 3) := by decide +kernel
theorem dX3_passYearBy_48 : decode cX3_passYearBy 48 = .ok (.lrem, 1) := by decide +kernel
theorem dX3_passYearBy_49 : decode cX3_passYearBy 49 = .ok (.lconst 0, 1) := by decide +kernel
theorem dX3_passYearBy_50 : decode cX3_passYearBy 50 = .ok (.lcmp, 1) := by decide +kernel
theorem dX3_passYearBy_51 : decode cX3_passYearBy 51 = .ok (.ifCond .ne 22, 3) := by decide +kernel
theorem dX3_passYearBy_54 : decode cX3_passYearBy 54 = .ok (.aload_n 0, 1) := by decide +kernel
theorem dX3_passYearBy_55 : decode cX3_passYearBy 55 = .ok (.getfield 31, 3) := by decide +kernel
theorem dX3_passYearBy_58 : decode cX3_passYearBy 58 = .ok (.iload_n 3, 1) := by decide +kernel
theorem dX3_passYearBy_59 : decode cX3_passYearBy 59 = .ok (.bipush 99, 2) := by decide +kernel
theorem dX3_passYearBy_61 : decode cX3_passYearBy 61 = .ok (.aload_n 0, 1) := by decide +kernel
theorem dX3_passYearBy_62 : decode cX3_passYearBy 62 = .ok (.getfield 31, 3) := by decide +kernel
theorem dX3_passYearBy_65 : decode cX3_passYearBy 65 = .ok (.iload_n 3, 1) := by decide +kernel
theorem dX3_passYearBy_66 : decode cX3_passYearBy 66 = .ok (.iaload, 1) := by decide +kernel
theorem dX3_passYearBy_67 : decode cX3_passYearBy 67 = .ok (.iconst 1, 1) := by decide +kernel
theorem dX3_passYearBy_68 : decode cX3_passYearBy 68 = .ok (.iadd, 1) := by decide +kernel
theorem dX3_passYearBy_69 : decode cX3_passYearBy 69 = .ok (.invokestatic 78, 3) := by decide +kernel
theorem dX3_passYearBy_72 : decode cX3_passYearBy 72 = .ok (.iastore, 1) := by decide +kernel
theorem dX3_passYearBy_73 : decode cX3_passYearBy 73 = .ok (.aload_n 0, 1) := by decide +kernel
theorem dX3_passYearBy_74 : decode cX3_passYearBy 74 = .ok (.dup, 1) := by decide +kernel
theorem dX3_passYearBy_75 : decode cX3_passYearBy 75 = .ok (.getfield 22, 3) := by decide +kernel
theorem dX3_passYearBy_78 : decode cX3_passYearBy 78 = .ok (.iconst 1, 1) := by decide +kernel
theorem dX3_passYearBy_79 : decode cX3_passYearBy 79 = .ok (.iadd, 1) := by decide +kernel
theorem dX3_passYearBy_80 : decode cX3_passYearBy 80 = .ok (.putfield 22, 3) := by decide +kernel
theorem dX3_passYearBy_83 : decode cX3_passYearBy 83 = .ok (.return_, 1) := by decide +kernel
theorem dX4_init_0 : decode cX4_init 0 = .ok (.aload_n 0, 1) := by decide +kernel
theorem dX4_init_1 : decode cX4_init 1 = .ok (.invokespecial 3, 3) := by decide +kernel
theorem dX4_init_4 : decode cX4_init 4 = .ok (.aload_n 0, 1) := by decide +kernel
theorem dX4_init_5 : decode cX4_init 5 = .ok (.bipush 40, 2) := by decide +kernel
theorem dX4_init_7 : decode cX4_init 7 = .ok (.newarray .int, 2) := by decide +kernel
theorem dX4_init_9 : decode cX4_init 9 = .ok (.putfield 9, 3) := by decide +kernel
theorem dX4_init_12 : decode cX4_init 12 = .ok (.aload_n 0, 1) := by decide +kernel
theorem dX4_init_13 : decode cX4_init 13 = .ok (.iconst 0, 1) := by decide +kernel
theorem dX4_init_14 : decode cX4_init 14 = .ok (.putfield 15, 3) := by decide +kernel
theorem dX4_init_17 : decode cX4_init 17 = .ok (.aload_n 0, 1) := by decide +kernel
theorem dX4_init_18 : decode cX4_init 18 = .ok (.iconst 0, 1) := by decide +kernel
theorem dX4_init_19 : decode cX4_init 19 = .ok (.putfield 19, 3) := by decide +kernel
theorem dX4_init_22 : decode cX4_init 22 = .ok (.aload_n 0, 1) := by decide +kernel
theorem dX4_init_23 : decode cX4_init 23 = .ok (.iconst 0, 1) := by decide +kernel
theorem dX4_init_24 : decode cX4_init 24 = .ok (.putfield 23, 3) := by decide +kernel
theorem dX4_init_27 : decode cX4_init 27 = .ok (.return_, 1) := by decide +kernel
theorem dX4_begin_0 : decode cX4_begin 0 = .ok (.aload_n 0, 1) := by decide +kernel
theorem dX4_begin_1 : decode cX4_begin 1 = .ok (.iconst 1, 1) := by decide +kernel
theorem dX4_begin_2 : decode cX4_begin 2 = .ok (.putfield 15, 3) := by decide +kernel
theorem dX4_begin_5 : decode cX4_begin 5 = .ok (.aload_n 0, 1) := by decide +kernel
theorem dX4_begin_6 : decode cX4_begin 6 = .ok (.iload_n 1, 1) := by decide +kernel
theorem dX4_begin_7 : decode cX4_begin 7 = .ok (.putfield 19, 3) := by decide +kernel
theorem dX4_begin_10 : decode cX4_begin 10 = .ok (.aload_n 0, 1) := by decide +kernel
theorem dX4_begin_11 : decode cX4_begin 11 = .ok (.iload_n 2, 1) := by decide +kernel
theorem dX4_begin_12 : decode cX4_begin 12 = .ok (.putfield 23, 3) := by decide +kernel
theorem dX4_begin_15 : decode cX4_begin 15 = .ok (.iconst 0, 1) := by decide +kernel
theorem dX4_begin_16 : decode cX4_begin 16 = .ok (.istore_n 3, 1) := by decide +kernel
theorem dX4_begin_17 : decode cX4_begin 17 = .ok (.iload_n 3, 1) := by decide +kernel
theorem dX4_begin_18 : decode cX4_begin 18 = .ok (.bipush 40, 2) := by decide +kernel
theorem dX4_begin_20 : decode cX4_begin 20 = .ok (.if_icmp .ge 16, 3) := by decide +kernel
theorem dX4_begin_23 : decode cX4_begin 23 = .ok (.aload_n 0, 1) := by decide +kernel
theorem dX4_begin_24 : decode cX4_begin 24 = .ok (.getfield 9, 3) := by decide +kernel
theorem dX4_begin_27 : decode cX4_begin 27 = .ok (.iload_n 3, 1) := by decide +kernel
theorem dX4_begin_28 : decode cX4_begin 28 = .ok (.iconst 0, 1) := by decide +kernel
theorem dX4_begin_29 : decode cX4_begin 29 = .ok (.iastore, 1) := by decide +kernel
theorem dX4_begin_30 : decode cX4_begin 30 = .ok (.iinc 3 1, 3) := by decide +kernel
theorem dX4_begin_33 : decode cX4_begin 33 = .ok (.goto (-16), 3) := by decide +kernel
theorem dX4_begin_36 : decode cX4_begin 36 = .ok (.return_, 1) := by decide +kernel
theorem dX4_holds_0 : decode cX4_holds 0 = .ok (.iload_n 1, 1) := by decide +kernel
theorem dX4_holds_1 : decode cX4_holds 1 = .ok (.ifCond .lt 29, 3) := by decide +kernel
theorem dX4_holds_4 : decode cX4_holds 4 = .ok (.iload_n 2, 1) := by decide +kernel
theorem dX4_holds_5 : decode cX4_holds 5 = .ok (.ifCond .lt 25, 3) := by decide +kernel
theorem dX4_holds_8 : decode cX4_holds 8 = .ok (.iload_n 2, 1) := by decide +kernel
theorem dX4_holds_9 : decode cX4_holds 9 = .ok (.aload_n 0, 1) := by decide +kernel
theorem dX4_holds_10 : decode cX4_holds 10 = .ok (.getfield 23, 3) := by decide +kernel
theorem dX4_holds_13 : decode cX4_holds 13 = .ok (.if_icmp .gt 17, 3) := by decide +kernel
theorem dX4_holds_16 : decode cX4_holds 16 = .ok (.iload_n 1, 1) := by decide +kernel
theorem dX4_holds_17 : decode cX4_holds 17 = .ok (.aload_n 0, 1) := by decide +kernel
theorem dX4_holds_18 : decode cX4_holds 18 = .ok (.getfield 23, 3) := by decide +kernel
theorem dX4_holds_21 : decode cX4_holds 21 = .ok (.iload_n 2, 1) := by decide +kernel
theorem dX4_holds_22 : decode cX4_holds 22 = .ok (.isub, 1) := by decide +kernel
theorem dX4_holds_23 : decode cX4_holds 23 = .ok (.if_icmp .gt 7, 3) := by decide +kernel
theorem dX4_holds_26 : decode cX4_holds 26 = .ok (.iconst 1, 1) := by decide +kernel
theorem dX4_holds_27 : decode cX4_holds 27 = .ok (.goto 4, 3) := by decide +kernel
theorem dX4_holds_30 : decode cX4_holds 30 = .ok (.iconst 0, 1) := by decide +kernel
theorem dX4_holds_31 : decode cX4_holds 31 = .ok (.ireturn, 1) := by decide +kernel
theorem dX4_cut_0 : decode cX4_cut 0 = .ok (.aload_n 0, 1) := by decide +kernel
theorem dX4_cut_1 : decode cX4_cut 1 = .ok (.getfield 19, 3) := by decide +kernel
theorem dX4_cut_4 : decode cX4_cut 4 = .ok (.ifCond .ne 6, 3) := by decide +kernel
theorem dX4_cut_7 : decode cX4_cut 7 = .ok (.iload_n 1, 1) := by decide +kernel
theorem dX4_cut_8 : decode cX4_cut 8 = .ok (.i2b, 1) := by decide +kernel
theorem dX4_cut_9 : decode cX4_cut 9 = .ok (.ireturn, 1) := by decide +kernel
theorem dX4_cut_10 : decode cX4_cut 10 = .ok (.aload_n 0, 1) := by decide +kernel
theorem dX4_cut_11 : decode cX4_cut 11 = .ok (.getfield 19, 3) := by decide +kernel
theorem dX4_cut_14 : decode cX4_cut 14 = .ok (.iconst 1, 1) := by decide +kernel
theorem dX4_cut_15 : decode cX4_cut 15 = .ok (.if_icmp .ne 8, 3) := by decide +kernel
theorem dX4_cut_18 : decode cX4_cut 18 = .ok (.iload_n 1, 1) := by decide +kernel
theorem dX4_cut_19 : decode cX4_cut 19 = .ok (.i2s, 1) := by decide +kernel
theorem dX4_cut_20 : decode cX4_cut 20 = .ok (.goto 4, 3) := by decide +kernel
theorem dX4_cut_23 : decode cX4_cut 23 = .ok (.iload_n 1, 1) := by decide +kernel
theorem dX4_cut_24 : decode cX4_cut 24 = .ok (.ireturn, 1) := by decide +kernel
theorem dX5_init_0 : decode cX5_init 0 = .ok (.aload_n 0, 1) := by decide +kernel
theorem dX5_init_1 : decode cX5_init 1 = .ok (.invokespecial 3, 3) := by decide +kernel
theorem dX5_init_4 : decode cX5_init 4 = .ok (.aload_n 0, 1) := by decide +kernel
theorem dX5_init_5 : decode cX5_init 5 = .ok (.bipush 120, 2) := by decide +kernel
theorem dX5_init_7 : decode cX5_init 7 = .ok (.newarray .int, 2) := by decide +kernel
theorem dX5_init_9 : decode cX5_init 9 = .ok (.putfield 9, 3) := by decide +kernel
theorem dX5_init_12 : decode cX5_init 12 = .ok (.aload_n 0, 1) := by decide +kernel
theorem dX5_init_13 : decode cX5_init 13 = .ok (.iconst 0, 1) := by decide +kernel
theorem dX5_init_14 : decode cX5_init 14 = .ok (.putfield 15, 3) := by decide +kernel
theorem dX5_init_17 : decode cX5_init 17 = .ok (.aload_n 0, 1) := by decide +kernel
theorem dX5_init_18 : decode cX5_init 18 = .ok (.iconst 0, 1) := by decide +kernel
theorem dX5_init_19 : decode cX5_init 19 = .ok (.putfield 19, 3) := by decide +kernel
theorem dX5_init_22 : decode cX5_init 22 = .ok (.aload_n 0, 1) := by decide +kernel
theorem dX5_init_23 : decode cX5_init 23 = .ok (.iconst 0, 1) := by decide +kernel
theorem dX5_init_24 : decode cX5_init 24 = .ok (.putfield 22, 3) := by decide +kernel
theorem dX5_init_27 : decode cX5_init 27 = .ok (.aload_n 0, 1) := by decide +kernel
theorem dX5_init_28 : decode cX5_init 28 = .ok (.iconst 0, 1) := by decide +kernel
theorem dX5_init_29 : decode cX5_init 29 = .ok (.putfield 25, 3) := by decide +kernel
theorem dX5_init_32 : decode cX5_init 32 = .ok (.return_, 1) := by decide +kernel
theorem dX5_hasRoom_0 : decode cX5_hasRoom 0 = .ok (.aload_n 0, 1) := by decide +kernel
theorem dX5_hasRoom_1 : decode cX5_hasRoom 1 = .ok (.getfield 15, 3) := by decide +kernel
theorem dX5_hasRoom_4 : decode cX5_hasRoom 4 = .ok (.bipush 120, 2) := by decide +kernel
theorem dX5_hasRoom_6 : decode cX5_hasRoom 6 = .ok (.if_icmp .ge 7, 3) := by decide +kernel
theorem dX5_hasRoom_9 : decode cX5_hasRoom 9 = .ok (.iconst 1, 1) := by decide +kernel
theorem dX5_hasRoom_10 : decode cX5_hasRoom 10 = .ok (.goto 4, 3) := by decide +kernel
theorem dX5_hasRoom_13 : decode cX5_hasRoom 13 = .ok (.iconst 0, 1) := by decide +kernel
theorem dX5_hasRoom_14 : decode cX5_hasRoom 14 = .ok (.ireturn, 1) := by decide +kernel
theorem dX5_append_0 : decode cX5_append 0 = .ok (.aload_n 0, 1) := by decide +kernel
theorem dX5_append_1 : decode cX5_append 1 = .ok (.invokevirtual 28, 3) := by decide +kernel
theorem dX5_append_4 : decode cX5_append 4 = .ok (.ifCond .eq 23, 3) := by decide +kernel
theorem dX5_append_7 : decode cX5_append 7 = .ok (.aload_n 0, 1) := by decide +kernel
theorem dX5_append_8 : decode cX5_append 8 = .ok (.getfield 9, 3) := by decide +kernel
theorem dX5_append_11 : decode cX5_append 11 = .ok (.aload_n 0, 1) := by decide +kernel
theorem dX5_append_12 : decode cX5_append 12 = .ok (.getfield 15, 3) := by decide +kernel
theorem dX5_append_15 : decode cX5_append 15 = .ok (.iload_n 1, 1) := by decide +kernel
theorem dX5_append_16 : decode cX5_append 16 = .ok (.iastore, 1) := by decide +kernel
theorem dX5_append_17 : decode cX5_append 17 = .ok (.aload_n 0, 1) := by decide +kernel
theorem dX5_append_18 : decode cX5_append 18 = .ok (.dup, 1) := by decide +kernel
theorem dX5_append_19 : decode cX5_append 19 = .ok (.getfield 15, 3) := by decide +kernel
theorem dX5_append_22 : decode cX5_append 22 = .ok (.iconst 1, 1) := by decide +kernel
theorem dX5_append_23 : decode cX5_append 23 = .ok (.iadd, 1) := by decide +kernel
theorem dX5_append_24 : decode cX5_append 24 = .ok (.putfield 15, 3) := by decide +kernel
theorem dX5_append_27 : decode cX5_append 27 = .ok (.aload_n 0, 1) := by decide +kernel
theorem dX5_append_28 : decode cX5_append 28 = .ok (.getfield 15, 3) := by decide +kernel
theorem dX5_append_31 : decode cX5_append 31 = .ok (.ireturn, 1) := by decide +kernel
theorem dX5_readInto_0 : decode cX5_readInto 0 = .ok (.aload_n 0, 1) := by decide +kernel
theorem dX5_readInto_1 : decode cX5_readInto 1 = .ok (.iconst 0, 1) := by decide +kernel
theorem dX5_readInto_2 : decode cX5_readInto 2 = .ok (.putfield 19, 3) := by decide +kernel
theorem dX5_readInto_5 : decode cX5_readInto 5 = .ok (.aload_n 0, 1) := by decide +kernel
theorem dX5_readInto_6 : decode cX5_readInto 6 = .ok (.aload_n 1, 1) := by decide +kernel
theorem dX5_readInto_7 : decode cX5_readInto 7 = .ok (.invokevirtual 32, 3) := by decide +kernel
theorem dX5_readInto_10 : decode cX5_readInto 10 = .ok (.ifCond .eq 23, 3) := by decide +kernel
theorem dX5_readInto_13 : decode cX5_readInto 13 = .ok (.aload_n 0, 1) := by decide +kernel
theorem dX5_readInto_14 : decode cX5_readInto 14 = .ok (.aload_n 1, 1) := by decide +kernel
theorem dX5_readInto_15 : decode cX5_readInto 15 = .ok (.invokevirtual 36, 3) := by decide +kernel
theorem dX5_readInto_18 : decode cX5_readInto 18 = .ok (.ifCond .eq 15, 3) := by decide +kernel
theorem dX5_readInto_21 : decode cX5_readInto 21 = .ok (.aload_n 0, 1) := by decide +kernel
theorem dX5_readInto_22 : decode cX5_readInto 22 = .ok (.aload_n 1, 1) := by decide +kernel
theorem dX5_readInto_23 : decode cX5_readInto 23 = .ok (.invokevirtual 39, 3) := by decide +kernel
theorem dX5_readInto_26 : decode cX5_readInto 26 = .ok (.ifCond .eq 7, 3) := by decide +kernel
theorem dX5_readInto_29 : decode cX5_readInto 29 = .ok (.iconst 1, 1) := by decide +kernel
theorem dX5_readInto_30 : decode cX5_readInto 30 = .ok (.goto 4, 3) := by decide +kernel
theorem dX5_readInto_33 : decode cX5_readInto 33 = .ok (.iconst 0, 1) := by decide +kernel
theorem dX5_readInto_34 : decode cX5_readInto 34 = .ok (.istore_n 2, 1) := by decide +kernel
theorem dX5_readInto_35 : decode cX5_readInto 35 = .ok (.aload_n 1, 1) := by decide +kernel
theorem dX5_readInto_36 : decode cX5_readInto 36 = .ok (.iload_n 2, 1) := by decide +kernel
theorem dX5_readInto_37 : decode cX5_readInto 37 = .ok (.putfield 42, 3) := by decide +kernel
theorem dX5_readInto_40 : decode cX5_readInto 40 = .ok (.aload_n 0, 1) := by decide +kernel
theorem dX5_readInto_41 : decode cX5_readInto 41 = .ok (.iconst 0, 1) := by decide +kernel
theorem dX5_readInto_42 : decode cX5_readInto 42 = .ok (.putfield 15, 3) := by decide +kernel
theorem dX5_readInto_45 : decode cX5_readInto 45 = .ok (.iload_n 2, 1) := by decide +kernel
theorem dX5_readInto_46 : decode cX5_readInto 46 = .ok (.ireturn, 1) := by decide +kernel
theorem dX5_readLaw_0 : decode cX5_readLaw 0 = .ok (.aload_n 0, 1) := by decide +kernel
theorem dX5_readLaw_1 : decode cX5_readLaw 1 = .ok (.bipush 119, 2) := by decide +kernel
theorem dX5_readLaw_3 : decode cX5_readLaw 3 = .ok (.invokevirtual 48, 3) := by decide +kernel
theorem dX5_readLaw_6 : decode cX5_readLaw 6 = .ok (.ifCond .ne 5, 3) := by decide +kernel
theorem dX5_readLaw_9 : decode cX5_readLaw 9 = .ok (.iconst 0, 1) := by decide +kernel
theorem dX5_readLaw_10 : decode cX5_readLaw 10 = .ok (.ireturn, 1) := by decide +kernel
theorem dX5_readLaw_11 : decode cX5_readLaw 11 = .ok (.aload_n 1, 1) := by decide +kernel
theorem dX5_readLaw_12 : decode cX5_readLaw 12 = .ok (.aload_n 0, 1) := by decide +kernel
theorem dX5_readLaw_13 : decode cX5_readLaw 13 = .ok (.iconst 1, 1) := by decide +kernel
theorem dX5_readLaw_14 : decode cX5_readLaw 14 = .ok (.bipush 30, 2) := by decide +kernel
theorem dX5_readLaw_16 : decode cX5_readLaw 16 = .ok (.invokevirtual 52, 3) := by decide +kernel
theorem dX5_readLaw_19 : decode cX5_readLaw 19 = .ok (.putfield 56, 3) := by decide +kernel
theorem dX5_readLaw_22 : decode cX5_readLaw 22 = .ok (.aload_n 1, 1) := by decide +kernel
theorem dX5_readLaw_23 : decode cX5_readLaw 23 = .ok (.getfield 56, 3) := by decide +kernel
theorem dX5_readLaw_26 : decode cX5_readLaw 26 = .ok (.ifCond .lt 12, 3) := by decide +kernel
theorem dX5_readLaw_29 : decode cX5_readLaw 29 = .ok (.aload_n 0, 1) := by decide +kernel
theorem dX5_readLaw_30 : decode cX5_readLaw 30 = .ok (.bipush 44, 2) := by decide +kernel
theorem dX5_readLaw_32 : decode cX5_readLaw 32 = .ok (.invokevirtual 48, 3) := by decide +kernel
theorem dX5_readLaw_35 : decode cX5_readLaw 35 = .ok (.ifCond .ne 5, 3) := by decide +kernel
theorem dX5_readLaw_38 : decode cX5_readLaw 38 = .ok (.iconst 0, 1) := by decide +kernel
theorem dX5_readLaw_39 : decode cX5_readLaw 39 = .ok (.ireturn, 1) := by decide +kernel
theorem dX5_readLaw_40 : decode cX5_readLaw 40 = .ok (.aload_n 1, 1) := by decide +kernel
theorem dX5_readLaw_41 : decode cX5_readLaw 41 = .ok (.aload_n 0, 1) := by decide +kernel
theorem dX5_readLaw_42 : decode cX5_readLaw 42 = .ok (.iconst 1, 1) := by decide +kernel
theorem dX5_readLaw_43 : decode cX5_readLaw 43 = .ok (.bipush 30, 2) := by decide +kernel
theorem dX5_readLaw_45 : decode cX5_readLaw 45 = .ok (.invokevirtual 52, 3) := by decide +kernel
theorem dX5_readLaw_48 : decode cX5_readLaw 48 = .ok (.putfield 59, 3) := by decide +kernel
theorem dX5_readLaw_51 : decode cX5_readLaw 51 = .ok (.aload_n 1, 1) := by decide +kernel
theorem dX5_readLaw_52 : decode cX5_readLaw 52 = .ok (.getfield 59, 3) := by decide +kernel
theorem dX5_readLaw_55 : decode cX5_readLaw 55 = .ok (.ifCond .lt 16, 3) := by decide +kernel
theorem dX5_readLaw_58 : decode cX5_readLaw 58 = .ok (.aload_n 0, 1) := by decide +kernel
theorem dX5_readLaw_59 : decode cX5_readLaw 59 = .ok (.bipush 59, 2) := by decide +kernel
theorem dX5_readLaw_61 : decode cX5_readLaw 61 = .ok (.invokevirtual 48, 3) := by decide +kernel
theorem dX5_readLaw_64 : decode cX5_readLaw 64 = .ok (.ifCond .eq 7, 3) := by decide +kernel
theorem dX5_readLaw_67 : decode cX5_readLaw 67 = .ok (.iconst 1, 1) := by decide +kernel
theorem dX5_readLaw_68 : decode cX5_readLaw 68 = .ok (.goto 4, 3) := by decide +kernel
theorem dX5_readLaw_71 : decode cX5_readLaw 71 = .ok (.iconst 0, 1) := by decide +kernel
theorem dX5_readLaw_72 : decode cX5_readLaw 72 = .ok (.ireturn, 1) := by decide +kernel
theorem dX5_readStones_0 : decode cX5_readStones 0 = .ok (.iconst 0, 1) := by decide +kernel
theorem dX5_readStones_1 : decode cX5_readStones 1 = .ok (.istore_n 2, 1) := by decide +kernel
theorem dX5_readStones_2 : decode cX5_readStones 2 = .ok (.iload_n 2, 1) := by decide +kernel
theorem dX5_readStones_3 : decode cX5_readStones 3 = .ok (.bipush 6, 2) := by decide +kernel
theorem dX5_readStones_5 : decode cX5_readStones 5 = .ok (.if_icmp .gt 88, 3) := by decide +kernel
theorem dX5_readStones_8 : decode cX5_readStones 8 = .ok (.iload_n 2, 1) := by decide +kernel
theorem dX5_readStones_9 : decode cX5_readStones 9 = .ok (.ifCond .le 18, 3) := by decide +kernel
theorem dX5_readStones_12 : decode cX5_readStones 12 = .ok (.aload_n 0, 1) := by decide +kernel
theorem dX5_readStones_13 : decode cX5_readStones 13 = .ok (.aload_n 0, 1) := by decide +kernel
theorem dX5_readStones_14 : decode cX5_readStones 14 = .ok (.getfield 19, 3) := by decide +kernel
theorem dX5_readStones_17 : decode cX5_readStones 17 = .ok (.invokevirtual 62, 3) := by decide +kernel
theorem dX5_readStones_20 : decode cX5_readStones 20 = .ok (.bipush 115, 2) := by decide +kernel
theorem dX5_readStones_22 : decode cX5_readStones 22 = .ok (.if_icmp .eq 5, 3) := by decide +kernel
theorem dX5_readStones_25 : decode cX5_readStones 25 = .ok (.iconst 1, 1) := by decide +kernel
theorem dX5_readStones_26 : decode cX5_readStones 26 = .ok (.ireturn, 1) := by decide +kernel
theorem dX5_readStones_27 : decode cX5_readStones 27 = .ok (.iload_n 2, 1) := by decide +kernel
theorem dX5_readStones_28 : decode cX5_readStones 28 = .ok (.bipush 6, 2) := by decide +kernel
theorem dX5_readStones_30 : decode cX5_readStones 30 = .ok (.if_icmp .ne 9, 3) := by decide +kernel
theorem dX5_readStones_33 : decode cX5_readStones 33 = .ok (.aload_n 0, 1) := by decide +kernel
theorem dX5_readStones_34 : decode cX5_readStones 34 = .ok (.iconst 3, 1) := by decide +kernel
theorem dX5_readStones_35 : decode cX5_readStones 35 = .ok (.invokevirtual 66, 3) := by decide +kernel
theorem dX5_readStones_38 : decode cX5_readStones 38 = .ok (.ireturn, 1) := by decide +kernel
theorem dX5_readStones_39 : decode cX5_readStones 39 = .ok (.aload_n 0, 1) := by decide +kernel
theorem dX5_readStones_40 : decode cX5_readStones 40 = .ok (.bipush 115, 2) := by decide +kernel
theorem dX5_readStones_42 : decode cX5_readStones 42 = .ok (.invokevirtual 48, 3) := by decide +kernel
theorem dX5_readStones_45 : decode cX5_readStones 45 = .ok (.ifCond .ne 5, 3) := by decide +kernel
theorem dX5_readStones_48 : decode cX5_readStones 48 = .ok (.iconst 0, 1) := by decide +kernel
theorem dX5_readStones_49 : decode cX5_readStones 49 = .ok (.ireturn, 1) := by decide +kernel
theorem dX5_readStones_50 : decode cX5_readStones 50 = .ok (.aload_n 0, 1) := by decide +kernel
theorem dX5_readStones_51 : decode cX5_readStones 51 = .ok (.iconst 0, 1) := by decide +kernel
theorem dX5_readStones_52 : decode cX5_readStones 52 = .ok (.bipush 99, 2) := by decide +kernel
theorem dX5_readStones_54 : decode cX5_readStones 54 = .ok (.invokevirtual 52, 3) := by decide +kernel
theorem dX5_readStones_57 : decode cX5_readStones 57 = .ok (.istore_n 3, 1) := by decide +kernel
theorem dX5_readStones_58 : decode cX5_readStones 58 = .ok (.iload_n 3, 1) := by decide +kernel
theorem dX5_readStones_59 : decode cX5_readStones 59 = .ok (.ifCond .lt 12, 3) := by decide +kernel
theorem dX5_readStones_62 : decode cX5_readStones 62 = .ok (.aload_n 0, 1) := by decide +kernel
theorem dX5_readStones_63 : decode cX5_readStones 63 = .ok (.bipush 59, 2) := by decide +kernel
theorem dX5_readStones_65 : decode cX5_readStones 65 = .ok (.invokevirtual 48, 3) := by decide +kernel
theorem dX5_readStones_68 : decode cX5_readStones 68 = .ok (.ifCond .ne 5, 3) := by decide +kernel
theorem dX5_readStones_71 : decode cX5_readStones 71 = .ok (.iconst 0, 1) := by decide +kernel
theorem dX5_readStones_72 : decode cX5_readStones 72 = .ok (.ireturn, 1) := by decide +kernel
theorem dX5_readStones_73 : decode cX5_readStones 73 = .ok (.aload_n 1, 1) := by decide +kernel
theorem dX5_readStones_74 : decode cX5_readStones 74 = .ok (.getfield 69, 3) := by decide +kernel
theorem dX5_readStones_77 : decode cX5_readStones 77 = .ok (.iload_n 2, 1) := by decide +kernel
theorem dX5_readStones_78 : decode cX5_readStones 78 = .ok (.iload_n 3, 1) := by decide +kernel
theorem dX5_readStones_79 : decode cX5_readStones 79 = .ok (.iastore, 1) := by decide +kernel
theorem dX5_readStones_80 : decode cX5_readStones 80 = .ok (.aload_n 1, 1) := by decide +kernel
theorem dX5_readStones_81 : decode cX5_readStones 81 = .ok (.iload_n 2, 1) := by decide +kernel
theorem dX5_readStones_82 : decode cX5_readStones 82 = .ok (.iconst 1, 1) := by decide +kernel
theorem dX5_readStones_83 : decode cX5_readStones 83 = .ok (.iadd, 1) := by decide +kernel
theorem dX5_readStones_84 : decode cX5_readStones 84 = .ok (.putfield 72, 3) := by decide +kernel
theorem dX5_readStones_87 : decode cX5_readStones 87 = .ok (.iinc 2 1, 3) := by decide +kernel
theorem dX5_readStones_90 : decode cX5_readStones 90 = .ok (.goto (-88), 3) := by decide +kernel
theorem dX5_readStones_93 : decode cX5_readStones 93 = .ok (.iconst 0, 1) := by decide +kernel
theorem dX5_readStones_94 : decode cX5_readStones 94 = .ok (.ireturn, 1) := by decide +kernel
theorem dX5_readWitnesses_0 : decode cX5_readWitnesses 0 = .ok (.iconst 0, 1) := by decide +kernel
theorem dX5_readWitnesses_1 : decode cX5_readWitnesses 1 = .ok (.istore_n 2, 1) := by decide +kernel
theorem dX5_readWitnesses_2 : decode cX5_readWitnesses 2 = .ok (.iload_n 2, 1) := by decide +kernel
theorem dX5_readWitnesses_3 : decode cX5_readWitnesses 3 = .ok (.bipush 6, 2) := by decide +kernel
theorem dX5_readWitnesses_5 : decode cX5_readWitnesses 5 = .ok (.if_icmp .gt 95, 3) := by decide +kernel
theorem dX5_readWitnesses_8 : decode cX5_readWitnesses 8 = .ok (.iload_n 2, 1) := by decide +kernel
theorem dX5_readWitnesses_9 : decode cX5_readWitnesses 9 = .ok (.ifCond .le 16, 3) := by decide +kernel
theorem dX5_readWitnesses_12 : decode cX5_readWitnesses 12 = .ok (.aload_n 0, 1) := by decide +kernel
theorem dX5_readWitnesses_13 : decode cX5_readWitnesses 13 = .ok (.getfield 19, 3) := by decide +kernel
theorem dX5_readWitnesses_16 : decode cX5_readWitnesses 16 = .ok (.aload_n 0, 1) := by decide +kernel
theorem dX5_readWitnesses_17 : decode cX5_readWitnesses 17 = .ok (.getfield 15, 3) := by decide +kernel
theorem dX5_readWitnesses_20 : decode cX5_readWitnesses 20 = .ok (.if_icmp .lt 5, 3) := by decide +kernel
theorem dX5_readWitnesses_23 : decode cX5_readWitnesses 23 = .ok (.iconst 1, 1) := by decide +kernel
theorem dX5_readWitnesses_24 : decode cX5_readWitnesses 24 = .ok (.ireturn, 1) := by decide +kernel
theorem dX5_readWitnesses_25 : decode cX5_readWitnesses 25 = .ok (.aload_n 0, 1) := by decide +kernel
theorem dX5_readWitnesses_26 : decode cX5_readWitnesses 26 = .ok (.aload_n 0, 1) := by decide +kernel
theorem dX5_readWitnesses_27 : decode cX5_readWitnesses 27 = .ok (.getfield 19, 3) := by decide +kernel
theorem dX5_readWitnesses_30 : decode cX5_readWitnesses 30 = .ok (.invokevirtual 62, 3) := by decide +kernel
theorem dX5_readWitnesses_33 : decode cX5_readWitnesses 33 = .ok (.invokestatic 75, 3) := by decide +kernel
theorem dX5_readWitnesses_36 : decode cX5_readWitnesses 36 = .ok (.istore_n 3, 1) := by decide +kernel
theorem dX5_readWitnesses_37 : decode cX5_readWitnesses 37 = .ok (.iload_n 3, 1) := by decide +kernel
theorem dX5_readWitnesses_38 : decode cX5_readWitnesses 38 = .ok (.ifCond .ne 9, 3) := by decide +kernel
theorem dX5_readWitnesses_41 : decode cX5_readWitnesses 41 = .ok (.aload_n 0, 1) := by decide +kernel
theorem dX5_readWitnesses_42 : decode cX5_readWitnesses 42 = .ok (.iconst 1, 1) := by decide +kernel
theorem dX5_readWitnesses_43 : decode cX5_readWitnesses 43 = .ok (.invokevirtual 66, 3) := by decide +kernel
theorem dX5_readWitnesses_46 : decode cX5_readWitnesses 46 = .ok (.ireturn, 1) := by decide +kernel
theorem dX5_readWitnesses_47 : decode cX5_readWitnesses 47 = .ok (.iload_n 2, 1) := by decide +kernel
theorem dX5_readWitnesses_48 : decode cX5_readWitnesses 48 = .ok (.bipush 6, 2) := by decide +kernel
theorem dX5_readWitnesses_50 : decode cX5_readWitnesses 50 = .ok (.if_icmp .ne 9, 3) := by decide +kernel
theorem dX5_readWitnesses_53 : decode cX5_readWitnesses 53 = .ok (.aload_n 0, 1) := by decide +kernel
theorem dX5_readWitnesses_54 : decode cX5_readWitnesses 54 = .ok (.iconst 3, 1) := by decide +kernel
theorem dX5_readWitnesses_55 : decode cX5_readWitnesses 55 = .ok (.invokevirtual 66, 3) := by decide +kernel
theorem dX5_readWitnesses_58 : decode cX5_readWitnesses 58 = .ok (.ireturn, 1) := by decide +kernel
theorem dX5_readWitnesses_59 : decode cX5_readWitnesses 59 = .ok (.aload_n 0, 1) := by decide +kernel
theorem dX5_readWitnesses_60 : decode cX5_readWitnesses 60 = .ok (.dup, 1) := by decide +kernel
theorem dX5_readWitnesses_61 : decode cX5_readWitnesses 61 = .ok (.getfield 19, 3) := by decide +kernel
theorem dX5_readWitnesses_64 : decode cX5_readWitnesses 64 = .ok (.iconst 1, 1) := by decide +kernel
theorem dX5_readWitnesses_65 : decode cX5_readWitnesses 65 = .ok (.iadd, 1) := by decide +kernel
theorem dX5_readWitnesses_66 : decode cX5_readWitnesses 66 = .ok (.putfield 19, 3) := by decide +kernel
theorem dX5_readWitnesses_69 : decode cX5_readWitnesses 69 = .ok (.aload_n 1, 1) := by decide +kernel
theorem dX5_readWitnesses_70 : decode cX5_readWitnesses 70 = .ok (.getfield 78, 3) := by decide +kernel
theorem dX5_readWitnesses_73 : decode cX5_readWitnesses 73 = .ok (.iload_n 2, 1) := by decide +kernel
theorem dX5_readWitnesses_74 : decode cX5_readWitnesses 74 = .ok (.iload_n 3, 1) := by decide +kernel
theorem dX5_readWitnesses_75 : decode cX5_readWitnesses 75 = .ok (.iastore, 1) := by decide +kernel
theorem dX5_readWitnesses_76 : decode cX5_readWitnesses 76 = .ok (.aload_n 0, 1) := by decide +kernel
theorem dX5_readWitnesses_77 : decode cX5_readWitnesses 77 = .ok (.aload_n 1, 1) := by decide +kernel
theorem dX5_readWitnesses_78 : decode cX5_readWitnesses 78 = .ok (.iload_n 2, 1) := by decide +kernel
theorem dX5_readWitnesses_79 : decode cX5_readWitnesses 79 = .ok (.invokevirtual 81, 3) := by decide +kernel
theorem dX5_readWitnesses_82 : decode cX5_readWitnesses 82 = .ok (.ifCond .ne 5, 3) := by decide +kernel
theorem dX5_readWitnesses_85 : decode cX5_readWitnesses 85 = .ok (.iconst 0, 1) := by decide +kernel
theorem dX5_readWitnesses_86 : decode cX5_readWitnesses 86 = .ok (.ireturn, 1) := by decide +kernel
theorem dX5_readWitnesses_87 : decode cX5_readWitnesses 87 = .ok (.aload_n 1, 1) := by decide +kernel
theorem dX5_readWitnesses_88 : decode cX5_readWitnesses 88 = .ok (.iload_n 2, 1) := by decide +kernel
theorem dX5_readWitnesses_89 : decode cX5_readWitnesses 89 = .ok (.iconst 1, 1) := by decide +kernel
theorem dX5_readWitnesses_90 : decode cX5_readWitnesses 90 = .ok (.iadd, 1) := by decide +kernel
theorem dX5_readWitnesses_91 : decode cX5_readWitnesses 91 = .ok (.putfield 85, 3) := by decide +kernel
theorem dX5_readWitnesses_94 : decode cX5_readWitnesses 94 = .ok (.iinc 2 1, 3) := by decide +kernel
theorem dX5_readWitnesses_97 : decode cX5_readWitnesses 97 = .ok (.goto (-95), 3) := by decide +kernel
theorem dX5_readWitnesses_100 : decode cX5_readWitnesses 100 = .ok (.iconst 0, 1) := by decide +kernel
theorem dX5_readWitnesses_101 : decode cX5_readWitnesses 101 = .ok (.ireturn, 1) := by decide +kernel
theorem dX5_readLife_0 : decode cX5_readLife 0 = .ok (.aload_n 0, 1) := by decide +kernel
theorem dX5_readLife_1 : decode cX5_readLife 1 = .ok (.iconst 0, 1) := by decide +kernel
theorem dX5_readLife_2 : decode cX5_readLife 2 = .ok (.bipush 60, 2) := by decide +kernel
theorem dX5_readLife_4 : decode cX5_readLife 4 = .ok (.invokevirtual 52, 3) := by decide +kernel
theorem dX5_readLife_7 : decode cX5_readLife 7 = .ok (.istore_n 3, 1) := by decide +kernel
theorem dX5_readLife_8 : decode cX5_readLife 8 = .ok (.iload_n 3, 1) := by decide +kernel
theorem dX5_readLife_9 : decode cX5_readLife 9 = .ok (.ifCond .lt 12, 3) := by decide +kernel
theorem dX5_readLife_12 : decode cX5_readLife 12 = .ok (.aload_n 0, 1) := by decide +kernel
theorem dX5_readLife_13 : decode cX5_readLife 13 = .ok (.bipush 44, 2) := by decide +kernel
theorem dX5_readLife_15 : decode cX5_readLife 15 = .ok (.invokevirtual 48, 3) := by decide +kernel
theorem dX5_readLife_18 : decode cX5_readLife 18 = .ok (.ifCond .ne 5, 3) := by decide +kernel
theorem dX5_readLife_21 : decode cX5_readLife 21 = .ok (.iconst 0, 1) := by decide +kernel
theorem dX5_readLife_22 : decode cX5_readLife 22 = .ok (.ireturn, 1) := by decide +kernel
theorem dX5_readLife_23 : decode cX5_readLife 23 = .ok (.aload_n 0, 1) := by decide +kernel
theorem dX5_readLife_24 : decode cX5_readLife 24 = .ok (.iload_n 3, 1) := by decide +kernel
theorem dX5_readLife_25 : decode cX5_readLife 25 = .ok (.iconst 1, 1) := by decide +kernel
theorem dX5_readLife_26 : decode cX5_readLife 26 = .ok (.iadd, 1) := by decide +kernel
theorem dX5_readLife_27 : decode cX5_readLife 27 = .ok (.bipush 99, 2) := by decide +kernel
theorem dX5_readLife_29 : decode cX5_readLife 29 = .ok (.invokevirtual 52, 3) := by decide +kernel
theorem dX5_readLife_32 : decode cX5_readLife 32 = .ok (.istore 4, 2) := by decide +kernel
theorem dX5_readLife_34 : decode cX5_readLife 34 = .ok (.iload 4, 2) := by decide +kernel
theorem dX5_readLife_36 : decode cX5_readLife 36 = .ok (.ifCond .lt 12, 3) := by decide +kernel
theorem dX5_readLife_39 : decode cX5_readLife 39 = .ok (.aload_n 0, 1) := by decide +kernel
theorem dX5_readLife_40 : decode cX5_readLife 40 = .ok (.bipush 59, 2) := by decide +kernel
theorem dX5_readLife_42 : decode cX5_readLife 42 = .ok (.invokevirtual 48, 3) := by decide +kernel
theorem dX5_readLife_45 : decode cX5_readLife 45 = .ok (.ifCond .ne 5, 3) := by decide +kernel
theorem dX5_readLife_48 : decode cX5_readLife 48 = .ok (.iconst 0, 1) := by decide +kernel
theorem dX5_readLife_49 : decode cX5_readLife 49 = .ok (.ireturn, 1) := by decide +kernel
theorem dX5_readLife_50 : decode cX5_readLife 50 = .ok (.aload_n 1, 1) := by decide +kernel
theorem dX5_readLife_51 : decode cX5_readLife 51 = .ok (.getfield 88, 3) := by decide +kernel
theorem dX5_readLife_54 : decode cX5_readLife 54 = .ok (.iload_n 2, 1) := by decide +kernel
theorem dX5_readLife_55 : decode cX5_readLife 55 = .ok (.iload_n 3, 1) := by decide +kernel
theorem dX5_readLife_56 : decode cX5_readLife 56 = .ok (.iastore, 1) := by decide +kernel
theorem dX5_readLife_57 : decode cX5_readLife 57 = .ok (.aload_n 1, 1) := by decide +kernel
theorem dX5_readLife_58 : decode cX5_readLife 58 = .ok (.getfield 91, 3) := by decide +kernel
theorem dX5_readLife_61 : decode cX5_readLife 61 = .ok (.iload_n 2, 1) := by decide +kernel
theorem dX5_readLife_62 : decode cX5_readLife 62 = .ok (.iload 4, 2) := by decide +kernel
theorem dX5_readLife_64 : decode cX5_readLife 64 = .ok (.iastore, 1) := by decide +kernel
theorem dX5_readLife_65 : decode cX5_readLife 65 = .ok (.iconst 1, 1) := by decide +kernel
theorem dX5_readLife_66 : decode cX5_readLife 66 = .ok (.ireturn, 1) := by decide +kernel
theorem dX5_fails_0 : decode cX5_fails 0 = .ok (.aload_n 0, 1) := by decide +kernel
theorem dX5_fails_1 : decode cX5_fails 1 = .ok (.iload_n 1, 1) := by decide +kernel
theorem dX5_fails_2 : decode cX5_fails 2 = .ok (.putfield 22, 3) := by decide +kernel
theorem dX5_fails_5 : decode cX5_fails 5 = .ok (.aload_n 0, 1) := by decide +kernel
theorem dX5_fails_6 : decode cX5_fails 6 = .ok (.aload_n 0, 1) := by decide +kernel
theorem dX5_fails_7 : decode cX5_fails 7 = .ok (.getfield 19, 3) := by decide +kernel
theorem dX5_fails_10 : decode cX5_fails 10 = .ok (.putfield 25, 3) := by decide +kernel
theorem dX5_fails_13 : decode cX5_fails 13 = .ok (.iconst 0, 1) := by decide +kernel
theorem dX5_fails_14 : decode cX5_fails 14 = .ok (.ireturn, 1) := by decide +kernel
theorem dX5_letterAt_0 : decode cX5_letterAt 0 = .ok (.iload_n 1, 1) := by decide +kernel
theorem dX5_letterAt_1 : decode cX5_letterAt 1 = .ok (.ifCond .lt 26, 3) := by decide +kernel
theorem dX5_letterAt_4 : decode cX5_letterAt 4 = .ok (.iload_n 1, 1) := by decide +kernel
theorem dX5_letterAt_5 : decode cX5_letterAt 5 = .ok (.aload_n 0, 1) := by decide +kernel
theorem dX5_letterAt_6 : decode cX5_letterAt 6 = .ok (.getfield 15, 3) := by decide +kernel
theorem dX5_letterAt_9 : decode cX5_letterAt 9 = .ok (.if_icmp .ge 18, 3) := by decide +kernel
theorem dX5_letterAt_12 : decode cX5_letterAt 12 = .ok (.iload_n 1, 1) := by decide +kernel
theorem dX5_letterAt_13 : decode cX5_letterAt 13 = .ok (.bipush 120, 2) := by decide +kernel
theorem dX5_letterAt_15 : decode cX5_letterAt 15 = .ok (.if_icmp .ge 12, 3) := by decide +kernel
theorem dX5_letterAt_18 : decode cX5_letterAt 18 = .ok (.aload_n 0, 1) := by decide +kernel
theorem dX5_letterAt_19 : decode cX5_letterAt 19 = .ok (.getfield 9, 3) := by decide +kernel
theorem dX5_letterAt_22 : decode cX5_letterAt 22 = .ok (.iload_n 1, 1) := by decide +kernel
theorem dX5_letterAt_23 : decode cX5_letterAt 23 = .ok (.iaload, 1) := by decide +kernel
theorem dX5_letterAt_24 : decode cX5_letterAt 24 = .ok (.goto 4, 3) := by decide +kernel
theorem dX5_letterAt_27 : decode cX5_letterAt 27 = .ok (.iconst (-1), 1) := by decide +kernel
theorem dX5_letterAt_28 : decode cX5_letterAt 28 = .ok (.ireturn, 1) := by decide +kernel
theorem dX5_passes_0 : decode cX5_passes 0 = .ok (.aload_n 0, 1) := by decide +kernel
theorem dX5_passes_1 : decode cX5_passes 1 = .ok (.aload_n 0, 1) := by decide +kernel
theorem dX5_passes_2 : decode cX5_passes 2 = .ok (.getfield 19, 3) := by decide +kernel
theorem dX5_passes_5 : decode cX5_passes 5 = .ok (.invokevirtual 62, 3) := by decide +kernel
theorem dX5_passes_8 : decode cX5_passes 8 = .ok (.iload_n 1, 1) := by decide +kernel
theorem dX5_passes_9 : decode cX5_passes 9 = .ok (.if_icmp .eq 9, 3) := by decide +kernel
theorem dX5_passes_12 : decode cX5_passes 12 = .ok (.aload_n 0, 1) := by decide +kernel
theorem dX5_passes_13 : decode cX5_passes 13 = .ok (.iconst 1, 1) := by decide +kernel
theorem dX5_passes_14 : decode cX5_passes 14 = .ok (.invokevirtual 66, 3) := by decide +kernel
theorem dX5_passes_17 : decode cX5_passes 17 = .ok (.ireturn, 1) := by decide +kernel
theorem dX5_passes_18 : decode cX5_passes 18 = .ok (.aload_n 0, 1) := by decide +kernel
theorem dX5_passes_19 : decode cX5_passes 19 = .ok (.dup, 1) := by decide +kernel
theorem dX5_passes_20 : decode cX5_passes 20 = .ok (.getfield 19, 3) := by decide +kernel
theorem dX5_passes_23 : decode cX5_passes 23 = .ok (.iconst 1, 1) := by decide +kernel
theorem dX5_passes_24 : decode cX5_passes 24 = .ok (.iadd, 1) := by decide +kernel
theorem dX5_passes_25 : decode cX5_passes 25 = .ok (.putfield 19, 3) := by decide +kernel
theorem dX5_passes_28 : decode cX5_passes 28 = .ok (.iconst 1, 1) := by decide +kernel
theorem dX5_passes_29 : decode cX5_passes 29 = .ok (.ireturn, 1) := by decide +kernel
theorem dX5_number_0 : decode cX5_number 0 = .ok (.iconst 0, 1) := by decide +kernel
theorem dX5_number_1 : decode cX5_number 1 = .ok (.istore_n 3, 1) := by decide +kernel
theorem dX5_number_2 : decode cX5_number 2 = .ok (.iconst 0, 1) := by decide +kernel
theorem dX5_number_3 : decode cX5_number 3 = .ok (.istore 4, 2) := by decide +kernel
theorem dX5_number_5 : decode cX5_number 5 = .ok (.iload_n 3, 1) := by decide +kernel
theorem dX5_number_6 : decode cX5_number 6 = .ok (.iconst 3, 1) := by decide +kernel
theorem dX5_number_7 : decode cX5_number 7 = .ok (.if_icmp .ge 46, 3) := by decide +kernel
theorem dX5_number_10 : decode cX5_number 10 = .ok (.aload_n 0, 1) := by decide +kernel
theorem dX5_number_11 : decode cX5_number 11 = .ok (.aload_n 0, 1) := by decide +kernel
theorem dX5_number_12 : decode cX5_number 12 = .ok (.getfield 19, 3) := by decide +kernel
theorem dX5_number_15 : decode cX5_number 15 = .ok (.iload_n 3, 1) := by decide +kernel
theorem dX5_number_16 : decode cX5_number 16 = .ok (.iadd, 1) := by decide +kernel
theorem dX5_number_17 : decode cX5_number 17 = .ok (.invokevirtual 62, 3) := by decide +kernel
theorem dX5_number_20 : decode cX5_number 20 = .ok (.invokestatic 94, 3) := by decide +kernel
theorem dX5_number_23 : decode cX5_number 23 = .ok (.ifCond .eq 30, 3) := by decide +kernel
theorem dX5_number_26 : decode cX5_number 26 = .ok (.iload 4, 2) := by decide +kernel
theorem dX5_number_28 : decode cX5_number 28 = .ok (.bipush 10, 2) := by decide +kernel
theorem dX5_number_30 : decode cX5_number 30 = .ok (.imul, 1) := by decide +kernel
theorem dX5_number_31 : decode cX5_number 31 = .ok (.aload_n 0, 1) := by decide +kernel
theorem dX5_number_32 : decode cX5_number 32 = .ok (.aload_n 0, 1) := by decide +kernel
theorem dX5_number_33 : decode cX5_number 33 = .ok (.getfield 19, 3) := by decide +kernel
theorem dX5_number_36 : decode cX5_number 36 = .ok (.iload_n 3, 1) := by decide +kernel
theorem dX5_number_37 : decode cX5_number 37 = .ok (.iadd, 1) := by decide +kernel
theorem dX5_number_38 : decode cX5_number 38 = .ok (.invokevirtual 62, 3) := by decide +kernel
theorem dX5_number_41 : decode cX5_number 41 = .ok (.iadd, 1) := by decide +kernel
theorem dX5_number_42 : decode cX5_number 42 = .ok (.bipush 48, 2) := by decide +kernel
theorem dX5_number_44 : decode cX5_number 44 = .ok (.isub, 1) := by decide +kernel
theorem dX5_number_45 : decode cX5_number 45 = .ok (.istore 4, 2) := by decide +kernel
theorem dX5_number_47 : decode cX5_number 47 = .ok (.iinc 3 1, 3) := by decide +kernel
theorem dX5_number_50 : decode cX5_number 50 = .ok (.goto (-45), 3) := by decide +kernel
theorem dX5_number_53 : decode cX5_number 53 = .ok (.iload_n 3, 1) := by decide +kernel
theorem dX5_number_54 : decode cX5_number 54 = .ok (.ifCond .eq 8, 3) := by decide +kernel
theorem dX5_number_57 : decode cX5_number 57 = .ok (.iload_n 3, 1) := by decide +kernel
theorem dX5_number_58 : decode cX5_number 58 = .ok (.iconst 3, 1) := by decide +kernel
theorem dX5_number_59 : decode cX5_number 59 = .ok (.if_icmp .ne 11, 3) := by decide +kernel
theorem dX5_number_62 : decode cX5_number 62 = .ok (.aload_n 0, 1) := by decide +kernel
theorem dX5_number_63 : decode cX5_number 63 = .ok (.iconst 1, 1) := by decide +kernel
theorem dX5_number_64 : decode cX5_number 64 = .ok (.invokevirtual 66, 3) := by decide +kernel
theorem dX5_number_67 : decode cX5_number 67 = .ok (.pop, 1) := by decide +kernel
theorem dX5_number_68 : decode cX5_number 68 = .ok (.iconst (-1), 1) := by decide +kernel
theorem dX5_number_69 : decode cX5_number 69 = .ok (.ireturn, 1) := by decide +kernel
theorem dX5_number_70 : decode cX5_number 70 = .ok (.iload 4, 2) := by decide +kernel
theorem dX5_number_72 : decode cX5_number 72 = .ok (.iload_n 1, 1) := by decide +kernel
theorem dX5_number_73 : decode cX5_number 73 = .ok (.if_icmp .lt 9, 3) := by decide +kernel
theorem dX5_number_76 : decode cX5_number 76 = .ok (.iload 4, 2) := by decide +kernel
theorem dX5_number_78 : decode cX5_number 78 = .ok (.iload_n 2, 1) := by decide +kernel
theorem dX5_number_79 : decode cX5_number 79 = .ok (.if_icmp .le 11, 3) := by decide +kernel
theorem dX5_number_82 : decode cX5_number 82 = .ok (.aload_n 0, 1) := by decide +kernel
theorem dX5_number_83 : decode cX5_number 83 = .ok (.iconst 2, 1) := by decide +kernel
theorem dX5_number_84 : decode cX5_number 84 = .ok (.invokevirtual 66, 3) := by decide +kernel
theorem dX5_number_87 : decode cX5_number 87 = .ok (.pop, 1) := by decide +kernel
theorem dX5_number_88 : decode cX5_number 88 = .ok (.iconst (-1), 1) := by decide +kernel
theorem dX5_number_89 : decode cX5_number 89 = .ok (.ireturn, 1) := by decide +kernel
theorem dX5_number_90 : decode cX5_number 90 = .ok (.aload_n 0, 1) := by decide +kernel
theorem dX5_number_91 : decode cX5_number 91 = .ok (.dup, 1) := by decide +kernel
theorem dX5_number_92 : decode cX5_number 92 = .ok (.getfield 19, 3) := by decide +kernel
theorem dX5_number_95 : decode cX5_number 95 = .ok (.iload_n 3, 1) := by decide +kernel
theorem dX5_number_96 : decode cX5_number 96 = .ok (.iadd, 1) := by decide +kernel
theorem dX5_number_97 : decode cX5_number 97 = .ok (.putfield 19, 3) := by decide +kernel
theorem dX5_number_100 : decode cX5_number 100 = .ok (.iload 4, 2) := by decide +kernel
theorem dX5_number_102 : decode cX5_number 102 = .ok (.ireturn, 1) := by decide +kernel
theorem dX5_isFigure_0 : decode cX5_isFigure 0 = .ok (.iload_n 0, 1) := by decide +kernel
theorem dX5_isFigure_1 : decode cX5_isFigure 1 = .ok (.bipush 48, 2) := by decide +kernel
theorem dX5_isFigure_3 : decode cX5_isFigure 3 = .ok (.if_icmp .lt 13, 3) := by decide +kernel
theorem dX5_isFigure_6 : decode cX5_isFigure 6 = .ok (.iload_n 0, 1) := by decide +kernel
theorem dX5_isFigure_7 : decode cX5_isFigure 7 = .ok (.bipush 57, 2) := by decide +kernel
theorem dX5_isFigure_9 : decode cX5_isFigure 9 = .ok (.if_icmp .gt 7, 3) := by decide +kernel
theorem dX5_isFigure_12 : decode cX5_isFigure 12 = .ok (.iconst 1, 1) := by decide +kernel
theorem dX5_isFigure_13 : decode cX5_isFigure 13 = .ok (.goto 4, 3) := by decide +kernel
theorem dX5_isFigure_16 : decode cX5_isFigure 16 = .ok (.iconst 0, 1) := by decide +kernel
theorem dX5_isFigure_17 : decode cX5_isFigure 17 = .ok (.ireturn, 1) := by decide +kernel
theorem dX5_kindTold_0 : decode cX5_kindTold 0 = .ok (.iload_n 0, 1) := by decide +kernel
theorem dX5_kindTold_1 : decode cX5_kindTold 1 = .ok (.lookupswitch 61 #[(98, 53), (100, 55), (104, 51), (110, 59), (116, 57)], 51) := by decide +kernel
theorem dX5_kindTold_52 : decode cX5_kindTold 52 = .ok (.iconst 1, 1) := by decide +kernel
theorem dX5_kindTold_53 : decode cX5_kindTold 53 = .ok (.ireturn, 1) := by decide +kernel
theorem dX5_kindTold_54 : decode cX5_kindTold 54 = .ok (.iconst 2, 1) := by decide +kernel
theorem dX5_kindTold_55 : decode cX5_kindTold 55 = .ok (.ireturn, 1) := by decide +kernel
theorem dX5_kindTold_56 : decode cX5_kindTold 56 = .ok (.iconst 3, 1) := by decide +kernel
theorem dX5_kindTold_57 : decode cX5_kindTold 57 = .ok (.ireturn, 1) := by decide +kernel
theorem dX5_kindTold_58 : decode cX5_kindTold 58 = .ok (.iconst 4, 1) := by decide +kernel
theorem dX5_kindTold_59 : decode cX5_kindTold 59 = .ok (.ireturn, 1) := by decide +kernel
theorem dX5_kindTold_60 : decode cX5_kindTold 60 = .ok (.iconst 5, 1) := by decide +kernel
theorem dX5_kindTold_61 : decode cX5_kindTold 61 = .ok (.ireturn, 1) := by decide +kernel
theorem dX5_kindTold_62 : decode cX5_kindTold 62 = .ok (.iconst 0, 1) := by decide +kernel
theorem dX5_kindTold_63 : decode cX5_kindTold 63 = .ok (.ireturn, 1) := by decide +kernel
theorem dX6_init_0 : decode cX6_init 0 = .ok (.aload_n 0, 1) := by decide +kernel
theorem dX6_init_1 : decode cX6_init 1 = .ok (.invokespecial 1, 3) := by decide +kernel
theorem dX6_init_4 : decode cX6_init 4 = .ok (.aload_n 0, 1) := by decide +kernel
theorem dX6_init_5 : decode cX6_init 5 = .ok (.bipush 8, 2) := by decide +kernel
theorem dX6_init_7 : decode cX6_init 7 = .ok (.anewarray 9, 3) := by decide +kernel
theorem dX6_init_10 : decode cX6_init 10 = .ok (.putfield 11, 3) := by decide +kernel
theorem dX6_init_13 : decode cX6_init 13 = .ok (.aload_n 0, 1) := by decide +kernel
theorem dX6_init_14 : decode cX6_init 14 = .ok (.new 15, 3) := by decide +kernel
theorem dX6_init_17 : decode cX6_init 17 = .ok (.dup, 1) := by decide +kernel
theorem dX6_init_18 : decode cX6_init 18 = .ok (.invokespecial 17, 3) := by decide +kernel
theorem dX6_init_21 : decode cX6_init 21 = .ok (.putfield 18, 3) := by decide +kernel
theorem dX6_init_24 : decode cX6_init 24 = .ok (.aload_n 0, 1) := by decide +kernel
theorem dX6_init_25 : decode cX6_init 25 = .ok (.new 22, 3) := by decide +kernel
theorem dX6_init_28 : decode cX6_init 28 = .ok (.dup, 1) := by decide +kernel
theorem dX6_init_29 : decode cX6_init 29 = .ok (.invokespecial 24, 3) := by decide +kernel
theorem dX6_init_32 : decode cX6_init 32 = .ok (.putfield 25, 3) := by decide +kernel
theorem dX6_init_35 : decode cX6_init 35 = .ok (.aload_n 0, 1) := by decide +kernel
theorem dX6_init_36 : decode cX6_init 36 = .ok (.new 22, 3) := by decide +kernel
theorem dX6_init_39 : decode cX6_init 39 = .ok (.dup, 1) := by decide +kernel
theorem dX6_init_40 : decode cX6_init 40 = .ok (.invokespecial 24, 3) := by decide +kernel
theorem dX6_init_43 : decode cX6_init 43 = .ok (.putfield 29, 3) := by decide +kernel
theorem dX6_init_46 : decode cX6_init 46 = .ok (.aload_n 0, 1) := by decide +kernel
theorem dX6_init_47 : decode cX6_init 47 = .ok (.iconst 2, 1) := by decide +kernel
theorem dX6_init_48 : decode cX6_init 48 = .ok (.anewarray 22, 3) := by decide +kernel
theorem dX6_init_51 : decode cX6_init 51 = .ok (.putfield 32, 3) := by decide +kernel
theorem dX6_init_54 : decode cX6_init 54 = .ok (.aload_n 0, 1) := by decide +kernel
theorem dX6_init_55 : decode cX6_init 55 = .ok (.new 36, 3) := by decide +kernel
theorem dX6_init_58 : decode cX6_init 58 = .ok (.dup, 1) := by decide +kernel
theorem dX6_init_59 : decode cX6_init 59 = .ok (.invokespecial 38, 3) := by decide +kernel
theorem dX6_init_62 : decode cX6_init 62 = .ok (.putfield 39, 3) := by decide +kernel
theorem dX6_init_65 : decode cX6_init 65 = .ok (.aload_n 0, 1) := by decide +kernel
theorem dX6_init_66 : decode cX6_init 66 = .ok (.new 43, 3) := by decide +kernel
theorem dX6_init_69 : decode cX6_init 69 = .ok (.dup, 1) := by decide +kernel
theorem dX6_init_70 : decode cX6_init 70 = .ok (.invokespecial 45, 3) := by decide +kernel
theorem dX6_init_73 : decode cX6_init 73 = .ok (.putfield 46, 3) := by decide +kernel
theorem dX6_init_76 : decode cX6_init 76 = .ok (.aload_n 0, 1) := by decide +kernel
theorem dX6_init_77 : decode cX6_init 77 = .ok (.new 50, 3) := by decide +kernel
theorem dX6_init_80 : decode cX6_init 80 = .ok (.dup, 1) := by decide +kernel
theorem dX6_init_81 : decode cX6_init 81 = .ok (.invokespecial 52, 3) := by decide +kernel
theorem dX6_init_84 : decode cX6_init 84 = .ok (.putfield 53, 3) := by decide +kernel
theorem dX6_init_87 : decode cX6_init 87 = .ok (.aload_n 0, 1) := by decide +kernel
theorem dX6_init_88 : decode cX6_init 88 = .ok (.iconst 0, 1) := by decide +kernel
theorem dX6_init_89 : decode cX6_init 89 = .ok (.putfield 57, 3) := by decide +kernel
theorem dX6_init_92 : decode cX6_init 92 = .ok (.iconst 0, 1) := by decide +kernel
theorem dX6_init_93 : decode cX6_init 93 = .ok (.istore_n 1, 1) := by decide +kernel
theorem dX6_init_94 : decode cX6_init 94 = .ok (.iload_n 1, 1) := by decide +kernel
theorem dX6_init_95 : decode cX6_init 95 = .ok (.bipush 8, 2) := by decide +kernel
theorem dX6_init_97 : decode cX6_init 97 = .ok (.if_icmp .ge 22, 3) := by decide +kernel
theorem dX6_init_100 : decode cX6_init 100 = .ok (.aload_n 0, 1) := by decide +kernel
theorem dX6_init_101 : decode cX6_init 101 = .ok (.getfield 11, 3) := by decide +kernel
theorem dX6_init_104 : decode cX6_init 104 = .ok (.iload_n 1, 1) := by decide +kernel
theorem dX6_init_105 : decode cX6_init 105 = .ok (.new 9, 3) := by decide +kernel
theorem dX6_init_108 : decode cX6_init 108 = .ok (.dup, 1) := by decide +kernel
theorem dX6_init_109 : decode cX6_init 109 = .ok (.invokespecial 61, 3) := by decide +kernel
theorem dX6_init_112 : decode cX6_init 112 = .ok (.aastore, 1) := by decide +kernel
theorem dX6_init_113 : decode cX6_init 113 = .ok (.iinc 1 1, 3) := by decide +kernel
theorem dX6_init_116 : decode cX6_init 116 = .ok (.goto (-22), 3) := by decide +kernel
theorem dX6_init_119 : decode cX6_init 119 = .ok (.iconst 0, 1) := by decide +kernel
theorem dX6_init_120 : decode cX6_init 120 = .ok (.istore_n 1, 1) := by decide +kernel
theorem dX6_init_121 : decode cX6_init 121 = .ok (.iload_n 1, 1) := by decide +kernel
theorem dX6_init_122 : decode cX6_init 122 = .ok (.iconst 2, 1) := by decide +kernel
theorem dX6_init_123 : decode cX6_init 123 = .ok (.if_icmp .ge 22, 3) := by decide +kernel
theorem dX6_init_126 : decode cX6_init 126 = .ok (.aload_n 0, 1) := by decide +kernel
theorem dX6_init_127 : decode cX6_init 127 = .ok (.getfield 32, 3) := by decide +kernel
theorem dX6_init_130 : decode cX6_init 130 = .ok (.iload_n 1, 1) := by decide +kernel
theorem dX6_init_131 : decode cX6_init 131 = .ok (.new 22, 3) := by decide +kernel
theorem dX6_init_134 : decode cX6_init 134 = .ok (.dup, 1) := by decide +kernel
theorem dX6_init_135 : decode cX6_init 135 = .ok (.invokespecial 24, 3) := by decide +kernel
theorem dX6_init_138 : decode cX6_init 138 = .ok (.aastore, 1) := by decide +kernel
theorem dX6_init_139 : decode cX6_init 139 = .ok (.iinc 1 1, 3) := by decide +kernel
theorem dX6_init_142 : decode cX6_init 142 = .ok (.goto (-21), 3) := by decide +kernel
theorem dX6_init_145 : decode cX6_init 145 = .ok (.return_, 1) := by decide +kernel
theorem dX6_row_0 : decode cX6_row 0 = .ok (.iload_n 1, 1) := by decide +kernel
theorem dX6_row_1 : decode cX6_row 1 = .ok (.invokestatic 62, 3) := by decide +kernel
theorem dX6_row_4 : decode cX6_row 4 = .ok (.ifCond .eq 18, 3) := by decide +kernel
theorem dX6_row_7 : decode cX6_row 7 = .ok (.iload_n 2, 1) := by decide +kernel
theorem dX6_row_8 : decode cX6_row 8 = .ok (.ifCond .lt 14, 3) := by decide +kernel
theorem dX6_row_11 : decode cX6_row 11 = .ok (.iload_n 2, 1) := by decide +kernel
theorem dX6_row_12 : decode cX6_row 12 = .ok (.iconst 3, 1) := by decide +kernel
theorem dX6_row_13 : decode cX6_row 13 = .ok (.if_icmp .ge 9, 3) := by decide +kernel
theorem dX6_row_16 : decode cX6_row 16 = .ok (.iload_n 3, 1) := by decide +kernel
theorem dX6_row_17 : decode cX6_row 17 = .ok (.bipush 40, 2) := by decide +kernel
theorem dX6_row_19 : decode cX6_row 19 = .ok (.if_icmp .le 6, 3) := by decide +kernel
theorem dX6_row_22 : decode cX6_row 22 = .ok (.ldc 66, 2) := by decide +kernel
theorem dX6_row_24 : decode cX6_row 24 = .ok (.ireturn, 1) := by decide +kernel
theorem dX6_row_25 : decode cX6_row 25 = .ok (.iload_n 3, 1) := by decide +kernel
theorem dX6_row_26 : decode cX6_row 26 = .ok (.ifCond .ge 9, 3) := by decide +kernel
theorem dX6_row_29 : decode cX6_row 29 = .ok (.aload_n 0, 1) := by decide +kernel
theorem dX6_row_30 : decode cX6_row 30 = .ok (.iconst 4, 1) := by decide +kernel
theorem dX6_row_31 : decode cX6_row 31 = .ok (.invokevirtual 67, 3) := by decide +kernel
theorem dX6_row_34 : decode cX6_row 34 = .ok (.ireturn, 1) := by decide +kernel
theorem dX6_row_35 : decode cX6_row 35 = .ok (.aload_n 0, 1) := by decide +kernel
theorem dX6_row_36 : decode cX6_row 36 = .ok (.getfield 11, 3) := by decide +kernel
theorem dX6_row_39 : decode cX6_row 39 = .ok (.iload_n 1, 1) := by decide +kernel
theorem dX6_row_40 : decode cX6_row 40 = .ok (.aaload, 1) := by decide +kernel
theorem dX6_row_41 : decode cX6_row 41 = .ok (.iload_n 2, 1) := by decide +kernel
theorem dX6_row_42 : decode cX6_row 42 = .ok (.iload_n 3, 1) := by decide +kernel
theorem dX6_row_43 : decode cX6_row 43 = .ok (.invokevirtual 71, 3) := by decide +kernel
theorem dX6_row_46 : decode cX6_row 46 = .ok (.aload_n 0, 1) := by decide +kernel
theorem dX6_row_47 : decode cX6_row 47 = .ok (.iload_n 3, 1) := by decide +kernel
theorem dX6_row_48 : decode cX6_row 48 = .ok (.invokevirtual 75, 3) := by decide +kernel
theorem dX6_row_51 : decode cX6_row 51 = .ok (.ireturn, 1) := by decide +kernel
theorem dX6_set_0 : decode cX6_set 0 = .ok (.iload_n 1, 1) := by decide +kernel
theorem dX6_set_1 : decode cX6_set 1 = .ok (.invokestatic 62, 3) := by decide +kernel
theorem dX6_set_4 : decode cX6_set 4 = .ok (.ifCond .ne 6, 3) := by decide +kernel
theorem dX6_set_7 : decode cX6_set 7 = .ok (.ldc 66, 2) := by decide +kernel
theorem dX6_set_9 : decode cX6_set 9 = .ok (.ireturn, 1) := by decide +kernel
theorem dX6_set_10 : decode cX6_set 10 = .ok (.aload_n 0, 1) := by decide +kernel
theorem dX6_set_11 : decode cX6_set 11 = .ok (.getfield 11, 3) := by decide +kernel
theorem dX6_set_14 : decode cX6_set 14 = .ok (.iload_n 1, 1) := by decide +kernel
theorem dX6_set_15 : decode cX6_set 15 = .ok (.aaload, 1) := by decide +kernel
theorem dX6_set_16 : decode cX6_set 16 = .ok (.astore 4, 2) := by decide +kernel
theorem dX6_set_18 : decode cX6_set 18 = .ok (.aload 4, 2) := by decide +kernel
theorem dX6_set_20 : decode cX6_set 20 = .ok (.getfield 78, 3) := by decide +kernel
theorem dX6_set_23 : decode cX6_set 23 = .ok (.ifCond .ne 9, 3) := by decide +kernel
theorem dX6_set_26 : decode cX6_set 26 = .ok (.aload_n 0, 1) := by decide +kernel
theorem dX6_set_27 : decode cX6_set 27 = .ok (.iconst 1, 1) := by decide +kernel
theorem dX6_set_28 : decode cX6_set 28 = .ok (.invokevirtual 67, 3) := by decide +kernel
theorem dX6_set_31 : decode cX6_set 31 = .ok (.ireturn, 1) := by decide +kernel
theorem dX6_set_32 : decode cX6_set 32 = .ok (.aload 4, 2) := by decide +kernel
theorem dX6_set_34 : decode cX6_set 34 = .ok (.iload_n 2, 1) := by decide +kernel
theorem dX6_set_35 : decode cX6_set 35 = .ok (.iconst 1, 1) := by decide +kernel
theorem dX6_set_36 : decode cX6_set 36 = .ok (.invokevirtual 82, 3) := by decide +kernel
theorem dX6_set_39 : decode cX6_set 39 = .ok (.ifCond .ne 9, 3) := by decide +kernel
theorem dX6_set_42 : decode cX6_set 42 = .ok (.aload_n 0, 1) := by decide +kernel
theorem dX6_set_43 : decode cX6_set 43 = .ok (.iconst 2, 1) := by decide +kernel
theorem dX6_set_44 : decode cX6_set 44 = .ok (.invokevirtual 67, 3) := by decide +kernel
theorem dX6_set_47 : decode cX6_set 47 = .ok (.ireturn, 1) := by decide +kernel
theorem dX6_set_48 : decode cX6_set 48 = .ok (.aload 4, 2) := by decide +kernel
theorem dX6_set_50 : decode cX6_set 50 = .ok (.getfield 86, 3) := by decide +kernel
theorem dX6_set_53 : decode cX6_set 53 = .ok (.iload_n 2, 1) := by decide +kernel
theorem dX6_set_54 : decode cX6_set 54 = .ok (.aload 4, 2) := by decide +kernel
theorem dX6_set_56 : decode cX6_set 56 = .ok (.iload_n 3, 1) := by decide +kernel
theorem dX6_set_57 : decode cX6_set 57 = .ok (.invokevirtual 90, 3) := by decide +kernel
theorem dX6_set_60 : decode cX6_set 60 = .ok (.iastore, 1) := by decide +kernel
theorem dX6_set_61 : decode cX6_set 61 = .ok (.aload_n 0, 1) := by decide +kernel
theorem dX6_set_62 : decode cX6_set 62 = .ok (.aload 4, 2) := by decide +kernel
theorem dX6_set_64 : decode cX6_set 64 = .ok (.getfield 86, 3) := by decide +kernel
theorem dX6_set_67 : decode cX6_set 67 = .ok (.iload_n 2, 1) := by decide +kernel
theorem dX6_set_68 : decode cX6_set 68 = .ok (.iaload, 1) := by decide +kernel
theorem dX6_set_69 : decode cX6_set 69 = .ok (.invokevirtual 75, 3) := by decide +kernel
theorem dX6_set_72 : decode cX6_set 72 = .ok (.ireturn, 1) := by decide +kernel
theorem dX6_copy_0 : decode cX6_copy 0 = .ok (.iload_n 1, 1) := by decide +kernel
theorem dX6_copy_1 : decode cX6_copy 1 = .ok (.invokestatic 62, 3) := by decide +kernel
theorem dX6_copy_4 : decode cX6_copy 4 = .ok (.ifCond .eq 10, 3) := by decide +kernel
theorem dX6_copy_7 : decode cX6_copy 7 = .ok (.iload_n 3, 1) := by decide +kernel
theorem dX6_copy_8 : decode cX6_copy 8 = .ok (.invokestatic 62, 3) := by decide +kernel
theorem dX6_copy_11 : decode cX6_copy 11 = .ok (.ifCond .ne 6, 3) := by decide +kernel
theorem dX6_copy_14 : decode cX6_copy 14 = .ok (.ldc 66, 2) := by decide +kernel
theorem dX6_copy_16 : decode cX6_copy 16 = .ok (.ireturn, 1) := by decide +kernel
theorem dX6_copy_17 : decode cX6_copy 17 = .ok (.aload_n 0, 1) := by decide +kernel
theorem dX6_copy_18 : decode cX6_copy 18 = .ok (.getfield 11, 3) := by decide +kernel
theorem dX6_copy_21 : decode cX6_copy 21 = .ok (.iload_n 1, 1) := by decide +kernel
theorem dX6_copy_22 : decode cX6_copy 22 = .ok (.aaload, 1) := by decide +kernel
theorem dX6_copy_23 : decode cX6_copy 23 = .ok (.astore 6, 2) := by decide +kernel
theorem dX6_copy_25 : decode cX6_copy 25 = .ok (.aload_n 0, 1) := by decide +kernel
theorem dX6_copy_26 : decode cX6_copy 26 = .ok (.getfield 11, 3) := by decide +kernel
theorem dX6_copy_29 : decode cX6_copy 29 = .ok (.iload_n 3, 1) := by decide +kernel
theorem dX6_copy_30 : decode cX6_copy 30 = .ok (.aaload, 1) := by decide +kernel
theorem dX6_copy_31 : decode cX6_copy 31 = .ok (.astore 7, 2) := by decide +kernel
theorem dX6_copy_33 : decode cX6_copy 33 = .ok (.aload 6, 2) := by decide +kernel
theorem dX6_copy_35 : decode cX6_copy 35 = .ok (.getfield 78, 3) := by decide +kernel
theorem dX6_copy_38 : decode cX6_copy 38 = .ok (.ifCond .eq 11, 3) := by decide +kernel
theorem dX6_copy_41 : decode cX6_copy 41 = .ok (.aload 7, 2) := by decide +kernel
theorem dX6_copy_43 : decode cX6_copy 43 = .ok (.getfield 78, 3) := by decide +kernel
theorem dX6_copy_46 : decode cX6_copy 46 = .ok (.ifCond .ne 9, 3) := by decide +kernel
theorem dX6_copy_49 : decode cX6_copy 49 = .ok (.aload_n 0, 1) := by decide +kernel
theorem dX6_copy_50 : decode cX6_copy 50 = .ok (.iconst 1, 1) := by decide +kernel
theorem dX6_copy_51 : decode cX6_copy 51 = .ok (.invokevirtual 67, 3) := by decide +kernel
theorem dX6_copy_54 : decode cX6_copy 54 = .ok (.ireturn, 1) := by decide +kernel
theorem dX6_copy_55 : decode cX6_copy 55 = .ok (.aload 6, 2) := by decide +kernel
theorem dX6_copy_57 : decode cX6_copy 57 = .ok (.getfield 93, 3) := by decide +kernel
theorem dX6_copy_60 : decode cX6_copy 60 = .ok (.aload 7, 2) := by decide +kernel
theorem dX6_copy_62 : decode cX6_copy 62 = .ok (.getfield 93, 3) := by decide +kernel
theorem dX6_copy_65 : decode cX6_copy 65 = .ok (.if_icmp .eq 9, 3) := by decide +kernel
theorem dX6_copy_68 : decode cX6_copy 68 = .ok (.aload_n 0, 1) := by decide +kernel
theorem dX6_copy_69 : decode cX6_copy 69 = .ok (.iconst 5, 1) := by decide +kernel
theorem dX6_copy_70 : decode cX6_copy 70 = .ok (.invokevirtual 67, 3) := by decide +kernel
theorem dX6_copy_73 : decode cX6_copy 73 = .ok (.ireturn, 1) := by decide +kernel
theorem dX6_copy_74 : decode cX6_copy 74 = .ok (.aload 6, 2) := by decide +kernel
theorem dX6_copy_76 : decode cX6_copy 76 = .ok (.iload_n 2, 1) := by decide +kernel
theorem dX6_copy_77 : decode cX6_copy 77 = .ok (.iload 5, 2) := by decide +kernel
theorem dX6_copy_79 : decode cX6_copy 79 = .ok (.invokevirtual 82, 3) := by decide +kernel
theorem dX6_copy_82 : decode cX6_copy 82 = .ok (.ifCond .eq 15, 3) := by decide +kernel
theorem dX6_copy_85 : decode cX6_copy 85 = .ok (.aload 7, 2) := by decide +kernel
theorem dX6_copy_87 : decode cX6_copy 87 = .ok (.iload 4, 2) := by decide +kernel
theorem dX6_copy_89 : decode cX6_copy 89 = .ok (.iload 5, 2) := by decide +kernel
theorem dX6_copy_91 : decode cX6_copy 91 = .ok (.invokevirtual 82, 3) := by decide +kernel
theorem dX6_copy_94 : decode cX6_copy 94 = .ok (.ifCond .ne 9, 3) := by decide +kernel
theorem dX6_copy_97 : decode cX6_copy 97 = .ok (.aload_n 0, 1) := by decide +kernel
theorem dX6_copy_98 : decode cX6_copy 98 = .ok (.iconst 2, 1) := by decide +kernel
theorem dX6_copy_99 : decode cX6_copy 99 = .ok (.invokevirtual 67, 3) := by decide +kernel
theorem dX6_copy_102 : decode cX6_copy 102 = .ok (.ireturn, 1) := by decide +kernel
theorem dX6_copy_103 : decode cX6_copy 103 = .ok (.aload 6, 2) := by decide +kernel
theorem dX6_copy_105 : decode cX6_copy 105 = .ok (.getfield 86, 3) := by decide +kernel
theorem dX6_copy_108 : decode cX6_copy 108 = .ok (.iload_n 2, 1) := by decide +kernel
theorem dX6_copy_109 : decode cX6_copy 109 = .ok (.aload 7, 2) := by decide +kernel
theorem dX6_copy_111 : decode cX6_copy 111 = .ok (.getfield 86, 3) := by decide +kernel
theorem dX6_copy_114 : decode cX6_copy 114 = .ok (.iload 4, 2) := by decide +kernel
theorem dX6_copy_116 : decode cX6_copy 116 = .ok (.iload 5, 2) := by decide +kernel
theorem dX6_copy_118 : decode cX6_copy 118 = .ok (.invokestatic 96, 3) := by decide +kernel
theorem dX6_copy_121 : decode cX6_copy 121 = .ok (.aload_n 0, 1) := by decide +kernel
theorem dX6_copy_122 : decode cX6_copy 122 = .ok (.iload 5, 2) := by decide +kernel
theorem dX6_copy_124 : decode cX6_copy 124 = .ok (.invokevirtual 75, 3) := by decide +kernel
theorem dX6_copy_127 : decode cX6_copy 127 = .ok (.ireturn, 1) := by decide +kernel
theorem dX6_drop_0 : decode cX6_drop 0 = .ok (.iload_n 1, 1) := by decide +kernel
theorem dX6_drop_1 : decode cX6_drop 1 = .ok (.invokestatic 62, 3) := by decide +kernel
theorem dX6_drop_4 : decode cX6_drop 4 = .ok (.ifCond .ne 6, 3) := by decide +kernel
theorem dX6_drop_7 : decode cX6_drop 7 = .ok (.ldc 66, 2) := by decide +kernel
theorem dX6_drop_9 : decode cX6_drop 9 = .ok (.ireturn, 1) := by decide +kernel
theorem dX6_drop_10 : decode cX6_drop 10 = .ok (.aload_n 0, 1) := by decide +kernel
theorem dX6_drop_11 : decode cX6_drop 11 = .ok (.getfield 11, 3) := by decide +kernel
theorem dX6_drop_14 : decode cX6_drop 14 = .ok (.iload_n 1, 1) := by decide +kernel
theorem dX6_drop_15 : decode cX6_drop 15 = .ok (.aaload, 1) := by decide +kernel
theorem dX6_drop_16 : decode cX6_drop 16 = .ok (.astore_n 2, 1) := by decide +kernel
theorem dX6_drop_17 : decode cX6_drop 17 = .ok (.aload_n 2, 1) := by decide +kernel
theorem dX6_drop_18 : decode cX6_drop 18 = .ok (.getfield 78, 3) := by decide +kernel
theorem dX6_drop_21 : decode cX6_drop 21 = .ok (.ifCond .ne 9, 3) := by decide +kernel
theorem dX6_drop_24 : decode cX6_drop 24 = .ok (.aload_n 0, 1) := by decide +kernel
theorem dX6_drop_25 : decode cX6_drop 25 = .ok (.iconst 1, 1) := by decide +kernel
theorem dX6_drop_26 : decode cX6_drop 26 = .ok (.invokevirtual 67, 3) := by decide +kernel
theorem dX6_drop_29 : decode cX6_drop 29 = .ok (.ireturn, 1) := by decide +kernel
theorem dX6_drop_30 : decode cX6_drop 30 = .ok (.aload_n 2, 1) := by decide +kernel
theorem dX6_drop_31 : decode cX6_drop 31 = .ok (.iconst 0, 1) := by decide +kernel
theorem dX6_drop_32 : decode cX6_drop 32 = .ok (.putfield 78, 3) := by decide +kernel
theorem dX6_drop_35 : decode cX6_drop 35 = .ok (.aload_n 0, 1) := by decide +kernel
theorem dX6_drop_36 : decode cX6_drop 36 = .ok (.aload_n 2, 1) := by decide +kernel
theorem dX6_drop_37 : decode cX6_drop 37 = .ok (.getfield 102, 3) := by decide +kernel
theorem dX6_drop_40 : decode cX6_drop 40 = .ok (.invokevirtual 75, 3) := by decide +kernel
theorem dX6_drop_43 : decode cX6_drop 43 = .ok (.ireturn, 1) := by decide +kernel
theorem dX6_feed_0 : decode cX6_feed 0 = .ok (.iload_n 1, 1) := by decide +kernel
theorem dX6_feed_1 : decode cX6_feed 1 = .ok (.ifCond .lt 10, 3) := by decide +kernel
theorem dX6_feed_4 : decode cX6_feed 4 = .ok (.iload_n 1, 1) := by decide +kernel
theorem dX6_feed_5 : decode cX6_feed 5 = .ok (.sipush 255, 3) := by decide +kernel
theorem dX6_feed_8 : decode cX6_feed 8 = .ok (.if_icmp .le 6, 3) := by decide +kernel
theorem dX6_feed_11 : decode cX6_feed 11 = .ok (.ldc 66, 2) := by decide +kernel
theorem dX6_feed_13 : decode cX6_feed 13 = .ok (.ireturn, 1) := by decide +kernel
theorem dX6_feed_14 : decode cX6_feed 14 = .ok (.aload_n 0, 1) := by decide +kernel
theorem dX6_feed_15 : decode cX6_feed 15 = .ok (.getfield 18, 3) := by decide +kernel
theorem dX6_feed_18 : decode cX6_feed 18 = .ok (.invokevirtual 105, 3) := by decide +kernel
theorem dX6_feed_21 : decode cX6_feed 21 = .ok (.ifCond .ne 6, 3) := by decide +kernel
theorem dX6_feed_24 : decode cX6_feed 24 = .ok (.ldc 109, 2) := by decide +kernel
theorem dX6_feed_26 : decode cX6_feed 26 = .ok (.ireturn, 1) := by decide +kernel
theorem dX6_feed_27 : decode cX6_feed 27 = .ok (.aload_n 0, 1) := by decide +kernel
theorem dX6_feed_28 : decode cX6_feed 28 = .ok (.getfield 18, 3) := by decide +kernel
theorem dX6_feed_31 : decode cX6_feed 31 = .ok (.iload_n 1, 1) := by decide +kernel
theorem dX6_feed_32 : decode cX6_feed 32 = .ok (.invokevirtual 110, 3) := by decide +kernel
theorem dX6_feed_35 : decode cX6_feed 35 = .ok (.ireturn, 1) := by decide +kernel
theorem dX6_parish_0 : decode cX6_parish 0 = .ok (.aload_n 0, 1) := by decide +kernel
theorem dX6_parish_1 : decode cX6_parish 1 = .ok (.getfield 29, 3) := by decide +kernel
theorem dX6_parish_4 : decode cX6_parish 4 = .ok (.invokevirtual 113, 3) := by decide +kernel
theorem dX6_parish_7 : decode cX6_parish 7 = .ok (.aload_n 0, 1) := by decide +kernel
theorem dX6_parish_8 : decode cX6_parish 8 = .ok (.getfield 18, 3) := by decide +kernel
theorem dX6_parish_11 : decode cX6_parish 11 = .ok (.aload_n 0, 1) := by decide +kernel
theorem dX6_parish_12 : decode cX6_parish 12 = .ok (.getfield 29, 3) := by decide +kernel
theorem dX6_parish_15 : decode cX6_parish 15 = .ok (.invokevirtual 116, 3) := by decide +kernel
theorem dX6_parish_18 : decode cX6_parish 18 = .ok (.ifCond .ne 14, 3) := by decide +kernel
theorem dX6_parish_21 : decode cX6_parish 21 = .ok (.ldc 120, 2) := by decide +kernel
theorem dX6_parish_23 : decode cX6_parish 23 = .ok (.aload_n 0, 1) := by decide +kernel
theorem dX6_parish_24 : decode cX6_parish 24 = .ok (.getfield 18, 3) := by decide +kernel
theorem dX6_parish_27 : decode cX6_parish 27 = .ok (.getfield 121, 3) := by decide +kernel
theorem dX6_parish_30 : decode cX6_parish 30 = .ok (.isub, 1) := by decide +kernel
theorem dX6_parish_31 : decode cX6_parish 31 = .ok (.ireturn, 1) := by decide +kernel
theorem dX6_parish_32 : decode cX6_parish 32 = .ok (.aload_n 0, 1) := by decide +kernel
theorem dX6_parish_33 : decode cX6_parish 33 = .ok (.getfield 25, 3) := by decide +kernel
theorem dX6_parish_36 : decode cX6_parish 36 = .ok (.aload_n 0, 1) := by decide +kernel
theorem dX6_parish_37 : decode cX6_parish 37 = .ok (.getfield 29, 3) := by decide +kernel
theorem dX6_parish_40 : decode cX6_parish 40 = .ok (.invokevirtual 124, 3) := by decide +kernel
theorem dX6_parish_43 : decode cX6_parish 43 = .ok (.aload_n 0, 1) := by decide +kernel
theorem dX6_parish_44 : decode cX6_parish 44 = .ok (.getfield 39, 3) := by decide +kernel
theorem dX6_parish_47 : decode cX6_parish 47 = .ok (.invokevirtual 128, 3) := by decide +kernel
theorem dX6_parish_50 : decode cX6_parish 50 = .ok (.aload_n 0, 1) := by decide +kernel
theorem dX6_parish_51 : decode cX6_parish 51 = .ok (.getfield 25, 3) := by decide +kernel
theorem dX6_parish_54 : decode cX6_parish 54 = .ok (.getfield 131, 3) := by decide +kernel
theorem dX6_parish_57 : decode cX6_parish 57 = .ok (.ireturn, 1) := by decide +kernel
theorem dX6_fault_0 : decode cX6_fault 0 = .ok (.aload_n 0, 1) := by decide +kernel
theorem dX6_fault_1 : decode cX6_fault 1 = .ok (.getfield 18, 3) := by decide +kernel
theorem dX6_fault_4 : decode cX6_fault 4 = .ok (.getfield 134, 3) := by decide +kernel
theorem dX6_fault_7 : decode cX6_fault 7 = .ok (.ireturn, 1) := by decide +kernel
theorem dX6_undo_0 : decode cX6_undo 0 = .ok (.aload_n 0, 1) := by decide +kernel
theorem dX6_undo_1 : decode cX6_undo 1 = .ok (.getfield 39, 3) := by decide +kernel
theorem dX6_undo_4 : decode cX6_undo 4 = .ok (.getfield 137, 3) := by decide +kernel
theorem dX6_undo_7 : decode cX6_undo 7 = .ok (.ifCond .ne 6, 3) := by decide +kernel
theorem dX6_undo_10 : decode cX6_undo 10 = .ok (.ldc 138, 2) := by decide +kernel
theorem dX6_undo_12 : decode cX6_undo 12 = .ok (.ireturn, 1) := by decide +kernel
theorem dX6_undo_13 : decode cX6_undo 13 = .ok (.aload_n 0, 1) := by decide +kernel
theorem dX6_undo_14 : decode cX6_undo 14 = .ok (.getfield 39, 3) := by decide +kernel
theorem dX6_undo_17 : decode cX6_undo 17 = .ok (.aload_n 0, 1) := by decide +kernel
theorem dX6_undo_18 : decode cX6_undo 18 = .ok (.getfield 25, 3) := by decide +kernel
theorem dX6_undo_21 : decode cX6_undo 21 = .ok (.invokevirtual 139, 3) := by decide +kernel
theorem dX6_undo_24 : decode cX6_undo 24 = .ok (.aload_n 0, 1) := by decide +kernel
theorem dX6_undo_25 : decode cX6_undo 25 = .ok (.getfield 39, 3) := by decide +kernel
theorem dX6_undo_28 : decode cX6_undo 28 = .ok (.getfield 137, 3) := by decide +kernel
theorem dX6_undo_31 : decode cX6_undo 31 = .ok (.ireturn, 1) := by decide +kernel
theorem dX6_walk_0 : decode cX6_walk 0 = .ok (.aload_n 0, 1) := by decide +kernel
theorem dX6_walk_1 : decode cX6_walk 1 = .ok (.iload_n 1, 1) := by decide +kernel
theorem dX6_walk_2 : decode cX6_walk 2 = .ok (.invokevirtual 142, 3) := by decide +kernel
theorem dX6_walk_5 : decode cX6_walk 5 = .ok (.ifCond .eq 25, 3) := by decide +kernel
theorem dX6_walk_8 : decode cX6_walk 8 = .ok (.iload_n 3, 1) := by decide +kernel
theorem dX6_walk_9 : decode cX6_walk 9 = .ok (.invokestatic 145, 3) := by decide +kernel
theorem dX6_walk_12 : decode cX6_walk 12 = .ok (.ifCond .eq 18, 3) := by decide +kernel
theorem dX6_walk_15 : decode cX6_walk 15 = .ok (.iload_n 2, 1) := by decide +kernel
theorem dX6_walk_16 : decode cX6_walk 16 = .ok (.ifCond .lt 14, 3) := by decide +kernel
theorem dX6_walk_19 : decode cX6_walk 19 = .ok (.iload_n 2, 1) := by decide +kernel
theorem dX6_walk_20 : decode cX6_walk 20 = .ok (.aload_n 0, 1) := by decide +kernel
theorem dX6_walk_21 : decode cX6_walk 21 = .ok (.getfield 25, 3) := by decide +kernel
theorem dX6_walk_24 : decode cX6_walk 24 = .ok (.invokevirtual 148, 3) := by decide +kernel
theorem dX6_walk_27 : decode cX6_walk 27 = .ok (.if_icmp .le 6, 3) := by decide +kernel
theorem dX6_walk_30 : decode cX6_walk 30 = .ok (.ldc 66, 2) := by decide +kernel
theorem dX6_walk_32 : decode cX6_walk 32 = .ok (.ireturn, 1) := by decide +kernel
theorem dX6_walk_33 : decode cX6_walk 33 = .ok (.aload_n 0, 1) := by decide +kernel
theorem dX6_walk_34 : decode cX6_walk 34 = .ok (.getfield 39, 3) := by decide +kernel
theorem dX6_walk_37 : decode cX6_walk 37 = .ok (.iconst 0, 1) := by decide +kernel
theorem dX6_walk_38 : decode cX6_walk 38 = .ok (.iload_n 1, 1) := by decide +kernel
theorem dX6_walk_39 : decode cX6_walk 39 = .ok (.aload_n 0, 1) := by decide +kernel
theorem dX6_walk_40 : decode cX6_walk 40 = .ok (.getfield 25, 3) := by decide +kernel
theorem dX6_walk_43 : decode cX6_walk 43 = .ok (.invokevirtual 152, 3) := by decide +kernel
theorem dX6_walk_46 : decode cX6_walk 46 = .ok (.aload_n 0, 1) := by decide +kernel
theorem dX6_walk_47 : decode cX6_walk 47 = .ok (.getfield 25, 3) := by decide +kernel
theorem dX6_walk_50 : decode cX6_walk 50 = .ok (.iload_n 1, 1) := by decide +kernel
theorem dX6_walk_51 : decode cX6_walk 51 = .ok (.iload_n 2, 1) := by decide +kernel
theorem dX6_walk_52 : decode cX6_walk 52 = .ok (.iload_n 3, 1) := by decide +kernel
theorem dX6_walk_53 : decode cX6_walk 53 = .ok (.invokevirtual 156, 3) := by decide +kernel
theorem dX6_walk_56 : decode cX6_walk 56 = .ok (.ireturn, 1) := by decide +kernel
theorem dX6_move_0 : decode cX6_move 0 = .ok (.aload_n 0, 1) := by decide +kernel
theorem dX6_move_1 : decode cX6_move 1 = .ok (.iload_n 1, 1) := by decide +kernel
theorem dX6_move_2 : decode cX6_move 2 = .ok (.invokevirtual 142, 3) := by decide +kernel
theorem dX6_move_5 : decode cX6_move 5 = .ok (.ifCond .eq 10, 3) := by decide +kernel
theorem dX6_move_8 : decode cX6_move 8 = .ok (.iload_n 2, 1) := by decide +kernel
theorem dX6_move_9 : decode cX6_move 9 = .ok (.invokestatic 160, 3) := by decide +kernel
theorem dX6_move_12 : decode cX6_move 12 = .ok (.ifCond .ne 6, 3) := by decide +kernel
theorem dX6_move_15 : decode cX6_move 15 = .ok (.ldc 66, 2) := by decide +kernel
theorem dX6_move_17 : decode cX6_move 17 = .ok (.ireturn, 1) := by decide +kernel
theorem dX6_move_18 : decode cX6_move 18 = .ok (.aload_n 0, 1) := by decide +kernel
theorem dX6_move_19 : decode cX6_move 19 = .ok (.getfield 25, 3) := by decide +kernel
theorem dX6_move_22 : decode cX6_move 22 = .ok (.getfield 163, 3) := by decide +kernel
theorem dX6_move_25 : decode cX6_move 25 = .ok (.iload_n 1, 1) := by decide +kernel
theorem dX6_move_26 : decode cX6_move 26 = .ok (.iaload, 1) := by decide +kernel
theorem dX6_move_27 : decode cX6_move 27 = .ok (.istore_n 3, 1) := by decide +kernel
theorem dX6_move_28 : decode cX6_move 28 = .ok (.aload_n 0, 1) := by decide +kernel
theorem dX6_move_29 : decode cX6_move 29 = .ok (.getfield 39, 3) := by decide +kernel
theorem dX6_move_32 : decode cX6_move 32 = .ok (.iconst 1, 1) := by decide +kernel
theorem dX6_move_33 : decode cX6_move 33 = .ok (.iload_n 1, 1) := by decide +kernel
theorem dX6_move_34 : decode cX6_move 34 = .ok (.aload_n 0, 1) := by decide +kernel
theorem dX6_move_35 : decode cX6_move 35 = .ok (.getfield 25, 3) := by decide +kernel
theorem dX6_move_38 : decode cX6_move 38 = .ok (.invokevirtual 152, 3) := by decide +kernel
theorem dX6_move_41 : decode cX6_move 41 = .ok (.aload_n 0, 1) := by decide +kernel
theorem dX6_move_42 : decode cX6_move 42 = .ok (.getfield 25, 3) := by decide +kernel
theorem dX6_move_45 : decode cX6_move 45 = .ok (.getfield 163, 3) := by decide +kernel
theorem dX6_move_48 : decode cX6_move 48 = .ok (.iload_n 1, 1) := by decide +kernel
theorem dX6_move_49 : decode cX6_move 49 = .ok (.iload_n 2, 1) := by decide +kernel
theorem dX6_move_50 : decode cX6_move 50 = .ok (.iastore, 1) := by decide +kernel
theorem dX6_move_51 : decode cX6_move 51 = .ok (.iload_n 3, 1) := by decide +kernel
theorem dX6_move_52 : decode cX6_move 52 = .ok (.ireturn, 1) := by decide +kernel
theorem dX6_bribe_0 : decode cX6_bribe 0 = .ok (.aload_n 0, 1) := by decide +kernel
theorem dX6_bribe_1 : decode cX6_bribe 1 = .ok (.iload_n 1, 1) := by decide +kernel
theorem dX6_bribe_2 : decode cX6_bribe 2 = .ok (.invokevirtual 166, 3) := by decide +kernel
theorem dX6_bribe_5 : decode cX6_bribe 5 = .ok (.ifCond .eq 15, 3) := by decide +kernel
theorem dX6_bribe_8 : decode cX6_bribe 8 = .ok (.iload_n 2, 1) := by decide +kernel
theorem dX6_bribe_9 : decode cX6_bribe 9 = .ok (.bipush (-20), 2) := by decide +kernel
theorem dX6_bribe_11 : decode cX6_bribe 11 = .ok (.if_icmp .lt 9, 3) := by decide +kernel
theorem dX6_bribe_14 : decode cX6_bribe 14 = .ok (.iload_n 2, 1) := by decide +kernel
theorem dX6_bribe_15 : decode cX6_bribe 15 = .ok (.bipush 20, 2) := by decide +kernel
theorem dX6_bribe_17 : decode cX6_bribe 17 = .ok (.if_icmp .le 6, 3) := by decide +kernel
theorem dX6_bribe_20 : decode cX6_bribe 20 = .ok (.ldc 66, 2) := by decide +kernel
theorem dX6_bribe_22 : decode cX6_bribe 22 = .ok (.ireturn, 1) := by decide +kernel
theorem dX6_bribe_23 : decode cX6_bribe 23 = .ok (.aload_n 0, 1) := by decide +kernel
theorem dX6_bribe_24 : decode cX6_bribe 24 = .ok (.getfield 25, 3) := by decide +kernel
theorem dX6_bribe_27 : decode cX6_bribe 27 = .ok (.getfield 169, 3) := by decide +kernel
theorem dX6_bribe_30 : decode cX6_bribe 30 = .ok (.iload_n 1, 1) := by decide +kernel
theorem dX6_bribe_31 : decode cX6_bribe 31 = .ok (.iaload, 1) := by decide +kernel
theorem dX6_bribe_32 : decode cX6_bribe 32 = .ok (.iconst 2, 1) := by decide +kernel
theorem dX6_bribe_33 : decode cX6_bribe 33 = .ok (.if_icmp .eq 6, 3) := by decide +kernel
theorem dX6_bribe_36 : decode cX6_bribe 36 = .ok (.ldc 138, 2) := by decide +kernel
theorem dX6_bribe_38 : decode cX6_bribe 38 = .ok (.ireturn, 1) := by decide +kernel
theorem dX6_bribe_39 : decode cX6_bribe 39 = .ok (.aload_n 0, 1) := by decide +kernel
theorem dX6_bribe_40 : decode cX6_bribe 40 = .ok (.getfield 25, 3) := by decide +kernel
theorem dX6_bribe_43 : decode cX6_bribe 43 = .ok (.getfield 172, 3) := by decide +kernel
theorem dX6_bribe_46 : decode cX6_bribe 46 = .ok (.iload_n 1, 1) := by decide +kernel
theorem dX6_bribe_47 : decode cX6_bribe 47 = .ok (.iaload, 1) := by decide +kernel
theorem dX6_bribe_48 : decode cX6_bribe 48 = .ok (.istore_n 3, 1) := by decide +kernel
theorem dX6_bribe_49 : decode cX6_bribe 49 = .ok (.aload_n 0, 1) := by decide +kernel
theorem dX6_bribe_50 : decode cX6_bribe 50 = .ok (.getfield 39, 3) := by decide +kernel
theorem dX6_bribe_53 : decode cX6_bribe 53 = .ok (.iconst 2, 1) := by decide +kernel
theorem dX6_bribe_54 : decode cX6_bribe 54 = .ok (.iload_n 1, 1) := by decide +kernel
theorem dX6_bribe_55 : decode cX6_bribe 55 = .ok (.aload_n 0, 1) := by decide +kernel
theorem dX6_bribe_56 : decode cX6_bribe 56 = .ok (.getfield 25, 3) := by decide +kernel
theorem dX6_bribe_59 : decode cX6_bribe 59 = .ok (.invokevirtual 152, 3) := by decide +kernel
theorem dX6_bribe_62 : decode cX6_bribe 62 = .ok (.aload_n 0, 1) := by decide +kernel
theorem dX6_bribe_63 : decode cX6_bribe 63 = .ok (.getfield 25, 3) := by decide +kernel
theorem dX6_bribe_66 : decode cX6_bribe 66 = .ok (.getfield 172, 3) := by decide +kernel
theorem dX6_bribe_69 : decode cX6_bribe 69 = .ok (.iload_n 1, 1) := by decide +kernel
theorem dX6_bribe_70 : decode cX6_bribe 70 = .ok (.iload_n 2, 1) := by decide +kernel
theorem dX6_bribe_71 : decode cX6_bribe 71 = .ok (.iastore, 1) := by decide +kernel
theorem dX6_bribe_72 : decode cX6_bribe 72 = .ok (.iload_n 3, 1) := by decide +kernel
theorem dX6_bribe_73 : decode cX6_bribe 73 = .ok (.ireturn, 1) := by decide +kernel
theorem dX6_years_0 : decode cX6_years 0 = .ok (.aload_n 0, 1) := by decide +kernel
theorem dX6_years_1 : decode cX6_years 1 = .ok (.getfield 25, 3) := by decide +kernel
theorem dX6_years_4 : decode cX6_years 4 = .ok (.getfield 175, 3) := by decide +kernel
theorem dX6_years_7 : decode cX6_years 7 = .ok (.ifCond .ne 6, 3) := by decide +kernel
theorem dX6_years_10 : decode cX6_years 10 = .ok (.ldc 138, 2) := by decide +kernel
theorem dX6_years_12 : decode cX6_years 12 = .ok (.ireturn, 1) := by decide +kernel
theorem dX6_years_13 : decode cX6_years 13 = .ok (.iload_n 1, 1) := by decide +kernel
theorem dX6_years_14 : decode cX6_years 14 = .ok (.iconst 1, 1) := by decide +kernel
theorem dX6_years_15 : decode cX6_years 15 = .ok (.if_icmp .lt 9, 3) := by decide +kernel
theorem dX6_years_18 : decode cX6_years 18 = .ok (.iload_n 1, 1) := by decide +kernel
theorem dX6_years_19 : decode cX6_years 19 = .ok (.bipush 24, 2) := by decide +kernel
theorem dX6_years_21 : decode cX6_years 21 = .ok (.if_icmp .le 6, 3) := by decide +kernel
theorem dX6_years_24 : decode cX6_years 24 = .ok (.ldc 66, 2) := by decide +kernel
theorem dX6_years_26 : decode cX6_years 26 = .ok (.ireturn, 1) := by decide +kernel
theorem dX6_years_27 : decode cX6_years 27 = .ok (.aload_n 0, 1) := by decide +kernel
theorem dX6_years_28 : decode cX6_years 28 = .ok (.getfield 25, 3) := by decide +kernel
theorem dX6_years_31 : decode cX6_years 31 = .ok (.getfield 178, 3) := by decide +kernel
theorem dX6_years_34 : decode cX6_years 34 = .ok (.iload_n 1, 1) := by decide +kernel
theorem dX6_years_35 : decode cX6_years 35 = .ok (.iadd, 1) := by decide +kernel
theorem dX6_years_36 : decode cX6_years 36 = .ok (.sipush 999, 3) := by decide +kernel
theorem dX6_years_39 : decode cX6_years 39 = .ok (.if_icmp .le 6, 3) := by decide +kernel
theorem dX6_years_42 : decode cX6_years 42 = .ok (.ldc 109, 2) := by decide +kernel
theorem dX6_years_44 : decode cX6_years 44 = .ok (.ireturn, 1) := by decide +kernel
theorem dX6_years_45 : decode cX6_years 45 = .ok (.iconst 0, 1) := by decide +kernel
theorem dX6_years_46 : decode cX6_years 46 = .ok (.istore_n 2, 1) := by decide +kernel
theorem dX6_years_47 : decode cX6_years 47 = .ok (.iload_n 2, 1) := by decide +kernel
theorem dX6_years_48 : decode cX6_years 48 = .ok (.iload_n 1, 1) := by decide +kernel
theorem dX6_years_49 : decode cX6_years 49 = .ok (.if_icmp .ge 35, 3) := by decide +kernel
theorem dX6_years_52 : decode cX6_years 52 = .ok (.aload_n 0, 1) := by decide +kernel
theorem dX6_years_53 : decode cX6_years 53 = .ok (.getfield 39, 3) := by decide +kernel
theorem dX6_years_56 : decode cX6_years 56 = .ok (.iconst 3, 1) := by decide +kernel
theorem dX6_years_57 : decode cX6_years 57 = .ok (.iconst 0, 1) := by decide +kernel
theorem dX6_years_58 : decode cX6_years 58 = .ok (.aload_n 0, 1) := by decide +kernel
theorem dX6_years_59 : decode cX6_years 59 = .ok (.getfield 25, 3) := by decide +kernel
theorem dX6_years_62 : decode cX6_years 62 = .ok (.invokevirtual 152, 3) := by decide +kernel
theorem dX6_years_65 : decode cX6_years 65 = .ok (.aload_n 0, 1) := by decide +kernel
theorem dX6_years_66 : decode cX6_years 66 = .ok (.getfield 25, 3) := by decide +kernel
theorem dX6_years_69 : decode cX6_years 69 = .ok (.dup, 1) := by decide +kernel
theorem dX6_years_70 : decode cX6_years 70 = .ok (.getfield 178, 3) := by decide +kernel
theorem dX6_years_73 : decode cX6_years 73 = .ok (.iconst 1, 1) := by decide +kernel
theorem dX6_years_74 : decode cX6_years 74 = .ok (.iadd, 1) := by decide +kernel
theorem dX6_years_75 : decode cX6_years 75 = .ok (.putfield 178, 3) := by decide +kernel
theorem dX6_years_78 : decode cX6_years 78 = .ok (.iinc 2 1, 3) := by decide +kernel
theorem dX6_years_81 : decode cX6_years 81 = .ok (.goto (-34), 3) := by decide +kernel
theorem dX6_years_84 : decode cX6_years 84 = .ok (.aload_n 0, 1) := by decide +kernel
theorem dX6_years_85 : decode cX6_years 85 = .ok (.getfield 25, 3) := by decide +kernel
theorem dX6_years_88 : decode cX6_years 88 = .ok (.invokevirtual 181, 3) := by decide +kernel
theorem dX6_years_91 : decode cX6_years 91 = .ok (.invokestatic 184, 3) := by decide +kernel
theorem dX6_years_94 : decode cX6_years 94 = .ok (.ireturn, 1) := by decide +kernel
theorem dX6_witness_0 : decode cX6_witness 0 = .ok (.aload_n 0, 1) := by decide +kernel
theorem dX6_witness_1 : decode cX6_witness 1 = .ok (.iload_n 1, 1) := by decide +kernel
theorem dX6_witness_2 : decode cX6_witness 2 = .ok (.invokevirtual 166, 3) := by decide +kernel
theorem dX6_witness_5 : decode cX6_witness 5 = .ok (.ifCond .ne 6, 3) := by decide +kernel
theorem dX6_witness_8 : decode cX6_witness 8 = .ok (.ldc 66, 2) := by decide +kernel
theorem dX6_witness_10 : decode cX6_witness 10 = .ok (.ireturn, 1) := by decide +kernel
theorem dX6_witness_11 : decode cX6_witness 11 = .ok (.iload_n 2, 1) := by decide +kernel
theorem dX6_witness_12 : decode cX6_witness 12 = .ok (.tableswitch 91 0 4 #[36, 45, 55, 72, 82], 36) := by decide +kernel
theorem dX6_witness_48 : decode cX6_witness 48 = .ok (.aload_n 0, 1) := by decide +kernel
theorem dX6_witness_49 : decode cX6_witness 49 = .ok (.getfield 25, 3) := by decide +kernel
theorem dX6_witness_52 : decode cX6_witness 52 = .ok (.iload_n 1, 1) := by decide +kernel
theorem dX6_witness_53 : decode cX6_witness 53 = .ok (.invokevirtual 189, 3) := by decide +kernel
theorem dX6_witness_56 : decode cX6_witness 56 = .ok (.ireturn, 1) := by decide +kernel
theorem dX6_witness_57 : decode cX6_witness 57 = .ok (.aload_n 0, 1) := by decide +kernel
theorem dX6_witness_58 : decode cX6_witness 58 = .ok (.getfield 25, 3) := by decide +kernel
theorem dX6_witness_61 : decode cX6_witness 61 = .ok (.getfield 192, 3) := by decide +kernel
theorem dX6_witness_64 : decode cX6_witness 64 = .ok (.iload_n 1, 1) := by decide +kernel
theorem dX6_witness_65 : decode cX6_witness 65 = .ok (.iaload, 1) := by decide +kernel
theorem dX6_witness_66 : decode cX6_witness 66 = .ok (.ireturn, 1) := by decide +kernel
theorem dX6_witness_67 : decode cX6_witness 67 = .ok (.aload_n 0, 1) := by decide +kernel
theorem dX6_witness_68 : decode cX6_witness 68 = .ok (.getfield 25, 3) := by decide +kernel
theorem dX6_witness_71 : decode cX6_witness 71 = .ok (.iload_n 1, 1) := by decide +kernel
theorem dX6_witness_72 : decode cX6_witness 72 = .ok (.invokevirtual 195, 3) := by decide +kernel
theorem dX6_witness_75 : decode cX6_witness 75 = .ok (.ifCond .eq 7, 3) := by decide +kernel
theorem dX6_witness_78 : decode cX6_witness 78 = .ok (.iconst 1, 1) := by decide +kernel
theorem dX6_witness_79 : decode cX6_witness 79 = .ok (.goto 4, 3) := by decide +kernel
theorem dX6_witness_82 : decode cX6_witness 82 = .ok (.iconst 0, 1) := by decide +kernel
theorem dX6_witness_83 : decode cX6_witness 83 = .ok (.ireturn, 1) := by decide +kernel
theorem dX6_witness_84 : decode cX6_witness 84 = .ok (.aload_n 0, 1) := by decide +kernel
theorem dX6_witness_85 : decode cX6_witness 85 = .ok (.getfield 25, 3) := by decide +kernel
theorem dX6_witness_88 : decode cX6_witness 88 = .ok (.getfield 172, 3) := by decide +kernel
theorem dX6_witness_91 : decode cX6_witness 91 = .ok (.iload_n 1, 1) := by decide +kernel
theorem dX6_witness_92 : decode cX6_witness 92 = .ok (.iaload, 1) := by decide +kernel
theorem dX6_witness_93 : decode cX6_witness 93 = .ok (.ireturn, 1) := by decide +kernel
theorem dX6_witness_94 : decode cX6_witness 94 = .ok (.aload_n 0, 1) := by decide +kernel
theorem dX6_witness_95 : decode cX6_witness 95 = .ok (.getfield 25, 3) := by decide +kernel
theorem dX6_witness_98 : decode cX6_witness 98 = .ok (.iload_n 1, 1) := by decide +kernel
theorem dX6_witness_99 : decode cX6_witness 99 = .ok (.invokevirtual 198, 3) := by decide +kernel
theorem dX6_witness_102 : decode cX6_witness 102 = .ok (.ireturn, 1) := by decide +kernel
theorem dX6_witness_103 : decode cX6_witness 103 = .ok (.ldc 66, 2) := by decide +kernel
theorem dX6_witness_105 : decode cX6_witness 105 = .ok (.ireturn, 1) := by decide +kernel
theorem dX6_memory_0 : decode cX6_memory 0 = .ok (.aload_n 0, 1) := by decide +kernel
theorem dX6_memory_1 : decode cX6_memory 1 = .ok (.iload_n 1, 1) := by decide +kernel
theorem dX6_memory_2 : decode cX6_memory 2 = .ok (.invokevirtual 166, 3) := by decide +kernel
theorem dX6_memory_5 : decode cX6_memory 5 = .ok (.ifCond .eq 20, 3) := by decide +kernel
theorem dX6_memory_8 : decode cX6_memory 8 = .ok (.aload_n 0, 1) := by decide +kernel
theorem dX6_memory_9 : decode cX6_memory 9 = .ok (.iload_n 2, 1) := by decide +kernel
theorem dX6_memory_10 : decode cX6_memory 10 = .ok (.invokevirtual 142, 3) := by decide +kernel
theorem dX6_memory_13 : decode cX6_memory 13 = .ok (.ifCond .eq 12, 3) := by decide +kernel
theorem dX6_memory_16 : decode cX6_memory 16 = .ok (.iload_n 3, 1) := by decide +kernel
theorem dX6_memory_17 : decode cX6_memory 17 = .ok (.ifCond .lt 8, 3) := by decide +kernel
theorem dX6_memory_20 : decode cX6_memory 20 = .ok (.iload_n 3, 1) := by decide +kernel
theorem dX6_memory_21 : decode cX6_memory 21 = .ok (.iconst 3, 1) := by decide +kernel
theorem dX6_memory_22 : decode cX6_memory 22 = .ok (.if_icmp .le 6, 3) := by decide +kernel
theorem dX6_memory_25 : decode cX6_memory 25 = .ok (.ldc 66, 2) := by decide +kernel
theorem dX6_memory_27 : decode cX6_memory 27 = .ok (.ireturn, 1) := by decide +kernel
theorem dX6_memory_28 : decode cX6_memory 28 = .ok (.iload_n 3, 1) := by decide +kernel
theorem dX6_memory_29 : decode cX6_memory 29 = .ok (.iconst 3, 1) := by decide +kernel
theorem dX6_memory_30 : decode cX6_memory 30 = .ok (.if_icmp .ne 13, 3) := by decide +kernel
theorem dX6_memory_33 : decode cX6_memory 33 = .ok (.aload_n 0, 1) := by decide +kernel
theorem dX6_memory_34 : decode cX6_memory 34 = .ok (.getfield 25, 3) := by decide +kernel
theorem dX6_memory_37 : decode cX6_memory 37 = .ok (.iload_n 1, 1) := by decide +kernel
theorem dX6_memory_38 : decode cX6_memory 38 = .ok (.iload_n 2, 1) := by decide +kernel
theorem dX6_memory_39 : decode cX6_memory 39 = .ok (.invokevirtual 201, 3) := by decide +kernel
theorem dX6_memory_42 : decode cX6_memory 42 = .ok (.ireturn, 1) := by decide +kernel
theorem dX6_memory_43 : decode cX6_memory 43 = .ok (.aload_n 0, 1) := by decide +kernel
theorem dX6_memory_44 : decode cX6_memory 44 = .ok (.getfield 25, 3) := by decide +kernel
theorem dX6_memory_47 : decode cX6_memory 47 = .ok (.iload_n 1, 1) := by decide +kernel
theorem dX6_memory_48 : decode cX6_memory 48 = .ok (.iload_n 2, 1) := by decide +kernel
theorem dX6_memory_49 : decode cX6_memory 49 = .ok (.invokevirtual 205, 3) := by decide +kernel
theorem dX6_memory_52 : decode cX6_memory 52 = .ok (.istore 4, 2) := by decide +kernel
theorem dX6_memory_54 : decode cX6_memory 54 = .ok (.aload_n 0, 1) := by decide +kernel
theorem dX6_memory_55 : decode cX6_memory 55 = .ok (.getfield 25, 3) := by decide +kernel
theorem dX6_memory_58 : decode cX6_memory 58 = .ok (.getfield 208, 3) := by decide +kernel
theorem dX6_memory_61 : decode cX6_memory 61 = .ok (.iload 4, 2) := by decide +kernel
theorem dX6_memory_63 : decode cX6_memory 63 = .ok (.iaload, 1) := by decide +kernel
theorem dX6_memory_64 : decode cX6_memory 64 = .ok (.ifCond .ne 6, 3) := by decide +kernel
theorem dX6_memory_67 : decode cX6_memory 67 = .ok (.ldc 211, 2) := by decide +kernel
theorem dX6_memory_69 : decode cX6_memory 69 = .ok (.ireturn, 1) := by decide +kernel
theorem dX6_memory_70 : decode cX6_memory 70 = .ok (.iload_n 3, 1) := by decide +kernel
theorem dX6_memory_71 : decode cX6_memory 71 = .ok (.ifCond .ne 16, 3) := by decide +kernel
theorem dX6_memory_74 : decode cX6_memory 74 = .ok (.aload_n 0, 1) := by decide +kernel
theorem dX6_memory_75 : decode cX6_memory 75 = .ok (.getfield 25, 3) := by decide +kernel
theorem dX6_memory_78 : decode cX6_memory 78 = .ok (.getfield 212, 3) := by decide +kernel
theorem dX6_memory_81 : decode cX6_memory 81 = .ok (.iload 4, 2) := by decide +kernel
theorem dX6_memory_83 : decode cX6_memory 83 = .ok (.iaload, 1) := by decide +kernel
theorem dX6_memory_84 : decode cX6_memory 84 = .ok (.goto 31, 3) := by decide +kernel
theorem dX6_memory_87 : decode cX6_memory 87 = .ok (.iload_n 3, 1) := by decide +kernel
theorem dX6_memory_88 : decode cX6_memory 88 = .ok (.iconst 1, 1) := by decide +kernel
theorem dX6_memory_89 : decode cX6_memory 89 = .ok (.if_icmp .ne 16, 3) := by decide +kernel
theorem dX6_memory_92 : decode cX6_memory 92 = .ok (.aload_n 0, 1) := by decide +kernel
theorem dX6_memory_93 : decode cX6_memory 93 = .ok (.getfield 25, 3) := by decide +kernel
theorem dX6_memory_96 : decode cX6_memory 96 = .ok (.getfield 208, 3) := by decide +kernel
theorem dX6_memory_99 : decode cX6_memory 99 = .ok (.iload 4, 2) := by decide +kernel
theorem dX6_memory_101 : decode cX6_memory 101 = .ok (.iaload, 1) := by decide +kernel
theorem dX6_memory_102 : decode cX6_memory 102 = .ok (.goto 13, 3) := by decide +kernel
theorem dX6_memory_105 : decode cX6_memory 105 = .ok (.aload_n 0, 1) := by decide +kernel
theorem dX6_memory_106 : decode cX6_memory 106 = .ok (.getfield 25, 3) := by decide +kernel
theorem dX6_memory_109 : decode cX6_memory 109 = .ok (.getfield 215, 3) := by decide +kernel
theorem dX6_memory_112 : decode cX6_memory 112 = .ok (.iload 4, 2) := by decide +kernel
theorem dX6_memory_114 : decode cX6_memory 114 = .ok (.iaload, 1) := by decide +kernel
theorem dX6_memory_115 : decode cX6_memory 115 = .ok (.ireturn, 1) := by decide +kernel
theorem dX6_stone_0 : decode cX6_stone 0 = .ok (.aload_n 0, 1) := by decide +kernel
theorem dX6_stone_1 : decode cX6_stone 1 = .ok (.iload_n 1, 1) := by decide +kernel
theorem dX6_stone_2 : decode cX6_stone 2 = .ok (.invokevirtual 142, 3) := by decide +kernel
theorem dX6_stone_5 : decode cX6_stone 5 = .ok (.ifCond .eq 15, 3) := by decide +kernel
theorem dX6_stone_8 : decode cX6_stone 8 = .ok (.aload_n 0, 1) := by decide +kernel
theorem dX6_stone_9 : decode cX6_stone 9 = .ok (.getfield 25, 3) := by decide +kernel
theorem dX6_stone_12 : decode cX6_stone 12 = .ok (.getfield 163, 3) := by decide +kernel
theorem dX6_stone_15 : decode cX6_stone 15 = .ok (.iload_n 1, 1) := by decide +kernel
theorem dX6_stone_16 : decode cX6_stone 16 = .ok (.iaload, 1) := by decide +kernel
theorem dX6_stone_17 : decode cX6_stone 17 = .ok (.goto 5, 3) := by decide +kernel
theorem dX6_stone_20 : decode cX6_stone 20 = .ok (.ldc 66, 2) := by decide +kernel
theorem dX6_stone_22 : decode cX6_stone 22 = .ok (.ireturn, 1) := by decide +kernel
theorem dX6_sworn_0 : decode cX6_sworn 0 = .ok (.aload_n 0, 1) := by decide +kernel
theorem dX6_sworn_1 : decode cX6_sworn 1 = .ok (.iload_n 1, 1) := by decide +kernel
theorem dX6_sworn_2 : decode cX6_sworn 2 = .ok (.invokevirtual 142, 3) := by decide +kernel
theorem dX6_sworn_5 : decode cX6_sworn 5 = .ok (.ifCond .eq 12, 3) := by decide +kernel
theorem dX6_sworn_8 : decode cX6_sworn 8 = .ok (.iload_n 2, 1) := by decide +kernel
theorem dX6_sworn_9 : decode cX6_sworn 9 = .ok (.ifCond .lt 8, 3) := by decide +kernel
theorem dX6_sworn_12 : decode cX6_sworn 12 = .ok (.iload_n 2, 1) := by decide +kernel
theorem dX6_sworn_13 : decode cX6_sworn 13 = .ok (.iconst 5, 1) := by decide +kernel
theorem dX6_sworn_14 : decode cX6_sworn 14 = .ok (.if_icmp .le 6, 3) := by decide +kernel
theorem dX6_sworn_17 : decode cX6_sworn 17 = .ok (.ldc 66, 2) := by decide +kernel
theorem dX6_sworn_19 : decode cX6_sworn 19 = .ok (.ireturn, 1) := by decide +kernel
theorem dX6_sworn_20 : decode cX6_sworn 20 = .ok (.aload_n 0, 1) := by decide +kernel
theorem dX6_sworn_21 : decode cX6_sworn 21 = .ok (.getfield 46, 3) := by decide +kernel
theorem dX6_sworn_24 : decode cX6_sworn 24 = .ok (.aload_n 0, 1) := by decide +kernel
theorem dX6_sworn_25 : decode cX6_sworn 25 = .ok (.getfield 25, 3) := by decide +kernel
theorem dX6_sworn_28 : decode cX6_sworn 28 = .ok (.iload_n 1, 1) := by decide +kernel
theorem dX6_sworn_29 : decode cX6_sworn 29 = .ok (.invokevirtual 218, 3) := by decide +kernel
theorem dX6_sworn_32 : decode cX6_sworn 32 = .ok (.iload_n 2, 1) := by decide +kernel
theorem dX6_sworn_33 : decode cX6_sworn 33 = .ok (.ifCond .ne 11, 3) := by decide +kernel
theorem dX6_sworn_36 : decode cX6_sworn 36 = .ok (.aload_n 0, 1) := by decide +kernel
theorem dX6_sworn_37 : decode cX6_sworn 37 = .ok (.getfield 46, 3) := by decide +kernel
theorem dX6_sworn_40 : decode cX6_sworn 40 = .ok (.getfield 222, 3) := by decide +kernel
theorem dX6_sworn_43 : decode cX6_sworn 43 = .ok (.ireturn, 1) := by decide +kernel
theorem dX6_sworn_44 : decode cX6_sworn 44 = .ok (.iload_n 2, 1) := by decide +kernel
theorem dX6_sworn_45 : decode cX6_sworn 45 = .ok (.iconst 1, 1) := by decide +kernel
theorem dX6_sworn_46 : decode cX6_sworn 46 = .ok (.if_icmp .ne 12, 3) := by decide +kernel
theorem dX6_sworn_49 : decode cX6_sworn 49 = .ok (.aload_n 0, 1) := by decide +kernel
theorem dX6_sworn_50 : decode cX6_sworn 50 = .ok (.getfield 25, 3) := by decide +kernel
theorem dX6_sworn_53 : decode cX6_sworn 53 = .ok (.iload_n 1, 1) := by decide +kernel
theorem dX6_sworn_54 : decode cX6_sworn 54 = .ok (.invokevirtual 225, 3) := by decide +kernel
theorem dX6_sworn_57 : decode cX6_sworn 57 = .ok (.ireturn, 1) := by decide +kernel
end
section
theorem dX6_sworn_58 : decode cX6_sworn 58 = .ok (.aload_n 0, 1) := by decide +kernel
theorem dX6_sworn_59 : decode cX6_sworn 59 = .ok (.getfield 46, 3) := by decide +kernel
theorem dX6_sworn_62 : decode cX6_sworn 62 = .ok (.getfield 222, 3) := by decide +kernel
theorem dX6_sworn_65 : decode cX6_sworn 65 = .ok (.ifCond .ne 6, 3) := by decide +kernel
theorem dX6_sworn_68 : decode cX6_sworn 68 = .ok (.ldc 211, 2) := by decide +kernel
theorem dX6_sworn_70 : decode cX6_sworn 70 = .ok (.ireturn, 1) := by decide +kernel
theorem dX6_sworn_71 : decode cX6_sworn 71 = .ok (.iload_n 2, 1) := by decide +kernel
theorem dX6_sworn_72 : decode cX6_sworn 72 = .ok (.tableswitch 52 2 4 #[28, 36, 44], 28) := by decide +kernel
theorem dX6_sworn_100 : decode cX6_sworn 100 = .ok (.aload_n 0, 1) := by decide +kernel
theorem dX6_sworn_101 : decode cX6_sworn 101 = .ok (.getfield 46, 3) := by decide +kernel
theorem dX6_sworn_104 : decode cX6_sworn 104 = .ok (.invokevirtual 228, 3) := by decide +kernel
theorem dX6_sworn_107 : decode cX6_sworn 107 = .ok (.ireturn, 1) := by decide +kernel
theorem dX6_sworn_108 : decode cX6_sworn 108 = .ok (.aload_n 0, 1) := by decide +kernel
theorem dX6_sworn_109 : decode cX6_sworn 109 = .ok (.getfield 46, 3) := by decide +kernel
theorem dX6_sworn_112 : decode cX6_sworn 112 = .ok (.invokevirtual 231, 3) := by decide +kernel
theorem dX6_sworn_115 : decode cX6_sworn 115 = .ok (.ireturn, 1) := by decide +kernel
theorem dX6_sworn_116 : decode cX6_sworn 116 = .ok (.aload_n 0, 1) := by decide +kernel
theorem dX6_sworn_117 : decode cX6_sworn 117 = .ok (.getfield 46, 3) := by decide +kernel
theorem dX6_sworn_120 : decode cX6_sworn 120 = .ok (.invokevirtual 234, 3) := by decide +kernel
theorem dX6_sworn_123 : decode cX6_sworn 123 = .ok (.ireturn, 1) := by decide +kernel
theorem dX6_sworn_124 : decode cX6_sworn 124 = .ok (.aload_n 0, 1) := by decide +kernel
theorem dX6_sworn_125 : decode cX6_sworn 125 = .ok (.getfield 46, 3) := by decide +kernel
theorem dX6_sworn_128 : decode cX6_sworn 128 = .ok (.aload_n 0, 1) := by decide +kernel
theorem dX6_sworn_129 : decode cX6_sworn 129 = .ok (.getfield 25, 3) := by decide +kernel
theorem dX6_sworn_132 : decode cX6_sworn 132 = .ok (.invokevirtual 237, 3) := by decide +kernel
theorem dX6_sworn_135 : decode cX6_sworn 135 = .ok (.ireturn, 1) := by decide +kernel
theorem dX6_belief_0 : decode cX6_belief 0 = .ok (.aload_n 0, 1) := by decide +kernel
theorem dX6_belief_1 : decode cX6_belief 1 = .ok (.iload_n 1, 1) := by decide +kernel
theorem dX6_belief_2 : decode cX6_belief 2 = .ok (.invokevirtual 142, 3) := by decide +kernel
theorem dX6_belief_5 : decode cX6_belief 5 = .ok (.ifCond .eq 17, 3) := by decide +kernel
theorem dX6_belief_8 : decode cX6_belief 8 = .ok (.iload_n 2, 1) := by decide +kernel
theorem dX6_belief_9 : decode cX6_belief 9 = .ok (.invokestatic 160, 3) := by decide +kernel
theorem dX6_belief_12 : decode cX6_belief 12 = .ok (.ifCond .eq 10, 3) := by decide +kernel
theorem dX6_belief_15 : decode cX6_belief 15 = .ok (.iload_n 3, 1) := by decide +kernel
theorem dX6_belief_16 : decode cX6_belief 16 = .ok (.invokestatic 241, 3) := by decide +kernel
theorem dX6_belief_19 : decode cX6_belief 19 = .ok (.ifCond .ne 6, 3) := by decide +kernel
theorem dX6_belief_22 : decode cX6_belief 22 = .ok (.ldc 66, 2) := by decide +kernel
theorem dX6_belief_24 : decode cX6_belief 24 = .ok (.ireturn, 1) := by decide +kernel
theorem dX6_belief_25 : decode cX6_belief 25 = .ok (.aload_n 0, 1) := by decide +kernel
theorem dX6_belief_26 : decode cX6_belief 26 = .ok (.getfield 46, 3) := by decide +kernel
theorem dX6_belief_29 : decode cX6_belief 29 = .ok (.aload_n 0, 1) := by decide +kernel
theorem dX6_belief_30 : decode cX6_belief 30 = .ok (.getfield 25, 3) := by decide +kernel
theorem dX6_belief_33 : decode cX6_belief 33 = .ok (.iload_n 1, 1) := by decide +kernel
theorem dX6_belief_34 : decode cX6_belief 34 = .ok (.invokevirtual 218, 3) := by decide +kernel
theorem dX6_belief_37 : decode cX6_belief 37 = .ok (.aload_n 0, 1) := by decide +kernel
theorem dX6_belief_38 : decode cX6_belief 38 = .ok (.getfield 46, 3) := by decide +kernel
theorem dX6_belief_41 : decode cX6_belief 41 = .ok (.getfield 222, 3) := by decide +kernel
theorem dX6_belief_44 : decode cX6_belief 44 = .ok (.ifCond .ne 6, 3) := by decide +kernel
theorem dX6_belief_47 : decode cX6_belief 47 = .ok (.ldc 138, 2) := by decide +kernel
theorem dX6_belief_49 : decode cX6_belief 49 = .ok (.ireturn, 1) := by decide +kernel
theorem dX6_belief_50 : decode cX6_belief 50 = .ok (.aload_n 0, 1) := by decide +kernel
theorem dX6_belief_51 : decode cX6_belief 51 = .ok (.getfield 46, 3) := by decide +kernel
theorem dX6_belief_54 : decode cX6_belief 54 = .ok (.iload_n 2, 1) := by decide +kernel
theorem dX6_belief_55 : decode cX6_belief 55 = .ok (.invokevirtual 244, 3) := by decide +kernel
theorem dX6_belief_58 : decode cX6_belief 58 = .ok (.istore 4, 2) := by decide +kernel
theorem dX6_belief_60 : decode cX6_belief 60 = .ok (.aload_n 0, 1) := by decide +kernel
theorem dX6_belief_61 : decode cX6_belief 61 = .ok (.getfield 46, 3) := by decide +kernel
theorem dX6_belief_64 : decode cX6_belief 64 = .ok (.getfield 222, 3) := by decide +kernel
theorem dX6_belief_67 : decode cX6_belief 67 = .ok (.iload 4, 2) := by decide +kernel
theorem dX6_belief_69 : decode cX6_belief 69 = .ok (.invokestatic 247, 3) := by decide +kernel
theorem dX6_belief_72 : decode cX6_belief 72 = .ok (.istore 5, 2) := by decide +kernel
theorem dX6_belief_74 : decode cX6_belief 74 = .ok (.iload_n 3, 1) := by decide +kernel
theorem dX6_belief_75 : decode cX6_belief 75 = .ok (.ifCond .ne 8, 3) := by decide +kernel
theorem dX6_belief_78 : decode cX6_belief 78 = .ok (.iload 4, 2) := by decide +kernel
theorem dX6_belief_80 : decode cX6_belief 80 = .ok (.goto 10, 3) := by decide +kernel
theorem dX6_belief_83 : decode cX6_belief 83 = .ok (.aload_n 0, 1) := by decide +kernel
theorem dX6_belief_84 : decode cX6_belief 84 = .ok (.getfield 46, 3) := by decide +kernel
theorem dX6_belief_87 : decode cX6_belief 87 = .ok (.getfield 222, 3) := by decide +kernel
theorem dX6_belief_90 : decode cX6_belief 90 = .ok (.iload 5, 2) := by decide +kernel
theorem dX6_belief_92 : decode cX6_belief 92 = .ok (.idiv, 1) := by decide +kernel
theorem dX6_belief_93 : decode cX6_belief 93 = .ok (.ireturn, 1) := by decide +kernel
theorem dX6_likeliest_0 : decode cX6_likeliest 0 = .ok (.aload_n 0, 1) := by decide +kernel
theorem dX6_likeliest_1 : decode cX6_likeliest 1 = .ok (.iload_n 1, 1) := by decide +kernel
theorem dX6_likeliest_2 : decode cX6_likeliest 2 = .ok (.invokevirtual 142, 3) := by decide +kernel
theorem dX6_likeliest_5 : decode cX6_likeliest 5 = .ok (.ifCond .ne 6, 3) := by decide +kernel
theorem dX6_likeliest_8 : decode cX6_likeliest 8 = .ok (.ldc 66, 2) := by decide +kernel
theorem dX6_likeliest_10 : decode cX6_likeliest 10 = .ok (.ireturn, 1) := by decide +kernel
theorem dX6_likeliest_11 : decode cX6_likeliest 11 = .ok (.aload_n 0, 1) := by decide +kernel
theorem dX6_likeliest_12 : decode cX6_likeliest 12 = .ok (.getfield 46, 3) := by decide +kernel
theorem dX6_likeliest_15 : decode cX6_likeliest 15 = .ok (.aload_n 0, 1) := by decide +kernel
theorem dX6_likeliest_16 : decode cX6_likeliest 16 = .ok (.getfield 25, 3) := by decide +kernel
theorem dX6_likeliest_19 : decode cX6_likeliest 19 = .ok (.iload_n 1, 1) := by decide +kernel
theorem dX6_likeliest_20 : decode cX6_likeliest 20 = .ok (.invokevirtual 218, 3) := by decide +kernel
theorem dX6_likeliest_23 : decode cX6_likeliest 23 = .ok (.aload_n 0, 1) := by decide +kernel
theorem dX6_likeliest_24 : decode cX6_likeliest 24 = .ok (.getfield 46, 3) := by decide +kernel
theorem dX6_likeliest_27 : decode cX6_likeliest 27 = .ok (.invokevirtual 250, 3) := by decide +kernel
theorem dX6_likeliest_30 : decode cX6_likeliest 30 = .ok (.ireturn, 1) := by decide +kernel
theorem dX6_till_0 : decode cX6_till 0 = .ok (.aload_n 0, 1) := by decide +kernel
theorem dX6_till_1 : decode cX6_till 1 = .ok (.iload_n 1, 1) := by decide +kernel
theorem dX6_till_2 : decode cX6_till 2 = .ok (.invokevirtual 142, 3) := by decide +kernel
theorem dX6_till_5 : decode cX6_till 5 = .ok (.ifCond .eq 10, 3) := by decide +kernel
theorem dX6_till_8 : decode cX6_till 8 = .ok (.iload_n 2, 1) := by decide +kernel
theorem dX6_till_9 : decode cX6_till 9 = .ok (.invokestatic 253, 3) := by decide +kernel
theorem dX6_till_12 : decode cX6_till 12 = .ok (.ifCond .ne 6, 3) := by decide +kernel
theorem dX6_till_15 : decode cX6_till 15 = .ok (.ldc 66, 2) := by decide +kernel
theorem dX6_till_17 : decode cX6_till 17 = .ok (.ireturn, 1) := by decide +kernel
theorem dX6_till_18 : decode cX6_till 18 = .ok (.aload_n 0, 1) := by decide +kernel
theorem dX6_till_19 : decode cX6_till 19 = .ok (.getfield 29, 3) := by decide +kernel
theorem dX6_till_22 : decode cX6_till 22 = .ok (.aload_n 0, 1) := by decide +kernel
theorem dX6_till_23 : decode cX6_till 23 = .ok (.getfield 25, 3) := by decide +kernel
theorem dX6_till_26 : decode cX6_till 26 = .ok (.invokevirtual 124, 3) := by decide +kernel
theorem dX6_till_29 : decode cX6_till 29 = .ok (.iconst 0, 1) := by decide +kernel
theorem dX6_till_30 : decode cX6_till 30 = .ok (.istore_n 3, 1) := by decide +kernel
theorem dX6_till_31 : decode cX6_till 31 = .ok (.iload_n 3, 1) := by decide +kernel
theorem dX6_till_32 : decode cX6_till 32 = .ok (.bipush 99, 2) := by decide +kernel
theorem dX6_till_34 : decode cX6_till 34 = .ok (.if_icmp .gt 42, 3) := by decide +kernel
theorem dX6_till_37 : decode cX6_till 37 = .ok (.aload_n 0, 1) := by decide +kernel
theorem dX6_till_38 : decode cX6_till 38 = .ok (.getfield 29, 3) := by decide +kernel
theorem dX6_till_41 : decode cX6_till 41 = .ok (.aload_n 0, 1) := by decide +kernel
theorem dX6_till_42 : decode cX6_till 42 = .ok (.getfield 25, 3) := by decide +kernel
theorem dX6_till_45 : decode cX6_till 45 = .ok (.getfield 178, 3) := by decide +kernel
theorem dX6_till_48 : decode cX6_till 48 = .ok (.iload_n 3, 1) := by decide +kernel
theorem dX6_till_49 : decode cX6_till 49 = .ok (.iadd, 1) := by decide +kernel
theorem dX6_till_50 : decode cX6_till 50 = .ok (.putfield 178, 3) := by decide +kernel
theorem dX6_till_53 : decode cX6_till 53 = .ok (.aload_n 0, 1) := by decide +kernel
theorem dX6_till_54 : decode cX6_till 54 = .ok (.getfield 29, 3) := by decide +kernel
theorem dX6_till_57 : decode cX6_till 57 = .ok (.iload_n 1, 1) := by decide +kernel
theorem dX6_till_58 : decode cX6_till 58 = .ok (.invokevirtual 225, 3) := by decide +kernel
theorem dX6_till_61 : decode cX6_till 61 = .ok (.invokestatic 184, 3) := by decide +kernel
theorem dX6_till_64 : decode cX6_till 64 = .ok (.iload_n 2, 1) := by decide +kernel
theorem dX6_till_65 : decode cX6_till 65 = .ok (.if_icmp .ge 5, 3) := by decide +kernel
theorem dX6_till_68 : decode cX6_till 68 = .ok (.iload_n 3, 1) := by decide +kernel
theorem dX6_till_69 : decode cX6_till 69 = .ok (.ireturn, 1) := by decide +kernel
theorem dX6_till_70 : decode cX6_till 70 = .ok (.iinc 3 1, 3) := by decide +kernel
theorem dX6_till_73 : decode cX6_till 73 = .ok (.goto (-42), 3) := by decide +kernel
theorem dX6_till_76 : decode cX6_till 76 = .ok (.ldc 211, 2) := by decide +kernel
theorem dX6_till_78 : decode cX6_till 78 = .ok (.ireturn, 1) := by decide +kernel
theorem dX6_take_0 : decode cX6_take 0 = .ok (.aload_n 0, 1) := by decide +kernel
theorem dX6_take_1 : decode cX6_take 1 = .ok (.iload_n 1, 1) := by decide +kernel
theorem dX6_take_2 : decode cX6_take 2 = .ok (.invokevirtual 142, 3) := by decide +kernel
theorem dX6_take_5 : decode cX6_take 5 = .ok (.ifCond .eq 33, 3) := by decide +kernel
theorem dX6_take_8 : decode cX6_take 8 = .ok (.iload_n 2, 1) := by decide +kernel
theorem dX6_take_9 : decode cX6_take 9 = .ok (.invokestatic 145, 3) := by decide +kernel
theorem dX6_take_12 : decode cX6_take 12 = .ok (.ifCond .eq 26, 3) := by decide +kernel
theorem dX6_take_15 : decode cX6_take 15 = .ok (.iload_n 3, 1) := by decide +kernel
theorem dX6_take_16 : decode cX6_take 16 = .ok (.invokestatic 256, 3) := by decide +kernel
theorem dX6_take_19 : decode cX6_take 19 = .ok (.ifCond .eq 19, 3) := by decide +kernel
theorem dX6_take_22 : decode cX6_take 22 = .ok (.iload 4, 2) := by decide +kernel
theorem dX6_take_24 : decode cX6_take 24 = .ok (.invokestatic 253, 3) := by decide +kernel
theorem dX6_take_27 : decode cX6_take 27 = .ok (.ifCond .eq 11, 3) := by decide +kernel
theorem dX6_take_30 : decode cX6_take 30 = .ok (.iload 5, 2) := by decide +kernel
theorem dX6_take_32 : decode cX6_take 32 = .ok (.invokestatic 241, 3) := by decide +kernel
theorem dX6_take_35 : decode cX6_take 35 = .ok (.ifCond .ne 6, 3) := by decide +kernel
theorem dX6_take_38 : decode cX6_take 38 = .ok (.ldc 66, 2) := by decide +kernel
theorem dX6_take_40 : decode cX6_take 40 = .ok (.ireturn, 1) := by decide +kernel
theorem dX6_take_41 : decode cX6_take 41 = .ok (.aload_n 0, 1) := by decide +kernel
theorem dX6_take_42 : decode cX6_take 42 = .ok (.getfield 25, 3) := by decide +kernel
theorem dX6_take_45 : decode cX6_take 45 = .ok (.invokevirtual 259, 3) := by decide +kernel
theorem dX6_take_48 : decode cX6_take 48 = .ok (.istore 6, 2) := by decide +kernel
theorem dX6_take_50 : decode cX6_take 50 = .ok (.aload_n 0, 1) := by decide +kernel
theorem dX6_take_51 : decode cX6_take 51 = .ok (.getfield 29, 3) := by decide +kernel
theorem dX6_take_54 : decode cX6_take 54 = .ok (.aload_n 0, 1) := by decide +kernel
theorem dX6_take_55 : decode cX6_take 55 = .ok (.getfield 25, 3) := by decide +kernel
theorem dX6_take_58 : decode cX6_take 58 = .ok (.invokevirtual 124, 3) := by decide +kernel
theorem dX6_take_61 : decode cX6_take 61 = .ok (.aload_n 0, 1) := by decide +kernel
theorem dX6_take_62 : decode cX6_take 62 = .ok (.getfield 29, 3) := by decide +kernel
theorem dX6_take_65 : decode cX6_take 65 = .ok (.aload_n 0, 1) := by decide +kernel
theorem dX6_take_66 : decode cX6_take 66 = .ok (.getfield 25, 3) := by decide +kernel
theorem dX6_take_69 : decode cX6_take 69 = .ok (.getfield 178, 3) := by decide +kernel
theorem dX6_take_72 : decode cX6_take 72 = .ok (.iload_n 3, 1) := by decide +kernel
theorem dX6_take_73 : decode cX6_take 73 = .ok (.iadd, 1) := by decide +kernel
theorem dX6_take_74 : decode cX6_take 74 = .ok (.putfield 178, 3) := by decide +kernel
theorem dX6_take_77 : decode cX6_take 77 = .ok (.aload_n 0, 1) := by decide +kernel
theorem dX6_take_78 : decode cX6_take 78 = .ok (.getfield 29, 3) := by decide +kernel
theorem dX6_take_81 : decode cX6_take 81 = .ok (.iload_n 1, 1) := by decide +kernel
theorem dX6_take_82 : decode cX6_take 82 = .ok (.invokevirtual 225, 3) := by decide +kernel
theorem dX6_take_85 : decode cX6_take 85 = .ok (.istore 7, 2) := by decide +kernel
theorem dX6_take_87 : decode cX6_take 87 = .ok (.aload_n 0, 1) := by decide +kernel
theorem dX6_take_88 : decode cX6_take 88 = .ok (.iload_n 1, 1) := by decide +kernel
theorem dX6_take_89 : decode cX6_take 89 = .ok (.iload_n 2, 1) := by decide +kernel
theorem dX6_take_90 : decode cX6_take 90 = .ok (.iload_n 3, 1) := by decide +kernel
theorem dX6_take_91 : decode cX6_take 91 = .ok (.invokevirtual 262, 3) := by decide +kernel
theorem dX6_take_94 : decode cX6_take 94 = .ok (.istore 8, 2) := by decide +kernel
theorem dX6_take_96 : decode cX6_take 96 = .ok (.ldc 211, 2) := by decide +kernel
theorem dX6_take_98 : decode cX6_take 98 = .ok (.istore 9, 2) := by decide +kernel
theorem dX6_take_100 : decode cX6_take 100 = .ok (.iconst 0, 1) := by decide +kernel
theorem dX6_take_101 : decode cX6_take 101 = .ok (.istore 10, 2) := by decide +kernel
theorem dX6_take_103 : decode cX6_take 103 = .ok (.iload 10, 2) := by decide +kernel
theorem dX6_take_105 : decode cX6_take 105 = .ok (.iload 6, 2) := by decide +kernel
theorem dX6_take_107 : decode cX6_take 107 = .ok (.if_icmp .gt 83, 3) := by decide +kernel
theorem dX6_take_110 : decode cX6_take 110 = .ok (.iload 10, 2) := by decide +kernel
theorem dX6_take_112 : decode cX6_take 112 = .ok (.iload 8, 2) := by decide +kernel
theorem dX6_take_114 : decode cX6_take 114 = .ok (.iand, 1) := by decide +kernel
theorem dX6_take_115 : decode cX6_take 115 = .ok (.invokestatic 184, 3) := by decide +kernel
theorem dX6_take_118 : decode cX6_take 118 = .ok (.iload 10, 2) := by decide +kernel
theorem dX6_take_120 : decode cX6_take 120 = .ok (.iconst (-1), 1) := by decide +kernel
theorem dX6_take_121 : decode cX6_take 121 = .ok (.ixor, 1) := by decide +kernel
theorem dX6_take_122 : decode cX6_take 122 = .ok (.iload 7, 2) := by decide +kernel
theorem dX6_take_124 : decode cX6_take 124 = .ok (.iand, 1) := by decide +kernel
theorem dX6_take_125 : decode cX6_take 125 = .ok (.invokestatic 184, 3) := by decide +kernel
theorem dX6_take_128 : decode cX6_take 128 = .ok (.iadd, 1) := by decide +kernel
theorem dX6_take_129 : decode cX6_take 129 = .ok (.istore 11, 2) := by decide +kernel
theorem dX6_take_131 : decode cX6_take 131 = .ok (.iload 9, 2) := by decide +kernel
theorem dX6_take_133 : decode cX6_take 133 = .ok (.ldc 211, 2) := by decide +kernel
theorem dX6_take_135 : decode cX6_take 135 = .ok (.if_icmp .eq 16, 3) := by decide +kernel
theorem dX6_take_138 : decode cX6_take 138 = .ok (.iload 10, 2) := by decide +kernel
theorem dX6_take_140 : decode cX6_take 140 = .ok (.invokestatic 184, 3) := by decide +kernel
theorem dX6_take_143 : decode cX6_take 143 = .ok (.iload 9, 2) := by decide +kernel
theorem dX6_take_145 : decode cX6_take 145 = .ok (.invokestatic 184, 3) := by decide +kernel
theorem dX6_take_148 : decode cX6_take 148 = .ok (.if_icmp .ge 7, 3) := by decide +kernel
theorem dX6_take_151 : decode cX6_take 151 = .ok (.iconst 1, 1) := by decide +kernel
theorem dX6_take_152 : decode cX6_take 152 = .ok (.goto 4, 3) := by decide +kernel
theorem dX6_take_155 : decode cX6_take 155 = .ok (.iconst 0, 1) := by decide +kernel
theorem dX6_take_156 : decode cX6_take 156 = .ok (.istore 12, 2) := by decide +kernel
theorem dX6_take_158 : decode cX6_take 158 = .ok (.iload 10, 2) := by decide +kernel
theorem dX6_take_160 : decode cX6_take 160 = .ok (.iload 6, 2) := by decide +kernel
theorem dX6_take_162 : decode cX6_take 162 = .ok (.iconst (-1), 1) := by decide +kernel
theorem dX6_take_163 : decode cX6_take 163 = .ok (.ixor, 1) := by decide +kernel
theorem dX6_take_164 : decode cX6_take 164 = .ok (.iand, 1) := by decide +kernel
theorem dX6_take_165 : decode cX6_take 165 = .ok (.ifCond .ne 19, 3) := by decide +kernel
theorem dX6_take_168 : decode cX6_take 168 = .ok (.iload 11, 2) := by decide +kernel
theorem dX6_take_170 : decode cX6_take 170 = .ok (.iload 4, 2) := by decide +kernel
theorem dX6_take_172 : decode cX6_take 172 = .ok (.if_icmp .lt 12, 3) := by decide +kernel
theorem dX6_take_175 : decode cX6_take 175 = .ok (.iload 12, 2) := by decide +kernel
theorem dX6_take_177 : decode cX6_take 177 = .ok (.ifCond .eq 7, 3) := by decide +kernel
theorem dX6_take_180 : decode cX6_take 180 = .ok (.iload 10, 2) := by decide +kernel
theorem dX6_take_182 : decode cX6_take 182 = .ok (.istore 9, 2) := by decide +kernel
theorem dX6_take_184 : decode cX6_take 184 = .ok (.iinc 10 1, 3) := by decide +kernel
theorem dX6_take_187 : decode cX6_take 187 = .ok (.goto (-84), 3) := by decide +kernel
theorem dX6_take_190 : decode cX6_take 190 = .ok (.iload 9, 2) := by decide +kernel
theorem dX6_take_192 : decode cX6_take 192 = .ok (.ldc 211, 2) := by decide +kernel
theorem dX6_take_194 : decode cX6_take 194 = .ok (.if_icmp .eq 9, 3) := by decide +kernel
theorem dX6_take_197 : decode cX6_take 197 = .ok (.iload 5, 2) := by decide +kernel
theorem dX6_take_199 : decode cX6_take 199 = .ok (.iconst 1, 1) := by decide +kernel
theorem dX6_take_200 : decode cX6_take 200 = .ok (.if_icmp .ne 8, 3) := by decide +kernel
theorem dX6_take_203 : decode cX6_take 203 = .ok (.iload 9, 2) := by decide +kernel
theorem dX6_take_205 : decode cX6_take 205 = .ok (.goto 8, 3) := by decide +kernel
theorem dX6_take_208 : decode cX6_take 208 = .ok (.iload 9, 2) := by decide +kernel
theorem dX6_take_210 : decode cX6_take 210 = .ok (.invokestatic 184, 3) := by decide +kernel
theorem dX6_take_213 : decode cX6_take 213 = .ok (.ireturn, 1) := by decide +kernel
theorem dX6_pain_0 : decode cX6_pain 0 = .ok (.aload_n 0, 1) := by decide +kernel
theorem dX6_pain_1 : decode cX6_pain 1 = .ok (.iload_n 1, 1) := by decide +kernel
theorem dX6_pain_2 : decode cX6_pain 2 = .ok (.invokevirtual 142, 3) := by decide +kernel
theorem dX6_pain_5 : decode cX6_pain 5 = .ok (.ifCond .eq 17, 3) := by decide +kernel
theorem dX6_pain_8 : decode cX6_pain 8 = .ok (.iload_n 2, 1) := by decide +kernel
theorem dX6_pain_9 : decode cX6_pain 9 = .ok (.invokestatic 256, 3) := by decide +kernel
theorem dX6_pain_12 : decode cX6_pain 12 = .ok (.ifCond .eq 10, 3) := by decide +kernel
theorem dX6_pain_15 : decode cX6_pain 15 = .ok (.iload_n 3, 1) := by decide +kernel
theorem dX6_pain_16 : decode cX6_pain 16 = .ok (.invokestatic 253, 3) := by decide +kernel
theorem dX6_pain_19 : decode cX6_pain 19 = .ok (.ifCond .ne 6, 3) := by decide +kernel
theorem dX6_pain_22 : decode cX6_pain 22 = .ok (.ldc 66, 2) := by decide +kernel
theorem dX6_pain_24 : decode cX6_pain 24 = .ok (.ireturn, 1) := by decide +kernel
theorem dX6_pain_25 : decode cX6_pain 25 = .ok (.aload_n 0, 1) := by decide +kernel
theorem dX6_pain_26 : decode cX6_pain 26 = .ok (.getfield 29, 3) := by decide +kernel
theorem dX6_pain_29 : decode cX6_pain 29 = .ok (.aload_n 0, 1) := by decide +kernel
theorem dX6_pain_30 : decode cX6_pain 30 = .ok (.getfield 25, 3) := by decide +kernel
theorem dX6_pain_33 : decode cX6_pain 33 = .ok (.invokevirtual 124, 3) := by decide +kernel
theorem dX6_pain_36 : decode cX6_pain 36 = .ok (.iconst 1, 1) := by decide +kernel
theorem dX6_pain_37 : decode cX6_pain 37 = .ok (.istore 4, 2) := by decide +kernel
theorem dX6_pain_39 : decode cX6_pain 39 = .ok (.iload 4, 2) := by decide +kernel
theorem dX6_pain_41 : decode cX6_pain 41 = .ok (.bipush 9, 2) := by decide +kernel
theorem dX6_pain_43 : decode cX6_pain 43 = .ok (.if_icmp .gt 27, 3) := by decide +kernel
theorem dX6_pain_46 : decode cX6_pain 46 = .ok (.aload_n 0, 1) := by decide +kernel
theorem dX6_pain_47 : decode cX6_pain 47 = .ok (.iload_n 1, 1) := by decide +kernel
theorem dX6_pain_48 : decode cX6_pain 48 = .ok (.iload 4, 2) := by decide +kernel
theorem dX6_pain_50 : decode cX6_pain 50 = .ok (.iload_n 2, 1) := by decide +kernel
theorem dX6_pain_51 : decode cX6_pain 51 = .ok (.invokevirtual 262, 3) := by decide +kernel
theorem dX6_pain_54 : decode cX6_pain 54 = .ok (.invokestatic 184, 3) := by decide +kernel
theorem dX6_pain_57 : decode cX6_pain 57 = .ok (.iload_n 3, 1) := by decide +kernel
theorem dX6_pain_58 : decode cX6_pain 58 = .ok (.if_icmp .lt 6, 3) := by decide +kernel
theorem dX6_pain_61 : decode cX6_pain 61 = .ok (.iload 4, 2) := by decide +kernel
theorem dX6_pain_63 : decode cX6_pain 63 = .ok (.ireturn, 1) := by decide +kernel
theorem dX6_pain_64 : decode cX6_pain 64 = .ok (.iinc 4 1, 3) := by decide +kernel
theorem dX6_pain_67 : decode cX6_pain 67 = .ok (.goto (-28), 3) := by decide +kernel
theorem dX6_pain_70 : decode cX6_pain 70 = .ok (.ldc 211, 2) := by decide +kernel
theorem dX6_pain_72 : decode cX6_pain 72 = .ok (.ireturn, 1) := by decide +kernel
theorem dX6_order_0 : decode cX6_order 0 = .ok (.aload_n 0, 1) := by decide +kernel
theorem dX6_order_1 : decode cX6_order 1 = .ok (.iload_n 1, 1) := by decide +kernel
theorem dX6_order_2 : decode cX6_order 2 = .ok (.invokevirtual 142, 3) := by decide +kernel
theorem dX6_order_5 : decode cX6_order 5 = .ok (.ifCond .eq 14, 3) := by decide +kernel
theorem dX6_order_8 : decode cX6_order 8 = .ok (.iload_n 2, 1) := by decide +kernel
theorem dX6_order_9 : decode cX6_order 9 = .ok (.iconst (-1), 1) := by decide +kernel
theorem dX6_order_10 : decode cX6_order 10 = .ok (.if_icmp .lt 9, 3) := by decide +kernel
theorem dX6_order_13 : decode cX6_order 13 = .ok (.iload_n 2, 1) := by decide +kernel
theorem dX6_order_14 : decode cX6_order 14 = .ok (.bipush 6, 2) := by decide +kernel
theorem dX6_order_16 : decode cX6_order 16 = .ok (.if_icmp .lt 6, 3) := by decide +kernel
theorem dX6_order_19 : decode cX6_order 19 = .ok (.ldc 66, 2) := by decide +kernel
theorem dX6_order_21 : decode cX6_order 21 = .ok (.ireturn, 1) := by decide +kernel
theorem dX6_order_22 : decode cX6_order 22 = .ok (.aload_n 0, 1) := by decide +kernel
theorem dX6_order_23 : decode cX6_order 23 = .ok (.getfield 46, 3) := by decide +kernel
theorem dX6_order_26 : decode cX6_order 26 = .ok (.aload_n 0, 1) := by decide +kernel
theorem dX6_order_27 : decode cX6_order 27 = .ok (.getfield 25, 3) := by decide +kernel
theorem dX6_order_30 : decode cX6_order 30 = .ok (.iload_n 1, 1) := by decide +kernel
theorem dX6_order_31 : decode cX6_order 31 = .ok (.invokevirtual 218, 3) := by decide +kernel
theorem dX6_order_34 : decode cX6_order 34 = .ok (.aload_n 0, 1) := by decide +kernel
theorem dX6_order_35 : decode cX6_order 35 = .ok (.getfield 46, 3) := by decide +kernel
theorem dX6_order_38 : decode cX6_order 38 = .ok (.invokevirtual 265, 3) := by decide +kernel
theorem dX6_order_41 : decode cX6_order 41 = .ok (.iload_n 2, 1) := by decide +kernel
theorem dX6_order_42 : decode cX6_order 42 = .ok (.iconst (-1), 1) := by decide +kernel
theorem dX6_order_43 : decode cX6_order 43 = .ok (.if_icmp .ne 13, 3) := by decide +kernel
theorem dX6_order_46 : decode cX6_order 46 = .ok (.aload_n 0, 1) := by decide +kernel
theorem dX6_order_47 : decode cX6_order 47 = .ok (.getfield 46, 3) := by decide +kernel
theorem dX6_order_50 : decode cX6_order 50 = .ok (.invokevirtual 268, 3) := by decide +kernel
theorem dX6_order_53 : decode cX6_order 53 = .ok (.goto 11, 3) := by decide +kernel
theorem dX6_order_56 : decode cX6_order 56 = .ok (.aload_n 0, 1) := by decide +kernel
theorem dX6_order_57 : decode cX6_order 57 = .ok (.getfield 46, 3) := by decide +kernel
theorem dX6_order_60 : decode cX6_order 60 = .ok (.iload_n 2, 1) := by decide +kernel
theorem dX6_order_61 : decode cX6_order 61 = .ok (.invokevirtual 271, 3) := by decide +kernel
theorem dX6_order_64 : decode cX6_order 64 = .ok (.ireturn, 1) := by decide +kernel
theorem dX6_stood_0 : decode cX6_stood 0 = .ok (.aload_n 0, 1) := by decide +kernel
theorem dX6_stood_1 : decode cX6_stood 1 = .ok (.getfield 25, 3) := by decide +kernel
theorem dX6_stood_4 : decode cX6_stood 4 = .ok (.getfield 175, 3) := by decide +kernel
theorem dX6_stood_7 : decode cX6_stood 7 = .ok (.ifCond .ne 6, 3) := by decide +kernel
theorem dX6_stood_10 : decode cX6_stood 10 = .ok (.ldc 138, 2) := by decide +kernel
theorem dX6_stood_12 : decode cX6_stood 12 = .ok (.ireturn, 1) := by decide +kernel
theorem dX6_stood_13 : decode cX6_stood 13 = .ok (.iload_n 1, 1) := by decide +kernel
theorem dX6_stood_14 : decode cX6_stood 14 = .ok (.invokestatic 62, 3) := by decide +kernel
theorem dX6_stood_17 : decode cX6_stood 17 = .ok (.ifCond .eq 10, 3) := by decide +kernel
theorem dX6_stood_20 : decode cX6_stood 20 = .ok (.iload_n 3, 1) := by decide +kernel
theorem dX6_stood_21 : decode cX6_stood 21 = .ok (.invokestatic 241, 3) := by decide +kernel
theorem dX6_stood_24 : decode cX6_stood 24 = .ok (.ifCond .ne 6, 3) := by decide +kernel
theorem dX6_stood_27 : decode cX6_stood 27 = .ok (.ldc 66, 2) := by decide +kernel
theorem dX6_stood_29 : decode cX6_stood 29 = .ok (.ireturn, 1) := by decide +kernel
theorem dX6_stood_30 : decode cX6_stood 30 = .ok (.aload_n 0, 1) := by decide +kernel
theorem dX6_stood_31 : decode cX6_stood 31 = .ok (.getfield 11, 3) := by decide +kernel
theorem dX6_stood_34 : decode cX6_stood 34 = .ok (.iload_n 1, 1) := by decide +kernel
theorem dX6_stood_35 : decode cX6_stood 35 = .ok (.aaload, 1) := by decide +kernel
theorem dX6_stood_36 : decode cX6_stood 36 = .ok (.astore 4, 2) := by decide +kernel
theorem dX6_stood_38 : decode cX6_stood 38 = .ok (.aload 4, 2) := by decide +kernel
theorem dX6_stood_40 : decode cX6_stood 40 = .ok (.getfield 78, 3) := by decide +kernel
theorem dX6_stood_43 : decode cX6_stood 43 = .ok (.ifCond .ne 9, 3) := by decide +kernel
theorem dX6_stood_46 : decode cX6_stood 46 = .ok (.aload_n 0, 1) := by decide +kernel
theorem dX6_stood_47 : decode cX6_stood 47 = .ok (.iconst 1, 1) := by decide +kernel
theorem dX6_stood_48 : decode cX6_stood 48 = .ok (.invokevirtual 67, 3) := by decide +kernel
theorem dX6_stood_51 : decode cX6_stood 51 = .ok (.ireturn, 1) := by decide +kernel
theorem dX6_stood_52 : decode cX6_stood 52 = .ok (.aload 4, 2) := by decide +kernel
theorem dX6_stood_54 : decode cX6_stood 54 = .ok (.iload_n 2, 1) := by decide +kernel
theorem dX6_stood_55 : decode cX6_stood 55 = .ok (.aload_n 0, 1) := by decide +kernel
theorem dX6_stood_56 : decode cX6_stood 56 = .ok (.getfield 25, 3) := by decide +kernel
theorem dX6_stood_59 : decode cX6_stood 59 = .ok (.getfield 131, 3) := by decide +kernel
theorem dX6_stood_62 : decode cX6_stood 62 = .ok (.invokevirtual 82, 3) := by decide +kernel
theorem dX6_stood_65 : decode cX6_stood 65 = .ok (.ifCond .ne 9, 3) := by decide +kernel
theorem dX6_stood_68 : decode cX6_stood 68 = .ok (.aload_n 0, 1) := by decide +kernel
theorem dX6_stood_69 : decode cX6_stood 69 = .ok (.iconst 2, 1) := by decide +kernel
theorem dX6_stood_70 : decode cX6_stood 70 = .ok (.invokevirtual 67, 3) := by decide +kernel
theorem dX6_stood_73 : decode cX6_stood 73 = .ok (.ireturn, 1) := by decide +kernel
theorem dX6_stood_74 : decode cX6_stood 74 = .ok (.lconst 0, 1) := by decide +kernel
theorem dX6_stood_75 : decode cX6_stood 75 = .ok (.lstore 5, 2) := by decide +kernel
theorem dX6_stood_77 : decode cX6_stood 77 = .ok (.ldc2_w 274, 3) := by decide +kernel
theorem dX6_stood_80 : decode cX6_stood 80 = .ok (.lstore 7, 2) := by decide +kernel
theorem dX6_stood_82 : decode cX6_stood 82 = .ok (.iconst 0, 1) := by decide +kernel
theorem dX6_stood_83 : decode cX6_stood 83 = .ok (.istore 9, 2) := by decide +kernel
theorem dX6_stood_85 : decode cX6_stood 85 = .ok (.iload 9, 2) := by decide +kernel
theorem dX6_stood_87 : decode cX6_stood 87 = .ok (.aload_n 0, 1) := by decide +kernel
theorem dX6_stood_88 : decode cX6_stood 88 = .ok (.getfield 25, 3) := by decide +kernel
theorem dX6_stood_91 : decode cX6_stood 91 = .ok (.getfield 131, 3) := by decide +kernel
theorem dX6_stood_94 : decode cX6_stood 94 = .ok (.if_icmp .ge 79, 3) := by decide +kernel
theorem dX6_stood_97 : decode cX6_stood 97 = .ok (.aload 4, 2) := by decide +kernel
theorem dX6_stood_99 : decode cX6_stood 99 = .ok (.getfield 86, 3) := by decide +kernel
theorem dX6_stood_102 : decode cX6_stood 102 = .ok (.iload_n 2, 1) := by decide +kernel
theorem dX6_stood_103 : decode cX6_stood 103 = .ok (.iload 9, 2) := by decide +kernel
theorem dX6_stood_105 : decode cX6_stood 105 = .ok (.iadd, 1) := by decide +kernel
theorem dX6_stood_106 : decode cX6_stood 106 = .ok (.iaload, 1) := by decide +kernel
theorem dX6_stood_107 : decode cX6_stood 107 = .ok (.i2l, 1) := by decide +kernel
theorem dX6_stood_108 : decode cX6_stood 108 = .ok (.lstore 10, 2) := by decide +kernel
theorem dX6_stood_110 : decode cX6_stood 110 = .ok (.lload 10, 2) := by decide +kernel
theorem dX6_stood_112 : decode cX6_stood 112 = .ok (.ldc2_w 276, 3) := by decide +kernel
theorem dX6_stood_115 : decode cX6_stood 115 = .ok (.lcmp, 1) := by decide +kernel
theorem dX6_stood_116 : decode cX6_stood 116 = .ok (.ifCond .eq 51, 3) := by decide +kernel
theorem dX6_stood_119 : decode cX6_stood 119 = .ok (.aload_n 0, 1) := by decide +kernel
theorem dX6_stood_120 : decode cX6_stood 120 = .ok (.getfield 25, 3) := by decide +kernel
theorem dX6_stood_123 : decode cX6_stood 123 = .ok (.getfield 169, 3) := by decide +kernel
theorem dX6_stood_126 : decode cX6_stood 126 = .ok (.iload 9, 2) := by decide +kernel
theorem dX6_stood_128 : decode cX6_stood 128 = .ok (.iaload, 1) := by decide +kernel
theorem dX6_stood_129 : decode cX6_stood 129 = .ok (.iconst 3, 1) := by decide +kernel
theorem dX6_stood_130 : decode cX6_stood 130 = .ok (.if_icmp .ne 8, 3) := by decide +kernel
theorem dX6_stood_133 : decode cX6_stood 133 = .ok (.bipush 12, 2) := by decide +kernel
theorem dX6_stood_135 : decode cX6_stood 135 = .ok (.goto 4, 3) := by decide +kernel
theorem dX6_stood_138 : decode cX6_stood 138 = .ok (.iconst 3, 1) := by decide +kernel
theorem dX6_stood_139 : decode cX6_stood 139 = .ok (.istore 12, 2) := by decide +kernel
theorem dX6_stood_141 : decode cX6_stood 141 = .ok (.lload 5, 2) := by decide +kernel
theorem dX6_stood_143 : decode cX6_stood 143 = .ok (.lload 10, 2) := by decide +kernel
theorem dX6_stood_145 : decode cX6_stood 145 = .ok (.iload 12, 2) := by decide +kernel
theorem dX6_stood_147 : decode cX6_stood 147 = .ok (.i2l, 1) := by decide +kernel
theorem dX6_stood_148 : decode cX6_stood 148 = .ok (.lsub, 1) := by decide +kernel
theorem dX6_stood_149 : decode cX6_stood 149 = .ok (.invokestatic 278, 3) := by decide +kernel
theorem dX6_stood_152 : decode cX6_stood 152 = .ok (.lstore 5, 2) := by decide +kernel
theorem dX6_stood_154 : decode cX6_stood 154 = .ok (.lload 7, 2) := by decide +kernel
theorem dX6_stood_156 : decode cX6_stood 156 = .ok (.lload 10, 2) := by decide +kernel
theorem dX6_stood_158 : decode cX6_stood 158 = .ok (.ldc2_w 284, 3) := by decide +kernel
theorem dX6_stood_161 : decode cX6_stood 161 = .ok (.ladd, 1) := by decide +kernel
theorem dX6_stood_162 : decode cX6_stood 162 = .ok (.invokestatic 286, 3) := by decide +kernel
theorem dX6_stood_165 : decode cX6_stood 165 = .ok (.lstore 7, 2) := by decide +kernel
theorem dX6_stood_167 : decode cX6_stood 167 = .ok (.iinc 9 1, 3) := by decide +kernel
theorem dX6_stood_170 : decode cX6_stood 170 = .ok (.goto (-85), 3) := by decide +kernel
theorem dX6_stood_173 : decode cX6_stood 173 = .ok (.lload 5, 2) := by decide +kernel
theorem dX6_stood_175 : decode cX6_stood 175 = .ok (.lload 7, 2) := by decide +kernel
theorem dX6_stood_177 : decode cX6_stood 177 = .ok (.lcmp, 1) := by decide +kernel
theorem dX6_stood_178 : decode cX6_stood 178 = .ok (.ifCond .le 18, 3) := by decide +kernel
theorem dX6_stood_181 : decode cX6_stood 181 = .ok (.aload_n 0, 1) := by decide +kernel
theorem dX6_stood_182 : decode cX6_stood 182 = .ok (.iload_n 3, 1) := by decide +kernel
theorem dX6_stood_183 : decode cX6_stood 183 = .ok (.ifCond .ne 7, 3) := by decide +kernel
theorem dX6_stood_186 : decode cX6_stood 186 = .ok (.iconst 0, 1) := by decide +kernel
theorem dX6_stood_187 : decode cX6_stood 187 = .ok (.goto 5, 3) := by decide +kernel
theorem dX6_stood_190 : decode cX6_stood 190 = .ok (.ldc 211, 2) := by decide +kernel
theorem dX6_stood_192 : decode cX6_stood 192 = .ok (.invokevirtual 75, 3) := by decide +kernel
theorem dX6_stood_195 : decode cX6_stood 195 = .ok (.ireturn, 1) := by decide +kernel
theorem dX6_stood_196 : decode cX6_stood 196 = .ok (.aload_n 0, 1) := by decide +kernel
theorem dX6_stood_197 : decode cX6_stood 197 = .ok (.iload_n 3, 1) := by decide +kernel
theorem dX6_stood_198 : decode cX6_stood 198 = .ok (.ifCond .ne 13, 3) := by decide +kernel
theorem dX6_stood_201 : decode cX6_stood 201 = .ok (.lload 7, 2) := by decide +kernel
theorem dX6_stood_203 : decode cX6_stood 203 = .ok (.lload 5, 2) := by decide +kernel
theorem dX6_stood_205 : decode cX6_stood 205 = .ok (.lsub, 1) := by decide +kernel
theorem dX6_stood_206 : decode cX6_stood 206 = .ok (.lconst 1, 1) := by decide +kernel
theorem dX6_stood_207 : decode cX6_stood 207 = .ok (.ladd, 1) := by decide +kernel
theorem dX6_stood_208 : decode cX6_stood 208 = .ok (.goto 5, 3) := by decide +kernel
theorem dX6_stood_211 : decode cX6_stood 211 = .ok (.lload 5, 2) := by decide +kernel
theorem dX6_stood_213 : decode cX6_stood 213 = .ok (.l2i, 1) := by decide +kernel
theorem dX6_stood_214 : decode cX6_stood 214 = .ok (.invokevirtual 75, 3) := by decide +kernel
theorem dX6_stood_217 : decode cX6_stood 217 = .ok (.ireturn, 1) := by decide +kernel
theorem dX6_shift_0 : decode cX6_shift 0 = .ok (.aload_n 0, 1) := by decide +kernel
theorem dX6_shift_1 : decode cX6_shift 1 = .ok (.iload_n 1, 1) := by decide +kernel
theorem dX6_shift_2 : decode cX6_shift 2 = .ok (.invokevirtual 142, 3) := by decide +kernel
theorem dX6_shift_5 : decode cX6_shift 5 = .ok (.ifCond .eq 13, 3) := by decide +kernel
theorem dX6_shift_8 : decode cX6_shift 8 = .ok (.iload_n 2, 1) := by decide +kernel
theorem dX6_shift_9 : decode cX6_shift 9 = .ok (.ifCond .lt 9, 3) := by decide +kernel
theorem dX6_shift_12 : decode cX6_shift 12 = .ok (.iload_n 2, 1) := by decide +kernel
theorem dX6_shift_13 : decode cX6_shift 13 = .ok (.bipush 6, 2) := by decide +kernel
theorem dX6_shift_15 : decode cX6_shift 15 = .ok (.if_icmp .le 6, 3) := by decide +kernel
theorem dX6_shift_18 : decode cX6_shift 18 = .ok (.ldc 66, 2) := by decide +kernel
theorem dX6_shift_20 : decode cX6_shift 20 = .ok (.ireturn, 1) := by decide +kernel
theorem dX6_shift_21 : decode cX6_shift 21 = .ok (.aload_n 0, 1) := by decide +kernel
theorem dX6_shift_22 : decode cX6_shift 22 = .ok (.getfield 46, 3) := by decide +kernel
theorem dX6_shift_25 : decode cX6_shift 25 = .ok (.aload_n 0, 1) := by decide +kernel
theorem dX6_shift_26 : decode cX6_shift 26 = .ok (.getfield 25, 3) := by decide +kernel
theorem dX6_shift_29 : decode cX6_shift 29 = .ok (.iload_n 1, 1) := by decide +kernel
theorem dX6_shift_30 : decode cX6_shift 30 = .ok (.invokevirtual 218, 3) := by decide +kernel
theorem dX6_shift_33 : decode cX6_shift 33 = .ok (.aload_n 0, 1) := by decide +kernel
theorem dX6_shift_34 : decode cX6_shift 34 = .ok (.getfield 46, 3) := by decide +kernel
theorem dX6_shift_37 : decode cX6_shift 37 = .ok (.getfield 222, 3) := by decide +kernel
theorem dX6_shift_40 : decode cX6_shift 40 = .ok (.ifCond .ne 6, 3) := by decide +kernel
theorem dX6_shift_43 : decode cX6_shift 43 = .ok (.ldc 211, 2) := by decide +kernel
theorem dX6_shift_45 : decode cX6_shift 45 = .ok (.ireturn, 1) := by decide +kernel
theorem dX6_shift_46 : decode cX6_shift 46 = .ok (.aload_n 0, 1) := by decide +kernel
theorem dX6_shift_47 : decode cX6_shift 47 = .ok (.getfield 46, 3) := by decide +kernel
theorem dX6_shift_50 : decode cX6_shift 50 = .ok (.invokevirtual 234, 3) := by decide +kernel
theorem dX6_shift_53 : decode cX6_shift 53 = .ok (.istore_n 3, 1) := by decide +kernel
theorem dX6_shift_54 : decode cX6_shift 54 = .ok (.aload_n 0, 1) := by decide +kernel
theorem dX6_shift_55 : decode cX6_shift 55 = .ok (.getfield 46, 3) := by decide +kernel
theorem dX6_shift_58 : decode cX6_shift 58 = .ok (.aload_n 0, 1) := by decide +kernel
theorem dX6_shift_59 : decode cX6_shift 59 = .ok (.getfield 25, 3) := by decide +kernel
theorem dX6_shift_62 : decode cX6_shift 62 = .ok (.iload_n 2, 1) := by decide +kernel
theorem dX6_shift_63 : decode cX6_shift 63 = .ok (.invokevirtual 289, 3) := by decide +kernel
theorem dX6_shift_66 : decode cX6_shift 66 = .ok (.aload_n 0, 1) := by decide +kernel
theorem dX6_shift_67 : decode cX6_shift 67 = .ok (.getfield 46, 3) := by decide +kernel
theorem dX6_shift_70 : decode cX6_shift 70 = .ok (.invokevirtual 234, 3) := by decide +kernel
theorem dX6_shift_73 : decode cX6_shift 73 = .ok (.iload_n 3, 1) := by decide +kernel
theorem dX6_shift_74 : decode cX6_shift 74 = .ok (.isub, 1) := by decide +kernel
theorem dX6_shift_75 : decode cX6_shift 75 = .ok (.ireturn, 1) := by decide +kernel
theorem dX6_map_0 : decode cX6_map 0 = .ok (.aload_n 0, 1) := by decide +kernel
theorem dX6_map_1 : decode cX6_map 1 = .ok (.iload_n 1, 1) := by decide +kernel
theorem dX6_map_2 : decode cX6_map 2 = .ok (.invokevirtual 142, 3) := by decide +kernel
theorem dX6_map_5 : decode cX6_map 5 = .ok (.ifCond .eq 10, 3) := by decide +kernel
theorem dX6_map_8 : decode cX6_map 8 = .ok (.iload_n 2, 1) := by decide +kernel
theorem dX6_map_9 : decode cX6_map 9 = .ok (.invokestatic 160, 3) := by decide +kernel
theorem dX6_map_12 : decode cX6_map 12 = .ok (.ifCond .ne 6, 3) := by decide +kernel
theorem dX6_map_15 : decode cX6_map 15 = .ok (.ldc 66, 2) := by decide +kernel
theorem dX6_map_17 : decode cX6_map 17 = .ok (.ireturn, 1) := by decide +kernel
theorem dX6_map_18 : decode cX6_map 18 = .ok (.aload_n 0, 1) := by decide +kernel
theorem dX6_map_19 : decode cX6_map 19 = .ok (.getfield 46, 3) := by decide +kernel
theorem dX6_map_22 : decode cX6_map 22 = .ok (.aload_n 0, 1) := by decide +kernel
theorem dX6_map_23 : decode cX6_map 23 = .ok (.getfield 25, 3) := by decide +kernel
theorem dX6_map_26 : decode cX6_map 26 = .ok (.iload_n 1, 1) := by decide +kernel
theorem dX6_map_27 : decode cX6_map 27 = .ok (.invokevirtual 218, 3) := by decide +kernel
theorem dX6_map_30 : decode cX6_map 30 = .ok (.aload_n 0, 1) := by decide +kernel
theorem dX6_map_31 : decode cX6_map 31 = .ok (.getfield 46, 3) := by decide +kernel
theorem dX6_map_34 : decode cX6_map 34 = .ok (.getfield 222, 3) := by decide +kernel
theorem dX6_map_37 : decode cX6_map 37 = .ok (.aload_n 0, 1) := by decide +kernel
theorem dX6_map_38 : decode cX6_map 38 = .ok (.getfield 46, 3) := by decide +kernel
theorem dX6_map_41 : decode cX6_map 41 = .ok (.iload_n 2, 1) := by decide +kernel
theorem dX6_map_42 : decode cX6_map 42 = .ok (.invokevirtual 244, 3) := by decide +kernel
theorem dX6_map_45 : decode cX6_map 45 = .ok (.isub, 1) := by decide +kernel
theorem dX6_map_46 : decode cX6_map 46 = .ok (.ireturn, 1) := by decide +kernel
theorem dX6_agree_0 : decode cX6_agree 0 = .ok (.aload_n 0, 1) := by decide +kernel
theorem dX6_agree_1 : decode cX6_agree 1 = .ok (.getfield 25, 3) := by decide +kernel
theorem dX6_agree_4 : decode cX6_agree 4 = .ok (.getfield 175, 3) := by decide +kernel
theorem dX6_agree_7 : decode cX6_agree 7 = .ok (.ifCond .ne 6, 3) := by decide +kernel
theorem dX6_agree_10 : decode cX6_agree 10 = .ok (.ldc 138, 2) := by decide +kernel
theorem dX6_agree_12 : decode cX6_agree 12 = .ok (.ireturn, 1) := by decide +kernel
theorem dX6_agree_13 : decode cX6_agree 13 = .ok (.iload_n 1, 1) := by decide +kernel
theorem dX6_agree_14 : decode cX6_agree 14 = .ok (.invokestatic 253, 3) := by decide +kernel
theorem dX6_agree_17 : decode cX6_agree 17 = .ok (.ifCond .ne 6, 3) := by decide +kernel
theorem dX6_agree_20 : decode cX6_agree 20 = .ok (.ldc 66, 2) := by decide +kernel
theorem dX6_agree_22 : decode cX6_agree 22 = .ok (.ireturn, 1) := by decide +kernel
theorem dX6_agree_23 : decode cX6_agree 23 = .ok (.iconst 0, 1) := by decide +kernel
theorem dX6_agree_24 : decode cX6_agree 24 = .ok (.istore_n 2, 1) := by decide +kernel
theorem dX6_agree_25 : decode cX6_agree 25 = .ok (.iconst 0, 1) := by decide +kernel
theorem dX6_agree_26 : decode cX6_agree 26 = .ok (.istore_n 3, 1) := by decide +kernel
theorem dX6_agree_27 : decode cX6_agree 27 = .ok (.iload_n 3, 1) := by decide +kernel
theorem dX6_agree_28 : decode cX6_agree 28 = .ok (.aload_n 0, 1) := by decide +kernel
theorem dX6_agree_29 : decode cX6_agree 29 = .ok (.getfield 25, 3) := by decide +kernel
theorem dX6_agree_32 : decode cX6_agree 32 = .ok (.getfield 292, 3) := by decide +kernel
theorem dX6_agree_35 : decode cX6_agree 35 = .ok (.if_icmp .ge 45, 3) := by decide +kernel
theorem dX6_agree_38 : decode cX6_agree 38 = .ok (.aload_n 0, 1) := by decide +kernel
theorem dX6_agree_39 : decode cX6_agree 39 = .ok (.getfield 46, 3) := by decide +kernel
theorem dX6_agree_42 : decode cX6_agree 42 = .ok (.aload_n 0, 1) := by decide +kernel
theorem dX6_agree_43 : decode cX6_agree 43 = .ok (.getfield 25, 3) := by decide +kernel
theorem dX6_agree_46 : decode cX6_agree 46 = .ok (.iload_n 3, 1) := by decide +kernel
theorem dX6_agree_47 : decode cX6_agree 47 = .ok (.invokevirtual 218, 3) := by decide +kernel
theorem dX6_agree_50 : decode cX6_agree 50 = .ok (.aload_n 0, 1) := by decide +kernel
theorem dX6_agree_51 : decode cX6_agree 51 = .ok (.getfield 46, 3) := by decide +kernel
theorem dX6_agree_54 : decode cX6_agree 54 = .ok (.aload_n 0, 1) := by decide +kernel
theorem dX6_agree_55 : decode cX6_agree 55 = .ok (.getfield 46, 3) := by decide +kernel
theorem dX6_agree_58 : decode cX6_agree 58 = .ok (.invokevirtual 250, 3) := by decide +kernel
theorem dX6_agree_61 : decode cX6_agree 61 = .ok (.invokevirtual 244, 3) := by decide +kernel
theorem dX6_agree_64 : decode cX6_agree 64 = .ok (.iload_n 1, 1) := by decide +kernel
theorem dX6_agree_65 : decode cX6_agree 65 = .ok (.if_icmp .lt 9, 3) := by decide +kernel
theorem dX6_agree_68 : decode cX6_agree 68 = .ok (.iload_n 2, 1) := by decide +kernel
theorem dX6_agree_69 : decode cX6_agree 69 = .ok (.iconst 1, 1) := by decide +kernel
theorem dX6_agree_70 : decode cX6_agree 70 = .ok (.iload_n 3, 1) := by decide +kernel
theorem dX6_agree_71 : decode cX6_agree 71 = .ok (.ishl, 1) := by decide +kernel
theorem dX6_agree_72 : decode cX6_agree 72 = .ok (.ior, 1) := by decide +kernel
theorem dX6_agree_73 : decode cX6_agree 73 = .ok (.istore_n 2, 1) := by decide +kernel
theorem dX6_agree_74 : decode cX6_agree 74 = .ok (.iinc 3 1, 3) := by decide +kernel
theorem dX6_agree_77 : decode cX6_agree 77 = .ok (.goto (-50), 3) := by decide +kernel
theorem dX6_agree_80 : decode cX6_agree 80 = .ok (.iload_n 2, 1) := by decide +kernel
theorem dX6_agree_81 : decode cX6_agree 81 = .ok (.ireturn, 1) := by decide +kernel
theorem dX6_drawn_0 : decode cX6_drawn 0 = .ok (.aload_n 0, 1) := by decide +kernel
theorem dX6_drawn_1 : decode cX6_drawn 1 = .ok (.getfield 25, 3) := by decide +kernel
theorem dX6_drawn_4 : decode cX6_drawn 4 = .ok (.getfield 175, 3) := by decide +kernel
theorem dX6_drawn_7 : decode cX6_drawn 7 = .ok (.ifCond .ne 6, 3) := by decide +kernel
theorem dX6_drawn_10 : decode cX6_drawn 10 = .ok (.ldc 138, 2) := by decide +kernel
theorem dX6_drawn_12 : decode cX6_drawn 12 = .ok (.ireturn, 1) := by decide +kernel
theorem dX6_drawn_13 : decode cX6_drawn 13 = .ok (.iload_n 1, 1) := by decide +kernel
theorem dX6_drawn_14 : decode cX6_drawn 14 = .ok (.ifCond .lt 28, 3) := by decide +kernel
theorem dX6_drawn_17 : decode cX6_drawn 17 = .ok (.iload_n 1, 1) := by decide +kernel
theorem dX6_drawn_18 : decode cX6_drawn 18 = .ok (.bipush 60, 2) := by decide +kernel
theorem dX6_drawn_20 : decode cX6_drawn 20 = .ok (.if_icmp .gt 22, 3) := by decide +kernel
theorem dX6_drawn_23 : decode cX6_drawn 23 = .ok (.iload_n 2, 1) := by decide +kernel
theorem dX6_drawn_24 : decode cX6_drawn 24 = .ok (.iconst 1, 1) := by decide +kernel
theorem dX6_drawn_25 : decode cX6_drawn 25 = .ok (.if_icmp .lt 17, 3) := by decide +kernel
theorem dX6_drawn_28 : decode cX6_drawn 28 = .ok (.iload_n 2, 1) := by decide +kernel
theorem dX6_drawn_29 : decode cX6_drawn 29 = .ok (.ldc_w 295, 3) := by decide +kernel
theorem dX6_drawn_32 : decode cX6_drawn 32 = .ok (.if_icmp .gt 10, 3) := by decide +kernel
theorem dX6_drawn_35 : decode cX6_drawn 35 = .ok (.iload_n 3, 1) := by decide +kernel
theorem dX6_drawn_36 : decode cX6_drawn 36 = .ok (.invokestatic 241, 3) := by decide +kernel
theorem dX6_drawn_39 : decode cX6_drawn 39 = .ok (.ifCond .ne 6, 3) := by decide +kernel
theorem dX6_drawn_42 : decode cX6_drawn 42 = .ok (.ldc 66, 2) := by decide +kernel
theorem dX6_drawn_44 : decode cX6_drawn 44 = .ok (.ireturn, 1) := by decide +kernel
theorem dX6_drawn_45 : decode cX6_drawn 45 = .ok (.aload_n 0, 1) := by decide +kernel
theorem dX6_drawn_46 : decode cX6_drawn 46 = .ok (.getfield 29, 3) := by decide +kernel
theorem dX6_drawn_49 : decode cX6_drawn 49 = .ok (.aload_n 0, 1) := by decide +kernel
theorem dX6_drawn_50 : decode cX6_drawn 50 = .ok (.getfield 25, 3) := by decide +kernel
theorem dX6_drawn_53 : decode cX6_drawn 53 = .ok (.invokevirtual 124, 3) := by decide +kernel
theorem dX6_drawn_56 : decode cX6_drawn 56 = .ok (.iload_n 2, 1) := by decide +kernel
theorem dX6_drawn_57 : decode cX6_drawn 57 = .ok (.i2l, 1) := by decide +kernel
theorem dX6_drawn_58 : decode cX6_drawn 58 = .ok (.lstore 4, 2) := by decide +kernel
theorem dX6_drawn_60 : decode cX6_drawn 60 = .ok (.iconst 0, 1) := by decide +kernel
theorem dX6_drawn_61 : decode cX6_drawn 61 = .ok (.istore 6, 2) := by decide +kernel
theorem dX6_drawn_63 : decode cX6_drawn 63 = .ok (.iload 6, 2) := by decide +kernel
theorem dX6_drawn_65 : decode cX6_drawn 65 = .ok (.iload_n 1, 1) := by decide +kernel
theorem dX6_drawn_66 : decode cX6_drawn 66 = .ok (.if_icmp .ge 30, 3) := by decide +kernel
theorem dX6_drawn_69 : decode cX6_drawn 69 = .ok (.lload 4, 2) := by decide +kernel
theorem dX6_drawn_71 : decode cX6_drawn 71 = .ok (.ldc2_w 296, 3) := by decide +kernel
theorem dX6_drawn_74 : decode cX6_drawn 74 = .ok (.lmul, 1) := by decide +kernel
theorem dX6_drawn_75 : decode cX6_drawn 75 = .ok (.ldc2_w 298, 3) := by decide +kernel
theorem dX6_drawn_78 : decode cX6_drawn 78 = .ok (.lrem, 1) := by decide +kernel
theorem dX6_drawn_79 : decode cX6_drawn 79 = .ok (.lstore 4, 2) := by decide +kernel
theorem dX6_drawn_81 : decode cX6_drawn 81 = .ok (.aload_n 0, 1) := by decide +kernel
theorem dX6_drawn_82 : decode cX6_drawn 82 = .ok (.getfield 29, 3) := by decide +kernel
theorem dX6_drawn_85 : decode cX6_drawn 85 = .ok (.lload 4, 2) := by decide +kernel
theorem dX6_drawn_87 : decode cX6_drawn 87 = .ok (.invokevirtual 300, 3) := by decide +kernel
theorem dX6_drawn_90 : decode cX6_drawn 90 = .ok (.iinc 6 1, 3) := by decide +kernel
theorem dX6_drawn_93 : decode cX6_drawn 93 = .ok (.goto (-30), 3) := by decide +kernel
theorem dX6_drawn_96 : decode cX6_drawn 96 = .ok (.iload_n 3, 1) := by decide +kernel
theorem dX6_drawn_97 : decode cX6_drawn 97 = .ok (.ifCond .ne 13, 3) := by decide +kernel
theorem dX6_drawn_100 : decode cX6_drawn 100 = .ok (.aload_n 0, 1) := by decide +kernel
theorem dX6_drawn_101 : decode cX6_drawn 101 = .ok (.getfield 29, 3) := by decide +kernel
theorem dX6_drawn_104 : decode cX6_drawn 104 = .ok (.invokevirtual 304, 3) := by decide +kernel
theorem dX6_drawn_107 : decode cX6_drawn 107 = .ok (.goto 10, 3) := by decide +kernel
theorem dX6_drawn_110 : decode cX6_drawn 110 = .ok (.aload_n 0, 1) := by decide +kernel
theorem dX6_drawn_111 : decode cX6_drawn 111 = .ok (.getfield 29, 3) := by decide +kernel
theorem dX6_drawn_114 : decode cX6_drawn 114 = .ok (.invokevirtual 307, 3) := by decide +kernel
theorem dX6_drawn_117 : decode cX6_drawn 117 = .ok (.ireturn, 1) := by decide +kernel
theorem dX6_image_0 : decode cX6_image 0 = .ok (.iload_n 1, 1) := by decide +kernel
theorem dX6_image_1 : decode cX6_image 1 = .ok (.ifCond .lt 8, 3) := by decide +kernel
theorem dX6_image_4 : decode cX6_image 4 = .ok (.iload_n 1, 1) := by decide +kernel
theorem dX6_image_5 : decode cX6_image 5 = .ok (.iconst 2, 1) := by decide +kernel
theorem dX6_image_6 : decode cX6_image 6 = .ok (.if_icmp .lt 6, 3) := by decide +kernel
theorem dX6_image_9 : decode cX6_image 9 = .ok (.ldc 66, 2) := by decide +kernel
theorem dX6_image_11 : decode cX6_image 11 = .ok (.ireturn, 1) := by decide +kernel
theorem dX6_image_12 : decode cX6_image 12 = .ok (.aload_n 0, 1) := by decide +kernel
theorem dX6_image_13 : decode cX6_image 13 = .ok (.getfield 25, 3) := by decide +kernel
theorem dX6_image_16 : decode cX6_image 16 = .ok (.getfield 175, 3) := by decide +kernel
theorem dX6_image_19 : decode cX6_image 19 = .ok (.ifCond .ne 6, 3) := by decide +kernel
theorem dX6_image_22 : decode cX6_image 22 = .ok (.ldc 138, 2) := by decide +kernel
theorem dX6_image_24 : decode cX6_image 24 = .ok (.ireturn, 1) := by decide +kernel
theorem dX6_image_25 : decode cX6_image 25 = .ok (.aload_n 0, 1) := by decide +kernel
theorem dX6_image_26 : decode cX6_image 26 = .ok (.getfield 32, 3) := by decide +kernel
theorem dX6_image_29 : decode cX6_image 29 = .ok (.iload_n 1, 1) := by decide +kernel
theorem dX6_image_30 : decode cX6_image 30 = .ok (.aaload, 1) := by decide +kernel
theorem dX6_image_31 : decode cX6_image 31 = .ok (.aload_n 0, 1) := by decide +kernel
theorem dX6_image_32 : decode cX6_image 32 = .ok (.getfield 25, 3) := by decide +kernel
theorem dX6_image_35 : decode cX6_image 35 = .ok (.invokevirtual 124, 3) := by decide +kernel
theorem dX6_image_38 : decode cX6_image 38 = .ok (.iconst 1, 1) := by decide +kernel
theorem dX6_image_39 : decode cX6_image 39 = .ok (.ireturn, 1) := by decide +kernel
theorem dX6_restore_0 : decode cX6_restore 0 = .ok (.iload_n 1, 1) := by decide +kernel
theorem dX6_restore_1 : decode cX6_restore 1 = .ok (.ifCond .lt 8, 3) := by decide +kernel
theorem dX6_restore_4 : decode cX6_restore 4 = .ok (.iload_n 1, 1) := by decide +kernel
theorem dX6_restore_5 : decode cX6_restore 5 = .ok (.iconst 2, 1) := by decide +kernel
theorem dX6_restore_6 : decode cX6_restore 6 = .ok (.if_icmp .lt 6, 3) := by decide +kernel
theorem dX6_restore_9 : decode cX6_restore 9 = .ok (.ldc 66, 2) := by decide +kernel
theorem dX6_restore_11 : decode cX6_restore 11 = .ok (.ireturn, 1) := by decide +kernel
theorem dX6_restore_12 : decode cX6_restore 12 = .ok (.aload_n 0, 1) := by decide +kernel
theorem dX6_restore_13 : decode cX6_restore 13 = .ok (.getfield 32, 3) := by decide +kernel
theorem dX6_restore_16 : decode cX6_restore 16 = .ok (.iload_n 1, 1) := by decide +kernel
theorem dX6_restore_17 : decode cX6_restore 17 = .ok (.aaload, 1) := by decide +kernel
theorem dX6_restore_18 : decode cX6_restore 18 = .ok (.getfield 175, 3) := by decide +kernel
theorem dX6_restore_21 : decode cX6_restore 21 = .ok (.ifCond .ne 6, 3) := by decide +kernel
theorem dX6_restore_24 : decode cX6_restore 24 = .ok (.ldc 138, 2) := by decide +kernel
theorem dX6_restore_26 : decode cX6_restore 26 = .ok (.ireturn, 1) := by decide +kernel
theorem dX6_restore_27 : decode cX6_restore 27 = .ok (.aload_n 0, 1) := by decide +kernel
theorem dX6_restore_28 : decode cX6_restore 28 = .ok (.getfield 25, 3) := by decide +kernel
theorem dX6_restore_31 : decode cX6_restore 31 = .ok (.aload_n 0, 1) := by decide +kernel
theorem dX6_restore_32 : decode cX6_restore 32 = .ok (.getfield 32, 3) := by decide +kernel
theorem dX6_restore_35 : decode cX6_restore 35 = .ok (.iload_n 1, 1) := by decide +kernel
theorem dX6_restore_36 : decode cX6_restore 36 = .ok (.aaload, 1) := by decide +kernel
theorem dX6_restore_37 : decode cX6_restore 37 = .ok (.invokevirtual 124, 3) := by decide +kernel
theorem dX6_restore_40 : decode cX6_restore 40 = .ok (.aload_n 0, 1) := by decide +kernel
theorem dX6_restore_41 : decode cX6_restore 41 = .ok (.getfield 39, 3) := by decide +kernel
theorem dX6_restore_44 : decode cX6_restore 44 = .ok (.invokevirtual 128, 3) := by decide +kernel
theorem dX6_restore_47 : decode cX6_restore 47 = .ok (.iconst 1, 1) := by decide +kernel
theorem dX6_restore_48 : decode cX6_restore 48 = .ok (.ireturn, 1) := by decide +kernel
theorem dX6_kind_0 : decode cX6_kind 0 = .ok (.aload_n 0, 1) := by decide +kernel
theorem dX6_kind_1 : decode cX6_kind 1 = .ok (.iload_n 1, 1) := by decide +kernel
theorem dX6_kind_2 : decode cX6_kind 2 = .ok (.invokevirtual 166, 3) := by decide +kernel
theorem dX6_kind_5 : decode cX6_kind 5 = .ok (.ifCond .eq 15, 3) := by decide +kernel
theorem dX6_kind_8 : decode cX6_kind 8 = .ok (.aload_n 0, 1) := by decide +kernel
theorem dX6_kind_9 : decode cX6_kind 9 = .ok (.getfield 25, 3) := by decide +kernel
theorem dX6_kind_12 : decode cX6_kind 12 = .ok (.getfield 169, 3) := by decide +kernel
theorem dX6_kind_15 : decode cX6_kind 15 = .ok (.iload_n 1, 1) := by decide +kernel
theorem dX6_kind_16 : decode cX6_kind 16 = .ok (.iaload, 1) := by decide +kernel
theorem dX6_kind_17 : decode cX6_kind 17 = .ok (.goto 5, 3) := by decide +kernel
theorem dX6_kind_20 : decode cX6_kind 20 = .ok (.ldc 66, 2) := by decide +kernel
theorem dX6_kind_22 : decode cX6_kind 22 = .ok (.ireturn, 1) := by decide +kernel
theorem dX6_as_0 : decode cX6_as 0 = .ok (.aload_n 0, 1) := by decide +kernel
theorem dX6_as_1 : decode cX6_as 1 = .ok (.iload_n 1, 1) := by decide +kernel
theorem dX6_as_2 : decode cX6_as 2 = .ok (.invokevirtual 166, 3) := by decide +kernel
theorem dX6_as_5 : decode cX6_as 5 = .ok (.ifCond .eq 13, 3) := by decide +kernel
theorem dX6_as_8 : decode cX6_as 8 = .ok (.iload_n 2, 1) := by decide +kernel
theorem dX6_as_9 : decode cX6_as 9 = .ok (.ifCond .lt 9, 3) := by decide +kernel
theorem dX6_as_12 : decode cX6_as 12 = .ok (.iload_n 2, 1) := by decide +kernel
theorem dX6_as_13 : decode cX6_as 13 = .ok (.bipush 6, 2) := by decide +kernel
theorem dX6_as_15 : decode cX6_as 15 = .ok (.if_icmp .lt 6, 3) := by decide +kernel
theorem dX6_as_18 : decode cX6_as 18 = .ok (.ldc 66, 2) := by decide +kernel
theorem dX6_as_20 : decode cX6_as 20 = .ok (.ireturn, 1) := by decide +kernel
theorem dX6_as_21 : decode cX6_as 21 = .ok (.aload_n 0, 1) := by decide +kernel
theorem dX6_as_22 : decode cX6_as 22 = .ok (.getfield 25, 3) := by decide +kernel
theorem dX6_as_25 : decode cX6_as 25 = .ok (.getfield 169, 3) := by decide +kernel
theorem dX6_as_28 : decode cX6_as 28 = .ok (.iload_n 1, 1) := by decide +kernel
theorem dX6_as_29 : decode cX6_as 29 = .ok (.iaload, 1) := by decide +kernel
theorem dX6_as_30 : decode cX6_as 30 = .ok (.iload_n 2, 1) := by decide +kernel
theorem dX6_as_31 : decode cX6_as 31 = .ok (.invokestatic 310, 3) := by decide +kernel
theorem dX6_as_34 : decode cX6_as 34 = .ok (.ifCond .eq 11, 3) := by decide +kernel
theorem dX6_as_37 : decode cX6_as 37 = .ok (.aload_n 0, 1) := by decide +kernel
theorem dX6_as_38 : decode cX6_as 38 = .ok (.iload_n 1, 1) := by decide +kernel
theorem dX6_as_39 : decode cX6_as 39 = .ok (.invokevirtual 75, 3) := by decide +kernel
theorem dX6_as_42 : decode cX6_as 42 = .ok (.goto 8, 3) := by decide +kernel
theorem dX6_as_45 : decode cX6_as 45 = .ok (.aload_n 0, 1) := by decide +kernel
theorem dX6_as_46 : decode cX6_as 46 = .ok (.iconst 3, 1) := by decide +kernel
theorem dX6_as_47 : decode cX6_as 47 = .ok (.invokevirtual 67, 3) := by decide +kernel
theorem dX6_as_50 : decode cX6_as 50 = .ok (.ireturn, 1) := by decide +kernel
theorem dX6_ask_0 : decode cX6_ask 0 = .ok (.aload_n 0, 1) := by decide +kernel
theorem dX6_ask_1 : decode cX6_ask 1 = .ok (.iload_n 1, 1) := by decide +kernel
theorem dX6_ask_2 : decode cX6_ask 2 = .ok (.invokevirtual 166, 3) := by decide +kernel
theorem dX6_ask_5 : decode cX6_ask 5 = .ok (.ifCond .eq 10, 3) := by decide +kernel
theorem dX6_ask_8 : decode cX6_ask 8 = .ok (.iload_n 2, 1) := by decide +kernel
theorem dX6_ask_9 : decode cX6_ask 9 = .ok (.invokestatic 241, 3) := by decide +kernel
theorem dX6_ask_12 : decode cX6_ask 12 = .ok (.ifCond .ne 6, 3) := by decide +kernel
theorem dX6_ask_15 : decode cX6_ask 15 = .ok (.ldc 66, 2) := by decide +kernel
theorem dX6_ask_17 : decode cX6_ask 17 = .ok (.ireturn, 1) := by decide +kernel
theorem dX6_ask_18 : decode cX6_ask 18 = .ok (.aload_n 0, 1) := by decide +kernel
theorem dX6_ask_19 : decode cX6_ask 19 = .ok (.getfield 53, 3) := by decide +kernel
theorem dX6_ask_22 : decode cX6_ask 22 = .ok (.aload_n 0, 1) := by decide +kernel
theorem dX6_ask_23 : decode cX6_ask 23 = .ok (.getfield 25, 3) := by decide +kernel
theorem dX6_ask_26 : decode cX6_ask 26 = .ok (.iload_n 1, 1) := by decide +kernel
theorem dX6_ask_27 : decode cX6_ask 27 = .ok (.iload_n 2, 1) := by decide +kernel
theorem dX6_ask_28 : decode cX6_ask 28 = .ok (.invokevirtual 313, 3) := by decide +kernel
theorem dX6_ask_31 : decode cX6_ask 31 = .ok (.ireturn, 1) := by decide +kernel
theorem dX6_trace_0 : decode cX6_trace 0 = .ok (.iload_n 1, 1) := by decide +kernel
theorem dX6_trace_1 : decode cX6_trace 1 = .ok (.ifCond .lt 14, 3) := by decide +kernel
theorem dX6_trace_4 : decode cX6_trace 4 = .ok (.iload_n 1, 1) := by decide +kernel
theorem dX6_trace_5 : decode cX6_trace 5 = .ok (.aload_n 0, 1) := by decide +kernel
theorem dX6_trace_6 : decode cX6_trace 6 = .ok (.getfield 53, 3) := by decide +kernel
theorem dX6_trace_9 : decode cX6_trace 9 = .ok (.getfield 317, 3) := by decide +kernel
theorem dX6_trace_12 : decode cX6_trace 12 = .ok (.if_icmp .lt 8, 3) := by decide +kernel
theorem dX6_trace_15 : decode cX6_trace 15 = .ok (.ldc 211, 2) := by decide +kernel
theorem dX6_trace_17 : decode cX6_trace 17 = .ok (.goto 12, 3) := by decide +kernel
theorem dX6_trace_20 : decode cX6_trace 20 = .ok (.aload_n 0, 1) := by decide +kernel
theorem dX6_trace_21 : decode cX6_trace 21 = .ok (.getfield 53, 3) := by decide +kernel
theorem dX6_trace_24 : decode cX6_trace 24 = .ok (.getfield 320, 3) := by decide +kernel
theorem dX6_trace_27 : decode cX6_trace 27 = .ok (.iload_n 1, 1) := by decide +kernel
theorem dX6_trace_28 : decode cX6_trace 28 = .ok (.iaload, 1) := by decide +kernel
theorem dX6_trace_29 : decode cX6_trace 29 = .ok (.ireturn, 1) := by decide +kernel
theorem dX6_count_0 : decode cX6_count 0 = .ok (.iload_n 1, 1) := by decide +kernel
theorem dX6_count_1 : decode cX6_count 1 = .ok (.tableswitch 96 0 6 #[43, 48, 56, 64, 72, 80, 88], 43) := by decide +kernel
theorem dX6_count_44 : decode cX6_count 44 = .ok (.aload_n 0, 1) := by decide +kernel
theorem dX6_count_45 : decode cX6_count 45 = .ok (.invokevirtual 323, 3) := by decide +kernel
theorem dX6_count_48 : decode cX6_count 48 = .ok (.ireturn, 1) := by decide +kernel
theorem dX6_count_49 : decode cX6_count 49 = .ok (.aload_n 0, 1) := by decide +kernel
theorem dX6_count_50 : decode cX6_count 50 = .ok (.getfield 25, 3) := by decide +kernel
theorem dX6_count_53 : decode cX6_count 53 = .ok (.getfield 292, 3) := by decide +kernel
theorem dX6_count_56 : decode cX6_count 56 = .ok (.ireturn, 1) := by decide +kernel
theorem dX6_count_57 : decode cX6_count 57 = .ok (.aload_n 0, 1) := by decide +kernel
theorem dX6_count_58 : decode cX6_count 58 = .ok (.getfield 25, 3) := by decide +kernel
theorem dX6_count_61 : decode cX6_count 61 = .ok (.getfield 131, 3) := by decide +kernel
theorem dX6_count_64 : decode cX6_count 64 = .ok (.ireturn, 1) := by decide +kernel
theorem dX6_count_65 : decode cX6_count 65 = .ok (.aload_n 0, 1) := by decide +kernel
theorem dX6_count_66 : decode cX6_count 66 = .ok (.getfield 25, 3) := by decide +kernel
theorem dX6_count_69 : decode cX6_count 69 = .ok (.getfield 178, 3) := by decide +kernel
theorem dX6_count_72 : decode cX6_count 72 = .ok (.ireturn, 1) := by decide +kernel
theorem dX6_count_73 : decode cX6_count 73 = .ok (.aload_n 0, 1) := by decide +kernel
theorem dX6_count_74 : decode cX6_count 74 = .ok (.getfield 25, 3) := by decide +kernel
theorem dX6_count_77 : decode cX6_count 77 = .ok (.invokevirtual 181, 3) := by decide +kernel
theorem dX6_count_80 : decode cX6_count 80 = .ok (.ireturn, 1) := by decide +kernel
theorem dX6_count_81 : decode cX6_count 81 = .ok (.aload_n 0, 1) := by decide +kernel
theorem dX6_count_82 : decode cX6_count 82 = .ok (.getfield 39, 3) := by decide +kernel
theorem dX6_count_85 : decode cX6_count 85 = .ok (.getfield 137, 3) := by decide +kernel
theorem dX6_count_88 : decode cX6_count 88 = .ok (.ireturn, 1) := by decide +kernel
theorem dX6_count_89 : decode cX6_count 89 = .ok (.aload_n 0, 1) := by decide +kernel
theorem dX6_count_90 : decode cX6_count 90 = .ok (.getfield 18, 3) := by decide +kernel
theorem dX6_count_93 : decode cX6_count 93 = .ok (.getfield 326, 3) := by decide +kernel
theorem dX6_count_96 : decode cX6_count 96 = .ok (.ireturn, 1) := by decide +kernel
theorem dX6_count_97 : decode cX6_count 97 = .ok (.ldc 66, 2) := by decide +kernel
theorem dX6_count_99 : decode cX6_count 99 = .ok (.ireturn, 1) := by decide +kernel
theorem dX6_status_0 : decode cX6_status 0 = .ok (.aload_n 0, 1) := by decide +kernel
theorem dX6_status_1 : decode cX6_status 1 = .ok (.getfield 57, 3) := by decide +kernel
theorem dX6_status_4 : decode cX6_status 4 = .ok (.ireturn, 1) := by decide +kernel
theorem dX6_finding_0 : decode cX6_finding 0 = .ok (.aload_n 0, 1) := by decide +kernel
theorem dX6_finding_1 : decode cX6_finding 1 = .ok (.iload_n 1, 1) := by decide +kernel
theorem dX6_finding_2 : decode cX6_finding 2 = .ok (.putfield 57, 3) := by decide +kernel
theorem dX6_finding_5 : decode cX6_finding 5 = .ok (.ldc_w 329, 3) := by decide +kernel
theorem dX6_finding_8 : decode cX6_finding 8 = .ok (.iload_n 1, 1) := by decide +kernel
theorem dX6_finding_9 : decode cX6_finding 9 = .ok (.isub, 1) := by decide +kernel
theorem dX6_finding_10 : decode cX6_finding 10 = .ok (.ireturn, 1) := by decide +kernel
theorem dX6_fine_0 : decode cX6_fine 0 = .ok (.aload_n 0, 1) := by decide +kernel
theorem dX6_fine_1 : decode cX6_fine 1 = .ok (.iconst 0, 1) := by decide +kernel
theorem dX6_fine_2 : decode cX6_fine 2 = .ok (.putfield 57, 3) := by decide +kernel
theorem dX6_fine_5 : decode cX6_fine 5 = .ok (.iload_n 1, 1) := by decide +kernel
theorem dX6_fine_6 : decode cX6_fine 6 = .ok (.ireturn, 1) := by decide +kernel
theorem dX6_rowsThere_0 : decode cX6_rowsThere 0 = .ok (.iconst 0, 1) := by decide +kernel
theorem dX6_rowsThere_1 : decode cX6_rowsThere 1 = .ok (.istore_n 1, 1) := by decide +kernel
theorem dX6_rowsThere_2 : decode cX6_rowsThere 2 = .ok (.iconst 0, 1) := by decide +kernel
theorem dX6_rowsThere_3 : decode cX6_rowsThere 3 = .ok (.istore_n 2, 1) := by decide +kernel
theorem dX6_rowsThere_4 : decode cX6_rowsThere 4 = .ok (.iload_n 2, 1) := by decide +kernel
theorem dX6_rowsThere_5 : decode cX6_rowsThere 5 = .ok (.bipush 8, 2) := by decide +kernel
theorem dX6_rowsThere_7 : decode cX6_rowsThere 7 = .ok (.if_icmp .ge 24, 3) := by decide +kernel
theorem dX6_rowsThere_10 : decode cX6_rowsThere 10 = .ok (.aload_n 0, 1) := by decide +kernel
theorem dX6_rowsThere_11 : decode cX6_rowsThere 11 = .ok (.getfield 11, 3) := by decide +kernel
theorem dX6_rowsThere_14 : decode cX6_rowsThere 14 = .ok (.iload_n 2, 1) := by decide +kernel
theorem dX6_rowsThere_15 : decode cX6_rowsThere 15 = .ok (.aaload, 1) := by decide +kernel
theorem dX6_rowsThere_16 : decode cX6_rowsThere 16 = .ok (.getfield 78, 3) := by decide +kernel
theorem dX6_rowsThere_19 : decode cX6_rowsThere 19 = .ok (.ifCond .eq 6, 3) := by decide +kernel
theorem dX6_rowsThere_22 : decode cX6_rowsThere 22 = .ok (.iinc 1 1, 3) := by decide +kernel
theorem dX6_rowsThere_25 : decode cX6_rowsThere 25 = .ok (.iinc 2 1, 3) := by decide +kernel
theorem dX6_rowsThere_28 : decode cX6_rowsThere 28 = .ok (.goto (-24), 3) := by decide +kernel
theorem dX6_rowsThere_31 : decode cX6_rowsThere 31 = .ok (.iload_n 1, 1) := by decide +kernel
theorem dX6_rowsThere_32 : decode cX6_rowsThere 32 = .ok (.ireturn, 1) := by decide +kernel
theorem dX6_swearersIfTaken_0 : decode cX6_swearersIfTaken 0 = .ok (.aload_n 0, 1) := by decide +kernel
theorem dX6_swearersIfTaken_1 : decode cX6_swearersIfTaken 1 = .ok (.getfield 29, 3) := by decide +kernel
theorem dX6_swearersIfTaken_4 : decode cX6_swearersIfTaken 4 = .ok (.aload_n 0, 1) := by decide +kernel
theorem dX6_swearersIfTaken_5 : decode cX6_swearersIfTaken 5 = .ok (.getfield 25, 3) := by decide +kernel
theorem dX6_swearersIfTaken_8 : decode cX6_swearersIfTaken 8 = .ok (.getfield 178, 3) := by decide +kernel
theorem dX6_swearersIfTaken_11 : decode cX6_swearersIfTaken 11 = .ok (.putfield 178, 3) := by decide +kernel
theorem dX6_swearersIfTaken_14 : decode cX6_swearersIfTaken 14 = .ok (.aload_n 0, 1) := by decide +kernel
theorem dX6_swearersIfTaken_15 : decode cX6_swearersIfTaken 15 = .ok (.getfield 29, 3) := by decide +kernel
theorem dX6_swearersIfTaken_18 : decode cX6_swearersIfTaken 18 = .ok (.iload_n 1, 1) := by decide +kernel
theorem dX6_swearersIfTaken_19 : decode cX6_swearersIfTaken 19 = .ok (.aload_n 0, 1) := by decide +kernel
theorem dX6_swearersIfTaken_20 : decode cX6_swearersIfTaken 20 = .ok (.getfield 29, 3) := by decide +kernel
theorem dX6_swearersIfTaken_23 : decode cX6_swearersIfTaken 23 = .ok (.invokevirtual 148, 3) := by decide +kernel
theorem dX6_swearersIfTaken_26 : decode cX6_swearersIfTaken 26 = .ok (.iload_n 2, 1) := by decide +kernel
theorem dX6_swearersIfTaken_27 : decode cX6_swearersIfTaken 27 = .ok (.invokevirtual 156, 3) := by decide +kernel
theorem dX6_swearersIfTaken_30 : decode cX6_swearersIfTaken 30 = .ok (.pop, 1) := by decide +kernel
theorem dX6_swearersIfTaken_31 : decode cX6_swearersIfTaken 31 = .ok (.aload_n 0, 1) := by decide +kernel
theorem dX6_swearersIfTaken_32 : decode cX6_swearersIfTaken 32 = .ok (.getfield 29, 3) := by decide +kernel
theorem dX6_swearersIfTaken_35 : decode cX6_swearersIfTaken 35 = .ok (.aload_n 0, 1) := by decide +kernel
theorem dX6_swearersIfTaken_36 : decode cX6_swearersIfTaken 36 = .ok (.getfield 25, 3) := by decide +kernel
theorem dX6_swearersIfTaken_39 : decode cX6_swearersIfTaken 39 = .ok (.getfield 178, 3) := by decide +kernel
theorem dX6_swearersIfTaken_42 : decode cX6_swearersIfTaken 42 = .ok (.iload_n 3, 1) := by decide +kernel
theorem dX6_swearersIfTaken_43 : decode cX6_swearersIfTaken 43 = .ok (.iadd, 1) := by decide +kernel
theorem dX6_swearersIfTaken_44 : decode cX6_swearersIfTaken 44 = .ok (.putfield 178, 3) := by decide +kernel
theorem dX6_swearersIfTaken_47 : decode cX6_swearersIfTaken 47 = .ok (.aload_n 0, 1) := by decide +kernel
theorem dX6_swearersIfTaken_48 : decode cX6_swearersIfTaken 48 = .ok (.getfield 29, 3) := by decide +kernel
theorem dX6_swearersIfTaken_51 : decode cX6_swearersIfTaken 51 = .ok (.iload_n 1, 1) := by decide +kernel
theorem dX6_swearersIfTaken_52 : decode cX6_swearersIfTaken 52 = .ok (.invokevirtual 225, 3) := by decide +kernel
theorem dX6_swearersIfTaken_55 : decode cX6_swearersIfTaken 55 = .ok (.ireturn, 1) := by decide +kernel
theorem dX6_isStone_0 : decode cX6_isStone 0 = .ok (.iload_n 1, 1) := by decide +kernel
theorem dX6_isStone_1 : decode cX6_isStone 1 = .ok (.ifCond .lt 18, 3) := by decide +kernel
theorem dX6_isStone_4 : decode cX6_isStone 4 = .ok (.iload_n 1, 1) := by decide +kernel
theorem dX6_isStone_5 : decode cX6_isStone 5 = .ok (.aload_n 0, 1) := by decide +kernel
theorem dX6_isStone_6 : decode cX6_isStone 6 = .ok (.getfield 25, 3) := by decide +kernel
theorem dX6_isStone_9 : decode cX6_isStone 9 = .ok (.getfield 292, 3) := by decide +kernel
theorem dX6_isStone_12 : decode cX6_isStone 12 = .ok (.if_icmp .ge 7, 3) := by decide +kernel
theorem dX6_isStone_15 : decode cX6_isStone 15 = .ok (.iconst 1, 1) := by decide +kernel
theorem dX6_isStone_16 : decode cX6_isStone 16 = .ok (.goto 4, 3) := by decide +kernel
theorem dX6_isStone_19 : decode cX6_isStone 19 = .ok (.iconst 0, 1) := by decide +kernel
theorem dX6_isStone_20 : decode cX6_isStone 20 = .ok (.ireturn, 1) := by decide +kernel
theorem dX6_isWitness_0 : decode cX6_isWitness 0 = .ok (.iload_n 1, 1) := by decide +kernel
theorem dX6_isWitness_1 : decode cX6_isWitness 1 = .ok (.ifCond .lt 18, 3) := by decide +kernel
theorem dX6_isWitness_4 : decode cX6_isWitness 4 = .ok (.iload_n 1, 1) := by decide +kernel
theorem dX6_isWitness_5 : decode cX6_isWitness 5 = .ok (.aload_n 0, 1) := by decide +kernel
theorem dX6_isWitness_6 : decode cX6_isWitness 6 = .ok (.getfield 25, 3) := by decide +kernel
theorem dX6_isWitness_9 : decode cX6_isWitness 9 = .ok (.getfield 131, 3) := by decide +kernel
theorem dX6_isWitness_12 : decode cX6_isWitness 12 = .ok (.if_icmp .ge 7, 3) := by decide +kernel
theorem dX6_isWitness_15 : decode cX6_isWitness 15 = .ok (.iconst 1, 1) := by decide +kernel
theorem dX6_isWitness_16 : decode cX6_isWitness 16 = .ok (.goto 4, 3) := by decide +kernel
theorem dX6_isWitness_19 : decode cX6_isWitness 19 = .ok (.iconst 0, 1) := by decide +kernel
theorem dX6_isWitness_20 : decode cX6_isWitness 20 = .ok (.ireturn, 1) := by decide +kernel
theorem dX6_isRow_0 : decode cX6_isRow 0 = .ok (.iload_n 0, 1) := by decide +kernel
theorem dX6_isRow_1 : decode cX6_isRow 1 = .ok (.ifCond .lt 13, 3) := by decide +kernel
theorem dX6_isRow_4 : decode cX6_isRow 4 = .ok (.iload_n 0, 1) := by decide +kernel
theorem dX6_isRow_5 : decode cX6_isRow 5 = .ok (.bipush 8, 2) := by decide +kernel
theorem dX6_isRow_7 : decode cX6_isRow 7 = .ok (.if_icmp .ge 7, 3) := by decide +kernel
theorem dX6_isRow_10 : decode cX6_isRow 10 = .ok (.iconst 1, 1) := by decide +kernel
theorem dX6_isRow_11 : decode cX6_isRow 11 = .ok (.goto 4, 3) := by decide +kernel
theorem dX6_isRow_14 : decode cX6_isRow 14 = .ok (.iconst 0, 1) := by decide +kernel
theorem dX6_isRow_15 : decode cX6_isRow 15 = .ok (.ireturn, 1) := by decide +kernel
theorem dX6_isYard_0 : decode cX6_isYard 0 = .ok (.iload_n 0, 1) := by decide +kernel
theorem dX6_isYard_1 : decode cX6_isYard 1 = .ok (.ifCond .lt 13, 3) := by decide +kernel
theorem dX6_isYard_4 : decode cX6_isYard 4 = .ok (.iload_n 0, 1) := by decide +kernel
theorem dX6_isYard_5 : decode cX6_isYard 5 = .ok (.bipush 99, 2) := by decide +kernel
theorem dX6_isYard_7 : decode cX6_isYard 7 = .ok (.if_icmp .gt 7, 3) := by decide +kernel
theorem dX6_isYard_10 : decode cX6_isYard 10 = .ok (.iconst 1, 1) := by decide +kernel
theorem dX6_isYard_11 : decode cX6_isYard 11 = .ok (.goto 4, 3) := by decide +kernel
theorem dX6_isYard_14 : decode cX6_isYard 14 = .ok (.iconst 0, 1) := by decide +kernel
theorem dX6_isYard_15 : decode cX6_isYard 15 = .ok (.ireturn, 1) := by decide +kernel
theorem dX6_isPain_0 : decode cX6_isPain 0 = .ok (.iload_n 0, 1) := by decide +kernel
theorem dX6_isPain_1 : decode cX6_isPain 1 = .ok (.iconst 1, 1) := by decide +kernel
theorem dX6_isPain_2 : decode cX6_isPain 2 = .ok (.if_icmp .lt 13, 3) := by decide +kernel
theorem dX6_isPain_5 : decode cX6_isPain 5 = .ok (.iload_n 0, 1) := by decide +kernel
theorem dX6_isPain_6 : decode cX6_isPain 6 = .ok (.bipush 9, 2) := by decide +kernel
theorem dX6_isPain_8 : decode cX6_isPain 8 = .ok (.if_icmp .gt 7, 3) := by decide +kernel
theorem dX6_isPain_11 : decode cX6_isPain 11 = .ok (.iconst 1, 1) := by decide +kernel
theorem dX6_isPain_12 : decode cX6_isPain 12 = .ok (.goto 4, 3) := by decide +kernel
theorem dX6_isPain_15 : decode cX6_isPain 15 = .ok (.iconst 0, 1) := by decide +kernel
theorem dX6_isPain_16 : decode cX6_isPain 16 = .ok (.ireturn, 1) := by decide +kernel
theorem dX6_isMany_0 : decode cX6_isMany 0 = .ok (.iload_n 0, 1) := by decide +kernel
theorem dX6_isMany_1 : decode cX6_isMany 1 = .ok (.iconst 1, 1) := by decide +kernel
theorem dX6_isMany_2 : decode cX6_isMany 2 = .ok (.if_icmp .lt 13, 3) := by decide +kernel
theorem dX6_isMany_5 : decode cX6_isMany 5 = .ok (.iload_n 0, 1) := by decide +kernel
theorem dX6_isMany_6 : decode cX6_isMany 6 = .ok (.bipush 6, 2) := by decide +kernel
theorem dX6_isMany_8 : decode cX6_isMany 8 = .ok (.if_icmp .gt 7, 3) := by decide +kernel
theorem dX6_isMany_11 : decode cX6_isMany 11 = .ok (.iconst 1, 1) := by decide +kernel
theorem dX6_isMany_12 : decode cX6_isMany 12 = .ok (.goto 4, 3) := by decide +kernel
theorem dX6_isMany_15 : decode cX6_isMany 15 = .ok (.iconst 0, 1) := by decide +kernel
theorem dX6_isMany_16 : decode cX6_isMany 16 = .ok (.ireturn, 1) := by decide +kernel
theorem dX6_isLater_0 : decode cX6_isLater 0 = .ok (.iload_n 0, 1) := by decide +kernel
theorem dX6_isLater_1 : decode cX6_isLater 1 = .ok (.iconst 1, 1) := by decide +kernel
theorem dX6_isLater_2 : decode cX6_isLater 2 = .ok (.if_icmp .lt 13, 3) := by decide +kernel
theorem dX6_isLater_5 : decode cX6_isLater 5 = .ok (.iload_n 0, 1) := by decide +kernel
theorem dX6_isLater_6 : decode cX6_isLater 6 = .ok (.bipush 60, 2) := by decide +kernel
theorem dX6_isLater_8 : decode cX6_isLater 8 = .ok (.if_icmp .gt 7, 3) := by decide +kernel
theorem dX6_isLater_11 : decode cX6_isLater 11 = .ok (.iconst 1, 1) := by decide +kernel
theorem dX6_isLater_12 : decode cX6_isLater 12 = .ok (.goto 4, 3) := by decide +kernel
theorem dX6_isLater_15 : decode cX6_isLater 15 = .ok (.iconst 0, 1) := by decide +kernel
theorem dX6_isLater_16 : decode cX6_isLater 16 = .ok (.ireturn, 1) := by decide +kernel
theorem dX6_isEither_0 : decode cX6_isEither 0 = .ok (.iload_n 0, 1) := by decide +kernel
theorem dX6_isEither_1 : decode cX6_isEither 1 = .ok (.ifCond .eq 8, 3) := by decide +kernel
theorem dX6_isEither_4 : decode cX6_isEither 4 = .ok (.iload_n 0, 1) := by decide +kernel
theorem dX6_isEither_5 : decode cX6_isEither 5 = .ok (.iconst 1, 1) := by decide +kernel
theorem dX6_isEither_6 : decode cX6_isEither 6 = .ok (.if_icmp .ne 7, 3) := by decide +kernel
theorem dX6_isEither_9 : decode cX6_isEither 9 = .ok (.iconst 1, 1) := by decide +kernel
theorem dX6_isEither_10 : decode cX6_isEither 10 = .ok (.goto 4, 3) := by decide +kernel
theorem dX6_isEither_13 : decode cX6_isEither 13 = .ok (.iconst 0, 1) := by decide +kernel
theorem dX6_isEither_14 : decode cX6_isEither 14 = .ok (.ireturn, 1) := by decide +kernel
theorem dX6_commonDivisor_0 : decode cX6_commonDivisor 0 = .ok (.iload_n 0, 1) := by decide +kernel
theorem dX6_commonDivisor_1 : decode cX6_commonDivisor 1 = .ok (.istore_n 2, 1) := by decide +kernel
theorem dX6_commonDivisor_2 : decode cX6_commonDivisor 2 = .ok (.iload_n 2, 1) := by decide +kernel
theorem dX6_commonDivisor_3 : decode cX6_commonDivisor 3 = .ok (.iconst 1, 1) := by decide +kernel
theorem dX6_commonDivisor_4 : decode cX6_commonDivisor 4 = .ok (.if_icmp .le 23, 3) := by decide +kernel
theorem dX6_commonDivisor_7 : decode cX6_commonDivisor 7 = .ok (.iload_n 0, 1) := by decide +kernel
theorem dX6_commonDivisor_8 : decode cX6_commonDivisor 8 = .ok (.iload_n 2, 1) := by decide +kernel
theorem dX6_commonDivisor_9 : decode cX6_commonDivisor 9 = .ok (.irem, 1) := by decide +kernel
theorem dX6_commonDivisor_10 : decode cX6_commonDivisor 10 = .ok (.ifCond .ne 11, 3) := by decide +kernel
theorem dX6_commonDivisor_13 : decode cX6_commonDivisor 13 = .ok (.iload_n 1, 1) := by decide +kernel
theorem dX6_commonDivisor_14 : decode cX6_commonDivisor 14 = .ok (.iload_n 2, 1) := by decide +kernel
theorem dX6_commonDivisor_15 : decode cX6_commonDivisor 15 = .ok (.irem, 1) := by decide +kernel
theorem dX6_commonDivisor_16 : decode cX6_commonDivisor 16 = .ok (.ifCond .ne 5, 3) := by decide +kernel
theorem dX6_commonDivisor_19 : decode cX6_commonDivisor 19 = .ok (.iload_n 2, 1) := by decide +kernel
theorem dX6_commonDivisor_20 : decode cX6_commonDivisor 20 = .ok (.ireturn, 1) := by decide +kernel
theorem dX6_commonDivisor_21 : decode cX6_commonDivisor 21 = .ok (.iinc 2 (-1), 3) := by decide +kernel
theorem dX6_commonDivisor_24 : decode cX6_commonDivisor 24 = .ok (.goto (-22), 3) := by decide +kernel
theorem dX6_commonDivisor_27 : decode cX6_commonDivisor 27 = .ok (.iconst 1, 1) := by decide +kernel
theorem dX6_commonDivisor_28 : decode cX6_commonDivisor 28 = .ok (.ireturn, 1) := by decide +kernel
theorem dX6_isOf_0 : decode cX6_isOf 0 = .ok (.iload_n 0, 1) := by decide +kernel
theorem dX6_isOf_1 : decode cX6_isOf 1 = .ok (.istore_n 2, 1) := by decide +kernel
theorem dX6_isOf_2 : decode cX6_isOf 2 = .ok (.iconst 0, 1) := by decide +kernel
theorem dX6_isOf_3 : decode cX6_isOf 3 = .ok (.istore_n 3, 1) := by decide +kernel
theorem dX6_isOf_4 : decode cX6_isOf 4 = .ok (.iload_n 3, 1) := by decide +kernel
theorem dX6_isOf_5 : decode cX6_isOf 5 = .ok (.bipush 6, 2) := by decide +kernel
theorem dX6_isOf_7 : decode cX6_isOf 7 = .ok (.if_icmp .ge 22, 3) := by decide +kernel
theorem dX6_isOf_10 : decode cX6_isOf 10 = .ok (.iload_n 2, 1) := by decide +kernel
theorem dX6_isOf_11 : decode cX6_isOf 11 = .ok (.iload_n 1, 1) := by decide +kernel
theorem dX6_isOf_12 : decode cX6_isOf 12 = .ok (.if_icmp .ne 5, 3) := by decide +kernel
theorem dX6_isOf_15 : decode cX6_isOf 15 = .ok (.iconst 1, 1) := by decide +kernel
theorem dX6_isOf_16 : decode cX6_isOf 16 = .ok (.ireturn, 1) := by decide +kernel
theorem dX6_isOf_17 : decode cX6_isOf 17 = .ok (.getstatic 330, 3) := by decide +kernel
theorem dX6_isOf_20 : decode cX6_isOf 20 = .ok (.iload_n 2, 1) := by decide +kernel
theorem dX6_isOf_21 : decode cX6_isOf 21 = .ok (.iaload, 1) := by decide +kernel
theorem dX6_isOf_22 : decode cX6_isOf 22 = .ok (.istore_n 2, 1) := by decide +kernel
theorem dX6_isOf_23 : decode cX6_isOf 23 = .ok (.iinc 3 1, 3) := by decide +kernel
theorem dX6_isOf_26 : decode cX6_isOf 26 = .ok (.goto (-22), 3) := by decide +kernel
theorem dX6_isOf_29 : decode cX6_isOf 29 = .ok (.iconst 0, 1) := by decide +kernel
theorem dX6_isOf_30 : decode cX6_isOf 30 = .ok (.ireturn, 1) := by decide +kernel
theorem dX7_init_0 : decode cX7_init 0 = .ok (.aload_n 0, 1) := by decide +kernel
theorem dX7_init_1 : decode cX7_init 1 = .ok (.invokespecial 1, 3) := by decide +kernel
theorem dX7_init_4 : decode cX7_init 4 = .ok (.aload_n 0, 1) := by decide +kernel
theorem dX7_init_5 : decode cX7_init 5 = .ok (.bipush 8, 2) := by decide +kernel
theorem dX7_init_7 : decode cX7_init 7 = .ok (.newarray .int, 2) := by decide +kernel
theorem dX7_init_9 : decode cX7_init 9 = .ok (.dup, 1) := by decide +kernel
theorem dX7_init_10 : decode cX7_init 10 = .ok (.iconst 0, 1) := by decide +kernel
theorem dX7_init_11 : decode cX7_init 11 = .ok (.iconst (-1), 1) := by decide +kernel
theorem dX7_init_12 : decode cX7_init 12 = .ok (.iastore, 1) := by decide +kernel
theorem dX7_init_13 : decode cX7_init 13 = .ok (.dup, 1) := by decide +kernel
theorem dX7_init_14 : decode cX7_init 14 = .ok (.iconst 1, 1) := by decide +kernel
theorem dX7_init_15 : decode cX7_init 15 = .ok (.iconst (-1), 1) := by decide +kernel
theorem dX7_init_16 : decode cX7_init 16 = .ok (.iastore, 1) := by decide +kernel
theorem dX7_init_17 : decode cX7_init 17 = .ok (.dup, 1) := by decide +kernel
theorem dX7_init_18 : decode cX7_init 18 = .ok (.iconst 2, 1) := by decide +kernel
theorem dX7_init_19 : decode cX7_init 19 = .ok (.iconst (-1), 1) := by decide +kernel
theorem dX7_init_20 : decode cX7_init 20 = .ok (.iastore, 1) := by decide +kernel
theorem dX7_init_21 : decode cX7_init 21 = .ok (.dup, 1) := by decide +kernel
theorem dX7_init_22 : decode cX7_init 22 = .ok (.iconst 3, 1) := by decide +kernel
theorem dX7_init_23 : decode cX7_init 23 = .ok (.iconst (-1), 1) := by decide +kernel
theorem dX7_init_24 : decode cX7_init 24 = .ok (.iastore, 1) := by decide +kernel
theorem dX7_init_25 : decode cX7_init 25 = .ok (.dup, 1) := by decide +kernel
theorem dX7_init_26 : decode cX7_init 26 = .ok (.iconst 4, 1) := by decide +kernel
theorem dX7_init_27 : decode cX7_init 27 = .ok (.iconst (-1), 1) := by decide +kernel
theorem dX7_init_28 : decode cX7_init 28 = .ok (.iastore, 1) := by decide +kernel
theorem dX7_init_29 : decode cX7_init 29 = .ok (.dup, 1) := by decide +kernel
theorem dX7_init_30 : decode cX7_init 30 = .ok (.iconst 5, 1) := by decide +kernel
theorem dX7_init_31 : decode cX7_init 31 = .ok (.iconst (-1), 1) := by decide +kernel
theorem dX7_init_32 : decode cX7_init 32 = .ok (.iastore, 1) := by decide +kernel
theorem dX7_init_33 : decode cX7_init 33 = .ok (.dup, 1) := by decide +kernel
theorem dX7_init_34 : decode cX7_init 34 = .ok (.bipush 6, 2) := by decide +kernel
theorem dX7_init_36 : decode cX7_init 36 = .ok (.iconst (-1), 1) := by decide +kernel
theorem dX7_init_37 : decode cX7_init 37 = .ok (.iastore, 1) := by decide +kernel
theorem dX7_init_38 : decode cX7_init 38 = .ok (.dup, 1) := by decide +kernel
theorem dX7_init_39 : decode cX7_init 39 = .ok (.bipush 7, 2) := by decide +kernel
theorem dX7_init_41 : decode cX7_init 41 = .ok (.iconst (-1), 1) := by decide +kernel
theorem dX7_init_42 : decode cX7_init 42 = .ok (.iastore, 1) := by decide +kernel
theorem dX7_init_43 : decode cX7_init 43 = .ok (.putfield 7, 3) := by decide +kernel
theorem dX7_init_46 : decode cX7_init 46 = .ok (.aload_n 0, 1) := by decide +kernel
theorem dX7_init_47 : decode cX7_init 47 = .ok (.bipush 8, 2) := by decide +kernel
theorem dX7_init_49 : decode cX7_init 49 = .ok (.newarray .int, 2) := by decide +kernel
theorem dX7_init_51 : decode cX7_init 51 = .ok (.putfield 13, 3) := by decide +kernel
theorem dX7_init_54 : decode cX7_init 54 = .ok (.aload_n 0, 1) := by decide +kernel
theorem dX7_init_55 : decode cX7_init 55 = .ok (.sipush 320, 3) := by decide +kernel
theorem dX7_init_58 : decode cX7_init 58 = .ok (.newarray .int, 2) := by decide +kernel
theorem dX7_init_60 : decode cX7_init 60 = .ok (.putfield 16, 3) := by decide +kernel
theorem dX7_init_63 : decode cX7_init 63 = .ok (.aload_n 0, 1) := by decide +kernel
theorem dX7_init_64 : decode cX7_init 64 = .ok (.sipush 143, 3) := by decide +kernel
theorem dX7_init_67 : decode cX7_init 67 = .ok (.newarray .int, 2) := by decide +kernel
theorem dX7_init_69 : decode cX7_init 69 = .ok (.putfield 19, 3) := by decide +kernel
theorem dX7_init_72 : decode cX7_init 72 = .ok (.aload_n 0, 1) := by decide +kernel
theorem dX7_init_73 : decode cX7_init 73 = .ok (.sipush 143, 3) := by decide +kernel
theorem dX7_init_76 : decode cX7_init 76 = .ok (.newarray .int, 2) := by decide +kernel
theorem dX7_init_78 : decode cX7_init 78 = .ok (.putfield 22, 3) := by decide +kernel
theorem dX7_init_81 : decode cX7_init 81 = .ok (.aload_n 0, 1) := by decide +kernel
theorem dX7_init_82 : decode cX7_init 82 = .ok (.sipush 143, 3) := by decide +kernel
theorem dX7_init_85 : decode cX7_init 85 = .ok (.newarray .int, 2) := by decide +kernel
theorem dX7_init_87 : decode cX7_init 87 = .ok (.putfield 25, 3) := by decide +kernel
theorem dX7_init_90 : decode cX7_init 90 = .ok (.aload_n 0, 1) := by decide +kernel
theorem dX7_init_91 : decode cX7_init 91 = .ok (.sipush 3432, 3) := by decide +kernel
theorem dX7_init_94 : decode cX7_init 94 = .ok (.newarray .int, 2) := by decide +kernel
theorem dX7_init_96 : decode cX7_init 96 = .ok (.putfield 28, 3) := by decide +kernel
theorem dX7_init_99 : decode cX7_init 99 = .ok (.aload_n 0, 1) := by decide +kernel
theorem dX7_init_100 : decode cX7_init 100 = .ok (.bipush 120, 2) := by decide +kernel
theorem dX7_init_102 : decode cX7_init 102 = .ok (.newarray .int, 2) := by decide +kernel
theorem dX7_init_104 : decode cX7_init 104 = .ok (.putfield 31, 3) := by decide +kernel
theorem dX7_init_107 : decode cX7_init 107 = .ok (.aload_n 0, 1) := by decide +kernel
theorem dX7_init_108 : decode cX7_init 108 = .ok (.bipush 6, 2) := by decide +kernel
theorem dX7_init_110 : decode cX7_init 110 = .ok (.newarray .int, 2) := by decide +kernel
theorem dX7_init_112 : decode cX7_init 112 = .ok (.putfield 34, 3) := by decide +kernel
theorem dX7_init_115 : decode cX7_init 115 = .ok (.aload_n 0, 1) := by decide +kernel
theorem dX7_init_116 : decode cX7_init 116 = .ok (.sipush 384, 3) := by decide +kernel
theorem dX7_init_119 : decode cX7_init 119 = .ok (.newarray .int, 2) := by decide +kernel
theorem dX7_init_121 : decode cX7_init 121 = .ok (.putfield 37, 3) := by decide +kernel
theorem dX7_init_124 : decode cX7_init 124 = .ok (.aload_n 0, 1) := by decide +kernel
theorem dX7_init_125 : decode cX7_init 125 = .ok (.iconst 2, 1) := by decide +kernel
theorem dX7_init_126 : decode cX7_init 126 = .ok (.newarray .boolean, 2) := by decide +kernel
theorem dX7_init_128 : decode cX7_init 128 = .ok (.putfield 40, 3) := by decide +kernel
theorem dX7_init_131 : decode cX7_init 131 = .ok (.aload_n 0, 1) := by decide +kernel
theorem dX7_init_132 : decode cX7_init 132 = .ok (.sipush 286, 3) := by decide +kernel
theorem dX7_init_135 : decode cX7_init 135 = .ok (.newarray .int, 2) := by decide +kernel
theorem dX7_init_137 : decode cX7_init 137 = .ok (.putfield 44, 3) := by decide +kernel
theorem dX7_init_140 : decode cX7_init 140 = .ok (.aload_n 0, 1) := by decide +kernel
theorem dX7_init_141 : decode cX7_init 141 = .ok (.bipush 16, 2) := by decide +kernel
theorem dX7_init_143 : decode cX7_init 143 = .ok (.newarray .int, 2) := by decide +kernel
theorem dX7_init_145 : decode cX7_init 145 = .ok (.putfield 47, 3) := by decide +kernel
theorem dX7_init_148 : decode cX7_init 148 = .ok (.return_, 1) := by decide +kernel
theorem dX7_in_0 : decode cX7_in 0 = .ok (.lload_n 0, 1) := by decide +kernel
theorem dX7_in_1 : decode cX7_in 1 = .ok (.lload_n 2, 1) := by decide +kernel
theorem dX7_in_2 : decode cX7_in 2 = .ok (.lcmp, 1) := by decide +kernel
theorem dX7_in_3 : decode cX7_in 3 = .ok (.ifCond .lt 14, 3) := by decide +kernel
theorem dX7_in_6 : decode cX7_in 6 = .ok (.lload_n 0, 1) := by decide +kernel
theorem dX7_in_7 : decode cX7_in 7 = .ok (.lload 4, 2) := by decide +kernel
theorem dX7_in_9 : decode cX7_in 9 = .ok (.lcmp, 1) := by decide +kernel
theorem dX7_in_10 : decode cX7_in 10 = .ok (.ifCond .gt 7, 3) := by decide +kernel
theorem dX7_in_13 : decode cX7_in 13 = .ok (.iconst 1, 1) := by decide +kernel
theorem dX7_in_14 : decode cX7_in 14 = .ok (.goto 4, 3) := by decide +kernel
theorem dX7_in_17 : decode cX7_in 17 = .ok (.iconst 0, 1) := by decide +kernel
theorem dX7_in_18 : decode cX7_in 18 = .ok (.ireturn, 1) := by decide +kernel
theorem dX7_finding_0 : decode cX7_finding 0 = .ok (.aload_n 0, 1) := by decide +kernel
theorem dX7_finding_1 : decode cX7_finding 1 = .ok (.iload_n 1, 1) := by decide +kernel
theorem dX7_finding_2 : decode cX7_finding 2 = .ok (.putfield 54, 3) := by decide +kernel
theorem dX7_finding_5 : decode cX7_finding 5 = .ok (.ldc 57, 2) := by decide +kernel
theorem dX7_finding_7 : decode cX7_finding 7 = .ok (.iload_n 1, 1) := by decide +kernel
theorem dX7_finding_8 : decode cX7_finding 8 = .ok (.isub, 1) := by decide +kernel
theorem dX7_finding_9 : decode cX7_finding 9 = .ok (.ireturn, 1) := by decide +kernel
theorem dX7_isRow_0 : decode cX7_isRow 0 = .ok (.iload_n 0, 1) := by decide +kernel
theorem dX7_isRow_1 : decode cX7_isRow 1 = .ok (.i2l, 1) := by decide +kernel
theorem dX7_isRow_2 : decode cX7_isRow 2 = .ok (.lconst 0, 1) := by decide +kernel
theorem dX7_isRow_3 : decode cX7_isRow 3 = .ok (.ldc2_w 58, 3) := by decide +kernel
theorem dX7_isRow_6 : decode cX7_isRow 6 = .ok (.invokestatic 60, 3) := by decide +kernel
theorem dX7_isRow_9 : decode cX7_isRow 9 = .ok (.ireturn, 1) := by decide +kernel
theorem dX7_row_0 : decode cX7_row 0 = .ok (.aload_n 0, 1) := by decide +kernel
theorem dX7_row_1 : decode cX7_row 1 = .ok (.iconst 0, 1) := by decide +kernel
theorem dX7_row_2 : decode cX7_row 2 = .ok (.putfield 50, 3) := by decide +kernel
theorem dX7_row_5 : decode cX7_row 5 = .ok (.iload_n 1, 1) := by decide +kernel
theorem dX7_row_6 : decode cX7_row 6 = .ok (.invokestatic 64, 3) := by decide +kernel
theorem dX7_row_9 : decode cX7_row 9 = .ok (.ifCond .eq 21, 3) := by decide +kernel
theorem dX7_row_12 : decode cX7_row 12 = .ok (.iload_n 2, 1) := by decide +kernel
theorem dX7_row_13 : decode cX7_row 13 = .ok (.i2l, 1) := by decide +kernel
theorem dX7_row_14 : decode cX7_row 14 = .ok (.lconst 0, 1) := by decide +kernel
theorem dX7_row_15 : decode cX7_row 15 = .ok (.ldc2_w 68, 3) := by decide +kernel
theorem dX7_row_18 : decode cX7_row 18 = .ok (.invokestatic 60, 3) := by decide +kernel
theorem dX7_row_21 : decode cX7_row 21 = .ok (.ifCond .eq 9, 3) := by decide +kernel
theorem dX7_row_24 : decode cX7_row 24 = .ok (.iload_n 3, 1) := by decide +kernel
theorem dX7_row_25 : decode cX7_row 25 = .ok (.bipush 40, 2) := by decide +kernel
theorem dX7_row_27 : decode cX7_row 27 = .ok (.if_icmp .le 6, 3) := by decide +kernel
theorem dX7_row_30 : decode cX7_row 30 = .ok (.ldc 70, 2) := by decide +kernel
theorem dX7_row_32 : decode cX7_row 32 = .ok (.ireturn, 1) := by decide +kernel
theorem dX7_row_33 : decode cX7_row 33 = .ok (.aload_n 0, 1) := by decide +kernel
theorem dX7_row_34 : decode cX7_row 34 = .ok (.iconst 0, 1) := by decide +kernel
theorem dX7_row_35 : decode cX7_row 35 = .ok (.putfield 54, 3) := by decide +kernel
theorem dX7_row_38 : decode cX7_row 38 = .ok (.iload_n 3, 1) := by decide +kernel
theorem dX7_row_39 : decode cX7_row 39 = .ok (.ifCond .ge 9, 3) := by decide +kernel
theorem dX7_row_42 : decode cX7_row 42 = .ok (.aload_n 0, 1) := by decide +kernel
theorem dX7_row_43 : decode cX7_row 43 = .ok (.iconst 4, 1) := by decide +kernel
theorem dX7_row_44 : decode cX7_row 44 = .ok (.invokevirtual 71, 3) := by decide +kernel
theorem dX7_row_47 : decode cX7_row 47 = .ok (.ireturn, 1) := by decide +kernel
theorem dX7_row_48 : decode cX7_row 48 = .ok (.aload_n 0, 1) := by decide +kernel
theorem dX7_row_49 : decode cX7_row 49 = .ok (.getfield 7, 3) := by decide +kernel
theorem dX7_row_52 : decode cX7_row 52 = .ok (.iload_n 1, 1) := by decide +kernel
theorem dX7_row_53 : decode cX7_row 53 = .ok (.iload_n 2, 1) := by decide +kernel
theorem dX7_row_54 : decode cX7_row 54 = .ok (.iastore, 1) := by decide +kernel
theorem dX7_row_55 : decode cX7_row 55 = .ok (.aload_n 0, 1) := by decide +kernel
theorem dX7_row_56 : decode cX7_row 56 = .ok (.getfield 13, 3) := by decide +kernel
theorem dX7_row_59 : decode cX7_row 59 = .ok (.iload_n 1, 1) := by decide +kernel
theorem dX7_row_60 : decode cX7_row 60 = .ok (.iload_n 3, 1) := by decide +kernel
theorem dX7_row_61 : decode cX7_row 61 = .ok (.iastore, 1) := by decide +kernel
theorem dX7_row_62 : decode cX7_row 62 = .ok (.iconst 0, 1) := by decide +kernel
theorem dX7_row_63 : decode cX7_row 63 = .ok (.istore 4, 2) := by decide +kernel
theorem dX7_row_65 : decode cX7_row 65 = .ok (.iload 4, 2) := by decide +kernel
theorem dX7_row_67 : decode cX7_row 67 = .ok (.bipush 40, 2) := by decide +kernel
theorem dX7_row_69 : decode cX7_row 69 = .ok (.if_icmp .ge 22, 3) := by decide +kernel
theorem dX7_row_72 : decode cX7_row 72 = .ok (.aload_n 0, 1) := by decide +kernel
theorem dX7_row_73 : decode cX7_row 73 = .ok (.getfield 16, 3) := by decide +kernel
theorem dX7_row_76 : decode cX7_row 76 = .ok (.bipush 40, 2) := by decide +kernel
theorem dX7_row_78 : decode cX7_row 78 = .ok (.iload_n 1, 1) := by decide +kernel
theorem dX7_row_79 : decode cX7_row 79 = .ok (.imul, 1) := by decide +kernel
theorem dX7_row_80 : decode cX7_row 80 = .ok (.iload 4, 2) := by decide +kernel
theorem dX7_row_82 : decode cX7_row 82 = .ok (.iadd, 1) := by decide +kernel
theorem dX7_row_83 : decode cX7_row 83 = .ok (.iconst 0, 1) := by decide +kernel
theorem dX7_row_84 : decode cX7_row 84 = .ok (.iastore, 1) := by decide +kernel
theorem dX7_row_85 : decode cX7_row 85 = .ok (.iinc 4 1, 3) := by decide +kernel
theorem dX7_row_88 : decode cX7_row 88 = .ok (.goto (-23), 3) := by decide +kernel
theorem dX7_row_91 : decode cX7_row 91 = .ok (.iload_n 3, 1) := by decide +kernel
theorem dX7_row_92 : decode cX7_row 92 = .ok (.ireturn, 1) := by decide +kernel
theorem dX7_set_0 : decode cX7_set 0 = .ok (.aload_n 0, 1) := by decide +kernel
theorem dX7_set_1 : decode cX7_set 1 = .ok (.iconst 0, 1) := by decide +kernel
theorem dX7_set_2 : decode cX7_set 2 = .ok (.putfield 50, 3) := by decide +kernel
theorem dX7_set_5 : decode cX7_set 5 = .ok (.iload_n 1, 1) := by decide +kernel
theorem dX7_set_6 : decode cX7_set 6 = .ok (.invokestatic 64, 3) := by decide +kernel
theorem dX7_set_9 : decode cX7_set 9 = .ok (.ifCond .ne 6, 3) := by decide +kernel
theorem dX7_set_12 : decode cX7_set 12 = .ok (.ldc 70, 2) := by decide +kernel
theorem dX7_set_14 : decode cX7_set 14 = .ok (.ireturn, 1) := by decide +kernel
theorem dX7_set_15 : decode cX7_set 15 = .ok (.aload_n 0, 1) := by decide +kernel
theorem dX7_set_16 : decode cX7_set 16 = .ok (.iconst 0, 1) := by decide +kernel
theorem dX7_set_17 : decode cX7_set 17 = .ok (.putfield 54, 3) := by decide +kernel
theorem dX7_set_20 : decode cX7_set 20 = .ok (.aload_n 0, 1) := by decide +kernel
theorem dX7_set_21 : decode cX7_set 21 = .ok (.getfield 7, 3) := by decide +kernel
theorem dX7_set_24 : decode cX7_set 24 = .ok (.iload_n 1, 1) := by decide +kernel
theorem dX7_set_25 : decode cX7_set 25 = .ok (.iaload, 1) := by decide +kernel
theorem dX7_set_26 : decode cX7_set 26 = .ok (.ifCond .ge 9, 3) := by decide +kernel
theorem dX7_set_29 : decode cX7_set 29 = .ok (.aload_n 0, 1) := by decide +kernel
theorem dX7_set_30 : decode cX7_set 30 = .ok (.iconst 1, 1) := by decide +kernel
theorem dX7_set_31 : decode cX7_set 31 = .ok (.invokevirtual 71, 3) := by decide +kernel
theorem dX7_set_34 : decode cX7_set 34 = .ok (.ireturn, 1) := by decide +kernel
theorem dX7_set_35 : decode cX7_set 35 = .ok (.iload_n 2, 1) := by decide +kernel
theorem dX7_set_36 : decode cX7_set 36 = .ok (.i2l, 1) := by decide +kernel
theorem dX7_set_37 : decode cX7_set 37 = .ok (.lconst 0, 1) := by decide +kernel
theorem dX7_set_38 : decode cX7_set 38 = .ok (.aload_n 0, 1) := by decide +kernel
theorem dX7_set_39 : decode cX7_set 39 = .ok (.getfield 13, 3) := by decide +kernel
theorem dX7_set_42 : decode cX7_set 42 = .ok (.iload_n 1, 1) := by decide +kernel
theorem dX7_set_43 : decode cX7_set 43 = .ok (.iaload, 1) := by decide +kernel
theorem dX7_set_44 : decode cX7_set 44 = .ok (.iconst 1, 1) := by decide +kernel
theorem dX7_set_45 : decode cX7_set 45 = .ok (.isub, 1) := by decide +kernel
theorem dX7_set_46 : decode cX7_set 46 = .ok (.i2l, 1) := by decide +kernel
theorem dX7_set_47 : decode cX7_set 47 = .ok (.invokestatic 60, 3) := by decide +kernel
theorem dX7_set_50 : decode cX7_set 50 = .ok (.ifCond .ne 9, 3) := by decide +kernel
theorem dX7_set_53 : decode cX7_set 53 = .ok (.aload_n 0, 1) := by decide +kernel
theorem dX7_set_54 : decode cX7_set 54 = .ok (.iconst 2, 1) := by decide +kernel
theorem dX7_set_55 : decode cX7_set 55 = .ok (.invokevirtual 71, 3) := by decide +kernel
theorem dX7_set_58 : decode cX7_set 58 = .ok (.ireturn, 1) := by decide +kernel
theorem dX7_set_59 : decode cX7_set 59 = .ok (.aload_n 0, 1) := by decide +kernel
theorem dX7_set_60 : decode cX7_set 60 = .ok (.getfield 16, 3) := by decide +kernel
theorem dX7_set_63 : decode cX7_set 63 = .ok (.bipush 40, 2) := by decide +kernel
theorem dX7_set_65 : decode cX7_set 65 = .ok (.iload_n 1, 1) := by decide +kernel
theorem dX7_set_66 : decode cX7_set 66 = .ok (.imul, 1) := by decide +kernel
theorem dX7_set_67 : decode cX7_set 67 = .ok (.iload_n 2, 1) := by decide +kernel
theorem dX7_set_68 : decode cX7_set 68 = .ok (.iadd, 1) := by decide +kernel
theorem dX7_set_69 : decode cX7_set 69 = .ok (.aload_n 0, 1) := by decide +kernel
theorem dX7_set_70 : decode cX7_set 70 = .ok (.getfield 7, 3) := by decide +kernel
theorem dX7_set_73 : decode cX7_set 73 = .ok (.iload_n 1, 1) := by decide +kernel
theorem dX7_set_74 : decode cX7_set 74 = .ok (.iaload, 1) := by decide +kernel
theorem dX7_set_75 : decode cX7_set 75 = .ok (.ifCond .ne 8, 3) := by decide +kernel
theorem dX7_set_78 : decode cX7_set 78 = .ok (.iload_n 3, 1) := by decide +kernel
theorem dX7_set_79 : decode cX7_set 79 = .ok (.i2b, 1) := by decide +kernel
theorem dX7_set_80 : decode cX7_set 80 = .ok (.goto 19, 3) := by decide +kernel
theorem dX7_set_83 : decode cX7_set 83 = .ok (.aload_n 0, 1) := by decide +kernel
theorem dX7_set_84 : decode cX7_set 84 = .ok (.getfield 7, 3) := by decide +kernel
theorem dX7_set_87 : decode cX7_set 87 = .ok (.iload_n 1, 1) := by decide +kernel
theorem dX7_set_88 : decode cX7_set 88 = .ok (.iaload, 1) := by decide +kernel
theorem dX7_set_89 : decode cX7_set 89 = .ok (.iconst 1, 1) := by decide +kernel
theorem dX7_set_90 : decode cX7_set 90 = .ok (.if_icmp .ne 8, 3) := by decide +kernel
theorem dX7_set_93 : decode cX7_set 93 = .ok (.iload_n 3, 1) := by decide +kernel
theorem dX7_set_94 : decode cX7_set 94 = .ok (.i2s, 1) := by decide +kernel
theorem dX7_set_95 : decode cX7_set 95 = .ok (.goto 4, 3) := by decide +kernel
theorem dX7_set_98 : decode cX7_set 98 = .ok (.iload_n 3, 1) := by decide +kernel
theorem dX7_set_99 : decode cX7_set 99 = .ok (.iastore, 1) := by decide +kernel
theorem dX7_set_100 : decode cX7_set 100 = .ok (.aload_n 0, 1) := by decide +kernel
theorem dX7_set_101 : decode cX7_set 101 = .ok (.getfield 16, 3) := by decide +kernel
theorem dX7_set_104 : decode cX7_set 104 = .ok (.bipush 40, 2) := by decide +kernel
theorem dX7_set_106 : decode cX7_set 106 = .ok (.iload_n 1, 1) := by decide +kernel
theorem dX7_set_107 : decode cX7_set 107 = .ok (.imul, 1) := by decide +kernel
theorem dX7_set_108 : decode cX7_set 108 = .ok (.iload_n 2, 1) := by decide +kernel
theorem dX7_set_109 : decode cX7_set 109 = .ok (.iadd, 1) := by decide +kernel
theorem dX7_set_110 : decode cX7_set 110 = .ok (.iaload, 1) := by decide +kernel
theorem dX7_set_111 : decode cX7_set 111 = .ok (.ireturn, 1) := by decide +kernel
theorem dX7_copy_0 : decode cX7_copy 0 = .ok (.aload_n 0, 1) := by decide +kernel
theorem dX7_copy_1 : decode cX7_copy 1 = .ok (.iconst 0, 1) := by decide +kernel
theorem dX7_copy_2 : decode cX7_copy 2 = .ok (.putfield 50, 3) := by decide +kernel
theorem dX7_copy_5 : decode cX7_copy 5 = .ok (.iload_n 1, 1) := by decide +kernel
theorem dX7_copy_6 : decode cX7_copy 6 = .ok (.invokestatic 64, 3) := by decide +kernel
theorem dX7_copy_9 : decode cX7_copy 9 = .ok (.ifCond .eq 10, 3) := by decide +kernel
theorem dX7_copy_12 : decode cX7_copy 12 = .ok (.iload_n 3, 1) := by decide +kernel
theorem dX7_copy_13 : decode cX7_copy 13 = .ok (.invokestatic 64, 3) := by decide +kernel
theorem dX7_copy_16 : decode cX7_copy 16 = .ok (.ifCond .ne 6, 3) := by decide +kernel
theorem dX7_copy_19 : decode cX7_copy 19 = .ok (.ldc 70, 2) := by decide +kernel
theorem dX7_copy_21 : decode cX7_copy 21 = .ok (.ireturn, 1) := by decide +kernel
theorem dX7_copy_22 : decode cX7_copy 22 = .ok (.aload_n 0, 1) := by decide +kernel
theorem dX7_copy_23 : decode cX7_copy 23 = .ok (.iconst 0, 1) := by decide +kernel
theorem dX7_copy_24 : decode cX7_copy 24 = .ok (.putfield 54, 3) := by decide +kernel
theorem dX7_copy_27 : decode cX7_copy 27 = .ok (.aload_n 0, 1) := by decide +kernel
theorem dX7_copy_28 : decode cX7_copy 28 = .ok (.getfield 7, 3) := by decide +kernel
theorem dX7_copy_31 : decode cX7_copy 31 = .ok (.iload_n 1, 1) := by decide +kernel
theorem dX7_copy_32 : decode cX7_copy 32 = .ok (.iaload, 1) := by decide +kernel
theorem dX7_copy_33 : decode cX7_copy 33 = .ok (.ifCond .lt 12, 3) := by decide +kernel
theorem dX7_copy_36 : decode cX7_copy 36 = .ok (.aload_n 0, 1) := by decide +kernel
theorem dX7_copy_37 : decode cX7_copy 37 = .ok (.getfield 7, 3) := by decide +kernel
theorem dX7_copy_40 : decode cX7_copy 40 = .ok (.iload_n 3, 1) := by decide +kernel
theorem dX7_copy_41 : decode cX7_copy 41 = .ok (.iaload, 1) := by decide +kernel
theorem dX7_copy_42 : decode cX7_copy 42 = .ok (.ifCond .ge 9, 3) := by decide +kernel
theorem dX7_copy_45 : decode cX7_copy 45 = .ok (.aload_n 0, 1) := by decide +kernel
theorem dX7_copy_46 : decode cX7_copy 46 = .ok (.iconst 1, 1) := by decide +kernel
theorem dX7_copy_47 : decode cX7_copy 47 = .ok (.invokevirtual 71, 3) := by decide +kernel
theorem dX7_copy_50 : decode cX7_copy 50 = .ok (.ireturn, 1) := by decide +kernel
theorem dX7_copy_51 : decode cX7_copy 51 = .ok (.aload_n 0, 1) := by decide +kernel
theorem dX7_copy_52 : decode cX7_copy 52 = .ok (.getfield 7, 3) := by decide +kernel
theorem dX7_copy_55 : decode cX7_copy 55 = .ok (.iload_n 1, 1) := by decide +kernel
theorem dX7_copy_56 : decode cX7_copy 56 = .ok (.iaload, 1) := by decide +kernel
theorem dX7_copy_57 : decode cX7_copy 57 = .ok (.aload_n 0, 1) := by decide +kernel
theorem dX7_copy_58 : decode cX7_copy 58 = .ok (.getfield 7, 3) := by decide +kernel
theorem dX7_copy_61 : decode cX7_copy 61 = .ok (.iload_n 3, 1) := by decide +kernel
theorem dX7_copy_62 : decode cX7_copy 62 = .ok (.iaload, 1) := by decide +kernel
theorem dX7_copy_63 : decode cX7_copy 63 = .ok (.if_icmp .eq 9, 3) := by decide +kernel
theorem dX7_copy_66 : decode cX7_copy 66 = .ok (.aload_n 0, 1) := by decide +kernel
theorem dX7_copy_67 : decode cX7_copy 67 = .ok (.iconst 5, 1) := by decide +kernel
theorem dX7_copy_68 : decode cX7_copy 68 = .ok (.invokevirtual 71, 3) := by decide +kernel
theorem dX7_copy_71 : decode cX7_copy 71 = .ok (.ireturn, 1) := by decide +kernel
theorem dX7_copy_72 : decode cX7_copy 72 = .ok (.iload_n 2, 1) := by decide +kernel
theorem dX7_copy_73 : decode cX7_copy 73 = .ok (.ifCond .lt 48, 3) := by decide +kernel
theorem dX7_copy_76 : decode cX7_copy 76 = .ok (.iload 4, 2) := by decide +kernel
theorem dX7_copy_78 : decode cX7_copy 78 = .ok (.ifCond .lt 43, 3) := by decide +kernel
theorem dX7_copy_81 : decode cX7_copy 81 = .ok (.iload 5, 2) := by decide +kernel
theorem dX7_copy_83 : decode cX7_copy 83 = .ok (.ifCond .lt 38, 3) := by decide +kernel
theorem dX7_copy_86 : decode cX7_copy 86 = .ok (.iload_n 2, 1) := by decide +kernel
theorem dX7_copy_87 : decode cX7_copy 87 = .ok (.i2l, 1) := by decide +kernel
theorem dX7_copy_88 : decode cX7_copy 88 = .ok (.iload 5, 2) := by decide +kernel
theorem dX7_copy_90 : decode cX7_copy 90 = .ok (.i2l, 1) := by decide +kernel
theorem dX7_copy_91 : decode cX7_copy 91 = .ok (.ladd, 1) := by decide +kernel
theorem dX7_copy_92 : decode cX7_copy 92 = .ok (.aload_n 0, 1) := by decide +kernel
theorem dX7_copy_93 : decode cX7_copy 93 = .ok (.getfield 13, 3) := by decide +kernel
theorem dX7_copy_96 : decode cX7_copy 96 = .ok (.iload_n 1, 1) := by decide +kernel
theorem dX7_copy_97 : decode cX7_copy 97 = .ok (.iaload, 1) := by decide +kernel
theorem dX7_copy_98 : decode cX7_copy 98 = .ok (.i2l, 1) := by decide +kernel
theorem dX7_copy_99 : decode cX7_copy 99 = .ok (.lcmp, 1) := by decide +kernel
theorem dX7_copy_100 : decode cX7_copy 100 = .ok (.ifCond .gt 21, 3) := by decide +kernel
theorem dX7_copy_103 : decode cX7_copy 103 = .ok (.iload 4, 2) := by decide +kernel
theorem dX7_copy_105 : decode cX7_copy 105 = .ok (.i2l, 1) := by decide +kernel
theorem dX7_copy_106 : decode cX7_copy 106 = .ok (.iload 5, 2) := by decide +kernel
theorem dX7_copy_108 : decode cX7_copy 108 = .ok (.i2l, 1) := by decide +kernel
theorem dX7_copy_109 : decode cX7_copy 109 = .ok (.ladd, 1) := by decide +kernel
theorem dX7_copy_110 : decode cX7_copy 110 = .ok (.aload_n 0, 1) := by decide +kernel
theorem dX7_copy_111 : decode cX7_copy 111 = .ok (.getfield 13, 3) := by decide +kernel
theorem dX7_copy_114 : decode cX7_copy 114 = .ok (.iload_n 3, 1) := by decide +kernel
theorem dX7_copy_115 : decode cX7_copy 115 = .ok (.iaload, 1) := by decide +kernel
theorem dX7_copy_116 : decode cX7_copy 116 = .ok (.i2l, 1) := by decide +kernel
theorem dX7_copy_117 : decode cX7_copy 117 = .ok (.lcmp, 1) := by decide +kernel
theorem dX7_copy_118 : decode cX7_copy 118 = .ok (.ifCond .le 9, 3) := by decide +kernel
theorem dX7_copy_121 : decode cX7_copy 121 = .ok (.aload_n 0, 1) := by decide +kernel
theorem dX7_copy_122 : decode cX7_copy 122 = .ok (.iconst 2, 1) := by decide +kernel
theorem dX7_copy_123 : decode cX7_copy 123 = .ok (.invokevirtual 71, 3) := by decide +kernel
theorem dX7_copy_126 : decode cX7_copy 126 = .ok (.ireturn, 1) := by decide +kernel
theorem dX7_copy_127 : decode cX7_copy 127 = .ok (.iload_n 2, 1) := by decide +kernel
theorem dX7_copy_128 : decode cX7_copy 128 = .ok (.iload 4, 2) := by decide +kernel
theorem dX7_copy_130 : decode cX7_copy 130 = .ok (.if_icmp .lt 7, 3) := by decide +kernel
theorem dX7_copy_133 : decode cX7_copy 133 = .ok (.iconst 1, 1) := by decide +kernel
theorem dX7_copy_134 : decode cX7_copy 134 = .ok (.goto 4, 3) := by decide +kernel
theorem dX7_copy_137 : decode cX7_copy 137 = .ok (.iconst 0, 1) := by decide +kernel
theorem dX7_copy_138 : decode cX7_copy 138 = .ok (.istore 6, 2) := by decide +kernel
theorem dX7_copy_140 : decode cX7_copy 140 = .ok (.iconst 0, 1) := by decide +kernel
theorem dX7_copy_141 : decode cX7_copy 141 = .ok (.istore 7, 2) := by decide +kernel
theorem dX7_copy_143 : decode cX7_copy 143 = .ok (.iload 7, 2) := by decide +kernel
theorem dX7_copy_145 : decode cX7_copy 145 = .ok (.iload 5, 2) := by decide +kernel
theorem dX7_copy_147 : decode cX7_copy 147 = .ok (.if_icmp .ge 57, 3) := by decide +kernel
theorem dX7_copy_150 : decode cX7_copy 150 = .ok (.iload 6, 2) := by decide +kernel
theorem dX7_copy_152 : decode cX7_copy 152 = .ok (.ifCond .eq 8, 3) := by decide +kernel
theorem dX7_copy_155 : decode cX7_copy 155 = .ok (.iload 7, 2) := by decide +kernel
theorem dX7_copy_157 : decode cX7_copy 157 = .ok (.goto 10, 3) := by decide +kernel
theorem dX7_copy_160 : decode cX7_copy 160 = .ok (.iload 5, 2) := by decide +kernel
theorem dX7_copy_162 : decode cX7_copy 162 = .ok (.iconst 1, 1) := by decide +kernel
theorem dX7_copy_163 : decode cX7_copy 163 = .ok (.isub, 1) := by decide +kernel
theorem dX7_copy_164 : decode cX7_copy 164 = .ok (.iload 7, 2) := by decide +kernel
theorem dX7_copy_166 : decode cX7_copy 166 = .ok (.isub, 1) := by decide +kernel
theorem dX7_copy_167 : decode cX7_copy 167 = .ok (.istore 8, 2) := by decide +kernel
theorem dX7_copy_169 : decode cX7_copy 169 = .ok (.aload_n 0, 1) := by decide +kernel
theorem dX7_copy_170 : decode cX7_copy 170 = .ok (.getfield 16, 3) := by decide +kernel
theorem dX7_copy_173 : decode cX7_copy 173 = .ok (.bipush 40, 2) := by decide +kernel
theorem dX7_copy_175 : decode cX7_copy 175 = .ok (.iload_n 3, 1) := by decide +kernel
theorem dX7_copy_176 : decode cX7_copy 176 = .ok (.imul, 1) := by decide +kernel
theorem dX7_copy_177 : decode cX7_copy 177 = .ok (.iload 4, 2) := by decide +kernel
theorem dX7_copy_179 : decode cX7_copy 179 = .ok (.iadd, 1) := by decide +kernel
theorem dX7_copy_180 : decode cX7_copy 180 = .ok (.iload 8, 2) := by decide +kernel
theorem dX7_copy_182 : decode cX7_copy 182 = .ok (.iadd, 1) := by decide +kernel
theorem dX7_copy_183 : decode cX7_copy 183 = .ok (.aload_n 0, 1) := by decide +kernel
theorem dX7_copy_184 : decode cX7_copy 184 = .ok (.getfield 16, 3) := by decide +kernel
theorem dX7_copy_187 : decode cX7_copy 187 = .ok (.bipush 40, 2) := by decide +kernel
theorem dX7_copy_189 : decode cX7_copy 189 = .ok (.iload_n 1, 1) := by decide +kernel
theorem dX7_copy_190 : decode cX7_copy 190 = .ok (.imul, 1) := by decide +kernel
theorem dX7_copy_191 : decode cX7_copy 191 = .ok (.iload_n 2, 1) := by decide +kernel
theorem dX7_copy_192 : decode cX7_copy 192 = .ok (.iadd, 1) := by decide +kernel
theorem dX7_copy_193 : decode cX7_copy 193 = .ok (.iload 8, 2) := by decide +kernel
theorem dX7_copy_195 : decode cX7_copy 195 = .ok (.iadd, 1) := by decide +kernel
theorem dX7_copy_196 : decode cX7_copy 196 = .ok (.iaload, 1) := by decide +kernel
theorem dX7_copy_197 : decode cX7_copy 197 = .ok (.iastore, 1) := by decide +kernel
theorem dX7_copy_198 : decode cX7_copy 198 = .ok (.iinc 7 1, 3) := by decide +kernel
theorem dX7_copy_201 : decode cX7_copy 201 = .ok (.goto (-58), 3) := by decide +kernel
theorem dX7_copy_204 : decode cX7_copy 204 = .ok (.iload 5, 2) := by decide +kernel
theorem dX7_copy_206 : decode cX7_copy 206 = .ok (.ireturn, 1) := by decide +kernel
theorem dX7_drop_0 : decode cX7_drop 0 = .ok (.aload_n 0, 1) := by decide +kernel
theorem dX7_drop_1 : decode cX7_drop 1 = .ok (.iconst 0, 1) := by decide +kernel
theorem dX7_drop_2 : decode cX7_drop 2 = .ok (.putfield 50, 3) := by decide +kernel
theorem dX7_drop_5 : decode cX7_drop 5 = .ok (.iload_n 1, 1) := by decide +kernel
theorem dX7_drop_6 : decode cX7_drop 6 = .ok (.invokestatic 64, 3) := by decide +kernel
theorem dX7_drop_9 : decode cX7_drop 9 = .ok (.ifCond .ne 6, 3) := by decide +kernel
theorem dX7_drop_12 : decode cX7_drop 12 = .ok (.ldc 70, 2) := by decide +kernel
theorem dX7_drop_14 : decode cX7_drop 14 = .ok (.ireturn, 1) := by decide +kernel
theorem dX7_drop_15 : decode cX7_drop 15 = .ok (.aload_n 0, 1) := by decide +kernel
theorem dX7_drop_16 : decode cX7_drop 16 = .ok (.iconst 0, 1) := by decide +kernel
theorem dX7_drop_17 : decode cX7_drop 17 = .ok (.putfield 54, 3) := by decide +kernel
theorem dX7_drop_20 : decode cX7_drop 20 = .ok (.aload_n 0, 1) := by decide +kernel
theorem dX7_drop_21 : decode cX7_drop 21 = .ok (.getfield 7, 3) := by decide +kernel
theorem dX7_drop_24 : decode cX7_drop 24 = .ok (.iload_n 1, 1) := by decide +kernel
theorem dX7_drop_25 : decode cX7_drop 25 = .ok (.iaload, 1) := by decide +kernel
theorem dX7_drop_26 : decode cX7_drop 26 = .ok (.ifCond .ge 9, 3) := by decide +kernel
theorem dX7_drop_29 : decode cX7_drop 29 = .ok (.aload_n 0, 1) := by decide +kernel
theorem dX7_drop_30 : decode cX7_drop 30 = .ok (.iconst 1, 1) := by decide +kernel
theorem dX7_drop_31 : decode cX7_drop 31 = .ok (.invokevirtual 71, 3) := by decide +kernel
theorem dX7_drop_34 : decode cX7_drop 34 = .ok (.ireturn, 1) := by decide +kernel
theorem dX7_drop_35 : decode cX7_drop 35 = .ok (.aload_n 0, 1) := by decide +kernel
theorem dX7_drop_36 : decode cX7_drop 36 = .ok (.getfield 7, 3) := by decide +kernel
theorem dX7_drop_39 : decode cX7_drop 39 = .ok (.iload_n 1, 1) := by decide +kernel
theorem dX7_drop_40 : decode cX7_drop 40 = .ok (.iconst (-1), 1) := by decide +kernel
theorem dX7_drop_41 : decode cX7_drop 41 = .ok (.iastore, 1) := by decide +kernel
theorem dX7_drop_42 : decode cX7_drop 42 = .ok (.aload_n 0, 1) := by decide +kernel
theorem dX7_drop_43 : decode cX7_drop 43 = .ok (.getfield 13, 3) := by decide +kernel
theorem dX7_drop_46 : decode cX7_drop 46 = .ok (.iload_n 1, 1) := by decide +kernel
theorem dX7_drop_47 : decode cX7_drop 47 = .ok (.iaload, 1) := by decide +kernel
theorem dX7_drop_48 : decode cX7_drop 48 = .ok (.ireturn, 1) := by decide +kernel
theorem dX7_feed_0 : decode cX7_feed 0 = .ok (.aload_n 0, 1) := by decide +kernel
theorem dX7_feed_1 : decode cX7_feed 1 = .ok (.iconst 0, 1) := by decide +kernel
theorem dX7_feed_2 : decode cX7_feed 2 = .ok (.putfield 50, 3) := by decide +kernel
theorem dX7_feed_5 : decode cX7_feed 5 = .ok (.iload_n 1, 1) := by decide +kernel
theorem dX7_feed_6 : decode cX7_feed 6 = .ok (.i2l, 1) := by decide +kernel
theorem dX7_feed_7 : decode cX7_feed 7 = .ok (.lconst 0, 1) := by decide +kernel
theorem dX7_feed_8 : decode cX7_feed 8 = .ok (.ldc2_w 75, 3) := by decide +kernel
theorem dX7_feed_11 : decode cX7_feed 11 = .ok (.invokestatic 60, 3) := by decide +kernel
end
section
theorem dX7_feed_14 : decode cX7_feed 14 = .ok (.ifCond .ne 6, 3) := by decide +kernel
theorem dX7_feed_17 : decode cX7_feed 17 = .ok (.ldc 70, 2) := by decide +kernel
theorem dX7_feed_19 : decode cX7_feed 19 = .ok (.ireturn, 1) := by decide +kernel
theorem dX7_feed_20 : decode cX7_feed 20 = .ok (.aload_n 0, 1) := by decide +kernel
theorem dX7_feed_21 : decode cX7_feed 21 = .ok (.getfield 77, 3) := by decide +kernel
theorem dX7_feed_24 : decode cX7_feed 24 = .ok (.bipush 120, 2) := by decide +kernel
theorem dX7_feed_26 : decode cX7_feed 26 = .ok (.if_icmp .ne 6, 3) := by decide +kernel
theorem dX7_feed_29 : decode cX7_feed 29 = .ok (.ldc 80, 2) := by decide +kernel
theorem dX7_feed_31 : decode cX7_feed 31 = .ok (.ireturn, 1) := by decide +kernel
theorem dX7_feed_32 : decode cX7_feed 32 = .ok (.aload_n 0, 1) := by decide +kernel
theorem dX7_feed_33 : decode cX7_feed 33 = .ok (.getfield 31, 3) := by decide +kernel
theorem dX7_feed_36 : decode cX7_feed 36 = .ok (.aload_n 0, 1) := by decide +kernel
theorem dX7_feed_37 : decode cX7_feed 37 = .ok (.getfield 77, 3) := by decide +kernel
theorem dX7_feed_40 : decode cX7_feed 40 = .ok (.iload_n 1, 1) := by decide +kernel
theorem dX7_feed_41 : decode cX7_feed 41 = .ok (.iastore, 1) := by decide +kernel
theorem dX7_feed_42 : decode cX7_feed 42 = .ok (.aload_n 0, 1) := by decide +kernel
theorem dX7_feed_43 : decode cX7_feed 43 = .ok (.dup, 1) := by decide +kernel
theorem dX7_feed_44 : decode cX7_feed 44 = .ok (.getfield 77, 3) := by decide +kernel
theorem dX7_feed_47 : decode cX7_feed 47 = .ok (.iconst 1, 1) := by decide +kernel
theorem dX7_feed_48 : decode cX7_feed 48 = .ok (.iadd, 1) := by decide +kernel
theorem dX7_feed_49 : decode cX7_feed 49 = .ok (.putfield 77, 3) := by decide +kernel
theorem dX7_feed_52 : decode cX7_feed 52 = .ok (.aload_n 0, 1) := by decide +kernel
theorem dX7_feed_53 : decode cX7_feed 53 = .ok (.getfield 77, 3) := by decide +kernel
theorem dX7_feed_56 : decode cX7_feed 56 = .ok (.ireturn, 1) := by decide +kernel
theorem dX7_bad_0 : decode cX7_bad 0 = .ok (.aload_n 0, 1) := by decide +kernel
theorem dX7_bad_1 : decode cX7_bad 1 = .ok (.getfield 81, 3) := by decide +kernel
theorem dX7_bad_4 : decode cX7_bad 4 = .ok (.ifCond .ne 16, 3) := by decide +kernel
theorem dX7_bad_7 : decode cX7_bad 7 = .ok (.aload_n 0, 1) := by decide +kernel
theorem dX7_bad_8 : decode cX7_bad 8 = .ok (.iload_n 1, 1) := by decide +kernel
theorem dX7_bad_9 : decode cX7_bad 9 = .ok (.putfield 81, 3) := by decide +kernel
theorem dX7_bad_12 : decode cX7_bad 12 = .ok (.aload_n 0, 1) := by decide +kernel
theorem dX7_bad_13 : decode cX7_bad 13 = .ok (.aload_n 0, 1) := by decide +kernel
theorem dX7_bad_14 : decode cX7_bad 14 = .ok (.getfield 84, 3) := by decide +kernel
theorem dX7_bad_17 : decode cX7_bad 17 = .ok (.putfield 87, 3) := by decide +kernel
theorem dX7_bad_20 : decode cX7_bad 20 = .ok (.return_, 1) := by decide +kernel
theorem dX7_nextToken_0 : decode cX7_nextToken 0 = .ok (.aload_n 0, 1) := by decide +kernel
theorem dX7_nextToken_1 : decode cX7_nextToken 1 = .ok (.aload_n 0, 1) := by decide +kernel
theorem dX7_nextToken_2 : decode cX7_nextToken 2 = .ok (.getfield 90, 3) := by decide +kernel
theorem dX7_nextToken_5 : decode cX7_nextToken 5 = .ok (.putfield 84, 3) := by decide +kernel
theorem dX7_nextToken_8 : decode cX7_nextToken 8 = .ok (.aload_n 0, 1) := by decide +kernel
theorem dX7_nextToken_9 : decode cX7_nextToken 9 = .ok (.aload_n 0, 1) := by decide +kernel
theorem dX7_nextToken_10 : decode cX7_nextToken 10 = .ok (.getfield 90, 3) := by decide +kernel
theorem dX7_nextToken_13 : decode cX7_nextToken 13 = .ok (.aload_n 0, 1) := by decide +kernel
theorem dX7_nextToken_14 : decode cX7_nextToken 14 = .ok (.getfield 77, 3) := by decide +kernel
theorem dX7_nextToken_17 : decode cX7_nextToken 17 = .ok (.if_icmp .ge 15, 3) := by decide +kernel
theorem dX7_nextToken_20 : decode cX7_nextToken 20 = .ok (.aload_n 0, 1) := by decide +kernel
theorem dX7_nextToken_21 : decode cX7_nextToken 21 = .ok (.getfield 31, 3) := by decide +kernel
theorem dX7_nextToken_24 : decode cX7_nextToken 24 = .ok (.aload_n 0, 1) := by decide +kernel
theorem dX7_nextToken_25 : decode cX7_nextToken 25 = .ok (.getfield 90, 3) := by decide +kernel
theorem dX7_nextToken_28 : decode cX7_nextToken 28 = .ok (.iaload, 1) := by decide +kernel
theorem dX7_nextToken_29 : decode cX7_nextToken 29 = .ok (.goto 5, 3) := by decide +kernel
theorem dX7_nextToken_32 : decode cX7_nextToken 32 = .ok (.ldc 93, 2) := by decide +kernel
theorem dX7_nextToken_34 : decode cX7_nextToken 34 = .ok (.putfield 94, 3) := by decide +kernel
theorem dX7_nextToken_37 : decode cX7_nextToken 37 = .ok (.aload_n 0, 1) := by decide +kernel
theorem dX7_nextToken_38 : decode cX7_nextToken 38 = .ok (.aload_n 0, 1) := by decide +kernel
theorem dX7_nextToken_39 : decode cX7_nextToken 39 = .ok (.getfield 90, 3) := by decide +kernel
theorem dX7_nextToken_42 : decode cX7_nextToken 42 = .ok (.aload_n 0, 1) := by decide +kernel
theorem dX7_nextToken_43 : decode cX7_nextToken 43 = .ok (.getfield 77, 3) := by decide +kernel
theorem dX7_nextToken_46 : decode cX7_nextToken 46 = .ok (.if_icmp .ne 7, 3) := by decide +kernel
theorem dX7_nextToken_49 : decode cX7_nextToken 49 = .ok (.iconst 1, 1) := by decide +kernel
theorem dX7_nextToken_50 : decode cX7_nextToken 50 = .ok (.goto 68, 3) := by decide +kernel
theorem dX7_nextToken_53 : decode cX7_nextToken 53 = .ok (.aload_n 0, 1) := by decide +kernel
theorem dX7_nextToken_54 : decode cX7_nextToken 54 = .ok (.getfield 94, 3) := by decide +kernel
theorem dX7_nextToken_57 : decode cX7_nextToken 57 = .ok (.i2l, 1) := by decide +kernel
theorem dX7_nextToken_58 : decode cX7_nextToken 58 = .ok (.ldc2_w 97, 3) := by decide +kernel
theorem dX7_nextToken_61 : decode cX7_nextToken 61 = .ok (.ldc2_w 99, 3) := by decide +kernel
theorem dX7_nextToken_64 : decode cX7_nextToken 64 = .ok (.invokestatic 60, 3) := by decide +kernel
theorem dX7_nextToken_67 : decode cX7_nextToken 67 = .ok (.ifCond .eq 7, 3) := by decide +kernel
theorem dX7_nextToken_70 : decode cX7_nextToken 70 = .ok (.iconst 2, 1) := by decide +kernel
theorem dX7_nextToken_71 : decode cX7_nextToken 71 = .ok (.goto 47, 3) := by decide +kernel
theorem dX7_nextToken_74 : decode cX7_nextToken 74 = .ok (.aload_n 0, 1) := by decide +kernel
theorem dX7_nextToken_75 : decode cX7_nextToken 75 = .ok (.getfield 94, 3) := by decide +kernel
theorem dX7_nextToken_78 : decode cX7_nextToken 78 = .ok (.i2l, 1) := by decide +kernel
theorem dX7_nextToken_79 : decode cX7_nextToken 79 = .ok (.ldc2_w 101, 3) := by decide +kernel
theorem dX7_nextToken_82 : decode cX7_nextToken 82 = .ok (.ldc2_w 103, 3) := by decide +kernel
theorem dX7_nextToken_85 : decode cX7_nextToken 85 = .ok (.invokestatic 60, 3) := by decide +kernel
theorem dX7_nextToken_88 : decode cX7_nextToken 88 = .ok (.ifCond .eq 7, 3) := by decide +kernel
theorem dX7_nextToken_91 : decode cX7_nextToken 91 = .ok (.iconst 3, 1) := by decide +kernel
theorem dX7_nextToken_92 : decode cX7_nextToken 92 = .ok (.goto 26, 3) := by decide +kernel
theorem dX7_nextToken_95 : decode cX7_nextToken 95 = .ok (.aload_n 0, 1) := by decide +kernel
theorem dX7_nextToken_96 : decode cX7_nextToken 96 = .ok (.getfield 94, 3) := by decide +kernel
theorem dX7_nextToken_99 : decode cX7_nextToken 99 = .ok (.bipush 44, 2) := by decide +kernel
theorem dX7_nextToken_101 : decode cX7_nextToken 101 = .ok (.if_icmp .eq 12, 3) := by decide +kernel
theorem dX7_nextToken_104 : decode cX7_nextToken 104 = .ok (.aload_n 0, 1) := by decide +kernel
theorem dX7_nextToken_105 : decode cX7_nextToken 105 = .ok (.getfield 94, 3) := by decide +kernel
theorem dX7_nextToken_108 : decode cX7_nextToken 108 = .ok (.bipush 59, 2) := by decide +kernel
theorem dX7_nextToken_110 : decode cX7_nextToken 110 = .ok (.if_icmp .ne 7, 3) := by decide +kernel
theorem dX7_nextToken_113 : decode cX7_nextToken 113 = .ok (.iconst 4, 1) := by decide +kernel
theorem dX7_nextToken_114 : decode cX7_nextToken 114 = .ok (.goto 4, 3) := by decide +kernel
theorem dX7_nextToken_117 : decode cX7_nextToken 117 = .ok (.iconst 0, 1) := by decide +kernel
theorem dX7_nextToken_118 : decode cX7_nextToken 118 = .ok (.putfield 105, 3) := by decide +kernel
theorem dX7_nextToken_121 : decode cX7_nextToken 121 = .ok (.aload_n 0, 1) := by decide +kernel
theorem dX7_nextToken_122 : decode cX7_nextToken 122 = .ok (.dup, 1) := by decide +kernel
theorem dX7_nextToken_123 : decode cX7_nextToken 123 = .ok (.getfield 90, 3) := by decide +kernel
theorem dX7_nextToken_126 : decode cX7_nextToken 126 = .ok (.aload_n 0, 1) := by decide +kernel
theorem dX7_nextToken_127 : decode cX7_nextToken 127 = .ok (.getfield 90, 3) := by decide +kernel
theorem dX7_nextToken_130 : decode cX7_nextToken 130 = .ok (.aload_n 0, 1) := by decide +kernel
theorem dX7_nextToken_131 : decode cX7_nextToken 131 = .ok (.getfield 77, 3) := by decide +kernel
theorem dX7_nextToken_134 : decode cX7_nextToken 134 = .ok (.if_icmp .ge 7, 3) := by decide +kernel
theorem dX7_nextToken_137 : decode cX7_nextToken 137 = .ok (.iconst 1, 1) := by decide +kernel
theorem dX7_nextToken_138 : decode cX7_nextToken 138 = .ok (.goto 4, 3) := by decide +kernel
theorem dX7_nextToken_141 : decode cX7_nextToken 141 = .ok (.iconst 0, 1) := by decide +kernel
theorem dX7_nextToken_142 : decode cX7_nextToken 142 = .ok (.iadd, 1) := by decide +kernel
theorem dX7_nextToken_143 : decode cX7_nextToken 143 = .ok (.putfield 90, 3) := by decide +kernel
theorem dX7_nextToken_146 : decode cX7_nextToken 146 = .ok (.aload_n 0, 1) := by decide +kernel
theorem dX7_nextToken_147 : decode cX7_nextToken 147 = .ok (.getfield 105, 3) := by decide +kernel
theorem dX7_nextToken_150 : decode cX7_nextToken 150 = .ok (.iconst 3, 1) := by decide +kernel
theorem dX7_nextToken_151 : decode cX7_nextToken 151 = .ok (.if_icmp .ne 126, 3) := by decide +kernel
theorem dX7_nextToken_154 : decode cX7_nextToken 154 = .ok (.aload_n 0, 1) := by decide +kernel
theorem dX7_nextToken_155 : decode cX7_nextToken 155 = .ok (.dup, 1) := by decide +kernel
theorem dX7_nextToken_156 : decode cX7_nextToken 156 = .ok (.getfield 94, 3) := by decide +kernel
theorem dX7_nextToken_159 : decode cX7_nextToken 159 = .ok (.bipush 48, 2) := by decide +kernel
theorem dX7_nextToken_161 : decode cX7_nextToken 161 = .ok (.isub, 1) := by decide +kernel
theorem dX7_nextToken_162 : decode cX7_nextToken 162 = .ok (.putfield 94, 3) := by decide +kernel
theorem dX7_nextToken_165 : decode cX7_nextToken 165 = .ok (.aload_n 0, 1) := by decide +kernel
theorem dX7_nextToken_166 : decode cX7_nextToken 166 = .ok (.getfield 90, 3) := by decide +kernel
theorem dX7_nextToken_169 : decode cX7_nextToken 169 = .ok (.aload_n 0, 1) := by decide +kernel
theorem dX7_nextToken_170 : decode cX7_nextToken 170 = .ok (.getfield 77, 3) := by decide +kernel
theorem dX7_nextToken_173 : decode cX7_nextToken 173 = .ok (.if_icmp .ge 82, 3) := by decide +kernel
theorem dX7_nextToken_176 : decode cX7_nextToken 176 = .ok (.aload_n 0, 1) := by decide +kernel
theorem dX7_nextToken_177 : decode cX7_nextToken 177 = .ok (.getfield 31, 3) := by decide +kernel
theorem dX7_nextToken_180 : decode cX7_nextToken 180 = .ok (.aload_n 0, 1) := by decide +kernel
theorem dX7_nextToken_181 : decode cX7_nextToken 181 = .ok (.getfield 90, 3) := by decide +kernel
theorem dX7_nextToken_184 : decode cX7_nextToken 184 = .ok (.iaload, 1) := by decide +kernel
theorem dX7_nextToken_185 : decode cX7_nextToken 185 = .ok (.i2l, 1) := by decide +kernel
theorem dX7_nextToken_186 : decode cX7_nextToken 186 = .ok (.ldc2_w 101, 3) := by decide +kernel
theorem dX7_nextToken_189 : decode cX7_nextToken 189 = .ok (.ldc2_w 103, 3) := by decide +kernel
theorem dX7_nextToken_192 : decode cX7_nextToken 192 = .ok (.invokestatic 60, 3) := by decide +kernel
theorem dX7_nextToken_195 : decode cX7_nextToken 195 = .ok (.ifCond .eq 60, 3) := by decide +kernel
theorem dX7_nextToken_198 : decode cX7_nextToken 198 = .ok (.aload_n 0, 1) := by decide +kernel
theorem dX7_nextToken_199 : decode cX7_nextToken 199 = .ok (.aload_n 0, 1) := by decide +kernel
theorem dX7_nextToken_200 : decode cX7_nextToken 200 = .ok (.getfield 90, 3) := by decide +kernel
theorem dX7_nextToken_203 : decode cX7_nextToken 203 = .ok (.aload_n 0, 1) := by decide +kernel
theorem dX7_nextToken_204 : decode cX7_nextToken 204 = .ok (.getfield 84, 3) := by decide +kernel
theorem dX7_nextToken_207 : decode cX7_nextToken 207 = .ok (.isub, 1) := by decide +kernel
theorem dX7_nextToken_208 : decode cX7_nextToken 208 = .ok (.iconst 2, 1) := by decide +kernel
theorem dX7_nextToken_209 : decode cX7_nextToken 209 = .ok (.if_icmp .ge 26, 3) := by decide +kernel
theorem dX7_nextToken_212 : decode cX7_nextToken 212 = .ok (.bipush 10, 2) := by decide +kernel
theorem dX7_nextToken_214 : decode cX7_nextToken 214 = .ok (.aload_n 0, 1) := by decide +kernel
theorem dX7_nextToken_215 : decode cX7_nextToken 215 = .ok (.getfield 94, 3) := by decide +kernel
theorem dX7_nextToken_218 : decode cX7_nextToken 218 = .ok (.imul, 1) := by decide +kernel
theorem dX7_nextToken_219 : decode cX7_nextToken 219 = .ok (.aload_n 0, 1) := by decide +kernel
theorem dX7_nextToken_220 : decode cX7_nextToken 220 = .ok (.getfield 31, 3) := by decide +kernel
theorem dX7_nextToken_223 : decode cX7_nextToken 223 = .ok (.aload_n 0, 1) := by decide +kernel
theorem dX7_nextToken_224 : decode cX7_nextToken 224 = .ok (.getfield 90, 3) := by decide +kernel
theorem dX7_nextToken_227 : decode cX7_nextToken 227 = .ok (.iaload, 1) := by decide +kernel
theorem dX7_nextToken_228 : decode cX7_nextToken 228 = .ok (.iadd, 1) := by decide +kernel
theorem dX7_nextToken_229 : decode cX7_nextToken 229 = .ok (.bipush 48, 2) := by decide +kernel
theorem dX7_nextToken_231 : decode cX7_nextToken 231 = .ok (.isub, 1) := by decide +kernel
theorem dX7_nextToken_232 : decode cX7_nextToken 232 = .ok (.goto 7, 3) := by decide +kernel
theorem dX7_nextToken_235 : decode cX7_nextToken 235 = .ok (.aload_n 0, 1) := by decide +kernel
theorem dX7_nextToken_236 : decode cX7_nextToken 236 = .ok (.getfield 94, 3) := by decide +kernel
theorem dX7_nextToken_239 : decode cX7_nextToken 239 = .ok (.putfield 94, 3) := by decide +kernel
theorem dX7_nextToken_242 : decode cX7_nextToken 242 = .ok (.aload_n 0, 1) := by decide +kernel
theorem dX7_nextToken_243 : decode cX7_nextToken 243 = .ok (.dup, 1) := by decide +kernel
theorem dX7_nextToken_244 : decode cX7_nextToken 244 = .ok (.getfield 90, 3) := by decide +kernel
theorem dX7_nextToken_247 : decode cX7_nextToken 247 = .ok (.iconst 1, 1) := by decide +kernel
theorem dX7_nextToken_248 : decode cX7_nextToken 248 = .ok (.iadd, 1) := by decide +kernel
theorem dX7_nextToken_249 : decode cX7_nextToken 249 = .ok (.putfield 90, 3) := by decide +kernel
theorem dX7_nextToken_252 : decode cX7_nextToken 252 = .ok (.goto (-87), 3) := by decide +kernel
theorem dX7_nextToken_255 : decode cX7_nextToken 255 = .ok (.aload_n 0, 1) := by decide +kernel
theorem dX7_nextToken_256 : decode cX7_nextToken 256 = .ok (.aload_n 0, 1) := by decide +kernel
theorem dX7_nextToken_257 : decode cX7_nextToken 257 = .ok (.getfield 90, 3) := by decide +kernel
theorem dX7_nextToken_260 : decode cX7_nextToken 260 = .ok (.aload_n 0, 1) := by decide +kernel
theorem dX7_nextToken_261 : decode cX7_nextToken 261 = .ok (.getfield 84, 3) := by decide +kernel
theorem dX7_nextToken_264 : decode cX7_nextToken 264 = .ok (.isub, 1) := by decide +kernel
theorem dX7_nextToken_265 : decode cX7_nextToken 265 = .ok (.iconst 2, 1) := by decide +kernel
theorem dX7_nextToken_266 : decode cX7_nextToken 266 = .ok (.if_icmp .le 7, 3) := by decide +kernel
theorem dX7_nextToken_269 : decode cX7_nextToken 269 = .ok (.iconst 0, 1) := by decide +kernel
theorem dX7_nextToken_270 : decode cX7_nextToken 270 = .ok (.goto 4, 3) := by decide +kernel
theorem dX7_nextToken_273 : decode cX7_nextToken 273 = .ok (.iconst 3, 1) := by decide +kernel
theorem dX7_nextToken_274 : decode cX7_nextToken 274 = .ok (.putfield 105, 3) := by decide +kernel
theorem dX7_nextToken_277 : decode cX7_nextToken 277 = .ok (.return_, 1) := by decide +kernel
theorem dX7_must_0 : decode cX7_must 0 = .ok (.iload_n 1, 1) := by decide +kernel
theorem dX7_must_1 : decode cX7_must 1 = .ok (.ifCond .ne 8, 3) := by decide +kernel
theorem dX7_must_4 : decode cX7_must 4 = .ok (.aload_n 0, 1) := by decide +kernel
theorem dX7_must_5 : decode cX7_must 5 = .ok (.iconst 1, 1) := by decide +kernel
theorem dX7_must_6 : decode cX7_must 6 = .ok (.invokevirtual 108, 3) := by decide +kernel
theorem dX7_must_9 : decode cX7_must 9 = .ok (.aload_n 0, 1) := by decide +kernel
theorem dX7_must_10 : decode cX7_must 10 = .ok (.getfield 81, 3) := by decide +kernel
theorem dX7_must_13 : decode cX7_must 13 = .ok (.ifCond .ne 7, 3) := by decide +kernel
theorem dX7_must_16 : decode cX7_must 16 = .ok (.aload_n 0, 1) := by decide +kernel
theorem dX7_must_17 : decode cX7_must 17 = .ok (.invokevirtual 112, 3) := by decide +kernel
theorem dX7_must_20 : decode cX7_must 20 = .ok (.return_, 1) := by decide +kernel
theorem dX7_isLetter_0 : decode cX7_isLetter 0 = .ok (.aload_n 0, 1) := by decide +kernel
theorem dX7_isLetter_1 : decode cX7_isLetter 1 = .ok (.getfield 81, 3) := by decide +kernel
theorem dX7_isLetter_4 : decode cX7_isLetter 4 = .ok (.ifCond .ne 23, 3) := by decide +kernel
theorem dX7_isLetter_7 : decode cX7_isLetter 7 = .ok (.aload_n 0, 1) := by decide +kernel
theorem dX7_isLetter_8 : decode cX7_isLetter 8 = .ok (.getfield 105, 3) := by decide +kernel
theorem dX7_isLetter_11 : decode cX7_isLetter 11 = .ok (.iconst 2, 1) := by decide +kernel
theorem dX7_isLetter_12 : decode cX7_isLetter 12 = .ok (.if_icmp .ne 15, 3) := by decide +kernel
theorem dX7_isLetter_15 : decode cX7_isLetter 15 = .ok (.aload_n 0, 1) := by decide +kernel
theorem dX7_isLetter_16 : decode cX7_isLetter 16 = .ok (.getfield 94, 3) := by decide +kernel
theorem dX7_isLetter_19 : decode cX7_isLetter 19 = .ok (.iload_n 1, 1) := by decide +kernel
theorem dX7_isLetter_20 : decode cX7_isLetter 20 = .ok (.if_icmp .ne 7, 3) := by decide +kernel
theorem dX7_isLetter_23 : decode cX7_isLetter 23 = .ok (.iconst 1, 1) := by decide +kernel
theorem dX7_isLetter_24 : decode cX7_isLetter 24 = .ok (.goto 4, 3) := by decide +kernel
theorem dX7_isLetter_27 : decode cX7_isLetter 27 = .ok (.iconst 0, 1) := by decide +kernel
theorem dX7_isLetter_28 : decode cX7_isLetter 28 = .ok (.ireturn, 1) := by decide +kernel
theorem dX7_number_0 : decode cX7_number 0 = .ok (.aload_n 0, 1) := by decide +kernel
theorem dX7_number_1 : decode cX7_number 1 = .ok (.getfield 81, 3) := by decide +kernel
theorem dX7_number_4 : decode cX7_number 4 = .ok (.ifCond .ne 16, 3) := by decide +kernel
theorem dX7_number_7 : decode cX7_number 7 = .ok (.aload_n 0, 1) := by decide +kernel
theorem dX7_number_8 : decode cX7_number 8 = .ok (.getfield 105, 3) := by decide +kernel
theorem dX7_number_11 : decode cX7_number 11 = .ok (.iconst 3, 1) := by decide +kernel
theorem dX7_number_12 : decode cX7_number 12 = .ok (.if_icmp .eq 8, 3) := by decide +kernel
theorem dX7_number_15 : decode cX7_number 15 = .ok (.aload_n 0, 1) := by decide +kernel
theorem dX7_number_16 : decode cX7_number 16 = .ok (.iconst 1, 1) := by decide +kernel
theorem dX7_number_17 : decode cX7_number 17 = .ok (.invokevirtual 108, 3) := by decide +kernel
theorem dX7_number_20 : decode cX7_number 20 = .ok (.aload_n 0, 1) := by decide +kernel
theorem dX7_number_21 : decode cX7_number 21 = .ok (.getfield 81, 3) := by decide +kernel
theorem dX7_number_24 : decode cX7_number 24 = .ok (.ifCond .ne 23, 3) := by decide +kernel
theorem dX7_number_27 : decode cX7_number 27 = .ok (.aload_n 0, 1) := by decide +kernel
theorem dX7_number_28 : decode cX7_number 28 = .ok (.getfield 94, 3) := by decide +kernel
theorem dX7_number_31 : decode cX7_number 31 = .ok (.i2l, 1) := by decide +kernel
theorem dX7_number_32 : decode cX7_number 32 = .ok (.iload_n 1, 1) := by decide +kernel
theorem dX7_number_33 : decode cX7_number 33 = .ok (.i2l, 1) := by decide +kernel
theorem dX7_number_34 : decode cX7_number 34 = .ok (.iload_n 2, 1) := by decide +kernel
theorem dX7_number_35 : decode cX7_number 35 = .ok (.i2l, 1) := by decide +kernel
theorem dX7_number_36 : decode cX7_number 36 = .ok (.invokestatic 60, 3) := by decide +kernel
theorem dX7_number_39 : decode cX7_number 39 = .ok (.ifCond .ne 8, 3) := by decide +kernel
theorem dX7_number_42 : decode cX7_number 42 = .ok (.aload_n 0, 1) := by decide +kernel
theorem dX7_number_43 : decode cX7_number 43 = .ok (.iconst 2, 1) := by decide +kernel
theorem dX7_number_44 : decode cX7_number 44 = .ok (.invokevirtual 108, 3) := by decide +kernel
theorem dX7_number_47 : decode cX7_number 47 = .ok (.aload_n 0, 1) := by decide +kernel
theorem dX7_number_48 : decode cX7_number 48 = .ok (.getfield 81, 3) := by decide +kernel
theorem dX7_number_51 : decode cX7_number 51 = .ok (.ifCond .ne 10, 3) := by decide +kernel
theorem dX7_number_54 : decode cX7_number 54 = .ok (.aload_n 0, 1) := by decide +kernel
theorem dX7_number_55 : decode cX7_number 55 = .ok (.getfield 94, 3) := by decide +kernel
theorem dX7_number_58 : decode cX7_number 58 = .ok (.goto 4, 3) := by decide +kernel
theorem dX7_number_61 : decode cX7_number 61 = .ok (.iload_n 1, 1) := by decide +kernel
theorem dX7_number_62 : decode cX7_number 62 = .ok (.istore_n 3, 1) := by decide +kernel
theorem dX7_number_63 : decode cX7_number 63 = .ok (.aload_n 0, 1) := by decide +kernel
theorem dX7_number_64 : decode cX7_number 64 = .ok (.iconst 1, 1) := by decide +kernel
theorem dX7_number_65 : decode cX7_number 65 = .ok (.invokevirtual 115, 3) := by decide +kernel
theorem dX7_number_68 : decode cX7_number 68 = .ok (.iload_n 3, 1) := by decide +kernel
theorem dX7_number_69 : decode cX7_number 69 = .ok (.ireturn, 1) := by decide +kernel
theorem dX7_mustSign_0 : decode cX7_mustSign 0 = .ok (.aload_n 0, 1) := by decide +kernel
theorem dX7_mustSign_1 : decode cX7_mustSign 1 = .ok (.aload_n 0, 1) := by decide +kernel
theorem dX7_mustSign_2 : decode cX7_mustSign 2 = .ok (.getfield 105, 3) := by decide +kernel
theorem dX7_mustSign_5 : decode cX7_mustSign 5 = .ok (.iconst 4, 1) := by decide +kernel
theorem dX7_mustSign_6 : decode cX7_mustSign 6 = .ok (.if_icmp .ne 15, 3) := by decide +kernel
theorem dX7_mustSign_9 : decode cX7_mustSign 9 = .ok (.aload_n 0, 1) := by decide +kernel
theorem dX7_mustSign_10 : decode cX7_mustSign 10 = .ok (.getfield 94, 3) := by decide +kernel
theorem dX7_mustSign_13 : decode cX7_mustSign 13 = .ok (.iload_n 1, 1) := by decide +kernel
theorem dX7_mustSign_14 : decode cX7_mustSign 14 = .ok (.if_icmp .ne 7, 3) := by decide +kernel
theorem dX7_mustSign_17 : decode cX7_mustSign 17 = .ok (.iconst 1, 1) := by decide +kernel
theorem dX7_mustSign_18 : decode cX7_mustSign 18 = .ok (.goto 4, 3) := by decide +kernel
theorem dX7_mustSign_21 : decode cX7_mustSign 21 = .ok (.iconst 0, 1) := by decide +kernel
theorem dX7_mustSign_22 : decode cX7_mustSign 22 = .ok (.invokevirtual 115, 3) := by decide +kernel
theorem dX7_mustSign_25 : decode cX7_mustSign 25 = .ok (.return_, 1) := by decide +kernel
theorem dX7_begin_0 : decode cX7_begin 0 = .ok (.aload_n 0, 1) := by decide +kernel
theorem dX7_begin_1 : decode cX7_begin 1 = .ok (.iconst 0, 1) := by decide +kernel
theorem dX7_begin_2 : decode cX7_begin 2 = .ok (.putfield 90, 3) := by decide +kernel
theorem dX7_begin_5 : decode cX7_begin 5 = .ok (.aload_n 0, 1) := by decide +kernel
theorem dX7_begin_6 : decode cX7_begin 6 = .ok (.iconst 0, 1) := by decide +kernel
theorem dX7_begin_7 : decode cX7_begin 7 = .ok (.putfield 81, 3) := by decide +kernel
theorem dX7_begin_10 : decode cX7_begin 10 = .ok (.aload_n 0, 1) := by decide +kernel
theorem dX7_begin_11 : decode cX7_begin 11 = .ok (.invokevirtual 112, 3) := by decide +kernel
theorem dX7_begin_14 : decode cX7_begin 14 = .ok (.return_, 1) := by decide +kernel
theorem dX7_failed_0 : decode cX7_failed 0 = .ok (.aload_n 0, 1) := by decide +kernel
theorem dX7_failed_1 : decode cX7_failed 1 = .ok (.getfield 81, 3) := by decide +kernel
theorem dX7_failed_4 : decode cX7_failed 4 = .ok (.ifCond .ne 16, 3) := by decide +kernel
theorem dX7_failed_7 : decode cX7_failed 7 = .ok (.aload_n 0, 1) := by decide +kernel
theorem dX7_failed_8 : decode cX7_failed 8 = .ok (.getfield 105, 3) := by decide +kernel
theorem dX7_failed_11 : decode cX7_failed 11 = .ok (.iconst 1, 1) := by decide +kernel
theorem dX7_failed_12 : decode cX7_failed 12 = .ok (.if_icmp .eq 8, 3) := by decide +kernel
theorem dX7_failed_15 : decode cX7_failed 15 = .ok (.aload_n 0, 1) := by decide +kernel
theorem dX7_failed_16 : decode cX7_failed 16 = .ok (.iconst 1, 1) := by decide +kernel
theorem dX7_failed_17 : decode cX7_failed 17 = .ok (.invokevirtual 108, 3) := by decide +kernel
theorem dX7_failed_20 : decode cX7_failed 20 = .ok (.aload_n 0, 1) := by decide +kernel
theorem dX7_failed_21 : decode cX7_failed 21 = .ok (.iconst 0, 1) := by decide +kernel
theorem dX7_failed_22 : decode cX7_failed 22 = .ok (.putfield 77, 3) := by decide +kernel
theorem dX7_failed_25 : decode cX7_failed 25 = .ok (.aload_n 0, 1) := by decide +kernel
theorem dX7_failed_26 : decode cX7_failed 26 = .ok (.aload_n 0, 1) := by decide +kernel
theorem dX7_failed_27 : decode cX7_failed 27 = .ok (.getfield 81, 3) := by decide +kernel
theorem dX7_failed_30 : decode cX7_failed 30 = .ok (.ifCond .le 10, 3) := by decide +kernel
theorem dX7_failed_33 : decode cX7_failed 33 = .ok (.aload_n 0, 1) := by decide +kernel
theorem dX7_failed_34 : decode cX7_failed 34 = .ok (.getfield 81, 3) := by decide +kernel
theorem dX7_failed_37 : decode cX7_failed 37 = .ok (.goto 7, 3) := by decide +kernel
theorem dX7_failed_40 : decode cX7_failed 40 = .ok (.aload_n 0, 1) := by decide +kernel
theorem dX7_failed_41 : decode cX7_failed 41 = .ok (.getfield 119, 3) := by decide +kernel
theorem dX7_failed_44 : decode cX7_failed 44 = .ok (.putfield 119, 3) := by decide +kernel
theorem dX7_failed_47 : decode cX7_failed 47 = .ok (.aload_n 0, 1) := by decide +kernel
theorem dX7_failed_48 : decode cX7_failed 48 = .ok (.getfield 81, 3) := by decide +kernel
theorem dX7_failed_51 : decode cX7_failed 51 = .ok (.ifCond .le 7, 3) := by decide +kernel
theorem dX7_failed_54 : decode cX7_failed 54 = .ok (.iconst 1, 1) := by decide +kernel
theorem dX7_failed_55 : decode cX7_failed 55 = .ok (.goto 4, 3) := by decide +kernel
theorem dX7_failed_58 : decode cX7_failed 58 = .ok (.iconst 0, 1) := by decide +kernel
theorem dX7_failed_59 : decode cX7_failed 59 = .ok (.ireturn, 1) := by decide +kernel
theorem dX7_fault_0 : decode cX7_fault 0 = .ok (.aload_n 0, 1) := by decide +kernel
theorem dX7_fault_1 : decode cX7_fault 1 = .ok (.iconst 0, 1) := by decide +kernel
theorem dX7_fault_2 : decode cX7_fault 2 = .ok (.putfield 50, 3) := by decide +kernel
theorem dX7_fault_5 : decode cX7_fault 5 = .ok (.aload_n 0, 1) := by decide +kernel
theorem dX7_fault_6 : decode cX7_fault 6 = .ok (.getfield 119, 3) := by decide +kernel
theorem dX7_fault_9 : decode cX7_fault 9 = .ok (.ireturn, 1) := by decide +kernel
theorem dX7_kindBy_0 : decode cX7_kindBy 0 = .ok (.iload_n 0, 1) := by decide +kernel
theorem dX7_kindBy_1 : decode cX7_kindBy 1 = .ok (.bipush 104, 2) := by decide +kernel
theorem dX7_kindBy_3 : decode cX7_kindBy 3 = .ok (.if_icmp .ne 7, 3) := by decide +kernel
theorem dX7_kindBy_6 : decode cX7_kindBy 6 = .ok (.iconst 1, 1) := by decide +kernel
theorem dX7_kindBy_7 : decode cX7_kindBy 7 = .ok (.goto 45, 3) := by decide +kernel
theorem dX7_kindBy_10 : decode cX7_kindBy 10 = .ok (.iload_n 0, 1) := by decide +kernel
theorem dX7_kindBy_11 : decode cX7_kindBy 11 = .ok (.bipush 98, 2) := by decide +kernel
theorem dX7_kindBy_13 : decode cX7_kindBy 13 = .ok (.if_icmp .ne 7, 3) := by decide +kernel
theorem dX7_kindBy_16 : decode cX7_kindBy 16 = .ok (.iconst 2, 1) := by decide +kernel
theorem dX7_kindBy_17 : decode cX7_kindBy 17 = .ok (.goto 35, 3) := by decide +kernel
theorem dX7_kindBy_20 : decode cX7_kindBy 20 = .ok (.iload_n 0, 1) := by decide +kernel
theorem dX7_kindBy_21 : decode cX7_kindBy 21 = .ok (.bipush 100, 2) := by decide +kernel
theorem dX7_kindBy_23 : decode cX7_kindBy 23 = .ok (.if_icmp .ne 7, 3) := by decide +kernel
theorem dX7_kindBy_26 : decode cX7_kindBy 26 = .ok (.iconst 3, 1) := by decide +kernel
theorem dX7_kindBy_27 : decode cX7_kindBy 27 = .ok (.goto 25, 3) := by decide +kernel
theorem dX7_kindBy_30 : decode cX7_kindBy 30 = .ok (.iload_n 0, 1) := by decide +kernel
theorem dX7_kindBy_31 : decode cX7_kindBy 31 = .ok (.bipush 116, 2) := by decide +kernel
theorem dX7_kindBy_33 : decode cX7_kindBy 33 = .ok (.if_icmp .ne 7, 3) := by decide +kernel
theorem dX7_kindBy_36 : decode cX7_kindBy 36 = .ok (.iconst 4, 1) := by decide +kernel
theorem dX7_kindBy_37 : decode cX7_kindBy 37 = .ok (.goto 15, 3) := by decide +kernel
theorem dX7_kindBy_40 : decode cX7_kindBy 40 = .ok (.iload_n 0, 1) := by decide +kernel
theorem dX7_kindBy_41 : decode cX7_kindBy 41 = .ok (.bipush 110, 2) := by decide +kernel
theorem dX7_kindBy_43 : decode cX7_kindBy 43 = .ok (.if_icmp .ne 7, 3) := by decide +kernel
theorem dX7_kindBy_46 : decode cX7_kindBy 46 = .ok (.iconst 5, 1) := by decide +kernel
theorem dX7_kindBy_47 : decode cX7_kindBy 47 = .ok (.goto 5, 3) := by decide +kernel
theorem dX7_kindBy_50 : decode cX7_kindBy 50 = .ok (.ldc 93, 2) := by decide +kernel
theorem dX7_kindBy_52 : decode cX7_kindBy 52 = .ok (.ireturn, 1) := by decide +kernel
theorem dX7_isSort_0 : decode cX7_isSort 0 = .ok (.aload_n 0, 1) := by decide +kernel
theorem dX7_isSort_1 : decode cX7_isSort 1 = .ok (.getfield 81, 3) := by decide +kernel
theorem dX7_isSort_4 : decode cX7_isSort 4 = .ok (.ifCond .ne 27, 3) := by decide +kernel
theorem dX7_isSort_7 : decode cX7_isSort 7 = .ok (.aload_n 0, 1) := by decide +kernel
theorem dX7_isSort_8 : decode cX7_isSort 8 = .ok (.getfield 105, 3) := by decide +kernel
theorem dX7_isSort_11 : decode cX7_isSort 11 = .ok (.iconst 2, 1) := by decide +kernel
theorem dX7_isSort_12 : decode cX7_isSort 12 = .ok (.if_icmp .ne 19, 3) := by decide +kernel
theorem dX7_isSort_15 : decode cX7_isSort 15 = .ok (.aload_n 0, 1) := by decide +kernel
theorem dX7_isSort_16 : decode cX7_isSort 16 = .ok (.getfield 94, 3) := by decide +kernel
theorem dX7_isSort_19 : decode cX7_isSort 19 = .ok (.invokestatic 122, 3) := by decide +kernel
theorem dX7_isSort_22 : decode cX7_isSort 22 = .ok (.ldc 93, 2) := by decide +kernel
theorem dX7_isSort_24 : decode cX7_isSort 24 = .ok (.if_icmp .eq 7, 3) := by decide +kernel
theorem dX7_isSort_27 : decode cX7_isSort 27 = .ok (.iconst 1, 1) := by decide +kernel
theorem dX7_isSort_28 : decode cX7_isSort 28 = .ok (.goto 4, 3) := by decide +kernel
theorem dX7_isSort_31 : decode cX7_isSort 31 = .ok (.iconst 0, 1) := by decide +kernel
theorem dX7_isSort_32 : decode cX7_isSort 32 = .ok (.ireturn, 1) := by decide +kernel
theorem dX7_readStone_0 : decode cX7_readStone 0 = .ok (.aload_n 0, 1) := by decide +kernel
theorem dX7_readStone_1 : decode cX7_readStone 1 = .ok (.getfield 22, 3) := by decide +kernel
theorem dX7_readStone_4 : decode cX7_readStone 4 = .ok (.iconst 2, 1) := by decide +kernel
theorem dX7_readStone_5 : decode cX7_readStone 5 = .ok (.iaload, 1) := by decide +kernel
theorem dX7_readStone_6 : decode cX7_readStone 6 = .ok (.bipush 6, 2) := by decide +kernel
theorem dX7_readStone_8 : decode cX7_readStone 8 = .ok (.if_icmp .ne 8, 3) := by decide +kernel
theorem dX7_readStone_11 : decode cX7_readStone 11 = .ok (.aload_n 0, 1) := by decide +kernel
theorem dX7_readStone_12 : decode cX7_readStone 12 = .ok (.iconst 3, 1) := by decide +kernel
theorem dX7_readStone_13 : decode cX7_readStone 13 = .ok (.invokevirtual 108, 3) := by decide +kernel
theorem dX7_readStone_16 : decode cX7_readStone 16 = .ok (.aload_n 0, 1) := by decide +kernel
theorem dX7_readStone_17 : decode cX7_readStone 17 = .ok (.iconst 1, 1) := by decide +kernel
theorem dX7_readStone_18 : decode cX7_readStone 18 = .ok (.invokevirtual 115, 3) := by decide +kernel
theorem dX7_readStone_21 : decode cX7_readStone 21 = .ok (.aload_n 0, 1) := by decide +kernel
theorem dX7_readStone_22 : decode cX7_readStone 22 = .ok (.iconst 0, 1) := by decide +kernel
theorem dX7_readStone_23 : decode cX7_readStone 23 = .ok (.bipush 99, 2) := by decide +kernel
theorem dX7_readStone_25 : decode cX7_readStone 25 = .ok (.invokevirtual 125, 3) := by decide +kernel
theorem dX7_readStone_28 : decode cX7_readStone 28 = .ok (.istore_n 1, 1) := by decide +kernel
theorem dX7_readStone_29 : decode cX7_readStone 29 = .ok (.aload_n 0, 1) := by decide +kernel
theorem dX7_readStone_30 : decode cX7_readStone 30 = .ok (.bipush 59, 2) := by decide +kernel
theorem dX7_readStone_32 : decode cX7_readStone 32 = .ok (.invokevirtual 129, 3) := by decide +kernel
theorem dX7_readStone_35 : decode cX7_readStone 35 = .ok (.aload_n 0, 1) := by decide +kernel
theorem dX7_readStone_36 : decode cX7_readStone 36 = .ok (.getfield 81, 3) := by decide +kernel
theorem dX7_readStone_39 : decode cX7_readStone 39 = .ok (.ifCond .ne 27, 3) := by decide +kernel
theorem dX7_readStone_42 : decode cX7_readStone 42 = .ok (.aload_n 0, 1) := by decide +kernel
theorem dX7_readStone_43 : decode cX7_readStone 43 = .ok (.getfield 22, 3) := by decide +kernel
theorem dX7_readStone_46 : decode cX7_readStone 46 = .ok (.iconst 5, 1) := by decide +kernel
theorem dX7_readStone_47 : decode cX7_readStone 47 = .ok (.aload_n 0, 1) := by decide +kernel
theorem dX7_readStone_48 : decode cX7_readStone 48 = .ok (.getfield 22, 3) := by decide +kernel
theorem dX7_readStone_51 : decode cX7_readStone 51 = .ok (.iconst 2, 1) := by decide +kernel
theorem dX7_readStone_52 : decode cX7_readStone 52 = .ok (.iaload, 1) := by decide +kernel
theorem dX7_readStone_53 : decode cX7_readStone 53 = .ok (.iadd, 1) := by decide +kernel
theorem dX7_readStone_54 : decode cX7_readStone 54 = .ok (.iload_n 1, 1) := by decide +kernel
theorem dX7_readStone_55 : decode cX7_readStone 55 = .ok (.iastore, 1) := by decide +kernel
theorem dX7_readStone_56 : decode cX7_readStone 56 = .ok (.aload_n 0, 1) := by decide +kernel
theorem dX7_readStone_57 : decode cX7_readStone 57 = .ok (.getfield 22, 3) := by decide +kernel
theorem dX7_readStone_60 : decode cX7_readStone 60 = .ok (.iconst 2, 1) := by decide +kernel
theorem dX7_readStone_61 : decode cX7_readStone 61 = .ok (.dup2, 1) := by decide +kernel
theorem dX7_readStone_62 : decode cX7_readStone 62 = .ok (.iaload, 1) := by decide +kernel
theorem dX7_readStone_63 : decode cX7_readStone 63 = .ok (.iconst 1, 1) := by decide +kernel
theorem dX7_readStone_64 : decode cX7_readStone 64 = .ok (.iadd, 1) := by decide +kernel
theorem dX7_readStone_65 : decode cX7_readStone 65 = .ok (.iastore, 1) := by decide +kernel
theorem dX7_readStone_66 : decode cX7_readStone 66 = .ok (.return_, 1) := by decide +kernel
theorem dX7_readWitness_0 : decode cX7_readWitness 0 = .ok (.aload_n 0, 1) := by decide +kernel
theorem dX7_readWitness_1 : decode cX7_readWitness 1 = .ok (.getfield 94, 3) := by decide +kernel
theorem dX7_readWitness_4 : decode cX7_readWitness 4 = .ok (.invokestatic 122, 3) := by decide +kernel
theorem dX7_readWitness_7 : decode cX7_readWitness 7 = .ok (.istore_n 1, 1) := by decide +kernel
theorem dX7_readWitness_8 : decode cX7_readWitness 8 = .ok (.aload_n 0, 1) := by decide +kernel
theorem dX7_readWitness_9 : decode cX7_readWitness 9 = .ok (.getfield 22, 3) := by decide +kernel
theorem dX7_readWitness_12 : decode cX7_readWitness 12 = .ok (.iconst 3, 1) := by decide +kernel
theorem dX7_readWitness_13 : decode cX7_readWitness 13 = .ok (.iaload, 1) := by decide +kernel
theorem dX7_readWitness_14 : decode cX7_readWitness 14 = .ok (.bipush 6, 2) := by decide +kernel
theorem dX7_readWitness_16 : decode cX7_readWitness 16 = .ok (.if_icmp .ne 8, 3) := by decide +kernel
theorem dX7_readWitness_19 : decode cX7_readWitness 19 = .ok (.aload_n 0, 1) := by decide +kernel
theorem dX7_readWitness_20 : decode cX7_readWitness 20 = .ok (.iconst 3, 1) := by decide +kernel
theorem dX7_readWitness_21 : decode cX7_readWitness 21 = .ok (.invokevirtual 108, 3) := by decide +kernel
theorem dX7_readWitness_24 : decode cX7_readWitness 24 = .ok (.aload_n 0, 1) := by decide +kernel
theorem dX7_readWitness_25 : decode cX7_readWitness 25 = .ok (.iconst 1, 1) := by decide +kernel
theorem dX7_readWitness_26 : decode cX7_readWitness 26 = .ok (.invokevirtual 115, 3) := by decide +kernel
theorem dX7_readWitness_29 : decode cX7_readWitness 29 = .ok (.aload_n 0, 1) := by decide +kernel
theorem dX7_readWitness_30 : decode cX7_readWitness 30 = .ok (.iconst 0, 1) := by decide +kernel
theorem dX7_readWitness_31 : decode cX7_readWitness 31 = .ok (.bipush 60, 2) := by decide +kernel
theorem dX7_readWitness_33 : decode cX7_readWitness 33 = .ok (.invokevirtual 125, 3) := by decide +kernel
theorem dX7_readWitness_36 : decode cX7_readWitness 36 = .ok (.istore_n 2, 1) := by decide +kernel
theorem dX7_readWitness_37 : decode cX7_readWitness 37 = .ok (.aload_n 0, 1) := by decide +kernel
theorem dX7_readWitness_38 : decode cX7_readWitness 38 = .ok (.bipush 44, 2) := by decide +kernel
theorem dX7_readWitness_40 : decode cX7_readWitness 40 = .ok (.invokevirtual 129, 3) := by decide +kernel
theorem dX7_readWitness_43 : decode cX7_readWitness 43 = .ok (.aload_n 0, 1) := by decide +kernel
theorem dX7_readWitness_44 : decode cX7_readWitness 44 = .ok (.iload_n 2, 1) := by decide +kernel
theorem dX7_readWitness_45 : decode cX7_readWitness 45 = .ok (.iconst 1, 1) := by decide +kernel
theorem dX7_readWitness_46 : decode cX7_readWitness 46 = .ok (.iadd, 1) := by decide +kernel
theorem dX7_readWitness_47 : decode cX7_readWitness 47 = .ok (.bipush 99, 2) := by decide +kernel
theorem dX7_readWitness_49 : decode cX7_readWitness 49 = .ok (.invokevirtual 125, 3) := by decide +kernel
theorem dX7_readWitness_52 : decode cX7_readWitness 52 = .ok (.istore_n 3, 1) := by decide +kernel
theorem dX7_readWitness_53 : decode cX7_readWitness 53 = .ok (.aload_n 0, 1) := by decide +kernel
theorem dX7_readWitness_54 : decode cX7_readWitness 54 = .ok (.bipush 59, 2) := by decide +kernel
theorem dX7_readWitness_56 : decode cX7_readWitness 56 = .ok (.invokevirtual 129, 3) := by decide +kernel
theorem dX7_readWitness_59 : decode cX7_readWitness 59 = .ok (.aload_n 0, 1) := by decide +kernel
theorem dX7_readWitness_60 : decode cX7_readWitness 60 = .ok (.getfield 81, 3) := by decide +kernel
theorem dX7_readWitness_63 : decode cX7_readWitness 63 = .ok (.ifCond .ne 54, 3) := by decide +kernel
theorem dX7_readWitness_66 : decode cX7_readWitness 66 = .ok (.bipush 11, 2) := by decide +kernel
theorem dX7_readWitness_68 : decode cX7_readWitness 68 = .ok (.iconst 4, 1) := by decide +kernel
theorem dX7_readWitness_69 : decode cX7_readWitness 69 = .ok (.aload_n 0, 1) := by decide +kernel
theorem dX7_readWitness_70 : decode cX7_readWitness 70 = .ok (.getfield 22, 3) := by decide +kernel
theorem dX7_readWitness_73 : decode cX7_readWitness 73 = .ok (.iconst 3, 1) := by decide +kernel
theorem dX7_readWitness_74 : decode cX7_readWitness 74 = .ok (.iaload, 1) := by decide +kernel
theorem dX7_readWitness_75 : decode cX7_readWitness 75 = .ok (.imul, 1) := by decide +kernel
theorem dX7_readWitness_76 : decode cX7_readWitness 76 = .ok (.iadd, 1) := by decide +kernel
theorem dX7_readWitness_77 : decode cX7_readWitness 77 = .ok (.istore 4, 2) := by decide +kernel
theorem dX7_readWitness_79 : decode cX7_readWitness 79 = .ok (.aload_n 0, 1) := by decide +kernel
theorem dX7_readWitness_80 : decode cX7_readWitness 80 = .ok (.getfield 22, 3) := by decide +kernel
theorem dX7_readWitness_83 : decode cX7_readWitness 83 = .ok (.iload 4, 2) := by decide +kernel
theorem dX7_readWitness_85 : decode cX7_readWitness 85 = .ok (.iload_n 1, 1) := by decide +kernel
theorem dX7_readWitness_86 : decode cX7_readWitness 86 = .ok (.iastore, 1) := by decide +kernel
theorem dX7_readWitness_87 : decode cX7_readWitness 87 = .ok (.aload_n 0, 1) := by decide +kernel
theorem dX7_readWitness_88 : decode cX7_readWitness 88 = .ok (.getfield 22, 3) := by decide +kernel
theorem dX7_readWitness_91 : decode cX7_readWitness 91 = .ok (.iload 4, 2) := by decide +kernel
theorem dX7_readWitness_93 : decode cX7_readWitness 93 = .ok (.iconst 1, 1) := by decide +kernel
theorem dX7_readWitness_94 : decode cX7_readWitness 94 = .ok (.iadd, 1) := by decide +kernel
theorem dX7_readWitness_95 : decode cX7_readWitness 95 = .ok (.iload_n 2, 1) := by decide +kernel
theorem dX7_readWitness_96 : decode cX7_readWitness 96 = .ok (.iastore, 1) := by decide +kernel
theorem dX7_readWitness_97 : decode cX7_readWitness 97 = .ok (.aload_n 0, 1) := by decide +kernel
theorem dX7_readWitness_98 : decode cX7_readWitness 98 = .ok (.getfield 22, 3) := by decide +kernel
theorem dX7_readWitness_101 : decode cX7_readWitness 101 = .ok (.iload 4, 2) := by decide +kernel
theorem dX7_readWitness_103 : decode cX7_readWitness 103 = .ok (.iconst 2, 1) := by decide +kernel
theorem dX7_readWitness_104 : decode cX7_readWitness 104 = .ok (.iadd, 1) := by decide +kernel
theorem dX7_readWitness_105 : decode cX7_readWitness 105 = .ok (.iload_n 3, 1) := by decide +kernel
theorem dX7_readWitness_106 : decode cX7_readWitness 106 = .ok (.iastore, 1) := by decide +kernel
theorem dX7_readWitness_107 : decode cX7_readWitness 107 = .ok (.aload_n 0, 1) := by decide +kernel
theorem dX7_readWitness_108 : decode cX7_readWitness 108 = .ok (.getfield 22, 3) := by decide +kernel
theorem dX7_readWitness_111 : decode cX7_readWitness 111 = .ok (.iconst 3, 1) := by decide +kernel
theorem dX7_readWitness_112 : decode cX7_readWitness 112 = .ok (.dup2, 1) := by decide +kernel
theorem dX7_readWitness_113 : decode cX7_readWitness 113 = .ok (.iaload, 1) := by decide +kernel
theorem dX7_readWitness_114 : decode cX7_readWitness 114 = .ok (.iconst 1, 1) := by decide +kernel
theorem dX7_readWitness_115 : decode cX7_readWitness 115 = .ok (.iadd, 1) := by decide +kernel
theorem dX7_readWitness_116 : decode cX7_readWitness 116 = .ok (.iastore, 1) := by decide +kernel
theorem dX7_readWitness_117 : decode cX7_readWitness 117 = .ok (.return_, 1) := by decide +kernel
theorem dX7_parish_0 : decode cX7_parish 0 = .ok (.aload_n 0, 1) := by decide +kernel
theorem dX7_parish_1 : decode cX7_parish 1 = .ok (.iconst 0, 1) := by decide +kernel
theorem dX7_parish_2 : decode cX7_parish 2 = .ok (.putfield 50, 3) := by decide +kernel
theorem dX7_parish_5 : decode cX7_parish 5 = .ok (.aload_n 0, 1) := by decide +kernel
theorem dX7_parish_6 : decode cX7_parish 6 = .ok (.invokevirtual 132, 3) := by decide +kernel
theorem dX7_parish_9 : decode cX7_parish 9 = .ok (.iconst 0, 1) := by decide +kernel
theorem dX7_parish_10 : decode cX7_parish 10 = .ok (.istore_n 1, 1) := by decide +kernel
theorem dX7_parish_11 : decode cX7_parish 11 = .ok (.iload_n 1, 1) := by decide +kernel
theorem dX7_parish_12 : decode cX7_parish 12 = .ok (.sipush 143, 3) := by decide +kernel
theorem dX7_parish_15 : decode cX7_parish 15 = .ok (.if_icmp .ge 27, 3) := by decide +kernel
theorem dX7_parish_18 : decode cX7_parish 18 = .ok (.aload_n 0, 1) := by decide +kernel
theorem dX7_parish_19 : decode cX7_parish 19 = .ok (.getfield 22, 3) := by decide +kernel
theorem dX7_parish_22 : decode cX7_parish 22 = .ok (.iload_n 1, 1) := by decide +kernel
theorem dX7_parish_23 : decode cX7_parish 23 = .ok (.iload_n 1, 1) := by decide +kernel
theorem dX7_parish_24 : decode cX7_parish 24 = .ok (.bipush 35, 2) := by decide +kernel
theorem dX7_parish_26 : decode cX7_parish 26 = .ok (.if_icmp .lt 8, 3) := by decide +kernel
theorem dX7_parish_29 : decode cX7_parish 29 = .ok (.ldc 93, 2) := by decide +kernel
theorem dX7_parish_31 : decode cX7_parish 31 = .ok (.goto 4, 3) := by decide +kernel
theorem dX7_parish_34 : decode cX7_parish 34 = .ok (.iconst 0, 1) := by decide +kernel
theorem dX7_parish_35 : decode cX7_parish 35 = .ok (.iastore, 1) := by decide +kernel
theorem dX7_parish_36 : decode cX7_parish 36 = .ok (.iinc 1 1, 3) := by decide +kernel
theorem dX7_parish_39 : decode cX7_parish 39 = .ok (.goto (-28), 3) := by decide +kernel
theorem dX7_parish_42 : decode cX7_parish 42 = .ok (.aload_n 0, 1) := by decide +kernel
theorem dX7_parish_43 : decode cX7_parish 43 = .ok (.aload_n 0, 1) := by decide +kernel
theorem dX7_parish_44 : decode cX7_parish 44 = .ok (.bipush 119, 2) := by decide +kernel
theorem dX7_parish_46 : decode cX7_parish 46 = .ok (.invokevirtual 135, 3) := by decide +kernel
theorem dX7_parish_49 : decode cX7_parish 49 = .ok (.invokevirtual 115, 3) := by decide +kernel
theorem dX7_parish_52 : decode cX7_parish 52 = .ok (.aload_n 0, 1) := by decide +kernel
theorem dX7_parish_53 : decode cX7_parish 53 = .ok (.getfield 22, 3) := by decide +kernel
theorem dX7_parish_56 : decode cX7_parish 56 = .ok (.iconst 0, 1) := by decide +kernel
theorem dX7_parish_57 : decode cX7_parish 57 = .ok (.aload_n 0, 1) := by decide +kernel
theorem dX7_parish_58 : decode cX7_parish 58 = .ok (.iconst 1, 1) := by decide +kernel
theorem dX7_parish_59 : decode cX7_parish 59 = .ok (.bipush 30, 2) := by decide +kernel
theorem dX7_parish_61 : decode cX7_parish 61 = .ok (.invokevirtual 125, 3) := by decide +kernel
theorem dX7_parish_64 : decode cX7_parish 64 = .ok (.iastore, 1) := by decide +kernel
theorem dX7_parish_65 : decode cX7_parish 65 = .ok (.aload_n 0, 1) := by decide +kernel
theorem dX7_parish_66 : decode cX7_parish 66 = .ok (.bipush 44, 2) := by decide +kernel
theorem dX7_parish_68 : decode cX7_parish 68 = .ok (.invokevirtual 129, 3) := by decide +kernel
theorem dX7_parish_71 : decode cX7_parish 71 = .ok (.aload_n 0, 1) := by decide +kernel
theorem dX7_parish_72 : decode cX7_parish 72 = .ok (.getfield 22, 3) := by decide +kernel
theorem dX7_parish_75 : decode cX7_parish 75 = .ok (.iconst 1, 1) := by decide +kernel
theorem dX7_parish_76 : decode cX7_parish 76 = .ok (.aload_n 0, 1) := by decide +kernel
theorem dX7_parish_77 : decode cX7_parish 77 = .ok (.iconst 1, 1) := by decide +kernel
theorem dX7_parish_78 : decode cX7_parish 78 = .ok (.bipush 30, 2) := by decide +kernel
theorem dX7_parish_80 : decode cX7_parish 80 = .ok (.invokevirtual 125, 3) := by decide +kernel
theorem dX7_parish_83 : decode cX7_parish 83 = .ok (.iastore, 1) := by decide +kernel
theorem dX7_parish_84 : decode cX7_parish 84 = .ok (.aload_n 0, 1) := by decide +kernel
theorem dX7_parish_85 : decode cX7_parish 85 = .ok (.bipush 59, 2) := by decide +kernel
theorem dX7_parish_87 : decode cX7_parish 87 = .ok (.invokevirtual 129, 3) := by decide +kernel
theorem dX7_parish_90 : decode cX7_parish 90 = .ok (.aload_n 0, 1) := by decide +kernel
theorem dX7_parish_91 : decode cX7_parish 91 = .ok (.bipush 115, 2) := by decide +kernel
theorem dX7_parish_93 : decode cX7_parish 93 = .ok (.invokevirtual 135, 3) := by decide +kernel
theorem dX7_parish_96 : decode cX7_parish 96 = .ok (.ifCond .ne 8, 3) := by decide +kernel
theorem dX7_parish_99 : decode cX7_parish 99 = .ok (.aload_n 0, 1) := by decide +kernel
theorem dX7_parish_100 : decode cX7_parish 100 = .ok (.iconst 1, 1) := by decide +kernel
theorem dX7_parish_101 : decode cX7_parish 101 = .ok (.invokevirtual 108, 3) := by decide +kernel
theorem dX7_parish_104 : decode cX7_parish 104 = .ok (.aload_n 0, 1) := by decide +kernel
theorem dX7_parish_105 : decode cX7_parish 105 = .ok (.bipush 115, 2) := by decide +kernel
theorem dX7_parish_107 : decode cX7_parish 107 = .ok (.invokevirtual 135, 3) := by decide +kernel
theorem dX7_parish_110 : decode cX7_parish 110 = .ok (.ifCond .eq 10, 3) := by decide +kernel
theorem dX7_parish_113 : decode cX7_parish 113 = .ok (.aload_n 0, 1) := by decide +kernel
theorem dX7_parish_114 : decode cX7_parish 114 = .ok (.invokevirtual 138, 3) := by decide +kernel
theorem dX7_parish_117 : decode cX7_parish 117 = .ok (.goto (-13), 3) := by decide +kernel
theorem dX7_parish_120 : decode cX7_parish 120 = .ok (.aload_n 0, 1) := by decide +kernel
theorem dX7_parish_121 : decode cX7_parish 121 = .ok (.invokevirtual 141, 3) := by decide +kernel
theorem dX7_parish_124 : decode cX7_parish 124 = .ok (.ifCond .ne 8, 3) := by decide +kernel
theorem dX7_parish_127 : decode cX7_parish 127 = .ok (.aload_n 0, 1) := by decide +kernel
theorem dX7_parish_128 : decode cX7_parish 128 = .ok (.iconst 1, 1) := by decide +kernel
theorem dX7_parish_129 : decode cX7_parish 129 = .ok (.invokevirtual 108, 3) := by decide +kernel
theorem dX7_parish_132 : decode cX7_parish 132 = .ok (.aload_n 0, 1) := by decide +kernel
theorem dX7_parish_133 : decode cX7_parish 133 = .ok (.invokevirtual 141, 3) := by decide +kernel
theorem dX7_parish_136 : decode cX7_parish 136 = .ok (.ifCond .eq 10, 3) := by decide +kernel
theorem dX7_parish_139 : decode cX7_parish 139 = .ok (.aload_n 0, 1) := by decide +kernel
theorem dX7_parish_140 : decode cX7_parish 140 = .ok (.invokevirtual 145, 3) := by decide +kernel
theorem dX7_parish_143 : decode cX7_parish 143 = .ok (.goto (-11), 3) := by decide +kernel
theorem dX7_parish_146 : decode cX7_parish 146 = .ok (.aload_n 0, 1) := by decide +kernel
theorem dX7_parish_147 : decode cX7_parish 147 = .ok (.invokevirtual 148, 3) := by decide +kernel
theorem dX7_parish_150 : decode cX7_parish 150 = .ok (.ifCond .eq 11, 3) := by decide +kernel
theorem dX7_parish_153 : decode cX7_parish 153 = .ok (.ldc 151, 2) := by decide +kernel
theorem dX7_parish_155 : decode cX7_parish 155 = .ok (.aload_n 0, 1) := by decide +kernel
theorem dX7_parish_156 : decode cX7_parish 156 = .ok (.getfield 87, 3) := by decide +kernel
theorem dX7_parish_159 : decode cX7_parish 159 = .ok (.isub, 1) := by decide +kernel
theorem dX7_parish_160 : decode cX7_parish 160 = .ok (.ireturn, 1) := by decide +kernel
theorem dX7_parish_161 : decode cX7_parish 161 = .ok (.aload_n 0, 1) := by decide +kernel
theorem dX7_parish_162 : decode cX7_parish 162 = .ok (.iconst 0, 1) := by decide +kernel
theorem dX7_parish_163 : decode cX7_parish 163 = .ok (.putfield 152, 3) := by decide +kernel
theorem dX7_parish_166 : decode cX7_parish 166 = .ok (.iconst 0, 1) := by decide +kernel
theorem dX7_parish_167 : decode cX7_parish 167 = .ok (.istore_n 1, 1) := by decide +kernel
theorem dX7_parish_168 : decode cX7_parish 168 = .ok (.iload_n 1, 1) := by decide +kernel
theorem dX7_parish_169 : decode cX7_parish 169 = .ok (.sipush 143, 3) := by decide +kernel
theorem dX7_parish_172 : decode cX7_parish 172 = .ok (.if_icmp .ge 21, 3) := by decide +kernel
theorem dX7_parish_175 : decode cX7_parish 175 = .ok (.aload_n 0, 1) := by decide +kernel
theorem dX7_parish_176 : decode cX7_parish 176 = .ok (.getfield 19, 3) := by decide +kernel
theorem dX7_parish_179 : decode cX7_parish 179 = .ok (.iload_n 1, 1) := by decide +kernel
theorem dX7_parish_180 : decode cX7_parish 180 = .ok (.aload_n 0, 1) := by decide +kernel
theorem dX7_parish_181 : decode cX7_parish 181 = .ok (.getfield 22, 3) := by decide +kernel
theorem dX7_parish_184 : decode cX7_parish 184 = .ok (.iload_n 1, 1) := by decide +kernel
theorem dX7_parish_185 : decode cX7_parish 185 = .ok (.iaload, 1) := by decide +kernel
theorem dX7_parish_186 : decode cX7_parish 186 = .ok (.iastore, 1) := by decide +kernel
theorem dX7_parish_187 : decode cX7_parish 187 = .ok (.iinc 1 1, 3) := by decide +kernel
theorem dX7_parish_190 : decode cX7_parish 190 = .ok (.goto (-22), 3) := by decide +kernel
theorem dX7_parish_193 : decode cX7_parish 193 = .ok (.aload_n 0, 1) := by decide +kernel
theorem dX7_parish_194 : decode cX7_parish 194 = .ok (.getfield 19, 3) := by decide +kernel
theorem dX7_parish_197 : decode cX7_parish 197 = .ok (.iconst 3, 1) := by decide +kernel
theorem dX7_parish_198 : decode cX7_parish 198 = .ok (.iaload, 1) := by decide +kernel
theorem dX7_parish_199 : decode cX7_parish 199 = .ok (.ireturn, 1) := by decide +kernel
theorem dX7_isThere_0 : decode cX7_isThere 0 = .ok (.aload_n 0, 1) := by decide +kernel
theorem dX7_isThere_1 : decode cX7_isThere 1 = .ok (.getfield 19, 3) := by decide +kernel
theorem dX7_isThere_4 : decode cX7_isThere 4 = .ok (.iconst 2, 1) := by decide +kernel
theorem dX7_isThere_5 : decode cX7_isThere 5 = .ok (.iaload, 1) := by decide +kernel
theorem dX7_isThere_6 : decode cX7_isThere 6 = .ok (.ifCond .le 7, 3) := by decide +kernel
theorem dX7_isThere_9 : decode cX7_isThere 9 = .ok (.iconst 1, 1) := by decide +kernel
theorem dX7_isThere_10 : decode cX7_isThere 10 = .ok (.goto 4, 3) := by decide +kernel
theorem dX7_isThere_13 : decode cX7_isThere 13 = .ok (.iconst 0, 1) := by decide +kernel
theorem dX7_isThere_14 : decode cX7_isThere 14 = .ok (.ireturn, 1) := by decide +kernel
theorem dX7_isStone_0 : decode cX7_isStone 0 = .ok (.iload_n 1, 1) := by decide +kernel
theorem dX7_isStone_1 : decode cX7_isStone 1 = .ok (.i2l, 1) := by decide +kernel
theorem dX7_isStone_2 : decode cX7_isStone 2 = .ok (.lconst 0, 1) := by decide +kernel
theorem dX7_isStone_3 : decode cX7_isStone 3 = .ok (.aload_n 0, 1) := by decide +kernel
theorem dX7_isStone_4 : decode cX7_isStone 4 = .ok (.getfield 19, 3) := by decide +kernel
theorem dX7_isStone_7 : decode cX7_isStone 7 = .ok (.iconst 2, 1) := by decide +kernel
theorem dX7_isStone_8 : decode cX7_isStone 8 = .ok (.iaload, 1) := by decide +kernel
theorem dX7_isStone_9 : decode cX7_isStone 9 = .ok (.iconst 1, 1) := by decide +kernel
theorem dX7_isStone_10 : decode cX7_isStone 10 = .ok (.isub, 1) := by decide +kernel
theorem dX7_isStone_11 : decode cX7_isStone 11 = .ok (.i2l, 1) := by decide +kernel
theorem dX7_isStone_12 : decode cX7_isStone 12 = .ok (.invokestatic 60, 3) := by decide +kernel
theorem dX7_isStone_15 : decode cX7_isStone 15 = .ok (.ireturn, 1) := by decide +kernel
theorem dX7_isWitness_0 : decode cX7_isWitness 0 = .ok (.iload_n 1, 1) := by decide +kernel
theorem dX7_isWitness_1 : decode cX7_isWitness 1 = .ok (.i2l, 1) := by decide +kernel
theorem dX7_isWitness_2 : decode cX7_isWitness 2 = .ok (.lconst 0, 1) := by decide +kernel
theorem dX7_isWitness_3 : decode cX7_isWitness 3 = .ok (.aload_n 0, 1) := by decide +kernel
theorem dX7_isWitness_4 : decode cX7_isWitness 4 = .ok (.getfield 19, 3) := by decide +kernel
theorem dX7_isWitness_7 : decode cX7_isWitness 7 = .ok (.iconst 3, 1) := by decide +kernel
theorem dX7_isWitness_8 : decode cX7_isWitness 8 = .ok (.iaload, 1) := by decide +kernel
theorem dX7_isWitness_9 : decode cX7_isWitness 9 = .ok (.iconst 1, 1) := by decide +kernel
theorem dX7_isWitness_10 : decode cX7_isWitness 10 = .ok (.isub, 1) := by decide +kernel
theorem dX7_isWitness_11 : decode cX7_isWitness 11 = .ok (.i2l, 1) := by decide +kernel
theorem dX7_isWitness_12 : decode cX7_isWitness 12 = .ok (.invokestatic 60, 3) := by decide +kernel
theorem dX7_isWitness_15 : decode cX7_isWitness 15 = .ok (.ireturn, 1) := by decide +kernel
theorem dX7_everybody_0 : decode cX7_everybody 0 = .ok (.iconst 1, 1) := by decide +kernel
theorem dX7_everybody_1 : decode cX7_everybody 1 = .ok (.aload_n 0, 1) := by decide +kernel
theorem dX7_everybody_2 : decode cX7_everybody 2 = .ok (.getfield 19, 3) := by decide +kernel
theorem dX7_everybody_5 : decode cX7_everybody 5 = .ok (.iconst 3, 1) := by decide +kernel
theorem dX7_everybody_6 : decode cX7_everybody 6 = .ok (.iaload, 1) := by decide +kernel
theorem dX7_everybody_7 : decode cX7_everybody 7 = .ok (.ishl, 1) := by decide +kernel
theorem dX7_everybody_8 : decode cX7_everybody 8 = .ok (.iconst 1, 1) := by decide +kernel
theorem dX7_everybody_9 : decode cX7_everybody 9 = .ok (.isub, 1) := by decide +kernel
theorem dX7_everybody_10 : decode cX7_everybody 10 = .ok (.ireturn, 1) := by decide +kernel
theorem dX7_bits_0 : decode cX7_bits 0 = .ok (.iconst 0, 1) := by decide +kernel
theorem dX7_bits_1 : decode cX7_bits 1 = .ok (.istore_n 1, 1) := by decide +kernel
theorem dX7_bits_2 : decode cX7_bits 2 = .ok (.iconst 0, 1) := by decide +kernel
theorem dX7_bits_3 : decode cX7_bits 3 = .ok (.istore_n 2, 1) := by decide +kernel
theorem dX7_bits_4 : decode cX7_bits 4 = .ok (.iload_n 2, 1) := by decide +kernel
theorem dX7_bits_5 : decode cX7_bits 5 = .ok (.bipush 6, 2) := by decide +kernel
theorem dX7_bits_7 : decode cX7_bits 7 = .ok (.if_icmp .ge 17, 3) := by decide +kernel
theorem dX7_bits_10 : decode cX7_bits 10 = .ok (.iload_n 1, 1) := by decide +kernel
theorem dX7_bits_11 : decode cX7_bits 11 = .ok (.iload_n 0, 1) := by decide +kernel
theorem dX7_bits_12 : decode cX7_bits 12 = .ok (.iload_n 2, 1) := by decide +kernel
theorem dX7_bits_13 : decode cX7_bits 13 = .ok (.ishr, 1) := by decide +kernel
theorem dX7_bits_14 : decode cX7_bits 14 = .ok (.iconst 1, 1) := by decide +kernel
theorem dX7_bits_15 : decode cX7_bits 15 = .ok (.iand, 1) := by decide +kernel
theorem dX7_bits_16 : decode cX7_bits 16 = .ok (.iadd, 1) := by decide +kernel
theorem dX7_bits_17 : decode cX7_bits 17 = .ok (.istore_n 1, 1) := by decide +kernel
theorem dX7_bits_18 : decode cX7_bits 18 = .ok (.iinc 2 1, 3) := by decide +kernel
theorem dX7_bits_21 : decode cX7_bits 21 = .ok (.goto (-17), 3) := by decide +kernel
theorem dX7_bits_24 : decode cX7_bits 24 = .ok (.iload_n 1, 1) := by decide +kernel
theorem dX7_bits_25 : decode cX7_bits 25 = .ok (.ireturn, 1) := by decide +kernel
theorem dX7_has_0 : decode cX7_has 0 = .ok (.iload_n 0, 1) := by decide +kernel
theorem dX7_has_1 : decode cX7_has 1 = .ok (.iload_n 1, 1) := by decide +kernel
theorem dX7_has_2 : decode cX7_has 2 = .ok (.ishr, 1) := by decide +kernel
theorem dX7_has_3 : decode cX7_has 3 = .ok (.iconst 1, 1) := by decide +kernel
theorem dX7_has_4 : decode cX7_has 4 = .ok (.iand, 1) := by decide +kernel
theorem dX7_has_5 : decode cX7_has 5 = .ok (.iconst 1, 1) := by decide +kernel
theorem dX7_has_6 : decode cX7_has 6 = .ok (.if_icmp .ne 7, 3) := by decide +kernel
theorem dX7_has_9 : decode cX7_has 9 = .ok (.iconst 1, 1) := by decide +kernel
theorem dX7_has_10 : decode cX7_has 10 = .ok (.goto 4, 3) := by decide +kernel
theorem dX7_has_13 : decode cX7_has 13 = .ok (.iconst 0, 1) := by decide +kernel
theorem dX7_has_14 : decode cX7_has 14 = .ok (.ireturn, 1) := by decide +kernel
theorem dX7_of_0 : decode cX7_of 0 = .ok (.aload_n 0, 1) := by decide +kernel
theorem dX7_of_1 : decode cX7_of 1 = .ok (.bipush 11, 2) := by decide +kernel
theorem dX7_of_3 : decode cX7_of 3 = .ok (.iconst 4, 1) := by decide +kernel
theorem dX7_of_4 : decode cX7_of 4 = .ok (.iload_n 1, 1) := by decide +kernel
theorem dX7_of_5 : decode cX7_of 5 = .ok (.imul, 1) := by decide +kernel
theorem dX7_of_6 : decode cX7_of 6 = .ok (.iadd, 1) := by decide +kernel
theorem dX7_of_7 : decode cX7_of 7 = .ok (.iload_n 2, 1) := by decide +kernel
theorem dX7_of_8 : decode cX7_of 8 = .ok (.iadd, 1) := by decide +kernel
theorem dX7_of_9 : decode cX7_of 9 = .ok (.iaload, 1) := by decide +kernel
theorem dX7_of_10 : decode cX7_of 10 = .ok (.ireturn, 1) := by decide +kernel
theorem dX7_known_0 : decode cX7_known 0 = .ok (.bipush 35, 2) := by decide +kernel
theorem dX7_known_2 : decode cX7_known 2 = .ok (.iconst 3, 1) := by decide +kernel
theorem dX7_known_3 : decode cX7_known 3 = .ok (.bipush 6, 2) := by decide +kernel
theorem dX7_known_5 : decode cX7_known 5 = .ok (.iload_n 0, 1) := by decide +kernel
theorem dX7_known_6 : decode cX7_known 6 = .ok (.imul, 1) := by decide +kernel
theorem dX7_known_7 : decode cX7_known 7 = .ok (.iload_n 1, 1) := by decide +kernel
theorem dX7_known_8 : decode cX7_known 8 = .ok (.iadd, 1) := by decide +kernel
theorem dX7_known_9 : decode cX7_known 9 = .ok (.imul, 1) := by decide +kernel
theorem dX7_known_10 : decode cX7_known 10 = .ok (.iadd, 1) := by decide +kernel
theorem dX7_known_11 : decode cX7_known 11 = .ok (.ireturn, 1) := by decide +kernel
theorem dX7_isAlive_0 : decode cX7_isAlive 0 = .ok (.aload_n 0, 1) := by decide +kernel
theorem dX7_isAlive_1 : decode cX7_isAlive 1 = .ok (.iload_n 1, 1) := by decide +kernel
theorem dX7_isAlive_2 : decode cX7_isAlive 2 = .ok (.iconst 1, 1) := by decide +kernel
theorem dX7_isAlive_3 : decode cX7_isAlive 3 = .ok (.invokestatic 155, 3) := by decide +kernel
theorem dX7_isAlive_6 : decode cX7_isAlive 6 = .ok (.aload_n 0, 1) := by decide +kernel
theorem dX7_isAlive_7 : decode cX7_isAlive 7 = .ok (.iload_n 1, 1) := by decide +kernel
theorem dX7_isAlive_8 : decode cX7_isAlive 8 = .ok (.iconst 2, 1) := by decide +kernel
theorem dX7_isAlive_9 : decode cX7_isAlive 9 = .ok (.invokestatic 155, 3) := by decide +kernel
theorem dX7_isAlive_12 : decode cX7_isAlive 12 = .ok (.if_icmp .ge 7, 3) := by decide +kernel
theorem dX7_isAlive_15 : decode cX7_isAlive 15 = .ok (.iconst 1, 1) := by decide +kernel
theorem dX7_isAlive_16 : decode cX7_isAlive 16 = .ok (.goto 4, 3) := by decide +kernel
theorem dX7_isAlive_19 : decode cX7_isAlive 19 = .ok (.iconst 0, 1) := by decide +kernel
theorem dX7_isAlive_20 : decode cX7_isAlive 20 = .ok (.ireturn, 1) := by decide +kernel
theorem dX7_isTaken_0 : decode cX7_isTaken 0 = .ok (.aload_n 0, 1) := by decide +kernel
theorem dX7_isTaken_1 : decode cX7_isTaken 1 = .ok (.iload_n 1, 1) := by decide +kernel
theorem dX7_isTaken_2 : decode cX7_isTaken 2 = .ok (.invokestatic 159, 3) := by decide +kernel
theorem dX7_isTaken_5 : decode cX7_isTaken 5 = .ok (.ifCond .eq 18, 3) := by decide +kernel
theorem dX7_isTaken_8 : decode cX7_isTaken 8 = .ok (.aload_n 0, 1) := by decide +kernel
theorem dX7_isTaken_9 : decode cX7_isTaken 9 = .ok (.iload_n 1, 1) := by decide +kernel
theorem dX7_isTaken_10 : decode cX7_isTaken 10 = .ok (.iconst 1, 1) := by decide +kernel
theorem dX7_isTaken_11 : decode cX7_isTaken 11 = .ok (.invokestatic 155, 3) := by decide +kernel
theorem dX7_isTaken_14 : decode cX7_isTaken 14 = .ok (.bipush 60, 2) := by decide +kernel
theorem dX7_isTaken_16 : decode cX7_isTaken 16 = .ok (.if_icmp .gt 7, 3) := by decide +kernel
theorem dX7_isTaken_19 : decode cX7_isTaken 19 = .ok (.iconst 1, 1) := by decide +kernel
theorem dX7_isTaken_20 : decode cX7_isTaken 20 = .ok (.goto 4, 3) := by decide +kernel
theorem dX7_isTaken_23 : decode cX7_isTaken 23 = .ok (.iconst 0, 1) := by decide +kernel
theorem dX7_isTaken_24 : decode cX7_isTaken 24 = .ok (.ireturn, 1) := by decide +kernel
theorem dX7_says_0 : decode cX7_says 0 = .ok (.iload_n 1, 1) := by decide +kernel
theorem dX7_says_1 : decode cX7_says 1 = .ok (.iload_n 2, 1) := by decide +kernel
theorem dX7_says_2 : decode cX7_says 2 = .ok (.invokestatic 163, 3) := by decide +kernel
theorem dX7_says_5 : decode cX7_says 5 = .ok (.istore_n 3, 1) := by decide +kernel
theorem dX7_says_6 : decode cX7_says 6 = .ok (.aload_n 0, 1) := by decide +kernel
theorem dX7_says_7 : decode cX7_says 7 = .ok (.iload_n 1, 1) := by decide +kernel
theorem dX7_says_8 : decode cX7_says 8 = .ok (.iconst 0, 1) := by decide +kernel
theorem dX7_says_9 : decode cX7_says 9 = .ok (.invokestatic 155, 3) := by decide +kernel
theorem dX7_says_12 : decode cX7_says 12 = .ok (.istore 4, 2) := by decide +kernel
theorem dX7_says_14 : decode cX7_says 14 = .ok (.aload_n 0, 1) := by decide +kernel
theorem dX7_says_15 : decode cX7_says 15 = .ok (.iload_n 3, 1) := by decide +kernel
theorem dX7_says_16 : decode cX7_says 16 = .ok (.iconst 2, 1) := by decide +kernel
theorem dX7_says_17 : decode cX7_says 17 = .ok (.iadd, 1) := by decide +kernel
theorem dX7_says_18 : decode cX7_says 18 = .ok (.iaload, 1) := by decide +kernel
theorem dX7_says_19 : decode cX7_says 19 = .ok (.ldc 93, 2) := by decide +kernel
theorem dX7_says_21 : decode cX7_says 21 = .ok (.if_icmp .ne 6, 3) := by decide +kernel
theorem dX7_says_24 : decode cX7_says 24 = .ok (.ldc 93, 2) := by decide +kernel
theorem dX7_says_26 : decode cX7_says 26 = .ok (.ireturn, 1) := by decide +kernel
theorem dX7_says_27 : decode cX7_says 27 = .ok (.aload_n 0, 1) := by decide +kernel
theorem dX7_says_28 : decode cX7_says 28 = .ok (.iconst 4, 1) := by decide +kernel
theorem dX7_says_29 : decode cX7_says 29 = .ok (.iaload, 1) := by decide +kernel
theorem dX7_says_30 : decode cX7_says 30 = .ok (.aload_n 0, 1) := by decide +kernel
theorem dX7_says_31 : decode cX7_says 31 = .ok (.iload_n 3, 1) := by decide +kernel
theorem dX7_says_32 : decode cX7_says 32 = .ok (.iconst 2, 1) := by decide +kernel
theorem dX7_says_33 : decode cX7_says 33 = .ok (.iadd, 1) := by decide +kernel
theorem dX7_says_34 : decode cX7_says 34 = .ok (.iaload, 1) := by decide +kernel
theorem dX7_says_35 : decode cX7_says 35 = .ok (.isub, 1) := by decide +kernel
theorem dX7_says_36 : decode cX7_says 36 = .ok (.istore 5, 2) := by decide +kernel
theorem dX7_says_38 : decode cX7_says 38 = .ok (.iload 5, 2) := by decide +kernel
theorem dX7_says_40 : decode cX7_says 40 = .ok (.aload_n 0, 1) := by decide +kernel
theorem dX7_says_41 : decode cX7_says 41 = .ok (.iconst 0, 1) := by decide +kernel
theorem dX7_says_42 : decode cX7_says 42 = .ok (.iaload, 1) := by decide +kernel
theorem dX7_says_43 : decode cX7_says 43 = .ok (.aload_n 0, 1) := by decide +kernel
theorem dX7_says_44 : decode cX7_says 44 = .ok (.iload_n 3, 1) := by decide +kernel
theorem dX7_says_45 : decode cX7_says 45 = .ok (.iconst 1, 1) := by decide +kernel
theorem dX7_says_46 : decode cX7_says 46 = .ok (.iadd, 1) := by decide +kernel
theorem dX7_says_47 : decode cX7_says 47 = .ok (.iaload, 1) := by decide +kernel
theorem dX7_says_48 : decode cX7_says 48 = .ok (.imul, 1) := by decide +kernel
theorem dX7_says_49 : decode cX7_says 49 = .ok (.if_icmp .ge 36, 3) := by decide +kernel
theorem dX7_says_52 : decode cX7_says 52 = .ok (.aload_n 0, 1) := by decide +kernel
theorem dX7_says_53 : decode cX7_says 53 = .ok (.iload_n 1, 1) := by decide +kernel
theorem dX7_says_54 : decode cX7_says 54 = .ok (.invokestatic 159, 3) := by decide +kernel
theorem dX7_says_57 : decode cX7_says 57 = .ok (.ifCond .ne 9, 3) := by decide +kernel
theorem dX7_says_60 : decode cX7_says 60 = .ok (.iload 4, 2) := by decide +kernel
theorem dX7_says_62 : decode cX7_says 62 = .ok (.iconst 5, 1) := by decide +kernel
theorem dX7_says_63 : decode cX7_says 63 = .ok (.if_icmp .ne 22, 3) := by decide +kernel
theorem dX7_says_66 : decode cX7_says 66 = .ok (.iload 4, 2) := by decide +kernel
theorem dX7_says_68 : decode cX7_says 68 = .ok (.iconst 4, 1) := by decide +kernel
theorem dX7_says_69 : decode cX7_says 69 = .ok (.if_icmp .ne 12, 3) := by decide +kernel
theorem dX7_says_72 : decode cX7_says 72 = .ok (.aload_n 0, 1) := by decide +kernel
theorem dX7_says_73 : decode cX7_says 73 = .ok (.iload_n 3, 1) := by decide +kernel
theorem dX7_says_74 : decode cX7_says 74 = .ok (.iconst 1, 1) := by decide +kernel
theorem dX7_says_75 : decode cX7_says 75 = .ok (.iadd, 1) := by decide +kernel
theorem dX7_says_76 : decode cX7_says 76 = .ok (.iaload, 1) := by decide +kernel
theorem dX7_says_77 : decode cX7_says 77 = .ok (.iconst 5, 1) := by decide +kernel
theorem dX7_says_78 : decode cX7_says 78 = .ok (.if_icmp .lt 7, 3) := by decide +kernel
theorem dX7_says_81 : decode cX7_says 81 = .ok (.iconst 1, 1) := by decide +kernel
theorem dX7_says_82 : decode cX7_says 82 = .ok (.goto 4, 3) := by decide +kernel
theorem dX7_says_85 : decode cX7_says 85 = .ok (.iconst 0, 1) := by decide +kernel
theorem dX7_says_86 : decode cX7_says 86 = .ok (.istore 6, 2) := by decide +kernel
theorem dX7_says_88 : decode cX7_says 88 = .ok (.iload 6, 2) := by decide +kernel
theorem dX7_says_90 : decode cX7_says 90 = .ok (.ifCond .ne 6, 3) := by decide +kernel
theorem dX7_says_93 : decode cX7_says 93 = .ok (.ldc 93, 2) := by decide +kernel
theorem dX7_says_95 : decode cX7_says 95 = .ok (.ireturn, 1) := by decide +kernel
theorem dX7_says_96 : decode cX7_says 96 = .ok (.aload_n 0, 1) := by decide +kernel
theorem dX7_says_97 : decode cX7_says 97 = .ok (.iload_n 3, 1) := by decide +kernel
theorem dX7_says_98 : decode cX7_says 98 = .ok (.iaload, 1) := by decide +kernel
theorem dX7_says_99 : decode cX7_says 99 = .ok (.istore 7, 2) := by decide +kernel
theorem dX7_says_101 : decode cX7_says 101 = .ok (.iload 7, 2) := by decide +kernel
theorem dX7_says_103 : decode cX7_says 103 = .ok (.iload 4, 2) := by decide +kernel
theorem dX7_says_105 : decode cX7_says 105 = .ok (.iconst 2, 1) := by decide +kernel
theorem dX7_says_106 : decode cX7_says 106 = .ok (.if_icmp .ne 12, 3) := by decide +kernel
theorem dX7_says_109 : decode cX7_says 109 = .ok (.aload_n 0, 1) := by decide +kernel
theorem dX7_says_110 : decode cX7_says 110 = .ok (.iload_n 1, 1) := by decide +kernel
theorem dX7_says_111 : decode cX7_says 111 = .ok (.iconst 3, 1) := by decide +kernel
theorem dX7_says_112 : decode cX7_says 112 = .ok (.invokestatic 155, 3) := by decide +kernel
theorem dX7_says_115 : decode cX7_says 115 = .ok (.goto 19, 3) := by decide +kernel
theorem dX7_says_118 : decode cX7_says 118 = .ok (.iload 4, 2) := by decide +kernel
theorem dX7_says_120 : decode cX7_says 120 = .ok (.iconst 3, 1) := by decide +kernel
theorem dX7_says_121 : decode cX7_says 121 = .ok (.if_icmp .ne 12, 3) := by decide +kernel
theorem dX7_says_124 : decode cX7_says 124 = .ok (.iload 5, 2) := by decide +kernel
theorem dX7_says_126 : decode cX7_says 126 = .ok (.aload_n 0, 1) := by decide +kernel
theorem dX7_says_127 : decode cX7_says 127 = .ok (.iconst 1, 1) := by decide +kernel
theorem dX7_says_128 : decode cX7_says 128 = .ok (.iaload, 1) := by decide +kernel
theorem dX7_says_129 : decode cX7_says 129 = .ok (.idiv, 1) := by decide +kernel
theorem dX7_says_130 : decode cX7_says 130 = .ok (.goto 4, 3) := by decide +kernel
theorem dX7_says_133 : decode cX7_says 133 = .ok (.iconst 0, 1) := by decide +kernel
theorem dX7_says_134 : decode cX7_says 134 = .ok (.iadd, 1) := by decide +kernel
theorem dX7_says_135 : decode cX7_says 135 = .ok (.istore 7, 2) := by decide +kernel
theorem dX7_says_137 : decode cX7_says 137 = .ok (.iload 7, 2) := by decide +kernel
theorem dX7_says_139 : decode cX7_says 139 = .ok (.ifCond .ge 7, 3) := by decide +kernel
theorem dX7_says_142 : decode cX7_says 142 = .ok (.iconst 0, 1) := by decide +kernel
theorem dX7_says_143 : decode cX7_says 143 = .ok (.goto 17, 3) := by decide +kernel
theorem dX7_says_146 : decode cX7_says 146 = .ok (.iload 7, 2) := by decide +kernel
theorem dX7_says_148 : decode cX7_says 148 = .ok (.bipush 99, 2) := by decide +kernel
theorem dX7_says_150 : decode cX7_says 150 = .ok (.if_icmp .le 8, 3) := by decide +kernel
theorem dX7_says_153 : decode cX7_says 153 = .ok (.bipush 99, 2) := by decide +kernel
theorem dX7_says_155 : decode cX7_says 155 = .ok (.goto 5, 3) := by decide +kernel
theorem dX7_says_158 : decode cX7_says 158 = .ok (.iload 7, 2) := by decide +kernel
theorem dX7_says_160 : decode cX7_says 160 = .ok (.ireturn, 1) := by decide +kernel
theorem dX7_whoSwears_0 : decode cX7_whoSwears 0 = .ok (.iconst 0, 1) := by decide +kernel
theorem dX7_whoSwears_1 : decode cX7_whoSwears 1 = .ok (.istore_n 2, 1) := by decide +kernel
theorem dX7_whoSwears_2 : decode cX7_whoSwears 2 = .ok (.iconst 0, 1) := by decide +kernel
theorem dX7_whoSwears_3 : decode cX7_whoSwears 3 = .ok (.istore_n 3, 1) := by decide +kernel
theorem dX7_whoSwears_4 : decode cX7_whoSwears 4 = .ok (.iload_n 3, 1) := by decide +kernel
theorem dX7_whoSwears_5 : decode cX7_whoSwears 5 = .ok (.aload_n 0, 1) := by decide +kernel
theorem dX7_whoSwears_6 : decode cX7_whoSwears 6 = .ok (.iconst 3, 1) := by decide +kernel
theorem dX7_whoSwears_7 : decode cX7_whoSwears 7 = .ok (.iaload, 1) := by decide +kernel
theorem dX7_whoSwears_8 : decode cX7_whoSwears 8 = .ok (.if_icmp .ge 30, 3) := by decide +kernel
theorem dX7_whoSwears_11 : decode cX7_whoSwears 11 = .ok (.iload_n 2, 1) := by decide +kernel
theorem dX7_whoSwears_12 : decode cX7_whoSwears 12 = .ok (.aload_n 0, 1) := by decide +kernel
theorem dX7_whoSwears_13 : decode cX7_whoSwears 13 = .ok (.iload_n 3, 1) := by decide +kernel
theorem dX7_whoSwears_14 : decode cX7_whoSwears 14 = .ok (.iload_n 1, 1) := by decide +kernel
theorem dX7_whoSwears_15 : decode cX7_whoSwears 15 = .ok (.invokestatic 166, 3) := by decide +kernel
theorem dX7_whoSwears_18 : decode cX7_whoSwears 18 = .ok (.ldc 93, 2) := by decide +kernel
theorem dX7_whoSwears_20 : decode cX7_whoSwears 20 = .ok (.if_icmp .ne 7, 3) := by decide +kernel
theorem dX7_whoSwears_23 : decode cX7_whoSwears 23 = .ok (.iconst 0, 1) := by decide +kernel
theorem dX7_whoSwears_24 : decode cX7_whoSwears 24 = .ok (.goto 6, 3) := by decide +kernel
theorem dX7_whoSwears_27 : decode cX7_whoSwears 27 = .ok (.iconst 1, 1) := by decide +kernel
theorem dX7_whoSwears_28 : decode cX7_whoSwears 28 = .ok (.iload_n 3, 1) := by decide +kernel
theorem dX7_whoSwears_29 : decode cX7_whoSwears 29 = .ok (.ishl, 1) := by decide +kernel
theorem dX7_whoSwears_30 : decode cX7_whoSwears 30 = .ok (.ior, 1) := by decide +kernel
theorem dX7_whoSwears_31 : decode cX7_whoSwears 31 = .ok (.istore_n 2, 1) := by decide +kernel
theorem dX7_whoSwears_32 : decode cX7_whoSwears 32 = .ok (.iinc 3 1, 3) := by decide +kernel
theorem dX7_whoSwears_35 : decode cX7_whoSwears 35 = .ok (.goto (-31), 3) := by decide +kernel
theorem dX7_whoSwears_38 : decode cX7_whoSwears 38 = .ok (.iload_n 2, 1) := by decide +kernel
theorem dX7_whoSwears_39 : decode cX7_whoSwears 39 = .ok (.ireturn, 1) := by decide +kernel
theorem dX7_bump_0 : decode cX7_bump 0 = .ok (.iconst 0, 1) := by decide +kernel
theorem dX7_bump_1 : decode cX7_bump 1 = .ok (.istore 4, 2) := by decide +kernel
theorem dX7_bump_3 : decode cX7_bump 3 = .ok (.iconst 0, 1) := by decide +kernel
theorem dX7_bump_4 : decode cX7_bump 4 = .ok (.istore 5, 2) := by decide +kernel
theorem dX7_bump_6 : decode cX7_bump 6 = .ok (.iload 5, 2) := by decide +kernel
theorem dX7_bump_8 : decode cX7_bump 8 = .ok (.aload_n 0, 1) := by decide +kernel
theorem dX7_bump_9 : decode cX7_bump 9 = .ok (.iconst 3, 1) := by decide +kernel
theorem dX7_bump_10 : decode cX7_bump 10 = .ok (.iaload, 1) := by decide +kernel
theorem dX7_bump_11 : decode cX7_bump 11 = .ok (.if_icmp .ge 63, 3) := by decide +kernel
theorem dX7_bump_14 : decode cX7_bump 14 = .ok (.iload_n 2, 1) := by decide +kernel
theorem dX7_bump_15 : decode cX7_bump 15 = .ok (.iload 5, 2) := by decide +kernel
theorem dX7_bump_17 : decode cX7_bump 17 = .ok (.invokestatic 169, 3) := by decide +kernel
theorem dX7_bump_20 : decode cX7_bump 20 = .ok (.ifCond .eq 48, 3) := by decide +kernel
theorem dX7_bump_23 : decode cX7_bump 23 = .ok (.aload_n 0, 1) := by decide +kernel
theorem dX7_bump_24 : decode cX7_bump 24 = .ok (.iload 5, 2) := by decide +kernel
theorem dX7_bump_26 : decode cX7_bump 26 = .ok (.invokestatic 173, 3) := by decide +kernel
theorem dX7_bump_29 : decode cX7_bump 29 = .ok (.ifCond .eq 39, 3) := by decide +kernel
theorem dX7_bump_32 : decode cX7_bump 32 = .ok (.iload 5, 2) := by decide +kernel
theorem dX7_bump_34 : decode cX7_bump 34 = .ok (.iload_n 1, 1) := by decide +kernel
theorem dX7_bump_35 : decode cX7_bump 35 = .ok (.invokestatic 163, 3) := by decide +kernel
theorem dX7_bump_38 : decode cX7_bump 38 = .ok (.istore 6, 2) := by decide +kernel
theorem dX7_bump_40 : decode cX7_bump 40 = .ok (.aload_n 0, 1) := by decide +kernel
theorem dX7_bump_41 : decode cX7_bump 41 = .ok (.iload 6, 2) := by decide +kernel
theorem dX7_bump_43 : decode cX7_bump 43 = .ok (.aload_n 0, 1) := by decide +kernel
theorem dX7_bump_44 : decode cX7_bump 44 = .ok (.iconst 5, 1) := by decide +kernel
theorem dX7_bump_45 : decode cX7_bump 45 = .ok (.iload_n 1, 1) := by decide +kernel
theorem dX7_bump_46 : decode cX7_bump 46 = .ok (.iadd, 1) := by decide +kernel
theorem dX7_bump_47 : decode cX7_bump 47 = .ok (.iaload, 1) := by decide +kernel
theorem dX7_bump_48 : decode cX7_bump 48 = .ok (.iastore, 1) := by decide +kernel
theorem dX7_bump_49 : decode cX7_bump 49 = .ok (.aload_n 0, 1) := by decide +kernel
theorem dX7_bump_50 : decode cX7_bump 50 = .ok (.iload 6, 2) := by decide +kernel
theorem dX7_bump_52 : decode cX7_bump 52 = .ok (.iconst 1, 1) := by decide +kernel
theorem dX7_bump_53 : decode cX7_bump 53 = .ok (.iadd, 1) := by decide +kernel
theorem dX7_bump_54 : decode cX7_bump 54 = .ok (.iload_n 3, 1) := by decide +kernel
theorem dX7_bump_55 : decode cX7_bump 55 = .ok (.iastore, 1) := by decide +kernel
theorem dX7_bump_56 : decode cX7_bump 56 = .ok (.aload_n 0, 1) := by decide +kernel
theorem dX7_bump_57 : decode cX7_bump 57 = .ok (.iload 6, 2) := by decide +kernel
theorem dX7_bump_59 : decode cX7_bump 59 = .ok (.iconst 2, 1) := by decide +kernel
theorem dX7_bump_60 : decode cX7_bump 60 = .ok (.iadd, 1) := by decide +kernel
theorem dX7_bump_61 : decode cX7_bump 61 = .ok (.aload_n 0, 1) := by decide +kernel
theorem dX7_bump_62 : decode cX7_bump 62 = .ok (.iconst 4, 1) := by decide +kernel
theorem dX7_bump_63 : decode cX7_bump 63 = .ok (.iaload, 1) := by decide +kernel
theorem dX7_bump_64 : decode cX7_bump 64 = .ok (.iastore, 1) := by decide +kernel
theorem dX7_bump_65 : decode cX7_bump 65 = .ok (.iinc 4 1, 3) := by decide +kernel
theorem dX7_bump_68 : decode cX7_bump 68 = .ok (.iinc 5 1, 3) := by decide +kernel
theorem dX7_bump_71 : decode cX7_bump 71 = .ok (.goto (-65), 3) := by decide +kernel
theorem dX7_bump_74 : decode cX7_bump 74 = .ok (.iload 4, 2) := by decide +kernel
theorem dX7_bump_76 : decode cX7_bump 76 = .ok (.ireturn, 1) := by decide +kernel
theorem dX7_age_0 : decode cX7_age 0 = .ok (.aload_n 0, 1) := by decide +kernel
theorem dX7_age_1 : decode cX7_age 1 = .ok (.iconst 4, 1) := by decide +kernel
theorem dX7_age_2 : decode cX7_age 2 = .ok (.dup2, 1) := by decide +kernel
theorem dX7_age_3 : decode cX7_age 3 = .ok (.iaload, 1) := by decide +kernel
theorem dX7_age_4 : decode cX7_age 4 = .ok (.iload_n 1, 1) := by decide +kernel
theorem dX7_age_5 : decode cX7_age 5 = .ok (.iadd, 1) := by decide +kernel
theorem dX7_age_6 : decode cX7_age 6 = .ok (.iastore, 1) := by decide +kernel
theorem dX7_age_7 : decode cX7_age 7 = .ok (.iconst 0, 1) := by decide +kernel
theorem dX7_age_8 : decode cX7_age 8 = .ok (.istore_n 2, 1) := by decide +kernel
theorem dX7_age_9 : decode cX7_age 9 = .ok (.iload_n 2, 1) := by decide +kernel
theorem dX7_age_10 : decode cX7_age 10 = .ok (.aload_n 0, 1) := by decide +kernel
theorem dX7_age_11 : decode cX7_age 11 = .ok (.iconst 3, 1) := by decide +kernel
theorem dX7_age_12 : decode cX7_age 12 = .ok (.iaload, 1) := by decide +kernel
theorem dX7_age_13 : decode cX7_age 13 = .ok (.if_icmp .ge 23, 3) := by decide +kernel
theorem dX7_age_16 : decode cX7_age 16 = .ok (.aload_n 0, 1) := by decide +kernel
theorem dX7_age_17 : decode cX7_age 17 = .ok (.bipush 11, 2) := by decide +kernel
theorem dX7_age_19 : decode cX7_age 19 = .ok (.iconst 4, 1) := by decide +kernel
theorem dX7_age_20 : decode cX7_age 20 = .ok (.iload_n 2, 1) := by decide +kernel
theorem dX7_age_21 : decode cX7_age 21 = .ok (.imul, 1) := by decide +kernel
theorem dX7_age_22 : decode cX7_age 22 = .ok (.iadd, 1) := by decide +kernel
theorem dX7_age_23 : decode cX7_age 23 = .ok (.iconst 1, 1) := by decide +kernel
theorem dX7_age_24 : decode cX7_age 24 = .ok (.iadd, 1) := by decide +kernel
theorem dX7_age_25 : decode cX7_age 25 = .ok (.dup2, 1) := by decide +kernel
theorem dX7_age_26 : decode cX7_age 26 = .ok (.iaload, 1) := by decide +kernel
theorem dX7_age_27 : decode cX7_age 27 = .ok (.iload_n 1, 1) := by decide +kernel
theorem dX7_age_28 : decode cX7_age 28 = .ok (.iadd, 1) := by decide +kernel
theorem dX7_age_29 : decode cX7_age 29 = .ok (.iastore, 1) := by decide +kernel
theorem dX7_age_30 : decode cX7_age 30 = .ok (.iinc 2 1, 3) := by decide +kernel
theorem dX7_age_33 : decode cX7_age 33 = .ok (.goto (-24), 3) := by decide +kernel
theorem dX7_age_36 : decode cX7_age 36 = .ok (.return_, 1) := by decide +kernel
theorem dX7_layThen_0 : decode cX7_layThen 0 = .ok (.iconst 0, 1) := by decide +kernel
theorem dX7_layThen_1 : decode cX7_layThen 1 = .ok (.istore_n 1, 1) := by decide +kernel
theorem dX7_layThen_2 : decode cX7_layThen 2 = .ok (.iload_n 1, 1) := by decide +kernel
theorem dX7_layThen_3 : decode cX7_layThen 3 = .ok (.sipush 143, 3) := by decide +kernel
theorem dX7_layThen_6 : decode cX7_layThen 6 = .ok (.if_icmp .ge 21, 3) := by decide +kernel
theorem dX7_layThen_9 : decode cX7_layThen 9 = .ok (.aload_n 0, 1) := by decide +kernel
theorem dX7_layThen_10 : decode cX7_layThen 10 = .ok (.getfield 25, 3) := by decide +kernel
theorem dX7_layThen_13 : decode cX7_layThen 13 = .ok (.iload_n 1, 1) := by decide +kernel
theorem dX7_layThen_14 : decode cX7_layThen 14 = .ok (.aload_n 0, 1) := by decide +kernel
theorem dX7_layThen_15 : decode cX7_layThen 15 = .ok (.getfield 19, 3) := by decide +kernel
theorem dX7_layThen_18 : decode cX7_layThen 18 = .ok (.iload_n 1, 1) := by decide +kernel
theorem dX7_layThen_19 : decode cX7_layThen 19 = .ok (.iaload, 1) := by decide +kernel
theorem dX7_layThen_20 : decode cX7_layThen 20 = .ok (.iastore, 1) := by decide +kernel
theorem dX7_layThen_21 : decode cX7_layThen 21 = .ok (.iinc 1 1, 3) := by decide +kernel
theorem dX7_layThen_24 : decode cX7_layThen 24 = .ok (.goto (-22), 3) := by decide +kernel
theorem dX7_layThen_27 : decode cX7_layThen 27 = .ok (.return_, 1) := by decide +kernel
theorem dX7_keep_0 : decode cX7_keep 0 = .ok (.aload_n 0, 1) := by decide +kernel
theorem dX7_keep_1 : decode cX7_keep 1 = .ok (.getfield 152, 3) := by decide +kernel
theorem dX7_keep_4 : decode cX7_keep 4 = .ok (.bipush 24, 2) := by decide +kernel
theorem dX7_keep_6 : decode cX7_keep 6 = .ok (.if_icmp .ne 44, 3) := by decide +kernel
theorem dX7_keep_9 : decode cX7_keep 9 = .ok (.iconst 0, 1) := by decide +kernel
theorem dX7_keep_10 : decode cX7_keep 10 = .ok (.istore_n 1, 1) := by decide +kernel
theorem dX7_keep_11 : decode cX7_keep 11 = .ok (.iload_n 1, 1) := by decide +kernel
theorem dX7_keep_12 : decode cX7_keep 12 = .ok (.sipush 3289, 3) := by decide +kernel
theorem dX7_keep_15 : decode cX7_keep 15 = .ok (.if_icmp .ge 25, 3) := by decide +kernel
theorem dX7_keep_18 : decode cX7_keep 18 = .ok (.aload_n 0, 1) := by decide +kernel
theorem dX7_keep_19 : decode cX7_keep 19 = .ok (.getfield 28, 3) := by decide +kernel
theorem dX7_keep_22 : decode cX7_keep 22 = .ok (.iload_n 1, 1) := by decide +kernel
theorem dX7_keep_23 : decode cX7_keep 23 = .ok (.aload_n 0, 1) := by decide +kernel
theorem dX7_keep_24 : decode cX7_keep 24 = .ok (.getfield 28, 3) := by decide +kernel
theorem dX7_keep_27 : decode cX7_keep 27 = .ok (.iload_n 1, 1) := by decide +kernel
theorem dX7_keep_28 : decode cX7_keep 28 = .ok (.sipush 143, 3) := by decide +kernel
theorem dX7_keep_31 : decode cX7_keep 31 = .ok (.iadd, 1) := by decide +kernel
theorem dX7_keep_32 : decode cX7_keep 32 = .ok (.iaload, 1) := by decide +kernel
theorem dX7_keep_33 : decode cX7_keep 33 = .ok (.iastore, 1) := by decide +kernel
theorem dX7_keep_34 : decode cX7_keep 34 = .ok (.iinc 1 1, 3) := by decide +kernel
theorem dX7_keep_37 : decode cX7_keep 37 = .ok (.goto (-26), 3) := by decide +kernel
theorem dX7_keep_40 : decode cX7_keep 40 = .ok (.aload_n 0, 1) := by decide +kernel
theorem dX7_keep_41 : decode cX7_keep 41 = .ok (.dup, 1) := by decide +kernel
theorem dX7_keep_42 : decode cX7_keep 42 = .ok (.getfield 152, 3) := by decide +kernel
theorem dX7_keep_45 : decode cX7_keep 45 = .ok (.iconst 1, 1) := by decide +kernel
theorem dX7_keep_46 : decode cX7_keep 46 = .ok (.isub, 1) := by decide +kernel
theorem dX7_keep_47 : decode cX7_keep 47 = .ok (.putfield 152, 3) := by decide +kernel
theorem dX7_keep_50 : decode cX7_keep 50 = .ok (.iconst 0, 1) := by decide +kernel
theorem dX7_keep_51 : decode cX7_keep 51 = .ok (.istore_n 1, 1) := by decide +kernel
theorem dX7_keep_52 : decode cX7_keep 52 = .ok (.iload_n 1, 1) := by decide +kernel
theorem dX7_keep_53 : decode cX7_keep 53 = .ok (.sipush 143, 3) := by decide +kernel
theorem dX7_keep_56 : decode cX7_keep 56 = .ok (.if_icmp .ge 30, 3) := by decide +kernel
theorem dX7_keep_59 : decode cX7_keep 59 = .ok (.aload_n 0, 1) := by decide +kernel
theorem dX7_keep_60 : decode cX7_keep 60 = .ok (.getfield 28, 3) := by decide +kernel
theorem dX7_keep_63 : decode cX7_keep 63 = .ok (.sipush 143, 3) := by decide +kernel
theorem dX7_keep_66 : decode cX7_keep 66 = .ok (.aload_n 0, 1) := by decide +kernel
theorem dX7_keep_67 : decode cX7_keep 67 = .ok (.getfield 152, 3) := by decide +kernel
theorem dX7_keep_70 : decode cX7_keep 70 = .ok (.imul, 1) := by decide +kernel
theorem dX7_keep_71 : decode cX7_keep 71 = .ok (.iload_n 1, 1) := by decide +kernel
theorem dX7_keep_72 : decode cX7_keep 72 = .ok (.iadd, 1) := by decide +kernel
theorem dX7_keep_73 : decode cX7_keep 73 = .ok (.aload_n 0, 1) := by decide +kernel
theorem dX7_keep_74 : decode cX7_keep 74 = .ok (.getfield 19, 3) := by decide +kernel
theorem dX7_keep_77 : decode cX7_keep 77 = .ok (.iload_n 1, 1) := by decide +kernel
theorem dX7_keep_78 : decode cX7_keep 78 = .ok (.iaload, 1) := by decide +kernel
theorem dX7_keep_79 : decode cX7_keep 79 = .ok (.iastore, 1) := by decide +kernel
theorem dX7_keep_80 : decode cX7_keep 80 = .ok (.iinc 1 1, 3) := by decide +kernel
theorem dX7_keep_83 : decode cX7_keep 83 = .ok (.goto (-31), 3) := by decide +kernel
theorem dX7_keep_86 : decode cX7_keep 86 = .ok (.aload_n 0, 1) := by decide +kernel
theorem dX7_keep_87 : decode cX7_keep 87 = .ok (.dup, 1) := by decide +kernel
theorem dX7_keep_88 : decode cX7_keep 88 = .ok (.getfield 152, 3) := by decide +kernel
theorem dX7_keep_91 : decode cX7_keep 91 = .ok (.iconst 1, 1) := by decide +kernel
theorem dX7_keep_92 : decode cX7_keep 92 = .ok (.iadd, 1) := by decide +kernel
theorem dX7_keep_93 : decode cX7_keep 93 = .ok (.putfield 152, 3) := by decide +kernel
theorem dX7_keep_96 : decode cX7_keep 96 = .ok (.return_, 1) := by decide +kernel
theorem dX7_walk_0 : decode cX7_walk 0 = .ok (.aload_n 0, 1) := by decide +kernel
theorem dX7_walk_1 : decode cX7_walk 1 = .ok (.iconst 0, 1) := by decide +kernel
theorem dX7_walk_2 : decode cX7_walk 2 = .ok (.putfield 50, 3) := by decide +kernel
theorem dX7_walk_5 : decode cX7_walk 5 = .ok (.aload_n 0, 1) := by decide +kernel
theorem dX7_walk_6 : decode cX7_walk 6 = .ok (.iload_n 1, 1) := by decide +kernel
theorem dX7_walk_7 : decode cX7_walk 7 = .ok (.invokevirtual 176, 3) := by decide +kernel
theorem dX7_walk_10 : decode cX7_walk 10 = .ok (.ifCond .eq 29, 3) := by decide +kernel
theorem dX7_walk_13 : decode cX7_walk 13 = .ok (.iload_n 2, 1) := by decide +kernel
theorem dX7_walk_14 : decode cX7_walk 14 = .ok (.i2l, 1) := by decide +kernel
theorem dX7_walk_15 : decode cX7_walk 15 = .ok (.lconst 0, 1) := by decide +kernel
theorem dX7_walk_16 : decode cX7_walk 16 = .ok (.aload_n 0, 1) := by decide +kernel
theorem dX7_walk_17 : decode cX7_walk 17 = .ok (.invokevirtual 179, 3) := by decide +kernel
theorem dX7_walk_20 : decode cX7_walk 20 = .ok (.i2l, 1) := by decide +kernel
theorem dX7_walk_21 : decode cX7_walk 21 = .ok (.invokestatic 60, 3) := by decide +kernel
theorem dX7_walk_24 : decode cX7_walk 24 = .ok (.ifCond .eq 15, 3) := by decide +kernel
theorem dX7_walk_27 : decode cX7_walk 27 = .ok (.iload_n 3, 1) := by decide +kernel
theorem dX7_walk_28 : decode cX7_walk 28 = .ok (.i2l, 1) := by decide +kernel
theorem dX7_walk_29 : decode cX7_walk 29 = .ok (.lconst 1, 1) := by decide +kernel
theorem dX7_walk_30 : decode cX7_walk 30 = .ok (.ldc2_w 183, 3) := by decide +kernel
theorem dX7_walk_33 : decode cX7_walk 33 = .ok (.invokestatic 60, 3) := by decide +kernel
theorem dX7_walk_36 : decode cX7_walk 36 = .ok (.ifCond .ne 6, 3) := by decide +kernel
theorem dX7_walk_39 : decode cX7_walk 39 = .ok (.ldc 70, 2) := by decide +kernel
theorem dX7_walk_41 : decode cX7_walk 41 = .ok (.ireturn, 1) := by decide +kernel
theorem dX7_walk_42 : decode cX7_walk 42 = .ok (.aload_n 0, 1) := by decide +kernel
theorem dX7_walk_43 : decode cX7_walk 43 = .ok (.invokevirtual 185, 3) := by decide +kernel
theorem dX7_walk_46 : decode cX7_walk 46 = .ok (.aload_n 0, 1) := by decide +kernel
theorem dX7_walk_47 : decode cX7_walk 47 = .ok (.getfield 19, 3) := by decide +kernel
theorem dX7_walk_50 : decode cX7_walk 50 = .ok (.iload_n 1, 1) := by decide +kernel
theorem dX7_walk_51 : decode cX7_walk 51 = .ok (.iload_n 2, 1) := by decide +kernel
theorem dX7_walk_52 : decode cX7_walk 52 = .ok (.iload_n 3, 1) := by decide +kernel
theorem dX7_walk_53 : decode cX7_walk 53 = .ok (.invokestatic 188, 3) := by decide +kernel
theorem dX7_walk_56 : decode cX7_walk 56 = .ok (.ireturn, 1) := by decide +kernel
theorem dX7_move_0 : decode cX7_move 0 = .ok (.aload_n 0, 1) := by decide +kernel
theorem dX7_move_1 : decode cX7_move 1 = .ok (.iconst 0, 1) := by decide +kernel
theorem dX7_move_2 : decode cX7_move 2 = .ok (.putfield 50, 3) := by decide +kernel
theorem dX7_move_5 : decode cX7_move 5 = .ok (.aload_n 0, 1) := by decide +kernel
theorem dX7_move_6 : decode cX7_move 6 = .ok (.iload_n 1, 1) := by decide +kernel
theorem dX7_move_7 : decode cX7_move 7 = .ok (.invokevirtual 176, 3) := by decide +kernel
theorem dX7_move_10 : decode cX7_move 10 = .ok (.ifCond .eq 15, 3) := by decide +kernel
theorem dX7_move_13 : decode cX7_move 13 = .ok (.iload_n 2, 1) := by decide +kernel
theorem dX7_move_14 : decode cX7_move 14 = .ok (.i2l, 1) := by decide +kernel
theorem dX7_move_15 : decode cX7_move 15 = .ok (.lconst 0, 1) := by decide +kernel
theorem dX7_move_16 : decode cX7_move 16 = .ok (.ldc2_w 192, 3) := by decide +kernel
theorem dX7_move_19 : decode cX7_move 19 = .ok (.invokestatic 60, 3) := by decide +kernel
theorem dX7_move_22 : decode cX7_move 22 = .ok (.ifCond .ne 6, 3) := by decide +kernel
theorem dX7_move_25 : decode cX7_move 25 = .ok (.ldc 70, 2) := by decide +kernel
theorem dX7_move_27 : decode cX7_move 27 = .ok (.ireturn, 1) := by decide +kernel
theorem dX7_move_28 : decode cX7_move 28 = .ok (.aload_n 0, 1) := by decide +kernel
theorem dX7_move_29 : decode cX7_move 29 = .ok (.invokevirtual 185, 3) := by decide +kernel
theorem dX7_move_32 : decode cX7_move 32 = .ok (.aload_n 0, 1) := by decide +kernel
theorem dX7_move_33 : decode cX7_move 33 = .ok (.getfield 19, 3) := by decide +kernel
theorem dX7_move_36 : decode cX7_move 36 = .ok (.iconst 5, 1) := by decide +kernel
theorem dX7_move_37 : decode cX7_move 37 = .ok (.iload_n 1, 1) := by decide +kernel
theorem dX7_move_38 : decode cX7_move 38 = .ok (.iadd, 1) := by decide +kernel
theorem dX7_move_39 : decode cX7_move 39 = .ok (.iaload, 1) := by decide +kernel
theorem dX7_move_40 : decode cX7_move 40 = .ok (.istore_n 3, 1) := by decide +kernel
theorem dX7_move_41 : decode cX7_move 41 = .ok (.aload_n 0, 1) := by decide +kernel
theorem dX7_move_42 : decode cX7_move 42 = .ok (.getfield 19, 3) := by decide +kernel
theorem dX7_move_45 : decode cX7_move 45 = .ok (.iconst 5, 1) := by decide +kernel
theorem dX7_move_46 : decode cX7_move 46 = .ok (.iload_n 1, 1) := by decide +kernel
theorem dX7_move_47 : decode cX7_move 47 = .ok (.iadd, 1) := by decide +kernel
theorem dX7_move_48 : decode cX7_move 48 = .ok (.iload_n 2, 1) := by decide +kernel
theorem dX7_move_49 : decode cX7_move 49 = .ok (.iastore, 1) := by decide +kernel
theorem dX7_move_50 : decode cX7_move 50 = .ok (.iload_n 3, 1) := by decide +kernel
theorem dX7_move_51 : decode cX7_move 51 = .ok (.ireturn, 1) := by decide +kernel
theorem dX7_bribe_0 : decode cX7_bribe 0 = .ok (.aload_n 0, 1) := by decide +kernel
theorem dX7_bribe_1 : decode cX7_bribe 1 = .ok (.iconst 0, 1) := by decide +kernel
theorem dX7_bribe_2 : decode cX7_bribe 2 = .ok (.putfield 50, 3) := by decide +kernel
theorem dX7_bribe_5 : decode cX7_bribe 5 = .ok (.aload_n 0, 1) := by decide +kernel
theorem dX7_bribe_6 : decode cX7_bribe 6 = .ok (.iload_n 1, 1) := by decide +kernel
theorem dX7_bribe_7 : decode cX7_bribe 7 = .ok (.invokevirtual 194, 3) := by decide +kernel
theorem dX7_bribe_10 : decode cX7_bribe 10 = .ok (.ifCond .eq 17, 3) := by decide +kernel
theorem dX7_bribe_13 : decode cX7_bribe 13 = .ok (.iload_n 2, 1) := by decide +kernel
theorem dX7_bribe_14 : decode cX7_bribe 14 = .ok (.i2l, 1) := by decide +kernel
theorem dX7_bribe_15 : decode cX7_bribe 15 = .ok (.ldc2_w 197, 3) := by decide +kernel
theorem dX7_bribe_18 : decode cX7_bribe 18 = .ok (.ldc2_w 199, 3) := by decide +kernel
theorem dX7_bribe_21 : decode cX7_bribe 21 = .ok (.invokestatic 60, 3) := by decide +kernel
theorem dX7_bribe_24 : decode cX7_bribe 24 = .ok (.ifCond .ne 6, 3) := by decide +kernel
theorem dX7_bribe_27 : decode cX7_bribe 27 = .ok (.ldc 70, 2) := by decide +kernel
theorem dX7_bribe_29 : decode cX7_bribe 29 = .ok (.ireturn, 1) := by decide +kernel
theorem dX7_bribe_30 : decode cX7_bribe 30 = .ok (.aload_n 0, 1) := by decide +kernel
theorem dX7_bribe_31 : decode cX7_bribe 31 = .ok (.getfield 19, 3) := by decide +kernel
theorem dX7_bribe_34 : decode cX7_bribe 34 = .ok (.iload_n 1, 1) := by decide +kernel
theorem dX7_bribe_35 : decode cX7_bribe 35 = .ok (.iconst 0, 1) := by decide +kernel
theorem dX7_bribe_36 : decode cX7_bribe 36 = .ok (.invokestatic 155, 3) := by decide +kernel
theorem dX7_bribe_39 : decode cX7_bribe 39 = .ok (.iconst 2, 1) := by decide +kernel
theorem dX7_bribe_40 : decode cX7_bribe 40 = .ok (.if_icmp .eq 6, 3) := by decide +kernel
theorem dX7_bribe_43 : decode cX7_bribe 43 = .ok (.ldc 201, 2) := by decide +kernel
theorem dX7_bribe_45 : decode cX7_bribe 45 = .ok (.ireturn, 1) := by decide +kernel
theorem dX7_bribe_46 : decode cX7_bribe 46 = .ok (.aload_n 0, 1) := by decide +kernel
theorem dX7_bribe_47 : decode cX7_bribe 47 = .ok (.invokevirtual 185, 3) := by decide +kernel
theorem dX7_bribe_50 : decode cX7_bribe 50 = .ok (.aload_n 0, 1) := by decide +kernel
theorem dX7_bribe_51 : decode cX7_bribe 51 = .ok (.getfield 19, 3) := by decide +kernel
theorem dX7_bribe_54 : decode cX7_bribe 54 = .ok (.iload_n 1, 1) := by decide +kernel
theorem dX7_bribe_55 : decode cX7_bribe 55 = .ok (.iconst 3, 1) := by decide +kernel
theorem dX7_bribe_56 : decode cX7_bribe 56 = .ok (.invokestatic 155, 3) := by decide +kernel
theorem dX7_bribe_59 : decode cX7_bribe 59 = .ok (.istore_n 3, 1) := by decide +kernel
theorem dX7_bribe_60 : decode cX7_bribe 60 = .ok (.aload_n 0, 1) := by decide +kernel
theorem dX7_bribe_61 : decode cX7_bribe 61 = .ok (.getfield 19, 3) := by decide +kernel
theorem dX7_bribe_64 : decode cX7_bribe 64 = .ok (.bipush 11, 2) := by decide +kernel
theorem dX7_bribe_66 : decode cX7_bribe 66 = .ok (.iconst 4, 1) := by decide +kernel
theorem dX7_bribe_67 : decode cX7_bribe 67 = .ok (.iload_n 1, 1) := by decide +kernel
theorem dX7_bribe_68 : decode cX7_bribe 68 = .ok (.imul, 1) := by decide +kernel
theorem dX7_bribe_69 : decode cX7_bribe 69 = .ok (.iadd, 1) := by decide +kernel
theorem dX7_bribe_70 : decode cX7_bribe 70 = .ok (.iconst 3, 1) := by decide +kernel
theorem dX7_bribe_71 : decode cX7_bribe 71 = .ok (.iadd, 1) := by decide +kernel
theorem dX7_bribe_72 : decode cX7_bribe 72 = .ok (.iload_n 2, 1) := by decide +kernel
theorem dX7_bribe_73 : decode cX7_bribe 73 = .ok (.iastore, 1) := by decide +kernel
theorem dX7_bribe_74 : decode cX7_bribe 74 = .ok (.iload_n 3, 1) := by decide +kernel
theorem dX7_bribe_75 : decode cX7_bribe 75 = .ok (.ireturn, 1) := by decide +kernel
theorem dX7_alive_0 : decode cX7_alive 0 = .ok (.iconst 0, 1) := by decide +kernel
theorem dX7_alive_1 : decode cX7_alive 1 = .ok (.istore_n 1, 1) := by decide +kernel
theorem dX7_alive_2 : decode cX7_alive 2 = .ok (.iconst 0, 1) := by decide +kernel
theorem dX7_alive_3 : decode cX7_alive 3 = .ok (.istore_n 2, 1) := by decide +kernel
theorem dX7_alive_4 : decode cX7_alive 4 = .ok (.iload_n 2, 1) := by decide +kernel
theorem dX7_alive_5 : decode cX7_alive 5 = .ok (.aload_n 0, 1) := by decide +kernel
theorem dX7_alive_6 : decode cX7_alive 6 = .ok (.getfield 19, 3) := by decide +kernel
theorem dX7_alive_9 : decode cX7_alive 9 = .ok (.iconst 3, 1) := by decide +kernel
theorem dX7_alive_10 : decode cX7_alive 10 = .ok (.iaload, 1) := by decide +kernel
theorem dX7_alive_11 : decode cX7_alive 11 = .ok (.if_icmp .ge 30, 3) := by decide +kernel
theorem dX7_alive_14 : decode cX7_alive 14 = .ok (.iload_n 1, 1) := by decide +kernel
theorem dX7_alive_15 : decode cX7_alive 15 = .ok (.aload_n 0, 1) := by decide +kernel
theorem dX7_alive_16 : decode cX7_alive 16 = .ok (.getfield 19, 3) := by decide +kernel
theorem dX7_alive_19 : decode cX7_alive 19 = .ok (.iload_n 2, 1) := by decide +kernel
theorem dX7_alive_20 : decode cX7_alive 20 = .ok (.invokestatic 159, 3) := by decide +kernel
theorem dX7_alive_23 : decode cX7_alive 23 = .ok (.ifCond .eq 9, 3) := by decide +kernel
theorem dX7_alive_26 : decode cX7_alive 26 = .ok (.iconst 1, 1) := by decide +kernel
theorem dX7_alive_27 : decode cX7_alive 27 = .ok (.iload_n 2, 1) := by decide +kernel
theorem dX7_alive_28 : decode cX7_alive 28 = .ok (.ishl, 1) := by decide +kernel
theorem dX7_alive_29 : decode cX7_alive 29 = .ok (.goto 4, 3) := by decide +kernel
theorem dX7_alive_32 : decode cX7_alive 32 = .ok (.iconst 0, 1) := by decide +kernel
theorem dX7_alive_33 : decode cX7_alive 33 = .ok (.ior, 1) := by decide +kernel
theorem dX7_alive_34 : decode cX7_alive 34 = .ok (.istore_n 1, 1) := by decide +kernel
theorem dX7_alive_35 : decode cX7_alive 35 = .ok (.iinc 2 1, 3) := by decide +kernel
theorem dX7_alive_38 : decode cX7_alive 38 = .ok (.goto (-34), 3) := by decide +kernel
theorem dX7_alive_41 : decode cX7_alive 41 = .ok (.iload_n 1, 1) := by decide +kernel
theorem dX7_alive_42 : decode cX7_alive 42 = .ok (.ireturn, 1) := by decide +kernel
theorem dX7_years_0 : decode cX7_years 0 = .ok (.aload_n 0, 1) := by decide +kernel
theorem dX7_years_1 : decode cX7_years 1 = .ok (.iconst 0, 1) := by decide +kernel
theorem dX7_years_2 : decode cX7_years 2 = .ok (.putfield 50, 3) := by decide +kernel
theorem dX7_years_5 : decode cX7_years 5 = .ok (.aload_n 0, 1) := by decide +kernel
theorem dX7_years_6 : decode cX7_years 6 = .ok (.invokevirtual 202, 3) := by decide +kernel
theorem dX7_years_9 : decode cX7_years 9 = .ok (.ifCond .ne 6, 3) := by decide +kernel
theorem dX7_years_12 : decode cX7_years 12 = .ok (.ldc 201, 2) := by decide +kernel
theorem dX7_years_14 : decode cX7_years 14 = .ok (.ireturn, 1) := by decide +kernel
theorem dX7_years_15 : decode cX7_years 15 = .ok (.iload_n 1, 1) := by decide +kernel
theorem dX7_years_16 : decode cX7_years 16 = .ok (.i2l, 1) := by decide +kernel
theorem dX7_years_17 : decode cX7_years 17 = .ok (.lconst 1, 1) := by decide +kernel
theorem dX7_years_18 : decode cX7_years 18 = .ok (.ldc2_w 205, 3) := by decide +kernel
theorem dX7_years_21 : decode cX7_years 21 = .ok (.invokestatic 60, 3) := by decide +kernel
theorem dX7_years_24 : decode cX7_years 24 = .ok (.ifCond .ne 6, 3) := by decide +kernel
theorem dX7_years_27 : decode cX7_years 27 = .ok (.ldc 70, 2) := by decide +kernel
theorem dX7_years_29 : decode cX7_years 29 = .ok (.ireturn, 1) := by decide +kernel
theorem dX7_years_30 : decode cX7_years 30 = .ok (.aload_n 0, 1) := by decide +kernel
theorem dX7_years_31 : decode cX7_years 31 = .ok (.getfield 19, 3) := by decide +kernel
theorem dX7_years_34 : decode cX7_years 34 = .ok (.iconst 4, 1) := by decide +kernel
theorem dX7_years_35 : decode cX7_years 35 = .ok (.iaload, 1) := by decide +kernel
theorem dX7_years_36 : decode cX7_years 36 = .ok (.iload_n 1, 1) := by decide +kernel
theorem dX7_years_37 : decode cX7_years 37 = .ok (.iadd, 1) := by decide +kernel
theorem dX7_years_38 : decode cX7_years 38 = .ok (.sipush 999, 3) := by decide +kernel
theorem dX7_years_41 : decode cX7_years 41 = .ok (.if_icmp .le 6, 3) := by decide +kernel
theorem dX7_years_44 : decode cX7_years 44 = .ok (.ldc 80, 2) := by decide +kernel
theorem dX7_years_46 : decode cX7_years 46 = .ok (.ireturn, 1) := by decide +kernel
theorem dX7_years_47 : decode cX7_years 47 = .ok (.iconst 0, 1) := by decide +kernel
theorem dX7_years_48 : decode cX7_years 48 = .ok (.istore_n 2, 1) := by decide +kernel
theorem dX7_years_49 : decode cX7_years 49 = .ok (.iload_n 2, 1) := by decide +kernel
theorem dX7_years_50 : decode cX7_years 50 = .ok (.iload_n 1, 1) := by decide +kernel
theorem dX7_years_51 : decode cX7_years 51 = .ok (.if_icmp .ge 21, 3) := by decide +kernel
theorem dX7_years_54 : decode cX7_years 54 = .ok (.aload_n 0, 1) := by decide +kernel
theorem dX7_years_55 : decode cX7_years 55 = .ok (.invokevirtual 185, 3) := by decide +kernel
theorem dX7_years_58 : decode cX7_years 58 = .ok (.aload_n 0, 1) := by decide +kernel
theorem dX7_years_59 : decode cX7_years 59 = .ok (.getfield 19, 3) := by decide +kernel
theorem dX7_years_62 : decode cX7_years 62 = .ok (.iconst 1, 1) := by decide +kernel
theorem dX7_years_63 : decode cX7_years 63 = .ok (.invokestatic 207, 3) := by decide +kernel
theorem dX7_years_66 : decode cX7_years 66 = .ok (.iinc 2 1, 3) := by decide +kernel
theorem dX7_years_69 : decode cX7_years 69 = .ok (.goto (-20), 3) := by decide +kernel
theorem dX7_years_72 : decode cX7_years 72 = .ok (.aload_n 0, 1) := by decide +kernel
theorem dX7_years_73 : decode cX7_years 73 = .ok (.invokevirtual 211, 3) := by decide +kernel
theorem dX7_years_76 : decode cX7_years 76 = .ok (.invokestatic 214, 3) := by decide +kernel
theorem dX7_years_79 : decode cX7_years 79 = .ok (.ireturn, 1) := by decide +kernel
theorem dX7_undo_0 : decode cX7_undo 0 = .ok (.aload_n 0, 1) := by decide +kernel
theorem dX7_undo_1 : decode cX7_undo 1 = .ok (.iconst 0, 1) := by decide +kernel
theorem dX7_undo_2 : decode cX7_undo 2 = .ok (.putfield 50, 3) := by decide +kernel
theorem dX7_undo_5 : decode cX7_undo 5 = .ok (.aload_n 0, 1) := by decide +kernel
theorem dX7_undo_6 : decode cX7_undo 6 = .ok (.getfield 152, 3) := by decide +kernel
theorem dX7_undo_9 : decode cX7_undo 9 = .ok (.ifCond .ne 6, 3) := by decide +kernel
theorem dX7_undo_12 : decode cX7_undo 12 = .ok (.ldc 201, 2) := by decide +kernel
theorem dX7_undo_14 : decode cX7_undo 14 = .ok (.ireturn, 1) := by decide +kernel
theorem dX7_undo_15 : decode cX7_undo 15 = .ok (.aload_n 0, 1) := by decide +kernel
theorem dX7_undo_16 : decode cX7_undo 16 = .ok (.dup, 1) := by decide +kernel
theorem dX7_undo_17 : decode cX7_undo 17 = .ok (.getfield 152, 3) := by decide +kernel
theorem dX7_undo_20 : decode cX7_undo 20 = .ok (.iconst 1, 1) := by decide +kernel
theorem dX7_undo_21 : decode cX7_undo 21 = .ok (.isub, 1) := by decide +kernel
theorem dX7_undo_22 : decode cX7_undo 22 = .ok (.putfield 152, 3) := by decide +kernel
theorem dX7_undo_25 : decode cX7_undo 25 = .ok (.iconst 0, 1) := by decide +kernel
theorem dX7_undo_26 : decode cX7_undo 26 = .ok (.istore_n 1, 1) := by decide +kernel
theorem dX7_undo_27 : decode cX7_undo 27 = .ok (.iload_n 1, 1) := by decide +kernel
theorem dX7_undo_28 : decode cX7_undo 28 = .ok (.sipush 143, 3) := by decide +kernel
theorem dX7_undo_31 : decode cX7_undo 31 = .ok (.if_icmp .ge 30, 3) := by decide +kernel
theorem dX7_undo_34 : decode cX7_undo 34 = .ok (.aload_n 0, 1) := by decide +kernel
theorem dX7_undo_35 : decode cX7_undo 35 = .ok (.getfield 19, 3) := by decide +kernel
theorem dX7_undo_38 : decode cX7_undo 38 = .ok (.iload_n 1, 1) := by decide +kernel
theorem dX7_undo_39 : decode cX7_undo 39 = .ok (.aload_n 0, 1) := by decide +kernel
theorem dX7_undo_40 : decode cX7_undo 40 = .ok (.getfield 28, 3) := by decide +kernel
theorem dX7_undo_43 : decode cX7_undo 43 = .ok (.sipush 143, 3) := by decide +kernel
theorem dX7_undo_46 : decode cX7_undo 46 = .ok (.aload_n 0, 1) := by decide +kernel
theorem dX7_undo_47 : decode cX7_undo 47 = .ok (.getfield 152, 3) := by decide +kernel
theorem dX7_undo_50 : decode cX7_undo 50 = .ok (.imul, 1) := by decide +kernel
theorem dX7_undo_51 : decode cX7_undo 51 = .ok (.iload_n 1, 1) := by decide +kernel
theorem dX7_undo_52 : decode cX7_undo 52 = .ok (.iadd, 1) := by decide +kernel
theorem dX7_undo_53 : decode cX7_undo 53 = .ok (.iaload, 1) := by decide +kernel
theorem dX7_undo_54 : decode cX7_undo 54 = .ok (.iastore, 1) := by decide +kernel
theorem dX7_undo_55 : decode cX7_undo 55 = .ok (.iinc 1 1, 3) := by decide +kernel
theorem dX7_undo_58 : decode cX7_undo 58 = .ok (.goto (-31), 3) := by decide +kernel
theorem dX7_undo_61 : decode cX7_undo 61 = .ok (.aload_n 0, 1) := by decide +kernel
theorem dX7_undo_62 : decode cX7_undo 62 = .ok (.getfield 152, 3) := by decide +kernel
theorem dX7_undo_65 : decode cX7_undo 65 = .ok (.ireturn, 1) := by decide +kernel
theorem dX7_stonesOf_0 : decode cX7_stonesOf 0 = .ok (.iconst 0, 1) := by decide +kernel
theorem dX7_stonesOf_1 : decode cX7_stonesOf 1 = .ok (.istore_n 2, 1) := by decide +kernel
theorem dX7_stonesOf_2 : decode cX7_stonesOf 2 = .ok (.iconst 0, 1) := by decide +kernel
theorem dX7_stonesOf_3 : decode cX7_stonesOf 3 = .ok (.istore_n 3, 1) := by decide +kernel
theorem dX7_stonesOf_4 : decode cX7_stonesOf 4 = .ok (.iload_n 3, 1) := by decide +kernel
theorem dX7_stonesOf_5 : decode cX7_stonesOf 5 = .ok (.aload_n 0, 1) := by decide +kernel
theorem dX7_stonesOf_6 : decode cX7_stonesOf 6 = .ok (.getfield 19, 3) := by decide +kernel
theorem dX7_stonesOf_9 : decode cX7_stonesOf 9 = .ok (.iconst 2, 1) := by decide +kernel
theorem dX7_stonesOf_10 : decode cX7_stonesOf 10 = .ok (.iaload, 1) := by decide +kernel
theorem dX7_stonesOf_11 : decode cX7_stonesOf 11 = .ok (.if_icmp .ge 33, 3) := by decide +kernel
theorem dX7_stonesOf_14 : decode cX7_stonesOf 14 = .ok (.iload_n 2, 1) := by decide +kernel
theorem dX7_stonesOf_15 : decode cX7_stonesOf 15 = .ok (.aload_n 0, 1) := by decide +kernel
theorem dX7_stonesOf_16 : decode cX7_stonesOf 16 = .ok (.getfield 19, 3) := by decide +kernel
theorem dX7_stonesOf_19 : decode cX7_stonesOf 19 = .ok (.iload_n 1, 1) := by decide +kernel
theorem dX7_stonesOf_20 : decode cX7_stonesOf 20 = .ok (.iload_n 3, 1) := by decide +kernel
theorem dX7_stonesOf_21 : decode cX7_stonesOf 21 = .ok (.invokestatic 166, 3) := by decide +kernel
theorem dX7_stonesOf_24 : decode cX7_stonesOf 24 = .ok (.ldc 93, 2) := by decide +kernel
theorem dX7_stonesOf_26 : decode cX7_stonesOf 26 = .ok (.if_icmp .ne 7, 3) := by decide +kernel
theorem dX7_stonesOf_29 : decode cX7_stonesOf 29 = .ok (.iconst 0, 1) := by decide +kernel
theorem dX7_stonesOf_30 : decode cX7_stonesOf 30 = .ok (.goto 6, 3) := by decide +kernel
theorem dX7_stonesOf_33 : decode cX7_stonesOf 33 = .ok (.iconst 1, 1) := by decide +kernel
theorem dX7_stonesOf_34 : decode cX7_stonesOf 34 = .ok (.iload_n 3, 1) := by decide +kernel
theorem dX7_stonesOf_35 : decode cX7_stonesOf 35 = .ok (.ishl, 1) := by decide +kernel
theorem dX7_stonesOf_36 : decode cX7_stonesOf 36 = .ok (.ior, 1) := by decide +kernel
theorem dX7_stonesOf_37 : decode cX7_stonesOf 37 = .ok (.istore_n 2, 1) := by decide +kernel
theorem dX7_stonesOf_38 : decode cX7_stonesOf 38 = .ok (.iinc 3 1, 3) := by decide +kernel
theorem dX7_stonesOf_41 : decode cX7_stonesOf 41 = .ok (.goto (-37), 3) := by decide +kernel
theorem dX7_stonesOf_44 : decode cX7_stonesOf 44 = .ok (.iload_n 2, 1) := by decide +kernel
theorem dX7_stonesOf_45 : decode cX7_stonesOf 45 = .ok (.ireturn, 1) := by decide +kernel
theorem dX7_witness_0 : decode cX7_witness 0 = .ok (.aload_n 0, 1) := by decide +kernel
theorem dX7_witness_1 : decode cX7_witness 1 = .ok (.iconst 0, 1) := by decide +kernel
theorem dX7_witness_2 : decode cX7_witness 2 = .ok (.putfield 50, 3) := by decide +kernel
theorem dX7_witness_5 : decode cX7_witness 5 = .ok (.aload_n 0, 1) := by decide +kernel
theorem dX7_witness_6 : decode cX7_witness 6 = .ok (.iload_n 1, 1) := by decide +kernel
theorem dX7_witness_7 : decode cX7_witness 7 = .ok (.invokevirtual 194, 3) := by decide +kernel
theorem dX7_witness_10 : decode cX7_witness 10 = .ok (.ifCond .ne 6, 3) := by decide +kernel
theorem dX7_witness_13 : decode cX7_witness 13 = .ok (.ldc 70, 2) := by decide +kernel
theorem dX7_witness_15 : decode cX7_witness 15 = .ok (.ireturn, 1) := by decide +kernel
theorem dX7_witness_16 : decode cX7_witness 16 = .ok (.iload_n 2, 1) := by decide +kernel
theorem dX7_witness_17 : decode cX7_witness 17 = .ok (.tableswitch 80 0 4 #[35, 35, 47, 64, 74], 35) := by decide +kernel
theorem dX7_witness_52 : decode cX7_witness 52 = .ok (.aload_n 0, 1) := by decide +kernel
theorem dX7_witness_53 : decode cX7_witness 53 = .ok (.getfield 19, 3) := by decide +kernel
theorem dX7_witness_56 : decode cX7_witness 56 = .ok (.iload_n 1, 1) := by decide +kernel
theorem dX7_witness_57 : decode cX7_witness 57 = .ok (.iconst 1, 1) := by decide +kernel
theorem dX7_witness_58 : decode cX7_witness 58 = .ok (.iload_n 2, 1) := by decide +kernel
theorem dX7_witness_59 : decode cX7_witness 59 = .ok (.iadd, 1) := by decide +kernel
theorem dX7_witness_60 : decode cX7_witness 60 = .ok (.invokestatic 155, 3) := by decide +kernel
theorem dX7_witness_63 : decode cX7_witness 63 = .ok (.ireturn, 1) := by decide +kernel
theorem dX7_witness_64 : decode cX7_witness 64 = .ok (.aload_n 0, 1) := by decide +kernel
theorem dX7_witness_65 : decode cX7_witness 65 = .ok (.getfield 19, 3) := by decide +kernel
theorem dX7_witness_68 : decode cX7_witness 68 = .ok (.iload_n 1, 1) := by decide +kernel
theorem dX7_witness_69 : decode cX7_witness 69 = .ok (.invokestatic 159, 3) := by decide +kernel
theorem dX7_witness_72 : decode cX7_witness 72 = .ok (.ifCond .eq 7, 3) := by decide +kernel
theorem dX7_witness_75 : decode cX7_witness 75 = .ok (.iconst 1, 1) := by decide +kernel
theorem dX7_witness_76 : decode cX7_witness 76 = .ok (.goto 4, 3) := by decide +kernel
theorem dX7_witness_79 : decode cX7_witness 79 = .ok (.iconst 0, 1) := by decide +kernel
theorem dX7_witness_80 : decode cX7_witness 80 = .ok (.ireturn, 1) := by decide +kernel
theorem dX7_witness_81 : decode cX7_witness 81 = .ok (.aload_n 0, 1) := by decide +kernel
theorem dX7_witness_82 : decode cX7_witness 82 = .ok (.getfield 19, 3) := by decide +kernel
theorem dX7_witness_85 : decode cX7_witness 85 = .ok (.iload_n 1, 1) := by decide +kernel
theorem dX7_witness_86 : decode cX7_witness 86 = .ok (.iconst 3, 1) := by decide +kernel
theorem dX7_witness_87 : decode cX7_witness 87 = .ok (.invokestatic 155, 3) := by decide +kernel
theorem dX7_witness_90 : decode cX7_witness 90 = .ok (.ireturn, 1) := by decide +kernel
theorem dX7_witness_91 : decode cX7_witness 91 = .ok (.aload_n 0, 1) := by decide +kernel
theorem dX7_witness_92 : decode cX7_witness 92 = .ok (.iload_n 1, 1) := by decide +kernel
theorem dX7_witness_93 : decode cX7_witness 93 = .ok (.invokevirtual 217, 3) := by decide +kernel
theorem dX7_witness_96 : decode cX7_witness 96 = .ok (.ireturn, 1) := by decide +kernel
theorem dX7_witness_97 : decode cX7_witness 97 = .ok (.ldc 70, 2) := by decide +kernel
theorem dX7_witness_99 : decode cX7_witness 99 = .ok (.ireturn, 1) := by decide +kernel
theorem dX7_memory_0 : decode cX7_memory 0 = .ok (.aload_n 0, 1) := by decide +kernel
theorem dX7_memory_1 : decode cX7_memory 1 = .ok (.iconst 0, 1) := by decide +kernel
theorem dX7_memory_2 : decode cX7_memory 2 = .ok (.putfield 50, 3) := by decide +kernel
theorem dX7_memory_5 : decode cX7_memory 5 = .ok (.aload_n 0, 1) := by decide +kernel
theorem dX7_memory_6 : decode cX7_memory 6 = .ok (.iload_n 1, 1) := by decide +kernel
theorem dX7_memory_7 : decode cX7_memory 7 = .ok (.invokevirtual 194, 3) := by decide +kernel
theorem dX7_memory_10 : decode cX7_memory 10 = .ok (.ifCond .eq 23, 3) := by decide +kernel
theorem dX7_memory_13 : decode cX7_memory 13 = .ok (.aload_n 0, 1) := by decide +kernel
theorem dX7_memory_14 : decode cX7_memory 14 = .ok (.iload_n 2, 1) := by decide +kernel
theorem dX7_memory_15 : decode cX7_memory 15 = .ok (.invokevirtual 176, 3) := by decide +kernel
theorem dX7_memory_18 : decode cX7_memory 18 = .ok (.ifCond .eq 15, 3) := by decide +kernel
theorem dX7_memory_21 : decode cX7_memory 21 = .ok (.iload_n 3, 1) := by decide +kernel
theorem dX7_memory_22 : decode cX7_memory 22 = .ok (.i2l, 1) := by decide +kernel
theorem dX7_memory_23 : decode cX7_memory 23 = .ok (.lconst 0, 1) := by decide +kernel
theorem dX7_memory_24 : decode cX7_memory 24 = .ok (.ldc2_w 220, 3) := by decide +kernel
theorem dX7_memory_27 : decode cX7_memory 27 = .ok (.invokestatic 60, 3) := by decide +kernel
theorem dX7_memory_30 : decode cX7_memory 30 = .ok (.ifCond .ne 6, 3) := by decide +kernel
theorem dX7_memory_33 : decode cX7_memory 33 = .ok (.ldc 70, 2) := by decide +kernel
theorem dX7_memory_35 : decode cX7_memory 35 = .ok (.ireturn, 1) := by decide +kernel
theorem dX7_memory_36 : decode cX7_memory 36 = .ok (.iload_n 3, 1) := by decide +kernel
theorem dX7_memory_37 : decode cX7_memory 37 = .ok (.iconst 3, 1) := by decide +kernel
theorem dX7_memory_38 : decode cX7_memory 38 = .ok (.if_icmp .ne 15, 3) := by decide +kernel
theorem dX7_memory_41 : decode cX7_memory 41 = .ok (.aload_n 0, 1) := by decide +kernel
theorem dX7_memory_42 : decode cX7_memory 42 = .ok (.getfield 19, 3) := by decide +kernel
theorem dX7_memory_45 : decode cX7_memory 45 = .ok (.iload_n 1, 1) := by decide +kernel
theorem dX7_memory_46 : decode cX7_memory 46 = .ok (.iload_n 2, 1) := by decide +kernel
theorem dX7_memory_47 : decode cX7_memory 47 = .ok (.invokestatic 166, 3) := by decide +kernel
theorem dX7_memory_50 : decode cX7_memory 50 = .ok (.goto 15, 3) := by decide +kernel
theorem dX7_memory_53 : decode cX7_memory 53 = .ok (.aload_n 0, 1) := by decide +kernel
theorem dX7_memory_54 : decode cX7_memory 54 = .ok (.getfield 19, 3) := by decide +kernel
theorem dX7_memory_57 : decode cX7_memory 57 = .ok (.iload_n 1, 1) := by decide +kernel
theorem dX7_memory_58 : decode cX7_memory 58 = .ok (.iload_n 2, 1) := by decide +kernel
theorem dX7_memory_59 : decode cX7_memory 59 = .ok (.invokestatic 163, 3) := by decide +kernel
theorem dX7_memory_62 : decode cX7_memory 62 = .ok (.iload_n 3, 1) := by decide +kernel
theorem dX7_memory_63 : decode cX7_memory 63 = .ok (.iadd, 1) := by decide +kernel
theorem dX7_memory_64 : decode cX7_memory 64 = .ok (.iaload, 1) := by decide +kernel
theorem dX7_memory_65 : decode cX7_memory 65 = .ok (.ireturn, 1) := by decide +kernel
theorem dX7_stone_0 : decode cX7_stone 0 = .ok (.aload_n 0, 1) := by decide +kernel
theorem dX7_stone_1 : decode cX7_stone 1 = .ok (.iconst 0, 1) := by decide +kernel
theorem dX7_stone_2 : decode cX7_stone 2 = .ok (.putfield 50, 3) := by decide +kernel
theorem dX7_stone_5 : decode cX7_stone 5 = .ok (.aload_n 0, 1) := by decide +kernel
theorem dX7_stone_6 : decode cX7_stone 6 = .ok (.iload_n 1, 1) := by decide +kernel
theorem dX7_stone_7 : decode cX7_stone 7 = .ok (.invokevirtual 176, 3) := by decide +kernel
theorem dX7_stone_10 : decode cX7_stone 10 = .ok (.ifCond .eq 14, 3) := by decide +kernel
theorem dX7_stone_13 : decode cX7_stone 13 = .ok (.aload_n 0, 1) := by decide +kernel
theorem dX7_stone_14 : decode cX7_stone 14 = .ok (.getfield 19, 3) := by decide +kernel
theorem dX7_stone_17 : decode cX7_stone 17 = .ok (.iconst 5, 1) := by decide +kernel
theorem dX7_stone_18 : decode cX7_stone 18 = .ok (.iload_n 1, 1) := by decide +kernel
theorem dX7_stone_19 : decode cX7_stone 19 = .ok (.iadd, 1) := by decide +kernel
theorem dX7_stone_20 : decode cX7_stone 20 = .ok (.iaload, 1) := by decide +kernel
theorem dX7_stone_21 : decode cX7_stone 21 = .ok (.goto 5, 3) := by decide +kernel
theorem dX7_stone_24 : decode cX7_stone 24 = .ok (.ldc 70, 2) := by decide +kernel
theorem dX7_stone_26 : decode cX7_stone 26 = .ok (.ireturn, 1) := by decide +kernel
theorem dX7_laySaid_0 : decode cX7_laySaid 0 = .ok (.iconst 0, 1) := by decide +kernel
theorem dX7_laySaid_1 : decode cX7_laySaid 1 = .ok (.istore_n 3, 1) := by decide +kernel
theorem dX7_laySaid_2 : decode cX7_laySaid 2 = .ok (.iconst 0, 1) := by decide +kernel
theorem dX7_laySaid_3 : decode cX7_laySaid 3 = .ok (.istore 4, 2) := by decide +kernel
theorem dX7_laySaid_5 : decode cX7_laySaid 5 = .ok (.iload 4, 2) := by decide +kernel
theorem dX7_laySaid_7 : decode cX7_laySaid 7 = .ok (.aload_n 0, 1) := by decide +kernel
end
section
theorem dX7_laySaid_8 : decode cX7_laySaid 8 = .ok (.getfield 19, 3) := by decide +kernel
theorem dX7_laySaid_11 : decode cX7_laySaid 11 = .ok (.iconst 3, 1) := by decide +kernel
theorem dX7_laySaid_12 : decode cX7_laySaid 12 = .ok (.iaload, 1) := by decide +kernel
theorem dX7_laySaid_13 : decode cX7_laySaid 13 = .ok (.if_icmp .ge 102, 3) := by decide +kernel
theorem dX7_laySaid_16 : decode cX7_laySaid 16 = .ok (.aload_n 0, 1) := by decide +kernel
theorem dX7_laySaid_17 : decode cX7_laySaid 17 = .ok (.getfield 19, 3) := by decide +kernel
theorem dX7_laySaid_20 : decode cX7_laySaid 20 = .ok (.iload 4, 2) := by decide +kernel
theorem dX7_laySaid_22 : decode cX7_laySaid 22 = .ok (.iload_n 1, 1) := by decide +kernel
theorem dX7_laySaid_23 : decode cX7_laySaid 23 = .ok (.invokestatic 166, 3) := by decide +kernel
theorem dX7_laySaid_26 : decode cX7_laySaid 26 = .ok (.istore 5, 2) := by decide +kernel
theorem dX7_laySaid_28 : decode cX7_laySaid 28 = .ok (.iload 5, 2) := by decide +kernel
theorem dX7_laySaid_30 : decode cX7_laySaid 30 = .ok (.ldc 93, 2) := by decide +kernel
theorem dX7_laySaid_32 : decode cX7_laySaid 32 = .ok (.if_icmp .eq 77, 3) := by decide +kernel
theorem dX7_laySaid_35 : decode cX7_laySaid 35 = .ok (.iload_n 2, 1) := by decide +kernel
theorem dX7_laySaid_36 : decode cX7_laySaid 36 = .ok (.iload 4, 2) := by decide +kernel
theorem dX7_laySaid_38 : decode cX7_laySaid 38 = .ok (.invokestatic 169, 3) := by decide +kernel
theorem dX7_laySaid_41 : decode cX7_laySaid 41 = .ok (.ifCond .eq 8, 3) := by decide +kernel
theorem dX7_laySaid_44 : decode cX7_laySaid 44 = .ok (.bipush 99, 2) := by decide +kernel
theorem dX7_laySaid_46 : decode cX7_laySaid 46 = .ok (.goto 5, 3) := by decide +kernel
theorem dX7_laySaid_49 : decode cX7_laySaid 49 = .ok (.iload 5, 2) := by decide +kernel
theorem dX7_laySaid_51 : decode cX7_laySaid 51 = .ok (.istore 5, 2) := by decide +kernel
theorem dX7_laySaid_53 : decode cX7_laySaid 53 = .ok (.iload_n 3, 1) := by decide +kernel
theorem dX7_laySaid_54 : decode cX7_laySaid 54 = .ok (.istore 6, 2) := by decide +kernel
theorem dX7_laySaid_56 : decode cX7_laySaid 56 = .ok (.iload 6, 2) := by decide +kernel
theorem dX7_laySaid_58 : decode cX7_laySaid 58 = .ok (.ifCond .le 39, 3) := by decide +kernel
theorem dX7_laySaid_61 : decode cX7_laySaid 61 = .ok (.aload_n 0, 1) := by decide +kernel
theorem dX7_laySaid_62 : decode cX7_laySaid 62 = .ok (.getfield 34, 3) := by decide +kernel
theorem dX7_laySaid_65 : decode cX7_laySaid 65 = .ok (.iload 6, 2) := by decide +kernel
theorem dX7_laySaid_67 : decode cX7_laySaid 67 = .ok (.iconst 1, 1) := by decide +kernel
theorem dX7_laySaid_68 : decode cX7_laySaid 68 = .ok (.isub, 1) := by decide +kernel
theorem dX7_laySaid_69 : decode cX7_laySaid 69 = .ok (.iaload, 1) := by decide +kernel
theorem dX7_laySaid_70 : decode cX7_laySaid 70 = .ok (.iload 5, 2) := by decide +kernel
theorem dX7_laySaid_72 : decode cX7_laySaid 72 = .ok (.if_icmp .le 25, 3) := by decide +kernel
theorem dX7_laySaid_75 : decode cX7_laySaid 75 = .ok (.aload_n 0, 1) := by decide +kernel
theorem dX7_laySaid_76 : decode cX7_laySaid 76 = .ok (.getfield 34, 3) := by decide +kernel
theorem dX7_laySaid_79 : decode cX7_laySaid 79 = .ok (.iload 6, 2) := by decide +kernel
theorem dX7_laySaid_81 : decode cX7_laySaid 81 = .ok (.aload_n 0, 1) := by decide +kernel
theorem dX7_laySaid_82 : decode cX7_laySaid 82 = .ok (.getfield 34, 3) := by decide +kernel
theorem dX7_laySaid_85 : decode cX7_laySaid 85 = .ok (.iload 6, 2) := by decide +kernel
theorem dX7_laySaid_87 : decode cX7_laySaid 87 = .ok (.iconst 1, 1) := by decide +kernel
theorem dX7_laySaid_88 : decode cX7_laySaid 88 = .ok (.isub, 1) := by decide +kernel
theorem dX7_laySaid_89 : decode cX7_laySaid 89 = .ok (.iaload, 1) := by decide +kernel
theorem dX7_laySaid_90 : decode cX7_laySaid 90 = .ok (.iastore, 1) := by decide +kernel
theorem dX7_laySaid_91 : decode cX7_laySaid 91 = .ok (.iinc 6 (-1), 3) := by decide +kernel
theorem dX7_laySaid_94 : decode cX7_laySaid 94 = .ok (.goto (-38), 3) := by decide +kernel
theorem dX7_laySaid_97 : decode cX7_laySaid 97 = .ok (.aload_n 0, 1) := by decide +kernel
theorem dX7_laySaid_98 : decode cX7_laySaid 98 = .ok (.getfield 34, 3) := by decide +kernel
theorem dX7_laySaid_101 : decode cX7_laySaid 101 = .ok (.iload 6, 2) := by decide +kernel
theorem dX7_laySaid_103 : decode cX7_laySaid 103 = .ok (.iload 5, 2) := by decide +kernel
theorem dX7_laySaid_105 : decode cX7_laySaid 105 = .ok (.iastore, 1) := by decide +kernel
theorem dX7_laySaid_106 : decode cX7_laySaid 106 = .ok (.iinc 3 1, 3) := by decide +kernel
theorem dX7_laySaid_109 : decode cX7_laySaid 109 = .ok (.iinc 4 1, 3) := by decide +kernel
theorem dX7_laySaid_112 : decode cX7_laySaid 112 = .ok (.goto (-107), 3) := by decide +kernel
theorem dX7_laySaid_115 : decode cX7_laySaid 115 = .ok (.iload_n 3, 1) := by decide +kernel
theorem dX7_laySaid_116 : decode cX7_laySaid 116 = .ok (.ireturn, 1) := by decide +kernel
theorem dX7_sworn_0 : decode cX7_sworn 0 = .ok (.aload_n 0, 1) := by decide +kernel
theorem dX7_sworn_1 : decode cX7_sworn 1 = .ok (.iconst 0, 1) := by decide +kernel
theorem dX7_sworn_2 : decode cX7_sworn 2 = .ok (.putfield 50, 3) := by decide +kernel
theorem dX7_sworn_5 : decode cX7_sworn 5 = .ok (.aload_n 0, 1) := by decide +kernel
theorem dX7_sworn_6 : decode cX7_sworn 6 = .ok (.iload_n 1, 1) := by decide +kernel
theorem dX7_sworn_7 : decode cX7_sworn 7 = .ok (.invokevirtual 176, 3) := by decide +kernel
theorem dX7_sworn_10 : decode cX7_sworn 10 = .ok (.ifCond .eq 15, 3) := by decide +kernel
theorem dX7_sworn_13 : decode cX7_sworn 13 = .ok (.iload_n 2, 1) := by decide +kernel
theorem dX7_sworn_14 : decode cX7_sworn 14 = .ok (.i2l, 1) := by decide +kernel
theorem dX7_sworn_15 : decode cX7_sworn 15 = .ok (.lconst 0, 1) := by decide +kernel
theorem dX7_sworn_16 : decode cX7_sworn 16 = .ok (.ldc2_w 222, 3) := by decide +kernel
theorem dX7_sworn_19 : decode cX7_sworn 19 = .ok (.invokestatic 60, 3) := by decide +kernel
theorem dX7_sworn_22 : decode cX7_sworn 22 = .ok (.ifCond .ne 6, 3) := by decide +kernel
theorem dX7_sworn_25 : decode cX7_sworn 25 = .ok (.ldc 70, 2) := by decide +kernel
theorem dX7_sworn_27 : decode cX7_sworn 27 = .ok (.ireturn, 1) := by decide +kernel
theorem dX7_sworn_28 : decode cX7_sworn 28 = .ok (.aload_n 0, 1) := by decide +kernel
theorem dX7_sworn_29 : decode cX7_sworn 29 = .ok (.getfield 19, 3) := by decide +kernel
theorem dX7_sworn_32 : decode cX7_sworn 32 = .ok (.iload_n 1, 1) := by decide +kernel
theorem dX7_sworn_33 : decode cX7_sworn 33 = .ok (.invokestatic 224, 3) := by decide +kernel
theorem dX7_sworn_36 : decode cX7_sworn 36 = .ok (.istore_n 3, 1) := by decide +kernel
theorem dX7_sworn_37 : decode cX7_sworn 37 = .ok (.iload_n 2, 1) := by decide +kernel
theorem dX7_sworn_38 : decode cX7_sworn 38 = .ok (.iconst 2, 1) := by decide +kernel
theorem dX7_sworn_39 : decode cX7_sworn 39 = .ok (.if_icmp .ge 16, 3) := by decide +kernel
theorem dX7_sworn_42 : decode cX7_sworn 42 = .ok (.iload_n 2, 1) := by decide +kernel
theorem dX7_sworn_43 : decode cX7_sworn 43 = .ok (.ifCond .ne 10, 3) := by decide +kernel
theorem dX7_sworn_46 : decode cX7_sworn 46 = .ok (.iload_n 3, 1) := by decide +kernel
theorem dX7_sworn_47 : decode cX7_sworn 47 = .ok (.invokestatic 214, 3) := by decide +kernel
theorem dX7_sworn_50 : decode cX7_sworn 50 = .ok (.goto 4, 3) := by decide +kernel
theorem dX7_sworn_53 : decode cX7_sworn 53 = .ok (.iload_n 3, 1) := by decide +kernel
theorem dX7_sworn_54 : decode cX7_sworn 54 = .ok (.ireturn, 1) := by decide +kernel
theorem dX7_sworn_55 : decode cX7_sworn 55 = .ok (.aload_n 0, 1) := by decide +kernel
theorem dX7_sworn_56 : decode cX7_sworn 56 = .ok (.iload_n 1, 1) := by decide +kernel
theorem dX7_sworn_57 : decode cX7_sworn 57 = .ok (.iconst 0, 1) := by decide +kernel
theorem dX7_sworn_58 : decode cX7_sworn 58 = .ok (.invokevirtual 228, 3) := by decide +kernel
theorem dX7_sworn_61 : decode cX7_sworn 61 = .ok (.istore 4, 2) := by decide +kernel
theorem dX7_sworn_63 : decode cX7_sworn 63 = .ok (.iload 4, 2) := by decide +kernel
theorem dX7_sworn_65 : decode cX7_sworn 65 = .ok (.ifCond .ne 6, 3) := by decide +kernel
theorem dX7_sworn_68 : decode cX7_sworn 68 = .ok (.ldc 93, 2) := by decide +kernel
theorem dX7_sworn_70 : decode cX7_sworn 70 = .ok (.ireturn, 1) := by decide +kernel
theorem dX7_sworn_71 : decode cX7_sworn 71 = .ok (.ldc 93, 2) := by decide +kernel
theorem dX7_sworn_73 : decode cX7_sworn 73 = .ok (.istore 5, 2) := by decide +kernel
theorem dX7_sworn_75 : decode cX7_sworn 75 = .ok (.iconst 0, 1) := by decide +kernel
theorem dX7_sworn_76 : decode cX7_sworn 76 = .ok (.istore 6, 2) := by decide +kernel
theorem dX7_sworn_78 : decode cX7_sworn 78 = .ok (.iload 6, 2) := by decide +kernel
theorem dX7_sworn_80 : decode cX7_sworn 80 = .ok (.aload_n 0, 1) := by decide +kernel
theorem dX7_sworn_81 : decode cX7_sworn 81 = .ok (.getfield 19, 3) := by decide +kernel
theorem dX7_sworn_84 : decode cX7_sworn 84 = .ok (.iconst 3, 1) := by decide +kernel
theorem dX7_sworn_85 : decode cX7_sworn 85 = .ok (.iaload, 1) := by decide +kernel
theorem dX7_sworn_86 : decode cX7_sworn 86 = .ok (.if_icmp .ge 57, 3) := by decide +kernel
theorem dX7_sworn_89 : decode cX7_sworn 89 = .ok (.iload_n 3, 1) := by decide +kernel
theorem dX7_sworn_90 : decode cX7_sworn 90 = .ok (.iload 6, 2) := by decide +kernel
theorem dX7_sworn_92 : decode cX7_sworn 92 = .ok (.invokestatic 169, 3) := by decide +kernel
theorem dX7_sworn_95 : decode cX7_sworn 95 = .ok (.ifCond .eq 38, 3) := by decide +kernel
theorem dX7_sworn_98 : decode cX7_sworn 98 = .ok (.iload 5, 2) := by decide +kernel
theorem dX7_sworn_100 : decode cX7_sworn 100 = .ok (.ldc 93, 2) := by decide +kernel
theorem dX7_sworn_102 : decode cX7_sworn 102 = .ok (.if_icmp .eq 26, 3) := by decide +kernel
theorem dX7_sworn_105 : decode cX7_sworn 105 = .ok (.aload_n 0, 1) := by decide +kernel
theorem dX7_sworn_106 : decode cX7_sworn 106 = .ok (.getfield 19, 3) := by decide +kernel
theorem dX7_sworn_109 : decode cX7_sworn 109 = .ok (.iload 6, 2) := by decide +kernel
theorem dX7_sworn_111 : decode cX7_sworn 111 = .ok (.iconst 1, 1) := by decide +kernel
theorem dX7_sworn_112 : decode cX7_sworn 112 = .ok (.invokestatic 155, 3) := by decide +kernel
theorem dX7_sworn_115 : decode cX7_sworn 115 = .ok (.aload_n 0, 1) := by decide +kernel
theorem dX7_sworn_116 : decode cX7_sworn 116 = .ok (.getfield 19, 3) := by decide +kernel
theorem dX7_sworn_119 : decode cX7_sworn 119 = .ok (.iload 5, 2) := by decide +kernel
theorem dX7_sworn_121 : decode cX7_sworn 121 = .ok (.iconst 1, 1) := by decide +kernel
theorem dX7_sworn_122 : decode cX7_sworn 122 = .ok (.invokestatic 155, 3) := by decide +kernel
theorem dX7_sworn_125 : decode cX7_sworn 125 = .ok (.if_icmp .le 8, 3) := by decide +kernel
theorem dX7_sworn_128 : decode cX7_sworn 128 = .ok (.iload 6, 2) := by decide +kernel
theorem dX7_sworn_130 : decode cX7_sworn 130 = .ok (.goto 5, 3) := by decide +kernel
theorem dX7_sworn_133 : decode cX7_sworn 133 = .ok (.iload 5, 2) := by decide +kernel
theorem dX7_sworn_135 : decode cX7_sworn 135 = .ok (.istore 5, 2) := by decide +kernel
theorem dX7_sworn_137 : decode cX7_sworn 137 = .ok (.iinc 6 1, 3) := by decide +kernel
theorem dX7_sworn_140 : decode cX7_sworn 140 = .ok (.goto (-62), 3) := by decide +kernel
theorem dX7_sworn_143 : decode cX7_sworn 143 = .ok (.iload_n 2, 1) := by decide +kernel
theorem dX7_sworn_144 : decode cX7_sworn 144 = .ok (.iconst 2, 1) := by decide +kernel
theorem dX7_sworn_145 : decode cX7_sworn 145 = .ok (.if_icmp .ne 12, 3) := by decide +kernel
theorem dX7_sworn_148 : decode cX7_sworn 148 = .ok (.aload_n 0, 1) := by decide +kernel
theorem dX7_sworn_149 : decode cX7_sworn 149 = .ok (.getfield 34, 3) := by decide +kernel
theorem dX7_sworn_152 : decode cX7_sworn 152 = .ok (.iconst 0, 1) := by decide +kernel
theorem dX7_sworn_153 : decode cX7_sworn 153 = .ok (.iaload, 1) := by decide +kernel
theorem dX7_sworn_154 : decode cX7_sworn 154 = .ok (.goto 47, 3) := by decide +kernel
theorem dX7_sworn_157 : decode cX7_sworn 157 = .ok (.iload_n 2, 1) := by decide +kernel
theorem dX7_sworn_158 : decode cX7_sworn 158 = .ok (.iconst 3, 1) := by decide +kernel
theorem dX7_sworn_159 : decode cX7_sworn 159 = .ok (.if_icmp .ne 15, 3) := by decide +kernel
theorem dX7_sworn_162 : decode cX7_sworn 162 = .ok (.aload_n 0, 1) := by decide +kernel
theorem dX7_sworn_163 : decode cX7_sworn 163 = .ok (.getfield 34, 3) := by decide +kernel
theorem dX7_sworn_166 : decode cX7_sworn 166 = .ok (.iload 4, 2) := by decide +kernel
theorem dX7_sworn_168 : decode cX7_sworn 168 = .ok (.iconst 1, 1) := by decide +kernel
theorem dX7_sworn_169 : decode cX7_sworn 169 = .ok (.isub, 1) := by decide +kernel
theorem dX7_sworn_170 : decode cX7_sworn 170 = .ok (.iaload, 1) := by decide +kernel
theorem dX7_sworn_171 : decode cX7_sworn 171 = .ok (.goto 30, 3) := by decide +kernel
theorem dX7_sworn_174 : decode cX7_sworn 174 = .ok (.iload_n 2, 1) := by decide +kernel
theorem dX7_sworn_175 : decode cX7_sworn 175 = .ok (.iconst 4, 1) := by decide +kernel
theorem dX7_sworn_176 : decode cX7_sworn 176 = .ok (.if_icmp .ne 15, 3) := by decide +kernel
theorem dX7_sworn_179 : decode cX7_sworn 179 = .ok (.aload_n 0, 1) := by decide +kernel
theorem dX7_sworn_180 : decode cX7_sworn 180 = .ok (.getfield 34, 3) := by decide +kernel
theorem dX7_sworn_183 : decode cX7_sworn 183 = .ok (.iload 4, 2) := by decide +kernel
theorem dX7_sworn_185 : decode cX7_sworn 185 = .ok (.iconst 2, 1) := by decide +kernel
theorem dX7_sworn_186 : decode cX7_sworn 186 = .ok (.idiv, 1) := by decide +kernel
theorem dX7_sworn_187 : decode cX7_sworn 187 = .ok (.iaload, 1) := by decide +kernel
theorem dX7_sworn_188 : decode cX7_sworn 188 = .ok (.goto 13, 3) := by decide +kernel
theorem dX7_sworn_191 : decode cX7_sworn 191 = .ok (.aload_n 0, 1) := by decide +kernel
theorem dX7_sworn_192 : decode cX7_sworn 192 = .ok (.getfield 19, 3) := by decide +kernel
theorem dX7_sworn_195 : decode cX7_sworn 195 = .ok (.iload 5, 2) := by decide +kernel
theorem dX7_sworn_197 : decode cX7_sworn 197 = .ok (.iload_n 1, 1) := by decide +kernel
theorem dX7_sworn_198 : decode cX7_sworn 198 = .ok (.invokestatic 166, 3) := by decide +kernel
theorem dX7_sworn_201 : decode cX7_sworn 201 = .ok (.ireturn, 1) := by decide +kernel
theorem dX7_sayYard_0 : decode cX7_sayYard 0 = .ok (.iconst 0, 1) := by decide +kernel
theorem dX7_sayYard_1 : decode cX7_sayYard 1 = .ok (.istore_n 3, 1) := by decide +kernel
theorem dX7_sayYard_2 : decode cX7_sayYard 2 = .ok (.iconst 0, 1) := by decide +kernel
theorem dX7_sayYard_3 : decode cX7_sayYard 3 = .ok (.istore 4, 2) := by decide +kernel
theorem dX7_sayYard_5 : decode cX7_sayYard 5 = .ok (.iload 4, 2) := by decide +kernel
theorem dX7_sayYard_7 : decode cX7_sayYard 7 = .ok (.aload_n 0, 1) := by decide +kernel
theorem dX7_sayYard_8 : decode cX7_sayYard 8 = .ok (.getfield 19, 3) := by decide +kernel
theorem dX7_sayYard_11 : decode cX7_sayYard 11 = .ok (.iconst 3, 1) := by decide +kernel
theorem dX7_sayYard_12 : decode cX7_sayYard 12 = .ok (.iaload, 1) := by decide +kernel
theorem dX7_sayYard_13 : decode cX7_sayYard 13 = .ok (.if_icmp .ge 31, 3) := by decide +kernel
theorem dX7_sayYard_16 : decode cX7_sayYard 16 = .ok (.iload_n 3, 1) := by decide +kernel
theorem dX7_sayYard_17 : decode cX7_sayYard 17 = .ok (.aload_n 0, 1) := by decide +kernel
theorem dX7_sayYard_18 : decode cX7_sayYard 18 = .ok (.getfield 19, 3) := by decide +kernel
theorem dX7_sayYard_21 : decode cX7_sayYard 21 = .ok (.iload 4, 2) := by decide +kernel
theorem dX7_sayYard_23 : decode cX7_sayYard 23 = .ok (.iload_n 1, 1) := by decide +kernel
theorem dX7_sayYard_24 : decode cX7_sayYard 24 = .ok (.invokestatic 166, 3) := by decide +kernel
theorem dX7_sayYard_27 : decode cX7_sayYard 27 = .ok (.iload_n 2, 1) := by decide +kernel
theorem dX7_sayYard_28 : decode cX7_sayYard 28 = .ok (.if_icmp .ne 7, 3) := by decide +kernel
theorem dX7_sayYard_31 : decode cX7_sayYard 31 = .ok (.iconst 1, 1) := by decide +kernel
theorem dX7_sayYard_32 : decode cX7_sayYard 32 = .ok (.goto 4, 3) := by decide +kernel
theorem dX7_sayYard_35 : decode cX7_sayYard 35 = .ok (.iconst 0, 1) := by decide +kernel
theorem dX7_sayYard_36 : decode cX7_sayYard 36 = .ok (.iadd, 1) := by decide +kernel
theorem dX7_sayYard_37 : decode cX7_sayYard 37 = .ok (.istore_n 3, 1) := by decide +kernel
theorem dX7_sayYard_38 : decode cX7_sayYard 38 = .ok (.iinc 4 1, 3) := by decide +kernel
theorem dX7_sayYard_41 : decode cX7_sayYard 41 = .ok (.goto (-36), 3) := by decide +kernel
theorem dX7_sayYard_44 : decode cX7_sayYard 44 = .ok (.iload_n 3, 1) := by decide +kernel
theorem dX7_sayYard_45 : decode cX7_sayYard 45 = .ok (.ireturn, 1) := by decide +kernel
theorem dX7_belief_0 : decode cX7_belief 0 = .ok (.aload_n 0, 1) := by decide +kernel
theorem dX7_belief_1 : decode cX7_belief 1 = .ok (.iconst 0, 1) := by decide +kernel
theorem dX7_belief_2 : decode cX7_belief 2 = .ok (.putfield 50, 3) := by decide +kernel
theorem dX7_belief_5 : decode cX7_belief 5 = .ok (.aload_n 0, 1) := by decide +kernel
theorem dX7_belief_6 : decode cX7_belief 6 = .ok (.iload_n 1, 1) := by decide +kernel
theorem dX7_belief_7 : decode cX7_belief 7 = .ok (.invokevirtual 176, 3) := by decide +kernel
theorem dX7_belief_10 : decode cX7_belief 10 = .ok (.ifCond .eq 25, 3) := by decide +kernel
theorem dX7_belief_13 : decode cX7_belief 13 = .ok (.iload_n 2, 1) := by decide +kernel
theorem dX7_belief_14 : decode cX7_belief 14 = .ok (.i2l, 1) := by decide +kernel
theorem dX7_belief_15 : decode cX7_belief 15 = .ok (.lconst 0, 1) := by decide +kernel
theorem dX7_belief_16 : decode cX7_belief 16 = .ok (.ldc2_w 192, 3) := by decide +kernel
theorem dX7_belief_19 : decode cX7_belief 19 = .ok (.invokestatic 60, 3) := by decide +kernel
theorem dX7_belief_22 : decode cX7_belief 22 = .ok (.ifCond .eq 13, 3) := by decide +kernel
theorem dX7_belief_25 : decode cX7_belief 25 = .ok (.iload_n 3, 1) := by decide +kernel
theorem dX7_belief_26 : decode cX7_belief 26 = .ok (.i2l, 1) := by decide +kernel
theorem dX7_belief_27 : decode cX7_belief 27 = .ok (.lconst 0, 1) := by decide +kernel
theorem dX7_belief_28 : decode cX7_belief 28 = .ok (.lconst 1, 1) := by decide +kernel
theorem dX7_belief_29 : decode cX7_belief 29 = .ok (.invokestatic 60, 3) := by decide +kernel
theorem dX7_belief_32 : decode cX7_belief 32 = .ok (.ifCond .ne 6, 3) := by decide +kernel
theorem dX7_belief_35 : decode cX7_belief 35 = .ok (.ldc 70, 2) := by decide +kernel
theorem dX7_belief_37 : decode cX7_belief 37 = .ok (.ireturn, 1) := by decide +kernel
theorem dX7_belief_38 : decode cX7_belief 38 = .ok (.aload_n 0, 1) := by decide +kernel
theorem dX7_belief_39 : decode cX7_belief 39 = .ok (.getfield 19, 3) := by decide +kernel
theorem dX7_belief_42 : decode cX7_belief 42 = .ok (.iload_n 1, 1) := by decide +kernel
theorem dX7_belief_43 : decode cX7_belief 43 = .ok (.invokestatic 224, 3) := by decide +kernel
theorem dX7_belief_46 : decode cX7_belief 46 = .ok (.invokestatic 214, 3) := by decide +kernel
theorem dX7_belief_49 : decode cX7_belief 49 = .ok (.istore 4, 2) := by decide +kernel
theorem dX7_belief_51 : decode cX7_belief 51 = .ok (.iload 4, 2) := by decide +kernel
theorem dX7_belief_53 : decode cX7_belief 53 = .ok (.ifCond .ne 6, 3) := by decide +kernel
theorem dX7_belief_56 : decode cX7_belief 56 = .ok (.ldc 201, 2) := by decide +kernel
theorem dX7_belief_58 : decode cX7_belief 58 = .ok (.ireturn, 1) := by decide +kernel
theorem dX7_belief_59 : decode cX7_belief 59 = .ok (.aload_n 0, 1) := by decide +kernel
theorem dX7_belief_60 : decode cX7_belief 60 = .ok (.iload_n 1, 1) := by decide +kernel
theorem dX7_belief_61 : decode cX7_belief 61 = .ok (.iload_n 2, 1) := by decide +kernel
theorem dX7_belief_62 : decode cX7_belief 62 = .ok (.invokevirtual 231, 3) := by decide +kernel
theorem dX7_belief_65 : decode cX7_belief 65 = .ok (.istore 5, 2) := by decide +kernel
theorem dX7_belief_67 : decode cX7_belief 67 = .ok (.iload 5, 2) := by decide +kernel
theorem dX7_belief_69 : decode cX7_belief 69 = .ok (.istore 6, 2) := by decide +kernel
theorem dX7_belief_71 : decode cX7_belief 71 = .ok (.iload 4, 2) := by decide +kernel
theorem dX7_belief_73 : decode cX7_belief 73 = .ok (.istore 7, 2) := by decide +kernel
theorem dX7_belief_75 : decode cX7_belief 75 = .ok (.iload 7, 2) := by decide +kernel
theorem dX7_belief_77 : decode cX7_belief 77 = .ok (.ifCond .eq 21, 3) := by decide +kernel
theorem dX7_belief_80 : decode cX7_belief 80 = .ok (.iload 6, 2) := by decide +kernel
theorem dX7_belief_82 : decode cX7_belief 82 = .ok (.iload 7, 2) := by decide +kernel
theorem dX7_belief_84 : decode cX7_belief 84 = .ok (.irem, 1) := by decide +kernel
theorem dX7_belief_85 : decode cX7_belief 85 = .ok (.istore 8, 2) := by decide +kernel
theorem dX7_belief_87 : decode cX7_belief 87 = .ok (.iload 7, 2) := by decide +kernel
theorem dX7_belief_89 : decode cX7_belief 89 = .ok (.istore 6, 2) := by decide +kernel
theorem dX7_belief_91 : decode cX7_belief 91 = .ok (.iload 8, 2) := by decide +kernel
theorem dX7_belief_93 : decode cX7_belief 93 = .ok (.istore 7, 2) := by decide +kernel
theorem dX7_belief_95 : decode cX7_belief 95 = .ok (.goto (-20), 3) := by decide +kernel
theorem dX7_belief_98 : decode cX7_belief 98 = .ok (.iload_n 3, 1) := by decide +kernel
theorem dX7_belief_99 : decode cX7_belief 99 = .ok (.ifCond .ne 8, 3) := by decide +kernel
theorem dX7_belief_102 : decode cX7_belief 102 = .ok (.iload 5, 2) := by decide +kernel
theorem dX7_belief_104 : decode cX7_belief 104 = .ok (.goto 5, 3) := by decide +kernel
theorem dX7_belief_107 : decode cX7_belief 107 = .ok (.iload 4, 2) := by decide +kernel
theorem dX7_belief_109 : decode cX7_belief 109 = .ok (.iload 6, 2) := by decide +kernel
theorem dX7_belief_111 : decode cX7_belief 111 = .ok (.idiv, 1) := by decide +kernel
theorem dX7_belief_112 : decode cX7_belief 112 = .ok (.ireturn, 1) := by decide +kernel
theorem dX7_likeliest_0 : decode cX7_likeliest 0 = .ok (.aload_n 0, 1) := by decide +kernel
theorem dX7_likeliest_1 : decode cX7_likeliest 1 = .ok (.iconst 0, 1) := by decide +kernel
theorem dX7_likeliest_2 : decode cX7_likeliest 2 = .ok (.putfield 50, 3) := by decide +kernel
theorem dX7_likeliest_5 : decode cX7_likeliest 5 = .ok (.aload_n 0, 1) := by decide +kernel
theorem dX7_likeliest_6 : decode cX7_likeliest 6 = .ok (.iload_n 1, 1) := by decide +kernel
theorem dX7_likeliest_7 : decode cX7_likeliest 7 = .ok (.invokevirtual 176, 3) := by decide +kernel
theorem dX7_likeliest_10 : decode cX7_likeliest 10 = .ok (.ifCond .ne 6, 3) := by decide +kernel
theorem dX7_likeliest_13 : decode cX7_likeliest 13 = .ok (.ldc 70, 2) := by decide +kernel
theorem dX7_likeliest_15 : decode cX7_likeliest 15 = .ok (.ireturn, 1) := by decide +kernel
theorem dX7_likeliest_16 : decode cX7_likeliest 16 = .ok (.ldc 93, 2) := by decide +kernel
theorem dX7_likeliest_18 : decode cX7_likeliest 18 = .ok (.istore_n 2, 1) := by decide +kernel
theorem dX7_likeliest_19 : decode cX7_likeliest 19 = .ok (.iconst 0, 1) := by decide +kernel
theorem dX7_likeliest_20 : decode cX7_likeliest 20 = .ok (.istore_n 3, 1) := by decide +kernel
theorem dX7_likeliest_21 : decode cX7_likeliest 21 = .ok (.iconst 0, 1) := by decide +kernel
theorem dX7_likeliest_22 : decode cX7_likeliest 22 = .ok (.istore 4, 2) := by decide +kernel
theorem dX7_likeliest_24 : decode cX7_likeliest 24 = .ok (.iload 4, 2) := by decide +kernel
theorem dX7_likeliest_26 : decode cX7_likeliest 26 = .ok (.bipush 100, 2) := by decide +kernel
theorem dX7_likeliest_28 : decode cX7_likeliest 28 = .ok (.if_icmp .ge 44, 3) := by decide +kernel
theorem dX7_likeliest_31 : decode cX7_likeliest 31 = .ok (.aload_n 0, 1) := by decide +kernel
theorem dX7_likeliest_32 : decode cX7_likeliest 32 = .ok (.iload_n 1, 1) := by decide +kernel
theorem dX7_likeliest_33 : decode cX7_likeliest 33 = .ok (.iload 4, 2) := by decide +kernel
theorem dX7_likeliest_35 : decode cX7_likeliest 35 = .ok (.invokevirtual 231, 3) := by decide +kernel
theorem dX7_likeliest_38 : decode cX7_likeliest 38 = .ok (.istore 5, 2) := by decide +kernel
theorem dX7_likeliest_40 : decode cX7_likeliest 40 = .ok (.iload 5, 2) := by decide +kernel
theorem dX7_likeliest_42 : decode cX7_likeliest 42 = .ok (.iload_n 3, 1) := by decide +kernel
theorem dX7_likeliest_43 : decode cX7_likeliest 43 = .ok (.if_icmp .le 8, 3) := by decide +kernel
theorem dX7_likeliest_46 : decode cX7_likeliest 46 = .ok (.iload 4, 2) := by decide +kernel
theorem dX7_likeliest_48 : decode cX7_likeliest 48 = .ok (.goto 4, 3) := by decide +kernel
theorem dX7_likeliest_51 : decode cX7_likeliest 51 = .ok (.iload_n 2, 1) := by decide +kernel
theorem dX7_likeliest_52 : decode cX7_likeliest 52 = .ok (.istore_n 2, 1) := by decide +kernel
theorem dX7_likeliest_53 : decode cX7_likeliest 53 = .ok (.iload 5, 2) := by decide +kernel
theorem dX7_likeliest_55 : decode cX7_likeliest 55 = .ok (.iload_n 3, 1) := by decide +kernel
theorem dX7_likeliest_56 : decode cX7_likeliest 56 = .ok (.if_icmp .le 8, 3) := by decide +kernel
theorem dX7_likeliest_59 : decode cX7_likeliest 59 = .ok (.iload 5, 2) := by decide +kernel
theorem dX7_likeliest_61 : decode cX7_likeliest 61 = .ok (.goto 4, 3) := by decide +kernel
theorem dX7_likeliest_64 : decode cX7_likeliest 64 = .ok (.iload_n 3, 1) := by decide +kernel
theorem dX7_likeliest_65 : decode cX7_likeliest 65 = .ok (.istore_n 3, 1) := by decide +kernel
theorem dX7_likeliest_66 : decode cX7_likeliest 66 = .ok (.iinc 4 1, 3) := by decide +kernel
theorem dX7_likeliest_69 : decode cX7_likeliest 69 = .ok (.goto (-45), 3) := by decide +kernel
theorem dX7_likeliest_72 : decode cX7_likeliest 72 = .ok (.iload_n 2, 1) := by decide +kernel
theorem dX7_likeliest_73 : decode cX7_likeliest 73 = .ok (.ireturn, 1) := by decide +kernel
theorem dX7_till_0 : decode cX7_till 0 = .ok (.aload_n 0, 1) := by decide +kernel
theorem dX7_till_1 : decode cX7_till 1 = .ok (.iconst 0, 1) := by decide +kernel
theorem dX7_till_2 : decode cX7_till 2 = .ok (.putfield 50, 3) := by decide +kernel
theorem dX7_till_5 : decode cX7_till 5 = .ok (.aload_n 0, 1) := by decide +kernel
theorem dX7_till_6 : decode cX7_till 6 = .ok (.iload_n 1, 1) := by decide +kernel
theorem dX7_till_7 : decode cX7_till 7 = .ok (.invokevirtual 176, 3) := by decide +kernel
theorem dX7_till_10 : decode cX7_till 10 = .ok (.ifCond .eq 15, 3) := by decide +kernel
theorem dX7_till_13 : decode cX7_till 13 = .ok (.iload_n 2, 1) := by decide +kernel
theorem dX7_till_14 : decode cX7_till 14 = .ok (.i2l, 1) := by decide +kernel
theorem dX7_till_15 : decode cX7_till 15 = .ok (.lconst 1, 1) := by decide +kernel
theorem dX7_till_16 : decode cX7_till 16 = .ok (.ldc2_w 234, 3) := by decide +kernel
theorem dX7_till_19 : decode cX7_till 19 = .ok (.invokestatic 60, 3) := by decide +kernel
theorem dX7_till_22 : decode cX7_till 22 = .ok (.ifCond .ne 6, 3) := by decide +kernel
theorem dX7_till_25 : decode cX7_till 25 = .ok (.ldc 70, 2) := by decide +kernel
theorem dX7_till_27 : decode cX7_till 27 = .ok (.ireturn, 1) := by decide +kernel
theorem dX7_till_28 : decode cX7_till 28 = .ok (.aload_n 0, 1) := by decide +kernel
theorem dX7_till_29 : decode cX7_till 29 = .ok (.invokevirtual 236, 3) := by decide +kernel
theorem dX7_till_32 : decode cX7_till 32 = .ok (.iconst 0, 1) := by decide +kernel
theorem dX7_till_33 : decode cX7_till 33 = .ok (.istore_n 3, 1) := by decide +kernel
theorem dX7_till_34 : decode cX7_till 34 = .ok (.iload_n 3, 1) := by decide +kernel
theorem dX7_till_35 : decode cX7_till 35 = .ok (.bipush 100, 2) := by decide +kernel
theorem dX7_till_37 : decode cX7_till 37 = .ok (.if_icmp .ge 34, 3) := by decide +kernel
theorem dX7_till_40 : decode cX7_till 40 = .ok (.aload_n 0, 1) := by decide +kernel
theorem dX7_till_41 : decode cX7_till 41 = .ok (.getfield 25, 3) := by decide +kernel
theorem dX7_till_44 : decode cX7_till 44 = .ok (.iload_n 1, 1) := by decide +kernel
theorem dX7_till_45 : decode cX7_till 45 = .ok (.invokestatic 224, 3) := by decide +kernel
theorem dX7_till_48 : decode cX7_till 48 = .ok (.invokestatic 214, 3) := by decide +kernel
theorem dX7_till_51 : decode cX7_till 51 = .ok (.iload_n 2, 1) := by decide +kernel
theorem dX7_till_52 : decode cX7_till 52 = .ok (.if_icmp .ge 5, 3) := by decide +kernel
theorem dX7_till_55 : decode cX7_till 55 = .ok (.iload_n 3, 1) := by decide +kernel
theorem dX7_till_56 : decode cX7_till 56 = .ok (.ireturn, 1) := by decide +kernel
theorem dX7_till_57 : decode cX7_till 57 = .ok (.aload_n 0, 1) := by decide +kernel
theorem dX7_till_58 : decode cX7_till 58 = .ok (.getfield 25, 3) := by decide +kernel
theorem dX7_till_61 : decode cX7_till 61 = .ok (.iconst 1, 1) := by decide +kernel
theorem dX7_till_62 : decode cX7_till 62 = .ok (.invokestatic 207, 3) := by decide +kernel
theorem dX7_till_65 : decode cX7_till 65 = .ok (.iinc 3 1, 3) := by decide +kernel
theorem dX7_till_68 : decode cX7_till 68 = .ok (.goto (-34), 3) := by decide +kernel
theorem dX7_till_71 : decode cX7_till 71 = .ok (.ldc 93, 2) := by decide +kernel
theorem dX7_till_73 : decode cX7_till 73 = .ok (.ireturn, 1) := by decide +kernel
theorem dX7_sworeLater_0 : decode cX7_sworeLater 0 = .ok (.aload_n 0, 1) := by decide +kernel
theorem dX7_sworeLater_1 : decode cX7_sworeLater 1 = .ok (.invokevirtual 236, 3) := by decide +kernel
theorem dX7_sworeLater_4 : decode cX7_sworeLater 4 = .ok (.aload_n 0, 1) := by decide +kernel
theorem dX7_sworeLater_5 : decode cX7_sworeLater 5 = .ok (.getfield 25, 3) := by decide +kernel
theorem dX7_sworeLater_8 : decode cX7_sworeLater 8 = .ok (.iload_n 1, 1) := by decide +kernel
theorem dX7_sworeLater_9 : decode cX7_sworeLater 9 = .ok (.iload_n 2, 1) := by decide +kernel
theorem dX7_sworeLater_10 : decode cX7_sworeLater 10 = .ok (.iload_n 3, 1) := by decide +kernel
theorem dX7_sworeLater_11 : decode cX7_sworeLater 11 = .ok (.invokestatic 188, 3) := by decide +kernel
theorem dX7_sworeLater_14 : decode cX7_sworeLater 14 = .ok (.istore 5, 2) := by decide +kernel
theorem dX7_sworeLater_16 : decode cX7_sworeLater 16 = .ok (.aload_n 0, 1) := by decide +kernel
theorem dX7_sworeLater_17 : decode cX7_sworeLater 17 = .ok (.getfield 25, 3) := by decide +kernel
theorem dX7_sworeLater_20 : decode cX7_sworeLater 20 = .ok (.iload 4, 2) := by decide +kernel
theorem dX7_sworeLater_22 : decode cX7_sworeLater 22 = .ok (.invokestatic 207, 3) := by decide +kernel
theorem dX7_sworeLater_25 : decode cX7_sworeLater 25 = .ok (.iload 5, 2) := by decide +kernel
theorem dX7_sworeLater_27 : decode cX7_sworeLater 27 = .ok (.ifCond .ge 8, 3) := by decide +kernel
theorem dX7_sworeLater_30 : decode cX7_sworeLater 30 = .ok (.iload 5, 2) := by decide +kernel
theorem dX7_sworeLater_32 : decode cX7_sworeLater 32 = .ok (.goto 14, 3) := by decide +kernel
theorem dX7_sworeLater_35 : decode cX7_sworeLater 35 = .ok (.aload_n 0, 1) := by decide +kernel
theorem dX7_sworeLater_36 : decode cX7_sworeLater 36 = .ok (.getfield 25, 3) := by decide +kernel
theorem dX7_sworeLater_39 : decode cX7_sworeLater 39 = .ok (.iload_n 1, 1) := by decide +kernel
theorem dX7_sworeLater_40 : decode cX7_sworeLater 40 = .ok (.invokestatic 224, 3) := by decide +kernel
theorem dX7_sworeLater_43 : decode cX7_sworeLater 43 = .ok (.invokestatic 214, 3) := by decide +kernel
theorem dX7_sworeLater_46 : decode cX7_sworeLater 46 = .ok (.ireturn, 1) := by decide +kernel
theorem dX7_takeable_0 : decode cX7_takeable 0 = .ok (.iconst 0, 1) := by decide +kernel
theorem dX7_takeable_1 : decode cX7_takeable 1 = .ok (.istore_n 1, 1) := by decide +kernel
theorem dX7_takeable_2 : decode cX7_takeable 2 = .ok (.iconst 0, 1) := by decide +kernel
theorem dX7_takeable_3 : decode cX7_takeable 3 = .ok (.istore_n 2, 1) := by decide +kernel
theorem dX7_takeable_4 : decode cX7_takeable 4 = .ok (.iload_n 2, 1) := by decide +kernel
theorem dX7_takeable_5 : decode cX7_takeable 5 = .ok (.aload_n 0, 1) := by decide +kernel
theorem dX7_takeable_6 : decode cX7_takeable 6 = .ok (.getfield 19, 3) := by decide +kernel
theorem dX7_takeable_9 : decode cX7_takeable 9 = .ok (.iconst 3, 1) := by decide +kernel
theorem dX7_takeable_10 : decode cX7_takeable 10 = .ok (.iaload, 1) := by decide +kernel
theorem dX7_takeable_11 : decode cX7_takeable 11 = .ok (.if_icmp .ge 30, 3) := by decide +kernel
theorem dX7_takeable_14 : decode cX7_takeable 14 = .ok (.iload_n 1, 1) := by decide +kernel
theorem dX7_takeable_15 : decode cX7_takeable 15 = .ok (.aload_n 0, 1) := by decide +kernel
theorem dX7_takeable_16 : decode cX7_takeable 16 = .ok (.getfield 19, 3) := by decide +kernel
theorem dX7_takeable_19 : decode cX7_takeable 19 = .ok (.iload_n 2, 1) := by decide +kernel
theorem dX7_takeable_20 : decode cX7_takeable 20 = .ok (.invokestatic 173, 3) := by decide +kernel
theorem dX7_takeable_23 : decode cX7_takeable 23 = .ok (.ifCond .eq 9, 3) := by decide +kernel
theorem dX7_takeable_26 : decode cX7_takeable 26 = .ok (.iconst 1, 1) := by decide +kernel
theorem dX7_takeable_27 : decode cX7_takeable 27 = .ok (.iload_n 2, 1) := by decide +kernel
theorem dX7_takeable_28 : decode cX7_takeable 28 = .ok (.ishl, 1) := by decide +kernel
theorem dX7_takeable_29 : decode cX7_takeable 29 = .ok (.goto 4, 3) := by decide +kernel
theorem dX7_takeable_32 : decode cX7_takeable 32 = .ok (.iconst 0, 1) := by decide +kernel
theorem dX7_takeable_33 : decode cX7_takeable 33 = .ok (.ior, 1) := by decide +kernel
theorem dX7_takeable_34 : decode cX7_takeable 34 = .ok (.istore_n 1, 1) := by decide +kernel
theorem dX7_takeable_35 : decode cX7_takeable 35 = .ok (.iinc 2 1, 3) := by decide +kernel
theorem dX7_takeable_38 : decode cX7_takeable 38 = .ok (.goto (-34), 3) := by decide +kernel
theorem dX7_takeable_41 : decode cX7_takeable 41 = .ok (.iload_n 1, 1) := by decide +kernel
theorem dX7_takeable_42 : decode cX7_takeable 42 = .ok (.ireturn, 1) := by decide +kernel
theorem dX7_take_0 : decode cX7_take 0 = .ok (.aload_n 0, 1) := by decide +kernel
theorem dX7_take_1 : decode cX7_take 1 = .ok (.iconst 0, 1) := by decide +kernel
theorem dX7_take_2 : decode cX7_take 2 = .ok (.putfield 50, 3) := by decide +kernel
theorem dX7_take_5 : decode cX7_take 5 = .ok (.aload_n 0, 1) := by decide +kernel
theorem dX7_take_6 : decode cX7_take 6 = .ok (.iload_n 1, 1) := by decide +kernel
theorem dX7_take_7 : decode cX7_take 7 = .ok (.invokevirtual 176, 3) := by decide +kernel
theorem dX7_take_10 : decode cX7_take 10 = .ok (.ifCond .eq 51, 3) := by decide +kernel
theorem dX7_take_13 : decode cX7_take 13 = .ok (.iload_n 2, 1) := by decide +kernel
theorem dX7_take_14 : decode cX7_take 14 = .ok (.i2l, 1) := by decide +kernel
theorem dX7_take_15 : decode cX7_take 15 = .ok (.lconst 1, 1) := by decide +kernel
theorem dX7_take_16 : decode cX7_take 16 = .ok (.ldc2_w 183, 3) := by decide +kernel
theorem dX7_take_19 : decode cX7_take 19 = .ok (.invokestatic 60, 3) := by decide +kernel
theorem dX7_take_22 : decode cX7_take 22 = .ok (.ifCond .eq 39, 3) := by decide +kernel
theorem dX7_take_25 : decode cX7_take 25 = .ok (.iload_n 3, 1) := by decide +kernel
theorem dX7_take_26 : decode cX7_take 26 = .ok (.i2l, 1) := by decide +kernel
theorem dX7_take_27 : decode cX7_take 27 = .ok (.lconst 1, 1) := by decide +kernel
theorem dX7_take_28 : decode cX7_take 28 = .ok (.ldc2_w 239, 3) := by decide +kernel
theorem dX7_take_31 : decode cX7_take 31 = .ok (.invokestatic 60, 3) := by decide +kernel
theorem dX7_take_34 : decode cX7_take 34 = .ok (.ifCond .eq 27, 3) := by decide +kernel
theorem dX7_take_37 : decode cX7_take 37 = .ok (.iload 4, 2) := by decide +kernel
theorem dX7_take_39 : decode cX7_take 39 = .ok (.i2l, 1) := by decide +kernel
theorem dX7_take_40 : decode cX7_take 40 = .ok (.lconst 1, 1) := by decide +kernel
theorem dX7_take_41 : decode cX7_take 41 = .ok (.ldc2_w 234, 3) := by decide +kernel
theorem dX7_take_44 : decode cX7_take 44 = .ok (.invokestatic 60, 3) := by decide +kernel
theorem dX7_take_47 : decode cX7_take 47 = .ok (.ifCond .eq 14, 3) := by decide +kernel
theorem dX7_take_50 : decode cX7_take 50 = .ok (.iload 5, 2) := by decide +kernel
theorem dX7_take_52 : decode cX7_take 52 = .ok (.i2l, 1) := by decide +kernel
theorem dX7_take_53 : decode cX7_take 53 = .ok (.lconst 0, 1) := by decide +kernel
theorem dX7_take_54 : decode cX7_take 54 = .ok (.lconst 1, 1) := by decide +kernel
theorem dX7_take_55 : decode cX7_take 55 = .ok (.invokestatic 60, 3) := by decide +kernel
theorem dX7_take_58 : decode cX7_take 58 = .ok (.ifCond .ne 6, 3) := by decide +kernel
theorem dX7_take_61 : decode cX7_take 61 = .ok (.ldc 70, 2) := by decide +kernel
theorem dX7_take_63 : decode cX7_take 63 = .ok (.ireturn, 1) := by decide +kernel
theorem dX7_take_64 : decode cX7_take 64 = .ok (.ldc 93, 2) := by decide +kernel
theorem dX7_take_66 : decode cX7_take 66 = .ok (.istore 6, 2) := by decide +kernel
theorem dX7_take_68 : decode cX7_take 68 = .ok (.iconst 0, 1) := by decide +kernel
theorem dX7_take_69 : decode cX7_take 69 = .ok (.istore 7, 2) := by decide +kernel
theorem dX7_take_71 : decode cX7_take 71 = .ok (.iload 7, 2) := by decide +kernel
theorem dX7_take_73 : decode cX7_take 73 = .ok (.aload_n 0, 1) := by decide +kernel
theorem dX7_take_74 : decode cX7_take 74 = .ok (.invokevirtual 179, 3) := by decide +kernel
theorem dX7_take_77 : decode cX7_take 77 = .ok (.if_icmp .gt 76, 3) := by decide +kernel
theorem dX7_take_80 : decode cX7_take 80 = .ok (.iload 7, 2) := by decide +kernel
theorem dX7_take_82 : decode cX7_take 82 = .ok (.aload_n 0, 1) := by decide +kernel
theorem dX7_take_83 : decode cX7_take 83 = .ok (.invokevirtual 241, 3) := by decide +kernel
theorem dX7_take_86 : decode cX7_take 86 = .ok (.iconst (-1), 1) := by decide +kernel
theorem dX7_take_87 : decode cX7_take 87 = .ok (.ixor, 1) := by decide +kernel
theorem dX7_take_88 : decode cX7_take 88 = .ok (.iand, 1) := by decide +kernel
theorem dX7_take_89 : decode cX7_take 89 = .ok (.ifCond .ne 27, 3) := by decide +kernel
theorem dX7_take_92 : decode cX7_take 92 = .ok (.iload 6, 2) := by decide +kernel
theorem dX7_take_94 : decode cX7_take 94 = .ok (.ldc 93, 2) := by decide +kernel
theorem dX7_take_96 : decode cX7_take 96 = .ok (.if_icmp .eq 16, 3) := by decide +kernel
theorem dX7_take_99 : decode cX7_take 99 = .ok (.iload 7, 2) := by decide +kernel
theorem dX7_take_101 : decode cX7_take 101 = .ok (.invokestatic 214, 3) := by decide +kernel
theorem dX7_take_104 : decode cX7_take 104 = .ok (.iload 6, 2) := by decide +kernel
theorem dX7_take_106 : decode cX7_take 106 = .ok (.invokestatic 214, 3) := by decide +kernel
theorem dX7_take_109 : decode cX7_take 109 = .ok (.if_icmp .ge 7, 3) := by decide +kernel
theorem dX7_take_112 : decode cX7_take 112 = .ok (.iconst 1, 1) := by decide +kernel
theorem dX7_take_113 : decode cX7_take 113 = .ok (.goto 4, 3) := by decide +kernel
theorem dX7_take_116 : decode cX7_take 116 = .ok (.iconst 0, 1) := by decide +kernel
theorem dX7_take_117 : decode cX7_take 117 = .ok (.istore 8, 2) := by decide +kernel
theorem dX7_take_119 : decode cX7_take 119 = .ok (.iload 8, 2) := by decide +kernel
theorem dX7_take_121 : decode cX7_take 121 = .ok (.ifCond .eq 22, 3) := by decide +kernel
theorem dX7_take_124 : decode cX7_take 124 = .ok (.aload_n 0, 1) := by decide +kernel
theorem dX7_take_125 : decode cX7_take 125 = .ok (.iload_n 1, 1) := by decide +kernel
theorem dX7_take_126 : decode cX7_take 126 = .ok (.iload 7, 2) := by decide +kernel
theorem dX7_take_128 : decode cX7_take 128 = .ok (.iload_n 2, 1) := by decide +kernel
theorem dX7_take_129 : decode cX7_take 129 = .ok (.iload_n 3, 1) := by decide +kernel
theorem dX7_take_130 : decode cX7_take 130 = .ok (.invokevirtual 244, 3) := by decide +kernel
theorem dX7_take_133 : decode cX7_take 133 = .ok (.iload 4, 2) := by decide +kernel
theorem dX7_take_135 : decode cX7_take 135 = .ok (.if_icmp .lt 8, 3) := by decide +kernel
theorem dX7_take_138 : decode cX7_take 138 = .ok (.iload 7, 2) := by decide +kernel
theorem dX7_take_140 : decode cX7_take 140 = .ok (.goto 5, 3) := by decide +kernel
theorem dX7_take_143 : decode cX7_take 143 = .ok (.iload 6, 2) := by decide +kernel
theorem dX7_take_145 : decode cX7_take 145 = .ok (.istore 6, 2) := by decide +kernel
theorem dX7_take_147 : decode cX7_take 147 = .ok (.iinc 7 1, 3) := by decide +kernel
theorem dX7_take_150 : decode cX7_take 150 = .ok (.goto (-79), 3) := by decide +kernel
theorem dX7_take_153 : decode cX7_take 153 = .ok (.iload 6, 2) := by decide +kernel
theorem dX7_take_155 : decode cX7_take 155 = .ok (.ldc 93, 2) := by decide +kernel
theorem dX7_take_157 : decode cX7_take 157 = .ok (.if_icmp .eq 9, 3) := by decide +kernel
theorem dX7_take_160 : decode cX7_take 160 = .ok (.iload 5, 2) := by decide +kernel
theorem dX7_take_162 : decode cX7_take 162 = .ok (.iconst 1, 1) := by decide +kernel
theorem dX7_take_163 : decode cX7_take 163 = .ok (.if_icmp .ne 8, 3) := by decide +kernel
theorem dX7_take_166 : decode cX7_take 166 = .ok (.iload 6, 2) := by decide +kernel
theorem dX7_take_168 : decode cX7_take 168 = .ok (.goto 8, 3) := by decide +kernel
theorem dX7_take_171 : decode cX7_take 171 = .ok (.iload 6, 2) := by decide +kernel
theorem dX7_take_173 : decode cX7_take 173 = .ok (.invokestatic 214, 3) := by decide +kernel
theorem dX7_take_176 : decode cX7_take 176 = .ok (.ireturn, 1) := by decide +kernel
theorem dX7_pain_0 : decode cX7_pain 0 = .ok (.aload_n 0, 1) := by decide +kernel
theorem dX7_pain_1 : decode cX7_pain 1 = .ok (.iconst 0, 1) := by decide +kernel
theorem dX7_pain_2 : decode cX7_pain 2 = .ok (.putfield 50, 3) := by decide +kernel
theorem dX7_pain_5 : decode cX7_pain 5 = .ok (.aload_n 0, 1) := by decide +kernel
theorem dX7_pain_6 : decode cX7_pain 6 = .ok (.iload_n 1, 1) := by decide +kernel
theorem dX7_pain_7 : decode cX7_pain 7 = .ok (.invokevirtual 176, 3) := by decide +kernel
theorem dX7_pain_10 : decode cX7_pain 10 = .ok (.ifCond .eq 27, 3) := by decide +kernel
theorem dX7_pain_13 : decode cX7_pain 13 = .ok (.iload_n 2, 1) := by decide +kernel
theorem dX7_pain_14 : decode cX7_pain 14 = .ok (.i2l, 1) := by decide +kernel
theorem dX7_pain_15 : decode cX7_pain 15 = .ok (.lconst 1, 1) := by decide +kernel
theorem dX7_pain_16 : decode cX7_pain 16 = .ok (.ldc2_w 239, 3) := by decide +kernel
theorem dX7_pain_19 : decode cX7_pain 19 = .ok (.invokestatic 60, 3) := by decide +kernel
theorem dX7_pain_22 : decode cX7_pain 22 = .ok (.ifCond .eq 15, 3) := by decide +kernel
theorem dX7_pain_25 : decode cX7_pain 25 = .ok (.iload_n 3, 1) := by decide +kernel
theorem dX7_pain_26 : decode cX7_pain 26 = .ok (.i2l, 1) := by decide +kernel
theorem dX7_pain_27 : decode cX7_pain 27 = .ok (.lconst 1, 1) := by decide +kernel
theorem dX7_pain_28 : decode cX7_pain 28 = .ok (.ldc2_w 234, 3) := by decide +kernel
theorem dX7_pain_31 : decode cX7_pain 31 = .ok (.invokestatic 60, 3) := by decide +kernel
theorem dX7_pain_34 : decode cX7_pain 34 = .ok (.ifCond .ne 6, 3) := by decide +kernel
theorem dX7_pain_37 : decode cX7_pain 37 = .ok (.ldc 70, 2) := by decide +kernel
theorem dX7_pain_39 : decode cX7_pain 39 = .ok (.ireturn, 1) := by decide +kernel
theorem dX7_pain_40 : decode cX7_pain 40 = .ok (.iconst 1, 1) := by decide +kernel
theorem dX7_pain_41 : decode cX7_pain 41 = .ok (.istore 4, 2) := by decide +kernel
theorem dX7_pain_43 : decode cX7_pain 43 = .ok (.iload 4, 2) := by decide +kernel
theorem dX7_pain_45 : decode cX7_pain 45 = .ok (.bipush 10, 2) := by decide +kernel
theorem dX7_pain_47 : decode cX7_pain 47 = .ok (.if_icmp .ge 28, 3) := by decide +kernel
theorem dX7_pain_50 : decode cX7_pain 50 = .ok (.aload_n 0, 1) := by decide +kernel
theorem dX7_pain_51 : decode cX7_pain 51 = .ok (.iload_n 1, 1) := by decide +kernel
theorem dX7_pain_52 : decode cX7_pain 52 = .ok (.aload_n 0, 1) := by decide +kernel
theorem dX7_pain_53 : decode cX7_pain 53 = .ok (.invokevirtual 241, 3) := by decide +kernel
theorem dX7_pain_56 : decode cX7_pain 56 = .ok (.iload 4, 2) := by decide +kernel
theorem dX7_pain_58 : decode cX7_pain 58 = .ok (.iload_n 2, 1) := by decide +kernel
theorem dX7_pain_59 : decode cX7_pain 59 = .ok (.invokevirtual 244, 3) := by decide +kernel
theorem dX7_pain_62 : decode cX7_pain 62 = .ok (.iload_n 3, 1) := by decide +kernel
theorem dX7_pain_63 : decode cX7_pain 63 = .ok (.if_icmp .lt 6, 3) := by decide +kernel
theorem dX7_pain_66 : decode cX7_pain 66 = .ok (.iload 4, 2) := by decide +kernel
theorem dX7_pain_68 : decode cX7_pain 68 = .ok (.ireturn, 1) := by decide +kernel
theorem dX7_pain_69 : decode cX7_pain 69 = .ok (.iinc 4 1, 3) := by decide +kernel
theorem dX7_pain_72 : decode cX7_pain 72 = .ok (.goto (-29), 3) := by decide +kernel
theorem dX7_pain_75 : decode cX7_pain 75 = .ok (.ldc 93, 2) := by decide +kernel
theorem dX7_pain_77 : decode cX7_pain 77 = .ok (.ireturn, 1) := by decide +kernel
theorem dX7_isNear_0 : decode cX7_isNear 0 = .ok (.aload_n 0, 1) := by decide +kernel
theorem dX7_isNear_1 : decode cX7_isNear 1 = .ok (.getfield 19, 3) := by decide +kernel
theorem dX7_isNear_4 : decode cX7_isNear 4 = .ok (.iload_n 2, 1) := by decide +kernel
theorem dX7_isNear_5 : decode cX7_isNear 5 = .ok (.iload_n 1, 1) := by decide +kernel
theorem dX7_isNear_6 : decode cX7_isNear 6 = .ok (.invokestatic 166, 3) := by decide +kernel
theorem dX7_isNear_9 : decode cX7_isNear 9 = .ok (.aload_n 0, 1) := by decide +kernel
theorem dX7_isNear_10 : decode cX7_isNear 10 = .ok (.getfield 19, 3) := by decide +kernel
theorem dX7_isNear_13 : decode cX7_isNear 13 = .ok (.iload_n 3, 1) := by decide +kernel
theorem dX7_isNear_14 : decode cX7_isNear 14 = .ok (.iload_n 1, 1) := by decide +kernel
theorem dX7_isNear_15 : decode cX7_isNear 15 = .ok (.invokestatic 166, 3) := by decide +kernel
theorem dX7_isNear_18 : decode cX7_isNear 18 = .ok (.isub, 1) := by decide +kernel
theorem dX7_isNear_19 : decode cX7_isNear 19 = .ok (.istore 4, 2) := by decide +kernel
theorem dX7_isNear_21 : decode cX7_isNear 21 = .ok (.iload 4, 2) := by decide +kernel
theorem dX7_isNear_23 : decode cX7_isNear 23 = .ok (.bipush (-2), 2) := by decide +kernel
theorem dX7_isNear_25 : decode cX7_isNear 25 = .ok (.if_icmp .lt 13, 3) := by decide +kernel
theorem dX7_isNear_28 : decode cX7_isNear 28 = .ok (.iload 4, 2) := by decide +kernel
theorem dX7_isNear_30 : decode cX7_isNear 30 = .ok (.iconst 2, 1) := by decide +kernel
theorem dX7_isNear_31 : decode cX7_isNear 31 = .ok (.if_icmp .gt 7, 3) := by decide +kernel
theorem dX7_isNear_34 : decode cX7_isNear 34 = .ok (.iconst 1, 1) := by decide +kernel
theorem dX7_isNear_35 : decode cX7_isNear 35 = .ok (.goto 4, 3) := by decide +kernel
theorem dX7_isNear_38 : decode cX7_isNear 38 = .ok (.iconst 0, 1) := by decide +kernel
theorem dX7_isNear_39 : decode cX7_isNear 39 = .ok (.ireturn, 1) := by decide +kernel
theorem dX7_follow_0 : decode cX7_follow 0 = .ok (.iload_n 3, 1) := by decide +kernel
theorem dX7_follow_1 : decode cX7_follow 1 = .ok (.iload_n 2, 1) := by decide +kernel
theorem dX7_follow_2 : decode cX7_follow 2 = .ok (.if_icmp .ne 7, 3) := by decide +kernel
theorem dX7_follow_5 : decode cX7_follow 5 = .ok (.iconst 1, 1) := by decide +kernel
theorem dX7_follow_6 : decode cX7_follow 6 = .ok (.goto 4, 3) := by decide +kernel
theorem dX7_follow_9 : decode cX7_follow 9 = .ok (.iconst 0, 1) := by decide +kernel
theorem dX7_follow_10 : decode cX7_follow 10 = .ok (.istore 5, 2) := by decide +kernel
theorem dX7_follow_12 : decode cX7_follow 12 = .ok (.iconst 0, 1) := by decide +kernel
theorem dX7_follow_13 : decode cX7_follow 13 = .ok (.istore 6, 2) := by decide +kernel
theorem dX7_follow_15 : decode cX7_follow 15 = .ok (.iload 6, 2) := by decide +kernel
theorem dX7_follow_17 : decode cX7_follow 17 = .ok (.aload_n 0, 1) := by decide +kernel
theorem dX7_follow_18 : decode cX7_follow 18 = .ok (.getfield 19, 3) := by decide +kernel
theorem dX7_follow_21 : decode cX7_follow 21 = .ok (.iconst 3, 1) := by decide +kernel
theorem dX7_follow_22 : decode cX7_follow 22 = .ok (.iaload, 1) := by decide +kernel
theorem dX7_follow_23 : decode cX7_follow 23 = .ok (.if_icmp .ge 60, 3) := by decide +kernel
theorem dX7_follow_26 : decode cX7_follow 26 = .ok (.iload 5, 2) := by decide +kernel
theorem dX7_follow_28 : decode cX7_follow 28 = .ok (.iload_n 2, 1) := by decide +kernel
theorem dX7_follow_29 : decode cX7_follow 29 = .ok (.iload_n 3, 1) := by decide +kernel
theorem dX7_follow_30 : decode cX7_follow 30 = .ok (.iconst (-1), 1) := by decide +kernel
theorem dX7_follow_31 : decode cX7_follow 31 = .ok (.ixor, 1) := by decide +kernel
theorem dX7_follow_32 : decode cX7_follow 32 = .ok (.iand, 1) := by decide +kernel
theorem dX7_follow_33 : decode cX7_follow 33 = .ok (.iload 6, 2) := by decide +kernel
theorem dX7_follow_35 : decode cX7_follow 35 = .ok (.invokestatic 169, 3) := by decide +kernel
theorem dX7_follow_38 : decode cX7_follow 38 = .ok (.ifCond .eq 35, 3) := by decide +kernel
theorem dX7_follow_41 : decode cX7_follow 41 = .ok (.aload_n 0, 1) := by decide +kernel
theorem dX7_follow_42 : decode cX7_follow 42 = .ok (.iload_n 1, 1) := by decide +kernel
theorem dX7_follow_43 : decode cX7_follow 43 = .ok (.iload 6, 2) := by decide +kernel
theorem dX7_follow_45 : decode cX7_follow 45 = .ok (.iload 4, 2) := by decide +kernel
theorem dX7_follow_47 : decode cX7_follow 47 = .ok (.invokevirtual 248, 3) := by decide +kernel
theorem dX7_follow_50 : decode cX7_follow 50 = .ok (.ifCond .eq 23, 3) := by decide +kernel
theorem dX7_follow_53 : decode cX7_follow 53 = .ok (.aload_n 0, 1) := by decide +kernel
theorem dX7_follow_54 : decode cX7_follow 54 = .ok (.getfield 37, 3) := by decide +kernel
theorem dX7_follow_57 : decode cX7_follow 57 = .ok (.bipush 6, 2) := by decide +kernel
theorem dX7_follow_59 : decode cX7_follow 59 = .ok (.iload_n 3, 1) := by decide +kernel
theorem dX7_follow_60 : decode cX7_follow 60 = .ok (.iconst 1, 1) := by decide +kernel
theorem dX7_follow_61 : decode cX7_follow 61 = .ok (.iload 6, 2) := by decide +kernel
theorem dX7_follow_63 : decode cX7_follow 63 = .ok (.ishl, 1) := by decide +kernel
theorem dX7_follow_64 : decode cX7_follow 64 = .ok (.ior, 1) := by decide +kernel
theorem dX7_follow_65 : decode cX7_follow 65 = .ok (.imul, 1) := by decide +kernel
theorem dX7_follow_66 : decode cX7_follow 66 = .ok (.iload 6, 2) := by decide +kernel
theorem dX7_follow_68 : decode cX7_follow 68 = .ok (.iadd, 1) := by decide +kernel
theorem dX7_follow_69 : decode cX7_follow 69 = .ok (.iaload, 1) := by decide +kernel
theorem dX7_follow_70 : decode cX7_follow 70 = .ok (.goto 4, 3) := by decide +kernel
theorem dX7_follow_73 : decode cX7_follow 73 = .ok (.iconst 0, 1) := by decide +kernel
theorem dX7_follow_74 : decode cX7_follow 74 = .ok (.iadd, 1) := by decide +kernel
theorem dX7_follow_75 : decode cX7_follow 75 = .ok (.istore 5, 2) := by decide +kernel
theorem dX7_follow_77 : decode cX7_follow 77 = .ok (.iinc 6 1, 3) := by decide +kernel
theorem dX7_follow_80 : decode cX7_follow 80 = .ok (.goto (-65), 3) := by decide +kernel
theorem dX7_follow_83 : decode cX7_follow 83 = .ok (.iload 5, 2) := by decide +kernel
theorem dX7_follow_85 : decode cX7_follow 85 = .ok (.ireturn, 1) := by decide +kernel
theorem dX7_order_0 : decode cX7_order 0 = .ok (.aload_n 0, 1) := by decide +kernel
theorem dX7_order_1 : decode cX7_order 1 = .ok (.iconst 0, 1) := by decide +kernel
theorem dX7_order_2 : decode cX7_order 2 = .ok (.putfield 50, 3) := by decide +kernel
theorem dX7_order_5 : decode cX7_order 5 = .ok (.aload_n 0, 1) := by decide +kernel
theorem dX7_order_6 : decode cX7_order 6 = .ok (.iload_n 1, 1) := by decide +kernel
theorem dX7_order_7 : decode cX7_order 7 = .ok (.invokevirtual 176, 3) := by decide +kernel
theorem dX7_order_10 : decode cX7_order 10 = .ok (.ifCond .eq 17, 3) := by decide +kernel
theorem dX7_order_13 : decode cX7_order 13 = .ok (.iload_n 2, 1) := by decide +kernel
theorem dX7_order_14 : decode cX7_order 14 = .ok (.i2l, 1) := by decide +kernel
theorem dX7_order_15 : decode cX7_order 15 = .ok (.ldc2_w 252, 3) := by decide +kernel
theorem dX7_order_18 : decode cX7_order 18 = .ok (.ldc2_w 222, 3) := by decide +kernel
theorem dX7_order_21 : decode cX7_order 21 = .ok (.invokestatic 60, 3) := by decide +kernel
theorem dX7_order_24 : decode cX7_order 24 = .ok (.ifCond .ne 6, 3) := by decide +kernel
theorem dX7_order_27 : decode cX7_order 27 = .ok (.ldc 70, 2) := by decide +kernel
theorem dX7_order_29 : decode cX7_order 29 = .ok (.ireturn, 1) := by decide +kernel
theorem dX7_order_30 : decode cX7_order 30 = .ok (.aload_n 0, 1) := by decide +kernel
theorem dX7_order_31 : decode cX7_order 31 = .ok (.getfield 19, 3) := by decide +kernel
theorem dX7_order_34 : decode cX7_order 34 = .ok (.iload_n 1, 1) := by decide +kernel
theorem dX7_order_35 : decode cX7_order 35 = .ok (.invokestatic 224, 3) := by decide +kernel
theorem dX7_order_38 : decode cX7_order 38 = .ok (.istore_n 3, 1) := by decide +kernel
theorem dX7_order_39 : decode cX7_order 39 = .ok (.iload_n 3, 1) := by decide +kernel
theorem dX7_order_40 : decode cX7_order 40 = .ok (.ifCond .ne 7, 3) := by decide +kernel
theorem dX7_order_43 : decode cX7_order 43 = .ok (.iconst 1, 1) := by decide +kernel
theorem dX7_order_44 : decode cX7_order 44 = .ok (.goto 4, 3) := by decide +kernel
theorem dX7_order_47 : decode cX7_order 47 = .ok (.iconst 0, 1) := by decide +kernel
theorem dX7_order_48 : decode cX7_order 48 = .ok (.istore 4, 2) := by decide +kernel
theorem dX7_order_50 : decode cX7_order 50 = .ok (.bipush 63, 2) := by decide +kernel
theorem dX7_order_52 : decode cX7_order 52 = .ok (.istore 5, 2) := by decide +kernel
theorem dX7_order_54 : decode cX7_order 54 = .ok (.iload 5, 2) := by decide +kernel
theorem dX7_order_56 : decode cX7_order 56 = .ok (.ifCond .le 83, 3) := by decide +kernel
theorem dX7_order_59 : decode cX7_order 59 = .ok (.iconst 0, 1) := by decide +kernel
theorem dX7_order_60 : decode cX7_order 60 = .ok (.istore 6, 2) := by decide +kernel
theorem dX7_order_62 : decode cX7_order 62 = .ok (.iload 6, 2) := by decide +kernel
theorem dX7_order_64 : decode cX7_order 64 = .ok (.bipush 6, 2) := by decide +kernel
theorem dX7_order_66 : decode cX7_order 66 = .ok (.if_icmp .ge 67, 3) := by decide +kernel
theorem dX7_order_69 : decode cX7_order 69 = .ok (.iload 5, 2) := by decide +kernel
theorem dX7_order_71 : decode cX7_order 71 = .ok (.iload_n 3, 1) := by decide +kernel
theorem dX7_order_72 : decode cX7_order 72 = .ok (.iconst (-1), 1) := by decide +kernel
theorem dX7_order_73 : decode cX7_order 73 = .ok (.ixor, 1) := by decide +kernel
theorem dX7_order_74 : decode cX7_order 74 = .ok (.iand, 1) := by decide +kernel
theorem dX7_order_75 : decode cX7_order 75 = .ok (.ifCond .ne 17, 3) := by decide +kernel
theorem dX7_order_78 : decode cX7_order 78 = .ok (.iload 5, 2) := by decide +kernel
theorem dX7_order_80 : decode cX7_order 80 = .ok (.iload 6, 2) := by decide +kernel
theorem dX7_order_82 : decode cX7_order 82 = .ok (.invokestatic 169, 3) := by decide +kernel
theorem dX7_order_85 : decode cX7_order 85 = .ok (.ifCond .eq 7, 3) := by decide +kernel
theorem dX7_order_88 : decode cX7_order 88 = .ok (.iconst 1, 1) := by decide +kernel
theorem dX7_order_89 : decode cX7_order 89 = .ok (.goto 4, 3) := by decide +kernel
theorem dX7_order_92 : decode cX7_order 92 = .ok (.iconst 0, 1) := by decide +kernel
theorem dX7_order_93 : decode cX7_order 93 = .ok (.istore 7, 2) := by decide +kernel
theorem dX7_order_95 : decode cX7_order 95 = .ok (.aload_n 0, 1) := by decide +kernel
theorem dX7_order_96 : decode cX7_order 96 = .ok (.getfield 37, 3) := by decide +kernel
theorem dX7_order_99 : decode cX7_order 99 = .ok (.bipush 6, 2) := by decide +kernel
theorem dX7_order_101 : decode cX7_order 101 = .ok (.iload 5, 2) := by decide +kernel
theorem dX7_order_103 : decode cX7_order 103 = .ok (.imul, 1) := by decide +kernel
theorem dX7_order_104 : decode cX7_order 104 = .ok (.iload 6, 2) := by decide +kernel
theorem dX7_order_106 : decode cX7_order 106 = .ok (.iadd, 1) := by decide +kernel
theorem dX7_order_107 : decode cX7_order 107 = .ok (.iload 7, 2) := by decide +kernel
theorem dX7_order_109 : decode cX7_order 109 = .ok (.ifCond .eq 16, 3) := by decide +kernel
theorem dX7_order_112 : decode cX7_order 112 = .ok (.aload_n 0, 1) := by decide +kernel
theorem dX7_order_113 : decode cX7_order 113 = .ok (.iload_n 1, 1) := by decide +kernel
theorem dX7_order_114 : decode cX7_order 114 = .ok (.iload_n 3, 1) := by decide +kernel
theorem dX7_order_115 : decode cX7_order 115 = .ok (.iload 5, 2) := by decide +kernel
theorem dX7_order_117 : decode cX7_order 117 = .ok (.iload 6, 2) := by decide +kernel
theorem dX7_order_119 : decode cX7_order 119 = .ok (.invokevirtual 254, 3) := by decide +kernel
theorem dX7_order_122 : decode cX7_order 122 = .ok (.goto 4, 3) := by decide +kernel
theorem dX7_order_125 : decode cX7_order 125 = .ok (.iconst 0, 1) := by decide +kernel
theorem dX7_order_126 : decode cX7_order 126 = .ok (.iastore, 1) := by decide +kernel
theorem dX7_order_127 : decode cX7_order 127 = .ok (.iinc 6 1, 3) := by decide +kernel
theorem dX7_order_130 : decode cX7_order 130 = .ok (.goto (-68), 3) := by decide +kernel
theorem dX7_order_133 : decode cX7_order 133 = .ok (.iinc 5 (-1), 3) := by decide +kernel
theorem dX7_order_136 : decode cX7_order 136 = .ok (.goto (-82), 3) := by decide +kernel
theorem dX7_order_139 : decode cX7_order 139 = .ok (.iconst 0, 1) := by decide +kernel
theorem dX7_order_140 : decode cX7_order 140 = .ok (.istore 5, 2) := by decide +kernel
theorem dX7_order_142 : decode cX7_order 142 = .ok (.iload 5, 2) := by decide +kernel
theorem dX7_order_144 : decode cX7_order 144 = .ok (.bipush 6, 2) := by decide +kernel
theorem dX7_order_146 : decode cX7_order 146 = .ok (.if_icmp .ge 29, 3) := by decide +kernel
theorem dX7_order_149 : decode cX7_order 149 = .ok (.iload 4, 2) := by decide +kernel
theorem dX7_order_151 : decode cX7_order 151 = .ok (.aload_n 0, 1) := by decide +kernel
theorem dX7_order_152 : decode cX7_order 152 = .ok (.getfield 37, 3) := by decide +kernel
theorem dX7_order_155 : decode cX7_order 155 = .ok (.bipush 6, 2) := by decide +kernel
theorem dX7_order_157 : decode cX7_order 157 = .ok (.iconst 1, 1) := by decide +kernel
theorem dX7_order_158 : decode cX7_order 158 = .ok (.iload 5, 2) := by decide +kernel
theorem dX7_order_160 : decode cX7_order 160 = .ok (.ishl, 1) := by decide +kernel
theorem dX7_order_161 : decode cX7_order 161 = .ok (.imul, 1) := by decide +kernel
theorem dX7_order_162 : decode cX7_order 162 = .ok (.iload 5, 2) := by decide +kernel
theorem dX7_order_164 : decode cX7_order 164 = .ok (.iadd, 1) := by decide +kernel
theorem dX7_order_165 : decode cX7_order 165 = .ok (.iaload, 1) := by decide +kernel
theorem dX7_order_166 : decode cX7_order 166 = .ok (.iadd, 1) := by decide +kernel
theorem dX7_order_167 : decode cX7_order 167 = .ok (.istore 4, 2) := by decide +kernel
theorem dX7_order_169 : decode cX7_order 169 = .ok (.iinc 5 1, 3) := by decide +kernel
theorem dX7_order_172 : decode cX7_order 172 = .ok (.goto (-30), 3) := by decide +kernel
theorem dX7_order_175 : decode cX7_order 175 = .ok (.iload_n 2, 1) := by decide +kernel
theorem dX7_order_176 : decode cX7_order 176 = .ok (.ifCond .lt 16, 3) := by decide +kernel
theorem dX7_order_179 : decode cX7_order 179 = .ok (.iload 4, 2) := by decide +kernel
theorem dX7_order_181 : decode cX7_order 181 = .ok (.ifCond .eq 11, 3) := by decide +kernel
theorem dX7_order_184 : decode cX7_order 184 = .ok (.iload_n 2, 1) := by decide +kernel
theorem dX7_order_185 : decode cX7_order 185 = .ok (.iload_n 3, 1) := by decide +kernel
theorem dX7_order_186 : decode cX7_order 186 = .ok (.invokestatic 214, 3) := by decide +kernel
theorem dX7_order_189 : decode cX7_order 189 = .ok (.if_icmp .lt 15, 3) := by decide +kernel
theorem dX7_order_192 : decode cX7_order 192 = .ok (.iload_n 2, 1) := by decide +kernel
theorem dX7_order_193 : decode cX7_order 193 = .ok (.ifCond .ge 8, 3) := by decide +kernel
theorem dX7_order_196 : decode cX7_order 196 = .ok (.iload 4, 2) := by decide +kernel
theorem dX7_order_198 : decode cX7_order 198 = .ok (.goto 5, 3) := by decide +kernel
theorem dX7_order_201 : decode cX7_order 201 = .ok (.ldc 93, 2) := by decide +kernel
theorem dX7_order_203 : decode cX7_order 203 = .ok (.ireturn, 1) := by decide +kernel
theorem dX7_order_204 : decode cX7_order 204 = .ok (.iconst 0, 1) := by decide +kernel
theorem dX7_order_205 : decode cX7_order 205 = .ok (.istore 5, 2) := by decide +kernel
theorem dX7_order_207 : decode cX7_order 207 = .ok (.ldc 93, 2) := by decide +kernel
theorem dX7_order_209 : decode cX7_order 209 = .ok (.istore 6, 2) := by decide +kernel
theorem dX7_order_211 : decode cX7_order 211 = .ok (.iconst 0, 1) := by decide +kernel
theorem dX7_order_212 : decode cX7_order 212 = .ok (.istore 7, 2) := by decide +kernel
theorem dX7_order_214 : decode cX7_order 214 = .ok (.iload 7, 2) := by decide +kernel
theorem dX7_order_216 : decode cX7_order 216 = .ok (.iload_n 2, 1) := by decide +kernel
theorem dX7_order_217 : decode cX7_order 217 = .ok (.if_icmp .gt 85, 3) := by decide +kernel
theorem dX7_order_220 : decode cX7_order 220 = .ok (.iconst 0, 1) := by decide +kernel
theorem dX7_order_221 : decode cX7_order 221 = .ok (.istore 8, 2) := by decide +kernel
theorem dX7_order_223 : decode cX7_order 223 = .ok (.iload_n 3, 1) := by decide +kernel
theorem dX7_order_224 : decode cX7_order 224 = .ok (.iload 5, 2) := by decide +kernel
theorem dX7_order_226 : decode cX7_order 226 = .ok (.iconst (-1), 1) := by decide +kernel
theorem dX7_order_227 : decode cX7_order 227 = .ok (.ixor, 1) := by decide +kernel
theorem dX7_order_228 : decode cX7_order 228 = .ok (.iand, 1) := by decide +kernel
theorem dX7_order_229 : decode cX7_order 229 = .ok (.iload 8, 2) := by decide +kernel
theorem dX7_order_231 : decode cX7_order 231 = .ok (.invokestatic 169, 3) := by decide +kernel
theorem dX7_order_234 : decode cX7_order 234 = .ok (.ifCond .eq 43, 3) := by decide +kernel
theorem dX7_order_237 : decode cX7_order 237 = .ok (.iload 6, 2) := by decide +kernel
theorem dX7_order_239 : decode cX7_order 239 = .ok (.ldc 93, 2) := by decide +kernel
theorem dX7_order_241 : decode cX7_order 241 = .ok (.if_icmp .eq 15, 3) := by decide +kernel
theorem dX7_order_244 : decode cX7_order 244 = .ok (.aload_n 0, 1) := by decide +kernel
theorem dX7_order_245 : decode cX7_order 245 = .ok (.iload_n 1, 1) := by decide +kernel
theorem dX7_order_246 : decode cX7_order 246 = .ok (.iload 8, 2) := by decide +kernel
theorem dX7_order_248 : decode cX7_order 248 = .ok (.iload 6, 2) := by decide +kernel
theorem dX7_order_250 : decode cX7_order 250 = .ok (.invokevirtual 248, 3) := by decide +kernel
theorem dX7_order_253 : decode cX7_order 253 = .ok (.ifCond .eq 24, 3) := by decide +kernel
theorem dX7_order_256 : decode cX7_order 256 = .ok (.aload_n 0, 1) := by decide +kernel
theorem dX7_order_257 : decode cX7_order 257 = .ok (.getfield 37, 3) := by decide +kernel
theorem dX7_order_260 : decode cX7_order 260 = .ok (.bipush 6, 2) := by decide +kernel
theorem dX7_order_262 : decode cX7_order 262 = .ok (.iload 5, 2) := by decide +kernel
theorem dX7_order_264 : decode cX7_order 264 = .ok (.iconst 1, 1) := by decide +kernel
theorem dX7_order_265 : decode cX7_order 265 = .ok (.iload 8, 2) := by decide +kernel
theorem dX7_order_267 : decode cX7_order 267 = .ok (.ishl, 1) := by decide +kernel
theorem dX7_order_268 : decode cX7_order 268 = .ok (.ior, 1) := by decide +kernel
theorem dX7_order_269 : decode cX7_order 269 = .ok (.imul, 1) := by decide +kernel
theorem dX7_order_270 : decode cX7_order 270 = .ok (.iload 8, 2) := by decide +kernel
theorem dX7_order_272 : decode cX7_order 272 = .ok (.iadd, 1) := by decide +kernel
theorem dX7_order_273 : decode cX7_order 273 = .ok (.iaload, 1) := by decide +kernel
theorem dX7_order_274 : decode cX7_order 274 = .ok (.ifCond .ne 9, 3) := by decide +kernel
theorem dX7_order_277 : decode cX7_order 277 = .ok (.iinc 8 1, 3) := by decide +kernel
theorem dX7_order_280 : decode cX7_order 280 = .ok (.goto (-57), 3) := by decide +kernel
theorem dX7_order_283 : decode cX7_order 283 = .ok (.iload 5, 2) := by decide +kernel
theorem dX7_order_285 : decode cX7_order 285 = .ok (.iconst 1, 1) := by decide +kernel
theorem dX7_order_286 : decode cX7_order 286 = .ok (.iload 8, 2) := by decide +kernel
theorem dX7_order_288 : decode cX7_order 288 = .ok (.ishl, 1) := by decide +kernel
theorem dX7_order_289 : decode cX7_order 289 = .ok (.ior, 1) := by decide +kernel
theorem dX7_order_290 : decode cX7_order 290 = .ok (.istore 5, 2) := by decide +kernel
theorem dX7_order_292 : decode cX7_order 292 = .ok (.iload 8, 2) := by decide +kernel
theorem dX7_order_294 : decode cX7_order 294 = .ok (.istore 6, 2) := by decide +kernel
theorem dX7_order_296 : decode cX7_order 296 = .ok (.iinc 7 1, 3) := by decide +kernel
theorem dX7_order_299 : decode cX7_order 299 = .ok (.goto (-85), 3) := by decide +kernel
theorem dX7_order_302 : decode cX7_order 302 = .ok (.iload 6, 2) := by decide +kernel
theorem dX7_order_304 : decode cX7_order 304 = .ok (.ireturn, 1) := by decide +kernel
theorem dX7_stood_0 : decode cX7_stood 0 = .ok (.aload_n 0, 1) := by decide +kernel
theorem dX7_stood_1 : decode cX7_stood 1 = .ok (.iconst 0, 1) := by decide +kernel
theorem dX7_stood_2 : decode cX7_stood 2 = .ok (.putfield 50, 3) := by decide +kernel
theorem dX7_stood_5 : decode cX7_stood 5 = .ok (.aload_n 0, 1) := by decide +kernel
theorem dX7_stood_6 : decode cX7_stood 6 = .ok (.invokevirtual 202, 3) := by decide +kernel
theorem dX7_stood_9 : decode cX7_stood 9 = .ok (.ifCond .ne 6, 3) := by decide +kernel
theorem dX7_stood_12 : decode cX7_stood 12 = .ok (.ldc 201, 2) := by decide +kernel
theorem dX7_stood_14 : decode cX7_stood 14 = .ok (.ireturn, 1) := by decide +kernel
theorem dX7_stood_15 : decode cX7_stood 15 = .ok (.iload_n 1, 1) := by decide +kernel
theorem dX7_stood_16 : decode cX7_stood 16 = .ok (.invokestatic 64, 3) := by decide +kernel
theorem dX7_stood_19 : decode cX7_stood 19 = .ok (.ifCond .eq 13, 3) := by decide +kernel
theorem dX7_stood_22 : decode cX7_stood 22 = .ok (.iload_n 3, 1) := by decide +kernel
theorem dX7_stood_23 : decode cX7_stood 23 = .ok (.i2l, 1) := by decide +kernel
theorem dX7_stood_24 : decode cX7_stood 24 = .ok (.lconst 0, 1) := by decide +kernel
theorem dX7_stood_25 : decode cX7_stood 25 = .ok (.lconst 1, 1) := by decide +kernel
theorem dX7_stood_26 : decode cX7_stood 26 = .ok (.invokestatic 60, 3) := by decide +kernel
theorem dX7_stood_29 : decode cX7_stood 29 = .ok (.ifCond .ne 6, 3) := by decide +kernel
theorem dX7_stood_32 : decode cX7_stood 32 = .ok (.ldc 70, 2) := by decide +kernel
theorem dX7_stood_34 : decode cX7_stood 34 = .ok (.ireturn, 1) := by decide +kernel
theorem dX7_stood_35 : decode cX7_stood 35 = .ok (.aload_n 0, 1) := by decide +kernel
theorem dX7_stood_36 : decode cX7_stood 36 = .ok (.getfield 7, 3) := by decide +kernel
theorem dX7_stood_39 : decode cX7_stood 39 = .ok (.iload_n 1, 1) := by decide +kernel
theorem dX7_stood_40 : decode cX7_stood 40 = .ok (.iaload, 1) := by decide +kernel
theorem dX7_stood_41 : decode cX7_stood 41 = .ok (.ifCond .ge 9, 3) := by decide +kernel
theorem dX7_stood_44 : decode cX7_stood 44 = .ok (.aload_n 0, 1) := by decide +kernel
theorem dX7_stood_45 : decode cX7_stood 45 = .ok (.iconst 1, 1) := by decide +kernel
theorem dX7_stood_46 : decode cX7_stood 46 = .ok (.invokevirtual 71, 3) := by decide +kernel
theorem dX7_stood_49 : decode cX7_stood 49 = .ok (.ireturn, 1) := by decide +kernel
theorem dX7_stood_50 : decode cX7_stood 50 = .ok (.iload_n 2, 1) := by decide +kernel
theorem dX7_stood_51 : decode cX7_stood 51 = .ok (.ifCond .lt 24, 3) := by decide +kernel
theorem dX7_stood_54 : decode cX7_stood 54 = .ok (.iload_n 2, 1) := by decide +kernel
theorem dX7_stood_55 : decode cX7_stood 55 = .ok (.i2l, 1) := by decide +kernel
theorem dX7_stood_56 : decode cX7_stood 56 = .ok (.aload_n 0, 1) := by decide +kernel
theorem dX7_stood_57 : decode cX7_stood 57 = .ok (.getfield 19, 3) := by decide +kernel
theorem dX7_stood_60 : decode cX7_stood 60 = .ok (.iconst 3, 1) := by decide +kernel
theorem dX7_stood_61 : decode cX7_stood 61 = .ok (.iaload, 1) := by decide +kernel
theorem dX7_stood_62 : decode cX7_stood 62 = .ok (.i2l, 1) := by decide +kernel
theorem dX7_stood_63 : decode cX7_stood 63 = .ok (.ladd, 1) := by decide +kernel
theorem dX7_stood_64 : decode cX7_stood 64 = .ok (.aload_n 0, 1) := by decide +kernel
theorem dX7_stood_65 : decode cX7_stood 65 = .ok (.getfield 13, 3) := by decide +kernel
theorem dX7_stood_68 : decode cX7_stood 68 = .ok (.iload_n 1, 1) := by decide +kernel
theorem dX7_stood_69 : decode cX7_stood 69 = .ok (.iaload, 1) := by decide +kernel
theorem dX7_stood_70 : decode cX7_stood 70 = .ok (.i2l, 1) := by decide +kernel
theorem dX7_stood_71 : decode cX7_stood 71 = .ok (.lcmp, 1) := by decide +kernel
theorem dX7_stood_72 : decode cX7_stood 72 = .ok (.ifCond .le 9, 3) := by decide +kernel
theorem dX7_stood_75 : decode cX7_stood 75 = .ok (.aload_n 0, 1) := by decide +kernel
theorem dX7_stood_76 : decode cX7_stood 76 = .ok (.iconst 2, 1) := by decide +kernel
theorem dX7_stood_77 : decode cX7_stood 77 = .ok (.invokevirtual 71, 3) := by decide +kernel
theorem dX7_stood_80 : decode cX7_stood 80 = .ok (.ireturn, 1) := by decide +kernel
theorem dX7_stood_81 : decode cX7_stood 81 = .ok (.aload_n 0, 1) := by decide +kernel
theorem dX7_stood_82 : decode cX7_stood 82 = .ok (.iconst 0, 1) := by decide +kernel
theorem dX7_stood_83 : decode cX7_stood 83 = .ok (.putfield 54, 3) := by decide +kernel
theorem dX7_stood_86 : decode cX7_stood 86 = .ok (.iconst 0, 1) := by decide +kernel
theorem dX7_stood_87 : decode cX7_stood 87 = .ok (.istore 4, 2) := by decide +kernel
theorem dX7_stood_89 : decode cX7_stood 89 = .ok (.ldc 93, 2) := by decide +kernel
theorem dX7_stood_91 : decode cX7_stood 91 = .ok (.istore 5, 2) := by decide +kernel
theorem dX7_stood_93 : decode cX7_stood 93 = .ok (.bipush 99, 2) := by decide +kernel
theorem dX7_stood_95 : decode cX7_stood 95 = .ok (.istore 6, 2) := by decide +kernel
theorem dX7_stood_97 : decode cX7_stood 97 = .ok (.iload 6, 2) := by decide +kernel
theorem dX7_stood_99 : decode cX7_stood 99 = .ok (.ifCond .lt 134, 3) := by decide +kernel
theorem dX7_stood_102 : decode cX7_stood 102 = .ok (.iconst 1, 1) := by decide +kernel
theorem dX7_stood_103 : decode cX7_stood 103 = .ok (.istore 7, 2) := by decide +kernel
theorem dX7_stood_105 : decode cX7_stood 105 = .ok (.iconst 0, 1) := by decide +kernel
theorem dX7_stood_106 : decode cX7_stood 106 = .ok (.istore 8, 2) := by decide +kernel
theorem dX7_stood_108 : decode cX7_stood 108 = .ok (.iload 8, 2) := by decide +kernel
theorem dX7_stood_110 : decode cX7_stood 110 = .ok (.aload_n 0, 1) := by decide +kernel
theorem dX7_stood_111 : decode cX7_stood 111 = .ok (.getfield 19, 3) := by decide +kernel
theorem dX7_stood_114 : decode cX7_stood 114 = .ok (.iconst 3, 1) := by decide +kernel
theorem dX7_stood_115 : decode cX7_stood 115 = .ok (.iaload, 1) := by decide +kernel
theorem dX7_stood_116 : decode cX7_stood 116 = .ok (.if_icmp .ge 82, 3) := by decide +kernel
theorem dX7_stood_119 : decode cX7_stood 119 = .ok (.aload_n 0, 1) := by decide +kernel
theorem dX7_stood_120 : decode cX7_stood 120 = .ok (.getfield 16, 3) := by decide +kernel
theorem dX7_stood_123 : decode cX7_stood 123 = .ok (.bipush 40, 2) := by decide +kernel
theorem dX7_stood_125 : decode cX7_stood 125 = .ok (.iload_n 1, 1) := by decide +kernel
theorem dX7_stood_126 : decode cX7_stood 126 = .ok (.imul, 1) := by decide +kernel
theorem dX7_stood_127 : decode cX7_stood 127 = .ok (.iload_n 2, 1) := by decide +kernel
theorem dX7_stood_128 : decode cX7_stood 128 = .ok (.iadd, 1) := by decide +kernel
theorem dX7_stood_129 : decode cX7_stood 129 = .ok (.iload 8, 2) := by decide +kernel
theorem dX7_stood_131 : decode cX7_stood 131 = .ok (.iadd, 1) := by decide +kernel
theorem dX7_stood_132 : decode cX7_stood 132 = .ok (.iaload, 1) := by decide +kernel
theorem dX7_stood_133 : decode cX7_stood 133 = .ok (.istore 9, 2) := by decide +kernel
theorem dX7_stood_135 : decode cX7_stood 135 = .ok (.iload 7, 2) := by decide +kernel
theorem dX7_stood_137 : decode cX7_stood 137 = .ok (.ifCond .eq 52, 3) := by decide +kernel
theorem dX7_stood_140 : decode cX7_stood 140 = .ok (.iload 9, 2) := by decide +kernel
theorem dX7_stood_142 : decode cX7_stood 142 = .ok (.iconst (-1), 1) := by decide +kernel
theorem dX7_stood_143 : decode cX7_stood 143 = .ok (.if_icmp .eq 42, 3) := by decide +kernel
theorem dX7_stood_146 : decode cX7_stood 146 = .ok (.iload 9, 2) := by decide +kernel
theorem dX7_stood_148 : decode cX7_stood 148 = .ok (.i2l, 1) := by decide +kernel
theorem dX7_stood_149 : decode cX7_stood 149 = .ok (.iload 6, 2) := by decide +kernel
theorem dX7_stood_151 : decode cX7_stood 151 = .ok (.i2l, 1) := by decide +kernel
theorem dX7_stood_152 : decode cX7_stood 152 = .ok (.lsub, 1) := by decide +kernel
theorem dX7_stood_153 : decode cX7_stood 153 = .ok (.ldc2_w 257, 3) := by decide +kernel
theorem dX7_stood_156 : decode cX7_stood 156 = .ok (.aload_n 0, 1) := by decide +kernel
theorem dX7_stood_157 : decode cX7_stood 157 = .ok (.getfield 19, 3) := by decide +kernel
theorem dX7_stood_160 : decode cX7_stood 160 = .ok (.iload 8, 2) := by decide +kernel
theorem dX7_stood_162 : decode cX7_stood 162 = .ok (.iconst 0, 1) := by decide +kernel
theorem dX7_stood_163 : decode cX7_stood 163 = .ok (.invokestatic 155, 3) := by decide +kernel
theorem dX7_stood_166 : decode cX7_stood 166 = .ok (.iconst 3, 1) := by decide +kernel
theorem dX7_stood_167 : decode cX7_stood 167 = .ok (.if_icmp .ne 9, 3) := by decide +kernel
theorem dX7_stood_170 : decode cX7_stood 170 = .ok (.ldc2_w 259, 3) := by decide +kernel
theorem dX7_stood_173 : decode cX7_stood 173 = .ok (.goto 6, 3) := by decide +kernel
theorem dX7_stood_176 : decode cX7_stood 176 = .ok (.ldc2_w 220, 3) := by decide +kernel
theorem dX7_stood_179 : decode cX7_stood 179 = .ok (.invokestatic 60, 3) := by decide +kernel
theorem dX7_stood_182 : decode cX7_stood 182 = .ok (.ifCond .eq 7, 3) := by decide +kernel
theorem dX7_stood_185 : decode cX7_stood 185 = .ok (.iconst 1, 1) := by decide +kernel
theorem dX7_stood_186 : decode cX7_stood 186 = .ok (.goto 4, 3) := by decide +kernel
theorem dX7_stood_189 : decode cX7_stood 189 = .ok (.iconst 0, 1) := by decide +kernel
theorem dX7_stood_190 : decode cX7_stood 190 = .ok (.istore 7, 2) := by decide +kernel
theorem dX7_stood_192 : decode cX7_stood 192 = .ok (.iinc 8 1, 3) := by decide +kernel
theorem dX7_stood_195 : decode cX7_stood 195 = .ok (.goto (-87), 3) := by decide +kernel
theorem dX7_stood_198 : decode cX7_stood 198 = .ok (.iload 4, 2) := by decide +kernel
theorem dX7_stood_200 : decode cX7_stood 200 = .ok (.iload 7, 2) := by decide +kernel
theorem dX7_stood_202 : decode cX7_stood 202 = .ok (.ifCond .eq 7, 3) := by decide +kernel
theorem dX7_stood_205 : decode cX7_stood 205 = .ok (.iconst 1, 1) := by decide +kernel
theorem dX7_stood_206 : decode cX7_stood 206 = .ok (.goto 4, 3) := by decide +kernel
theorem dX7_stood_209 : decode cX7_stood 209 = .ok (.iconst 0, 1) := by decide +kernel
theorem dX7_stood_210 : decode cX7_stood 210 = .ok (.iadd, 1) := by decide +kernel
theorem dX7_stood_211 : decode cX7_stood 211 = .ok (.istore 4, 2) := by decide +kernel
theorem dX7_stood_213 : decode cX7_stood 213 = .ok (.iload 7, 2) := by decide +kernel
theorem dX7_stood_215 : decode cX7_stood 215 = .ok (.ifCond .eq 8, 3) := by decide +kernel
theorem dX7_stood_218 : decode cX7_stood 218 = .ok (.iload 6, 2) := by decide +kernel
theorem dX7_stood_220 : decode cX7_stood 220 = .ok (.goto 5, 3) := by decide +kernel
theorem dX7_stood_223 : decode cX7_stood 223 = .ok (.iload 5, 2) := by decide +kernel
theorem dX7_stood_225 : decode cX7_stood 225 = .ok (.istore 5, 2) := by decide +kernel
theorem dX7_stood_227 : decode cX7_stood 227 = .ok (.iinc 6 (-1), 3) := by decide +kernel
theorem dX7_stood_230 : decode cX7_stood 230 = .ok (.goto (-133), 3) := by decide +kernel
theorem dX7_stood_233 : decode cX7_stood 233 = .ok (.iload_n 3, 1) := by decide +kernel
theorem dX7_stood_234 : decode cX7_stood 234 = .ok (.ifCond .ne 8, 3) := by decide +kernel
theorem dX7_stood_237 : decode cX7_stood 237 = .ok (.iload 4, 2) := by decide +kernel
theorem dX7_stood_239 : decode cX7_stood 239 = .ok (.goto 5, 3) := by decide +kernel
theorem dX7_stood_242 : decode cX7_stood 242 = .ok (.iload 5, 2) := by decide +kernel
theorem dX7_stood_244 : decode cX7_stood 244 = .ok (.ireturn, 1) := by decide +kernel
theorem dX7_shift_0 : decode cX7_shift 0 = .ok (.aload_n 0, 1) := by decide +kernel
theorem dX7_shift_1 : decode cX7_shift 1 = .ok (.iconst 0, 1) := by decide +kernel
theorem dX7_shift_2 : decode cX7_shift 2 = .ok (.putfield 50, 3) := by decide +kernel
theorem dX7_shift_5 : decode cX7_shift 5 = .ok (.aload_n 0, 1) := by decide +kernel
theorem dX7_shift_6 : decode cX7_shift 6 = .ok (.iload_n 1, 1) := by decide +kernel
theorem dX7_shift_7 : decode cX7_shift 7 = .ok (.invokevirtual 176, 3) := by decide +kernel
theorem dX7_shift_10 : decode cX7_shift 10 = .ok (.ifCond .eq 15, 3) := by decide +kernel
theorem dX7_shift_13 : decode cX7_shift 13 = .ok (.iload_n 2, 1) := by decide +kernel
theorem dX7_shift_14 : decode cX7_shift 14 = .ok (.i2l, 1) := by decide +kernel
theorem dX7_shift_15 : decode cX7_shift 15 = .ok (.lconst 0, 1) := by decide +kernel
theorem dX7_shift_16 : decode cX7_shift 16 = .ok (.ldc2_w 234, 3) := by decide +kernel
theorem dX7_shift_19 : decode cX7_shift 19 = .ok (.invokestatic 60, 3) := by decide +kernel
theorem dX7_shift_22 : decode cX7_shift 22 = .ok (.ifCond .ne 6, 3) := by decide +kernel
theorem dX7_shift_25 : decode cX7_shift 25 = .ok (.ldc 70, 2) := by decide +kernel
theorem dX7_shift_27 : decode cX7_shift 27 = .ok (.ireturn, 1) := by decide +kernel
theorem dX7_shift_28 : decode cX7_shift 28 = .ok (.aload_n 0, 1) := by decide +kernel
theorem dX7_shift_29 : decode cX7_shift 29 = .ok (.getfield 19, 3) := by decide +kernel
theorem dX7_shift_32 : decode cX7_shift 32 = .ok (.iload_n 1, 1) := by decide +kernel
theorem dX7_shift_33 : decode cX7_shift 33 = .ok (.invokestatic 224, 3) := by decide +kernel
theorem dX7_shift_36 : decode cX7_shift 36 = .ok (.istore_n 3, 1) := by decide +kernel
theorem dX7_shift_37 : decode cX7_shift 37 = .ok (.iload_n 3, 1) := by decide +kernel
theorem dX7_shift_38 : decode cX7_shift 38 = .ok (.ifCond .ne 6, 3) := by decide +kernel
theorem dX7_shift_41 : decode cX7_shift 41 = .ok (.ldc 93, 2) := by decide +kernel
theorem dX7_shift_43 : decode cX7_shift 43 = .ok (.ireturn, 1) := by decide +kernel
theorem dX7_shift_44 : decode cX7_shift 44 = .ok (.aload_n 0, 1) := by decide +kernel
theorem dX7_shift_45 : decode cX7_shift 45 = .ok (.iload_n 1, 1) := by decide +kernel
theorem dX7_shift_46 : decode cX7_shift 46 = .ok (.iconst 0, 1) := by decide +kernel
theorem dX7_shift_47 : decode cX7_shift 47 = .ok (.invokevirtual 228, 3) := by decide +kernel
theorem dX7_shift_50 : decode cX7_shift 50 = .ok (.istore 4, 2) := by decide +kernel
theorem dX7_shift_52 : decode cX7_shift 52 = .ok (.aload_n 0, 1) := by decide +kernel
theorem dX7_shift_53 : decode cX7_shift 53 = .ok (.getfield 34, 3) := by decide +kernel
theorem dX7_shift_56 : decode cX7_shift 56 = .ok (.iload 4, 2) := by decide +kernel
theorem dX7_shift_58 : decode cX7_shift 58 = .ok (.iconst 2, 1) := by decide +kernel
theorem dX7_shift_59 : decode cX7_shift 59 = .ok (.idiv, 1) := by decide +kernel
theorem dX7_shift_60 : decode cX7_shift 60 = .ok (.iaload, 1) := by decide +kernel
theorem dX7_shift_61 : decode cX7_shift 61 = .ok (.istore 5, 2) := by decide +kernel
theorem dX7_shift_63 : decode cX7_shift 63 = .ok (.iconst 0, 1) := by decide +kernel
theorem dX7_shift_64 : decode cX7_shift 64 = .ok (.istore 6, 2) := by decide +kernel
theorem dX7_shift_66 : decode cX7_shift 66 = .ok (.iconst 0, 1) := by decide +kernel
theorem dX7_shift_67 : decode cX7_shift 67 = .ok (.istore 7, 2) := by decide +kernel
theorem dX7_shift_69 : decode cX7_shift 69 = .ok (.iload 7, 2) := by decide +kernel
theorem dX7_shift_71 : decode cX7_shift 71 = .ok (.iload_n 3, 1) := by decide +kernel
theorem dX7_shift_72 : decode cX7_shift 72 = .ok (.if_icmp .gt 140, 3) := by decide +kernel
theorem dX7_shift_75 : decode cX7_shift 75 = .ok (.iload 7, 2) := by decide +kernel
theorem dX7_shift_77 : decode cX7_shift 77 = .ok (.iload_n 3, 1) := by decide +kernel
theorem dX7_shift_78 : decode cX7_shift 78 = .ok (.iconst (-1), 1) := by decide +kernel
theorem dX7_shift_79 : decode cX7_shift 79 = .ok (.ixor, 1) := by decide +kernel
theorem dX7_shift_80 : decode cX7_shift 80 = .ok (.iand, 1) := by decide +kernel
theorem dX7_shift_81 : decode cX7_shift 81 = .ok (.ifCond .ne 16, 3) := by decide +kernel
theorem dX7_shift_84 : decode cX7_shift 84 = .ok (.iload 7, 2) := by decide +kernel
theorem dX7_shift_86 : decode cX7_shift 86 = .ok (.invokestatic 214, 3) := by decide +kernel
theorem dX7_shift_89 : decode cX7_shift 89 = .ok (.iload_n 2, 1) := by decide +kernel
theorem dX7_shift_90 : decode cX7_shift 90 = .ok (.if_icmp .gt 7, 3) := by decide +kernel
theorem dX7_shift_93 : decode cX7_shift 93 = .ok (.iconst 1, 1) := by decide +kernel
theorem dX7_shift_94 : decode cX7_shift 94 = .ok (.goto 4, 3) := by decide +kernel
theorem dX7_shift_97 : decode cX7_shift 97 = .ok (.iconst 0, 1) := by decide +kernel
theorem dX7_shift_98 : decode cX7_shift 98 = .ok (.istore 8, 2) := by decide +kernel
theorem dX7_shift_100 : decode cX7_shift 100 = .ok (.iconst 0, 1) := by decide +kernel
theorem dX7_shift_101 : decode cX7_shift 101 = .ok (.istore 9, 2) := by decide +kernel
theorem dX7_shift_103 : decode cX7_shift 103 = .ok (.iload 9, 2) := by decide +kernel
theorem dX7_shift_105 : decode cX7_shift 105 = .ok (.aload_n 0, 1) := by decide +kernel
theorem dX7_shift_106 : decode cX7_shift 106 = .ok (.getfield 19, 3) := by decide +kernel
theorem dX7_shift_109 : decode cX7_shift 109 = .ok (.iconst 3, 1) := by decide +kernel
theorem dX7_shift_110 : decode cX7_shift 110 = .ok (.iaload, 1) := by decide +kernel
theorem dX7_shift_111 : decode cX7_shift 111 = .ok (.if_icmp .ge 45, 3) := by decide +kernel
theorem dX7_shift_114 : decode cX7_shift 114 = .ok (.iload 8, 2) := by decide +kernel
theorem dX7_shift_116 : decode cX7_shift 116 = .ok (.ifCond .eq 31, 3) := by decide +kernel
theorem dX7_shift_119 : decode cX7_shift 119 = .ok (.iload 7, 2) := by decide +kernel
theorem dX7_shift_121 : decode cX7_shift 121 = .ok (.iload 9, 2) := by decide +kernel
theorem dX7_shift_123 : decode cX7_shift 123 = .ok (.invokestatic 169, 3) := by decide +kernel
theorem dX7_shift_126 : decode cX7_shift 126 = .ok (.ifCond .eq 17, 3) := by decide +kernel
theorem dX7_shift_129 : decode cX7_shift 129 = .ok (.aload_n 0, 1) := by decide +kernel
theorem dX7_shift_130 : decode cX7_shift 130 = .ok (.getfield 19, 3) := by decide +kernel
theorem dX7_shift_133 : decode cX7_shift 133 = .ok (.iload 9, 2) := by decide +kernel
theorem dX7_shift_135 : decode cX7_shift 135 = .ok (.iconst 0, 1) := by decide +kernel
theorem dX7_shift_136 : decode cX7_shift 136 = .ok (.invokestatic 155, 3) := by decide +kernel
theorem dX7_shift_139 : decode cX7_shift 139 = .ok (.iconst 2, 1) := by decide +kernel
theorem dX7_shift_140 : decode cX7_shift 140 = .ok (.if_icmp .ne 7, 3) := by decide +kernel
theorem dX7_shift_143 : decode cX7_shift 143 = .ok (.iconst 1, 1) := by decide +kernel
theorem dX7_shift_144 : decode cX7_shift 144 = .ok (.goto 4, 3) := by decide +kernel
theorem dX7_shift_147 : decode cX7_shift 147 = .ok (.iconst 0, 1) := by decide +kernel
theorem dX7_shift_148 : decode cX7_shift 148 = .ok (.istore 8, 2) := by decide +kernel
theorem dX7_shift_150 : decode cX7_shift 150 = .ok (.iinc 9 1, 3) := by decide +kernel
theorem dX7_shift_153 : decode cX7_shift 153 = .ok (.goto (-50), 3) := by decide +kernel
theorem dX7_shift_156 : decode cX7_shift 156 = .ok (.iload 8, 2) := by decide +kernel
theorem dX7_shift_158 : decode cX7_shift 158 = .ok (.ifCond .eq 48, 3) := by decide +kernel
theorem dX7_shift_161 : decode cX7_shift 161 = .ok (.aload_n 0, 1) := by decide +kernel
theorem dX7_shift_162 : decode cX7_shift 162 = .ok (.iload_n 1, 1) := by decide +kernel
theorem dX7_shift_163 : decode cX7_shift 163 = .ok (.iload 7, 2) := by decide +kernel
theorem dX7_shift_165 : decode cX7_shift 165 = .ok (.invokevirtual 228, 3) := by decide +kernel
theorem dX7_shift_168 : decode cX7_shift 168 = .ok (.istore 4, 2) := by decide +kernel
theorem dX7_shift_170 : decode cX7_shift 170 = .ok (.aload_n 0, 1) := by decide +kernel
theorem dX7_shift_171 : decode cX7_shift 171 = .ok (.getfield 34, 3) := by decide +kernel
theorem dX7_shift_174 : decode cX7_shift 174 = .ok (.iload 4, 2) := by decide +kernel
theorem dX7_shift_176 : decode cX7_shift 176 = .ok (.iconst 2, 1) := by decide +kernel
theorem dX7_shift_177 : decode cX7_shift 177 = .ok (.idiv, 1) := by decide +kernel
theorem dX7_shift_178 : decode cX7_shift 178 = .ok (.iaload, 1) := by decide +kernel
theorem dX7_shift_179 : decode cX7_shift 179 = .ok (.iload 5, 2) := by decide +kernel
theorem dX7_shift_181 : decode cX7_shift 181 = .ok (.isub, 1) := by decide +kernel
theorem dX7_shift_182 : decode cX7_shift 182 = .ok (.iload 6, 2) := by decide +kernel
theorem dX7_shift_184 : decode cX7_shift 184 = .ok (.if_icmp .le 18, 3) := by decide +kernel
theorem dX7_shift_187 : decode cX7_shift 187 = .ok (.aload_n 0, 1) := by decide +kernel
theorem dX7_shift_188 : decode cX7_shift 188 = .ok (.getfield 34, 3) := by decide +kernel
theorem dX7_shift_191 : decode cX7_shift 191 = .ok (.iload 4, 2) := by decide +kernel
theorem dX7_shift_193 : decode cX7_shift 193 = .ok (.iconst 2, 1) := by decide +kernel
theorem dX7_shift_194 : decode cX7_shift 194 = .ok (.idiv, 1) := by decide +kernel
theorem dX7_shift_195 : decode cX7_shift 195 = .ok (.iaload, 1) := by decide +kernel
theorem dX7_shift_196 : decode cX7_shift 196 = .ok (.iload 5, 2) := by decide +kernel
theorem dX7_shift_198 : decode cX7_shift 198 = .ok (.isub, 1) := by decide +kernel
theorem dX7_shift_199 : decode cX7_shift 199 = .ok (.goto 5, 3) := by decide +kernel
theorem dX7_shift_202 : decode cX7_shift 202 = .ok (.iload 6, 2) := by decide +kernel
theorem dX7_shift_204 : decode cX7_shift 204 = .ok (.istore 6, 2) := by decide +kernel
theorem dX7_shift_206 : decode cX7_shift 206 = .ok (.iinc 7 1, 3) := by decide +kernel
theorem dX7_shift_209 : decode cX7_shift 209 = .ok (.goto (-140), 3) := by decide +kernel
theorem dX7_shift_212 : decode cX7_shift 212 = .ok (.iload 6, 2) := by decide +kernel
theorem dX7_shift_214 : decode cX7_shift 214 = .ok (.ireturn, 1) := by decide +kernel
theorem dX7_map_0 : decode cX7_map 0 = .ok (.aload_n 0, 1) := by decide +kernel
theorem dX7_map_1 : decode cX7_map 1 = .ok (.iconst 0, 1) := by decide +kernel
theorem dX7_map_2 : decode cX7_map 2 = .ok (.putfield 50, 3) := by decide +kernel
theorem dX7_map_5 : decode cX7_map 5 = .ok (.aload_n 0, 1) := by decide +kernel
theorem dX7_map_6 : decode cX7_map 6 = .ok (.iload_n 1, 1) := by decide +kernel
theorem dX7_map_7 : decode cX7_map 7 = .ok (.invokevirtual 176, 3) := by decide +kernel
theorem dX7_map_10 : decode cX7_map 10 = .ok (.ifCond .eq 15, 3) := by decide +kernel
theorem dX7_map_13 : decode cX7_map 13 = .ok (.iload_n 2, 1) := by decide +kernel
theorem dX7_map_14 : decode cX7_map 14 = .ok (.i2l, 1) := by decide +kernel
theorem dX7_map_15 : decode cX7_map 15 = .ok (.lconst 0, 1) := by decide +kernel
theorem dX7_map_16 : decode cX7_map 16 = .ok (.ldc2_w 192, 3) := by decide +kernel
theorem dX7_map_19 : decode cX7_map 19 = .ok (.invokestatic 60, 3) := by decide +kernel
theorem dX7_map_22 : decode cX7_map 22 = .ok (.ifCond .ne 6, 3) := by decide +kernel
theorem dX7_map_25 : decode cX7_map 25 = .ok (.ldc 70, 2) := by decide +kernel
theorem dX7_map_27 : decode cX7_map 27 = .ok (.ireturn, 1) := by decide +kernel
theorem dX7_map_28 : decode cX7_map 28 = .ok (.aload_n 0, 1) := by decide +kernel
theorem dX7_map_29 : decode cX7_map 29 = .ok (.getfield 19, 3) := by decide +kernel
theorem dX7_map_32 : decode cX7_map 32 = .ok (.iload_n 1, 1) := by decide +kernel
theorem dX7_map_33 : decode cX7_map 33 = .ok (.invokestatic 224, 3) := by decide +kernel
theorem dX7_map_36 : decode cX7_map 36 = .ok (.invokestatic 214, 3) := by decide +kernel
theorem dX7_map_39 : decode cX7_map 39 = .ok (.aload_n 0, 1) := by decide +kernel
theorem dX7_map_40 : decode cX7_map 40 = .ok (.iload_n 1, 1) := by decide +kernel
theorem dX7_map_41 : decode cX7_map 41 = .ok (.iload_n 2, 1) := by decide +kernel
theorem dX7_map_42 : decode cX7_map 42 = .ok (.invokevirtual 231, 3) := by decide +kernel
theorem dX7_map_45 : decode cX7_map 45 = .ok (.isub, 1) := by decide +kernel
theorem dX7_map_46 : decode cX7_map 46 = .ok (.ireturn, 1) := by decide +kernel
theorem dX7_agree_0 : decode cX7_agree 0 = .ok (.aload_n 0, 1) := by decide +kernel
theorem dX7_agree_1 : decode cX7_agree 1 = .ok (.iconst 0, 1) := by decide +kernel
theorem dX7_agree_2 : decode cX7_agree 2 = .ok (.putfield 50, 3) := by decide +kernel
theorem dX7_agree_5 : decode cX7_agree 5 = .ok (.aload_n 0, 1) := by decide +kernel
theorem dX7_agree_6 : decode cX7_agree 6 = .ok (.invokevirtual 202, 3) := by decide +kernel
theorem dX7_agree_9 : decode cX7_agree 9 = .ok (.ifCond .ne 6, 3) := by decide +kernel
theorem dX7_agree_12 : decode cX7_agree 12 = .ok (.ldc 201, 2) := by decide +kernel
theorem dX7_agree_14 : decode cX7_agree 14 = .ok (.ireturn, 1) := by decide +kernel
theorem dX7_agree_15 : decode cX7_agree 15 = .ok (.iload_n 1, 1) := by decide +kernel
theorem dX7_agree_16 : decode cX7_agree 16 = .ok (.i2l, 1) := by decide +kernel
theorem dX7_agree_17 : decode cX7_agree 17 = .ok (.lconst 1, 1) := by decide +kernel
theorem dX7_agree_18 : decode cX7_agree 18 = .ok (.ldc2_w 234, 3) := by decide +kernel
theorem dX7_agree_21 : decode cX7_agree 21 = .ok (.invokestatic 60, 3) := by decide +kernel
theorem dX7_agree_24 : decode cX7_agree 24 = .ok (.ifCond .ne 6, 3) := by decide +kernel
theorem dX7_agree_27 : decode cX7_agree 27 = .ok (.ldc 70, 2) := by decide +kernel
theorem dX7_agree_29 : decode cX7_agree 29 = .ok (.ireturn, 1) := by decide +kernel
theorem dX7_agree_30 : decode cX7_agree 30 = .ok (.iconst 0, 1) := by decide +kernel
theorem dX7_agree_31 : decode cX7_agree 31 = .ok (.istore_n 2, 1) := by decide +kernel
theorem dX7_agree_32 : decode cX7_agree 32 = .ok (.iconst 0, 1) := by decide +kernel
theorem dX7_agree_33 : decode cX7_agree 33 = .ok (.istore_n 3, 1) := by decide +kernel
theorem dX7_agree_34 : decode cX7_agree 34 = .ok (.iload_n 3, 1) := by decide +kernel
theorem dX7_agree_35 : decode cX7_agree 35 = .ok (.aload_n 0, 1) := by decide +kernel
theorem dX7_agree_36 : decode cX7_agree 36 = .ok (.getfield 19, 3) := by decide +kernel
theorem dX7_agree_39 : decode cX7_agree 39 = .ok (.iconst 2, 1) := by decide +kernel
theorem dX7_agree_40 : decode cX7_agree 40 = .ok (.iaload, 1) := by decide +kernel
theorem dX7_agree_41 : decode cX7_agree 41 = .ok (.if_icmp .ge 46, 3) := by decide +kernel
theorem dX7_agree_44 : decode cX7_agree 44 = .ok (.iconst 0, 1) := by decide +kernel
theorem dX7_agree_45 : decode cX7_agree 45 = .ok (.istore 4, 2) := by decide +kernel
theorem dX7_agree_47 : decode cX7_agree 47 = .ok (.iload 4, 2) := by decide +kernel
theorem dX7_agree_49 : decode cX7_agree 49 = .ok (.bipush 100, 2) := by decide +kernel
theorem dX7_agree_51 : decode cX7_agree 51 = .ok (.if_icmp .ge 30, 3) := by decide +kernel
theorem dX7_agree_54 : decode cX7_agree 54 = .ok (.iload_n 2, 1) := by decide +kernel
theorem dX7_agree_55 : decode cX7_agree 55 = .ok (.aload_n 0, 1) := by decide +kernel
theorem dX7_agree_56 : decode cX7_agree 56 = .ok (.iload_n 3, 1) := by decide +kernel
theorem dX7_agree_57 : decode cX7_agree 57 = .ok (.iload 4, 2) := by decide +kernel
theorem dX7_agree_59 : decode cX7_agree 59 = .ok (.invokevirtual 231, 3) := by decide +kernel
theorem dX7_agree_62 : decode cX7_agree 62 = .ok (.iload_n 1, 1) := by decide +kernel
theorem dX7_agree_63 : decode cX7_agree 63 = .ok (.if_icmp .lt 9, 3) := by decide +kernel
theorem dX7_agree_66 : decode cX7_agree 66 = .ok (.iconst 1, 1) := by decide +kernel
theorem dX7_agree_67 : decode cX7_agree 67 = .ok (.iload_n 3, 1) := by decide +kernel
theorem dX7_agree_68 : decode cX7_agree 68 = .ok (.ishl, 1) := by decide +kernel
theorem dX7_agree_69 : decode cX7_agree 69 = .ok (.goto 4, 3) := by decide +kernel
theorem dX7_agree_72 : decode cX7_agree 72 = .ok (.iconst 0, 1) := by decide +kernel
theorem dX7_agree_73 : decode cX7_agree 73 = .ok (.ior, 1) := by decide +kernel
theorem dX7_agree_74 : decode cX7_agree 74 = .ok (.istore_n 2, 1) := by decide +kernel
theorem dX7_agree_75 : decode cX7_agree 75 = .ok (.iinc 4 1, 3) := by decide +kernel
theorem dX7_agree_78 : decode cX7_agree 78 = .ok (.goto (-31), 3) := by decide +kernel
theorem dX7_agree_81 : decode cX7_agree 81 = .ok (.iinc 3 1, 3) := by decide +kernel
theorem dX7_agree_84 : decode cX7_agree 84 = .ok (.goto (-50), 3) := by decide +kernel
theorem dX7_agree_87 : decode cX7_agree 87 = .ok (.iload_n 2, 1) := by decide +kernel
theorem dX7_agree_88 : decode cX7_agree 88 = .ok (.ireturn, 1) := by decide +kernel
theorem dX7_drawn_0 : decode cX7_drawn 0 = .ok (.aload_n 0, 1) := by decide +kernel
theorem dX7_drawn_1 : decode cX7_drawn 1 = .ok (.iconst 0, 1) := by decide +kernel
theorem dX7_drawn_2 : decode cX7_drawn 2 = .ok (.putfield 50, 3) := by decide +kernel
theorem dX7_drawn_5 : decode cX7_drawn 5 = .ok (.aload_n 0, 1) := by decide +kernel
theorem dX7_drawn_6 : decode cX7_drawn 6 = .ok (.invokevirtual 202, 3) := by decide +kernel
theorem dX7_drawn_9 : decode cX7_drawn 9 = .ok (.ifCond .ne 6, 3) := by decide +kernel
theorem dX7_drawn_12 : decode cX7_drawn 12 = .ok (.ldc 201, 2) := by decide +kernel
theorem dX7_drawn_14 : decode cX7_drawn 14 = .ok (.ireturn, 1) := by decide +kernel
theorem dX7_drawn_15 : decode cX7_drawn 15 = .ok (.iload_n 1, 1) := by decide +kernel
theorem dX7_drawn_16 : decode cX7_drawn 16 = .ok (.i2l, 1) := by decide +kernel
theorem dX7_drawn_17 : decode cX7_drawn 17 = .ok (.lconst 0, 1) := by decide +kernel
theorem dX7_drawn_18 : decode cX7_drawn 18 = .ok (.ldc2_w 239, 3) := by decide +kernel
theorem dX7_drawn_21 : decode cX7_drawn 21 = .ok (.invokestatic 60, 3) := by decide +kernel
theorem dX7_drawn_24 : decode cX7_drawn 24 = .ok (.ifCond .eq 25, 3) := by decide +kernel
theorem dX7_drawn_27 : decode cX7_drawn 27 = .ok (.iload_n 2, 1) := by decide +kernel
theorem dX7_drawn_28 : decode cX7_drawn 28 = .ok (.i2l, 1) := by decide +kernel
theorem dX7_drawn_29 : decode cX7_drawn 29 = .ok (.lconst 1, 1) := by decide +kernel
theorem dX7_drawn_30 : decode cX7_drawn 30 = .ok (.ldc2_w 261, 3) := by decide +kernel
theorem dX7_drawn_33 : decode cX7_drawn 33 = .ok (.invokestatic 60, 3) := by decide +kernel
theorem dX7_drawn_36 : decode cX7_drawn 36 = .ok (.ifCond .eq 13, 3) := by decide +kernel
theorem dX7_drawn_39 : decode cX7_drawn 39 = .ok (.iload_n 3, 1) := by decide +kernel
theorem dX7_drawn_40 : decode cX7_drawn 40 = .ok (.i2l, 1) := by decide +kernel
theorem dX7_drawn_41 : decode cX7_drawn 41 = .ok (.lconst 0, 1) := by decide +kernel
theorem dX7_drawn_42 : decode cX7_drawn 42 = .ok (.lconst 1, 1) := by decide +kernel
theorem dX7_drawn_43 : decode cX7_drawn 43 = .ok (.invokestatic 60, 3) := by decide +kernel
theorem dX7_drawn_46 : decode cX7_drawn 46 = .ok (.ifCond .ne 6, 3) := by decide +kernel
theorem dX7_drawn_49 : decode cX7_drawn 49 = .ok (.ldc 70, 2) := by decide +kernel
theorem dX7_drawn_51 : decode cX7_drawn 51 = .ok (.ireturn, 1) := by decide +kernel
theorem dX7_drawn_52 : decode cX7_drawn 52 = .ok (.aload_n 0, 1) := by decide +kernel
theorem dX7_drawn_53 : decode cX7_drawn 53 = .ok (.invokevirtual 236, 3) := by decide +kernel
theorem dX7_drawn_56 : decode cX7_drawn 56 = .ok (.iload_n 2, 1) := by decide +kernel
theorem dX7_drawn_57 : decode cX7_drawn 57 = .ok (.i2l, 1) := by decide +kernel
theorem dX7_drawn_58 : decode cX7_drawn 58 = .ok (.lstore 4, 2) := by decide +kernel
theorem dX7_drawn_60 : decode cX7_drawn 60 = .ok (.iconst 0, 1) := by decide +kernel
theorem dX7_drawn_61 : decode cX7_drawn 61 = .ok (.istore 6, 2) := by decide +kernel
theorem dX7_drawn_63 : decode cX7_drawn 63 = .ok (.iload 6, 2) := by decide +kernel
theorem dX7_drawn_65 : decode cX7_drawn 65 = .ok (.iload_n 1, 1) := by decide +kernel
theorem dX7_drawn_66 : decode cX7_drawn 66 = .ok (.if_icmp .ge 140, 3) := by decide +kernel
theorem dX7_drawn_69 : decode cX7_drawn 69 = .ok (.lload 4, 2) := by decide +kernel
theorem dX7_drawn_71 : decode cX7_drawn 71 = .ok (.ldc2_w 263, 3) := by decide +kernel
theorem dX7_drawn_74 : decode cX7_drawn 74 = .ok (.lmul, 1) := by decide +kernel
theorem dX7_drawn_75 : decode cX7_drawn 75 = .ok (.ldc2_w 265, 3) := by decide +kernel
theorem dX7_drawn_78 : decode cX7_drawn 78 = .ok (.lrem, 1) := by decide +kernel
theorem dX7_drawn_79 : decode cX7_drawn 79 = .ok (.lstore 4, 2) := by decide +kernel
theorem dX7_drawn_81 : decode cX7_drawn 81 = .ok (.lload 4, 2) := by decide +kernel
theorem dX7_drawn_83 : decode cX7_drawn 83 = .ok (.aload_n 0, 1) := by decide +kernel
theorem dX7_drawn_84 : decode cX7_drawn 84 = .ok (.getfield 25, 3) := by decide +kernel
theorem dX7_drawn_87 : decode cX7_drawn 87 = .ok (.iconst 2, 1) := by decide +kernel
theorem dX7_drawn_88 : decode cX7_drawn 88 = .ok (.iaload, 1) := by decide +kernel
theorem dX7_drawn_89 : decode cX7_drawn 89 = .ok (.i2l, 1) := by decide +kernel
theorem dX7_drawn_90 : decode cX7_drawn 90 = .ok (.lrem, 1) := by decide +kernel
theorem dX7_drawn_91 : decode cX7_drawn 91 = .ok (.l2i, 1) := by decide +kernel
theorem dX7_drawn_92 : decode cX7_drawn 92 = .ok (.istore 7, 2) := by decide +kernel
theorem dX7_drawn_94 : decode cX7_drawn 94 = .ok (.lload 4, 2) := by decide +kernel
theorem dX7_drawn_96 : decode cX7_drawn 96 = .ok (.ldc2_w 58, 3) := by decide +kernel
theorem dX7_drawn_99 : decode cX7_drawn 99 = .ok (.lrem, 1) := by decide +kernel
theorem dX7_drawn_100 : decode cX7_drawn 100 = .ok (.lconst 0, 1) := by decide +kernel
theorem dX7_drawn_101 : decode cX7_drawn 101 = .ok (.lcmp, 1) := by decide +kernel
theorem dX7_drawn_102 : decode cX7_drawn 102 = .ok (.ifCond .ne 28, 3) := by decide +kernel
theorem dX7_drawn_105 : decode cX7_drawn 105 = .ok (.aload_n 0, 1) := by decide +kernel
theorem dX7_drawn_106 : decode cX7_drawn 106 = .ok (.getfield 25, 3) := by decide +kernel
theorem dX7_drawn_109 : decode cX7_drawn 109 = .ok (.iload 7, 2) := by decide +kernel
theorem dX7_drawn_111 : decode cX7_drawn 111 = .ok (.aload_n 0, 1) := by decide +kernel
theorem dX7_drawn_112 : decode cX7_drawn 112 = .ok (.invokevirtual 179, 3) := by decide +kernel
theorem dX7_drawn_115 : decode cX7_drawn 115 = .ok (.iconst 1, 1) := by decide +kernel
theorem dX7_drawn_116 : decode cX7_drawn 116 = .ok (.lload 4, 2) := by decide +kernel
theorem dX7_drawn_118 : decode cX7_drawn 118 = .ok (.ldc2_w 183, 3) := by decide +kernel
theorem dX7_drawn_121 : decode cX7_drawn 121 = .ok (.lrem, 1) := by decide +kernel
theorem dX7_drawn_122 : decode cX7_drawn 122 = .ok (.l2i, 1) := by decide +kernel
theorem dX7_drawn_123 : decode cX7_drawn 123 = .ok (.iadd, 1) := by decide +kernel
theorem dX7_drawn_124 : decode cX7_drawn 124 = .ok (.invokestatic 188, 3) := by decide +kernel
theorem dX7_drawn_127 : decode cX7_drawn 127 = .ok (.goto 4, 3) := by decide +kernel
theorem dX7_drawn_130 : decode cX7_drawn 130 = .ok (.iconst 0, 1) := by decide +kernel
theorem dX7_drawn_131 : decode cX7_drawn 131 = .ok (.istore 8, 2) := by decide +kernel
theorem dX7_drawn_133 : decode cX7_drawn 133 = .ok (.iload 8, 2) := by decide +kernel
theorem dX7_drawn_135 : decode cX7_drawn 135 = .ok (.ifCond .lt 32, 3) := by decide +kernel
theorem dX7_drawn_138 : decode cX7_drawn 138 = .ok (.lload 4, 2) := by decide +kernel
theorem dX7_drawn_140 : decode cX7_drawn 140 = .ok (.ldc2_w 222, 3) := by decide +kernel
theorem dX7_drawn_143 : decode cX7_drawn 143 = .ok (.lrem, 1) := by decide +kernel
theorem dX7_drawn_144 : decode cX7_drawn 144 = .ok (.lconst 0, 1) := by decide +kernel
theorem dX7_drawn_145 : decode cX7_drawn 145 = .ok (.lcmp, 1) := by decide +kernel
theorem dX7_drawn_146 : decode cX7_drawn 146 = .ok (.ifCond .ne 21, 3) := by decide +kernel
theorem dX7_drawn_149 : decode cX7_drawn 149 = .ok (.aload_n 0, 1) := by decide +kernel
theorem dX7_drawn_150 : decode cX7_drawn 150 = .ok (.getfield 25, 3) := by decide +kernel
theorem dX7_drawn_153 : decode cX7_drawn 153 = .ok (.iconst 5, 1) := by decide +kernel
theorem dX7_drawn_154 : decode cX7_drawn 154 = .ok (.iload 7, 2) := by decide +kernel
theorem dX7_drawn_156 : decode cX7_drawn 156 = .ok (.iadd, 1) := by decide +kernel
theorem dX7_drawn_157 : decode cX7_drawn 157 = .ok (.iaload, 1) := by decide +kernel
theorem dX7_drawn_158 : decode cX7_drawn 158 = .ok (.bipush 99, 2) := by decide +kernel
theorem dX7_drawn_160 : decode cX7_drawn 160 = .ok (.if_icmp .ge 7, 3) := by decide +kernel
theorem dX7_drawn_163 : decode cX7_drawn 163 = .ok (.iconst 1, 1) := by decide +kernel
theorem dX7_drawn_164 : decode cX7_drawn 164 = .ok (.goto 4, 3) := by decide +kernel
theorem dX7_drawn_167 : decode cX7_drawn 167 = .ok (.iconst 0, 1) := by decide +kernel
theorem dX7_drawn_168 : decode cX7_drawn 168 = .ok (.istore 9, 2) := by decide +kernel
theorem dX7_drawn_170 : decode cX7_drawn 170 = .ok (.aload_n 0, 1) := by decide +kernel
theorem dX7_drawn_171 : decode cX7_drawn 171 = .ok (.getfield 25, 3) := by decide +kernel
theorem dX7_drawn_174 : decode cX7_drawn 174 = .ok (.iconst 5, 1) := by decide +kernel
theorem dX7_drawn_175 : decode cX7_drawn 175 = .ok (.iload 7, 2) := by decide +kernel
theorem dX7_drawn_177 : decode cX7_drawn 177 = .ok (.iadd, 1) := by decide +kernel
theorem dX7_drawn_178 : decode cX7_drawn 178 = .ok (.dup2, 1) := by decide +kernel
theorem dX7_drawn_179 : decode cX7_drawn 179 = .ok (.iaload, 1) := by decide +kernel
theorem dX7_drawn_180 : decode cX7_drawn 180 = .ok (.iload 9, 2) := by decide +kernel
theorem dX7_drawn_182 : decode cX7_drawn 182 = .ok (.ifCond .eq 7, 3) := by decide +kernel
theorem dX7_drawn_185 : decode cX7_drawn 185 = .ok (.iconst 1, 1) := by decide +kernel
theorem dX7_drawn_186 : decode cX7_drawn 186 = .ok (.goto 4, 3) := by decide +kernel
theorem dX7_drawn_189 : decode cX7_drawn 189 = .ok (.iconst 0, 1) := by decide +kernel
theorem dX7_drawn_190 : decode cX7_drawn 190 = .ok (.iadd, 1) := by decide +kernel
theorem dX7_drawn_191 : decode cX7_drawn 191 = .ok (.iastore, 1) := by decide +kernel
theorem dX7_drawn_192 : decode cX7_drawn 192 = .ok (.aload_n 0, 1) := by decide +kernel
theorem dX7_drawn_193 : decode cX7_drawn 193 = .ok (.getfield 25, 3) := by decide +kernel
theorem dX7_drawn_196 : decode cX7_drawn 196 = .ok (.iconst 1, 1) := by decide +kernel
theorem dX7_drawn_197 : decode cX7_drawn 197 = .ok (.invokestatic 207, 3) := by decide +kernel
theorem dX7_drawn_200 : decode cX7_drawn 200 = .ok (.iinc 6 1, 3) := by decide +kernel
theorem dX7_drawn_203 : decode cX7_drawn 203 = .ok (.goto (-140), 3) := by decide +kernel
theorem dX7_drawn_206 : decode cX7_drawn 206 = .ok (.iconst 0, 1) := by decide +kernel
theorem dX7_drawn_207 : decode cX7_drawn 207 = .ok (.istore 6, 2) := by decide +kernel
theorem dX7_drawn_209 : decode cX7_drawn 209 = .ok (.iconst 0, 1) := by decide +kernel
theorem dX7_drawn_210 : decode cX7_drawn 210 = .ok (.istore 7, 2) := by decide +kernel
theorem dX7_drawn_212 : decode cX7_drawn 212 = .ok (.iconst 0, 1) := by decide +kernel
theorem dX7_drawn_213 : decode cX7_drawn 213 = .ok (.istore 8, 2) := by decide +kernel
theorem dX7_drawn_215 : decode cX7_drawn 215 = .ok (.iload 8, 2) := by decide +kernel
theorem dX7_drawn_217 : decode cX7_drawn 217 = .ok (.aload_n 0, 1) := by decide +kernel
theorem dX7_drawn_218 : decode cX7_drawn 218 = .ok (.getfield 25, 3) := by decide +kernel
theorem dX7_drawn_221 : decode cX7_drawn 221 = .ok (.iconst 2, 1) := by decide +kernel
theorem dX7_drawn_222 : decode cX7_drawn 222 = .ok (.iaload, 1) := by decide +kernel
theorem dX7_drawn_223 : decode cX7_drawn 223 = .ok (.if_icmp .ge 80, 3) := by decide +kernel
theorem dX7_drawn_226 : decode cX7_drawn 226 = .ok (.iconst 0, 1) := by decide +kernel
theorem dX7_drawn_227 : decode cX7_drawn 227 = .ok (.istore 9, 2) := by decide +kernel
theorem dX7_drawn_229 : decode cX7_drawn 229 = .ok (.iload 9, 2) := by decide +kernel
theorem dX7_drawn_231 : decode cX7_drawn 231 = .ok (.aload_n 0, 1) := by decide +kernel
theorem dX7_drawn_232 : decode cX7_drawn 232 = .ok (.getfield 25, 3) := by decide +kernel
theorem dX7_drawn_235 : decode cX7_drawn 235 = .ok (.iconst 3, 1) := by decide +kernel
theorem dX7_drawn_236 : decode cX7_drawn 236 = .ok (.iaload, 1) := by decide +kernel
theorem dX7_drawn_237 : decode cX7_drawn 237 = .ok (.if_icmp .ge 60, 3) := by decide +kernel
theorem dX7_drawn_240 : decode cX7_drawn 240 = .ok (.aload_n 0, 1) := by decide +kernel
theorem dX7_drawn_241 : decode cX7_drawn 241 = .ok (.getfield 25, 3) := by decide +kernel
theorem dX7_drawn_244 : decode cX7_drawn 244 = .ok (.iload 9, 2) := by decide +kernel
theorem dX7_drawn_246 : decode cX7_drawn 246 = .ok (.iload 8, 2) := by decide +kernel
theorem dX7_drawn_248 : decode cX7_drawn 248 = .ok (.invokestatic 166, 3) := by decide +kernel
theorem dX7_drawn_251 : decode cX7_drawn 251 = .ok (.istore 10, 2) := by decide +kernel
theorem dX7_drawn_253 : decode cX7_drawn 253 = .ok (.iload 6, 2) := by decide +kernel
theorem dX7_drawn_255 : decode cX7_drawn 255 = .ok (.iload 10, 2) := by decide +kernel
theorem dX7_drawn_257 : decode cX7_drawn 257 = .ok (.ldc 93, 2) := by decide +kernel
theorem dX7_drawn_259 : decode cX7_drawn 259 = .ok (.if_icmp .ne 7, 3) := by decide +kernel
theorem dX7_drawn_262 : decode cX7_drawn 262 = .ok (.iconst 0, 1) := by decide +kernel
theorem dX7_drawn_263 : decode cX7_drawn 263 = .ok (.goto 7, 3) := by decide +kernel
theorem dX7_drawn_266 : decode cX7_drawn 266 = .ok (.iconst 1, 1) := by decide +kernel
theorem dX7_drawn_267 : decode cX7_drawn 267 = .ok (.iload 8, 2) := by decide +kernel
theorem dX7_drawn_269 : decode cX7_drawn 269 = .ok (.ishl, 1) := by decide +kernel
theorem dX7_drawn_270 : decode cX7_drawn 270 = .ok (.ior, 1) := by decide +kernel
theorem dX7_drawn_271 : decode cX7_drawn 271 = .ok (.istore 6, 2) := by decide +kernel
theorem dX7_drawn_273 : decode cX7_drawn 273 = .ok (.iload 7, 2) := by decide +kernel
theorem dX7_drawn_275 : decode cX7_drawn 275 = .ok (.iload 10, 2) := by decide +kernel
theorem dX7_drawn_277 : decode cX7_drawn 277 = .ok (.ldc 93, 2) := by decide +kernel
theorem dX7_drawn_279 : decode cX7_drawn 279 = .ok (.if_icmp .ne 7, 3) := by decide +kernel
theorem dX7_drawn_282 : decode cX7_drawn 282 = .ok (.iconst 0, 1) := by decide +kernel
theorem dX7_drawn_283 : decode cX7_drawn 283 = .ok (.goto 5, 3) := by decide +kernel
theorem dX7_drawn_286 : decode cX7_drawn 286 = .ok (.iload 10, 2) := by decide +kernel
theorem dX7_drawn_288 : decode cX7_drawn 288 = .ok (.iadd, 1) := by decide +kernel
theorem dX7_drawn_289 : decode cX7_drawn 289 = .ok (.istore 7, 2) := by decide +kernel
theorem dX7_drawn_291 : decode cX7_drawn 291 = .ok (.iinc 9 1, 3) := by decide +kernel
theorem dX7_drawn_294 : decode cX7_drawn 294 = .ok (.goto (-65), 3) := by decide +kernel
theorem dX7_drawn_297 : decode cX7_drawn 297 = .ok (.iinc 8 1, 3) := by decide +kernel
theorem dX7_drawn_300 : decode cX7_drawn 300 = .ok (.goto (-85), 3) := by decide +kernel
theorem dX7_drawn_303 : decode cX7_drawn 303 = .ok (.iload_n 3, 1) := by decide +kernel
theorem dX7_drawn_304 : decode cX7_drawn 304 = .ok (.ifCond .ne 8, 3) := by decide +kernel
theorem dX7_drawn_307 : decode cX7_drawn 307 = .ok (.iload 6, 2) := by decide +kernel
theorem dX7_drawn_309 : decode cX7_drawn 309 = .ok (.goto 5, 3) := by decide +kernel
theorem dX7_drawn_312 : decode cX7_drawn 312 = .ok (.iload 7, 2) := by decide +kernel
theorem dX7_drawn_314 : decode cX7_drawn 314 = .ok (.ireturn, 1) := by decide +kernel
theorem dX7_image_0 : decode cX7_image 0 = .ok (.aload_n 0, 1) := by decide +kernel
theorem dX7_image_1 : decode cX7_image 1 = .ok (.iconst 0, 1) := by decide +kernel
theorem dX7_image_2 : decode cX7_image 2 = .ok (.putfield 50, 3) := by decide +kernel
theorem dX7_image_5 : decode cX7_image 5 = .ok (.iload_n 1, 1) := by decide +kernel
theorem dX7_image_6 : decode cX7_image 6 = .ok (.i2l, 1) := by decide +kernel
theorem dX7_image_7 : decode cX7_image 7 = .ok (.lconst 0, 1) := by decide +kernel
theorem dX7_image_8 : decode cX7_image 8 = .ok (.lconst 1, 1) := by decide +kernel
theorem dX7_image_9 : decode cX7_image 9 = .ok (.invokestatic 60, 3) := by decide +kernel
theorem dX7_image_12 : decode cX7_image 12 = .ok (.ifCond .ne 6, 3) := by decide +kernel
theorem dX7_image_15 : decode cX7_image 15 = .ok (.ldc 70, 2) := by decide +kernel
theorem dX7_image_17 : decode cX7_image 17 = .ok (.ireturn, 1) := by decide +kernel
theorem dX7_image_18 : decode cX7_image 18 = .ok (.aload_n 0, 1) := by decide +kernel
theorem dX7_image_19 : decode cX7_image 19 = .ok (.invokevirtual 202, 3) := by decide +kernel
theorem dX7_image_22 : decode cX7_image 22 = .ok (.ifCond .ne 6, 3) := by decide +kernel
theorem dX7_image_25 : decode cX7_image 25 = .ok (.ldc 201, 2) := by decide +kernel
theorem dX7_image_27 : decode cX7_image 27 = .ok (.ireturn, 1) := by decide +kernel
theorem dX7_image_28 : decode cX7_image 28 = .ok (.iconst 0, 1) := by decide +kernel
theorem dX7_image_29 : decode cX7_image 29 = .ok (.istore_n 2, 1) := by decide +kernel
theorem dX7_image_30 : decode cX7_image 30 = .ok (.iload_n 2, 1) := by decide +kernel
theorem dX7_image_31 : decode cX7_image 31 = .ok (.sipush 143, 3) := by decide +kernel
theorem dX7_image_34 : decode cX7_image 34 = .ok (.if_icmp .ge 27, 3) := by decide +kernel
theorem dX7_image_37 : decode cX7_image 37 = .ok (.aload_n 0, 1) := by decide +kernel
theorem dX7_image_38 : decode cX7_image 38 = .ok (.getfield 44, 3) := by decide +kernel
theorem dX7_image_41 : decode cX7_image 41 = .ok (.sipush 143, 3) := by decide +kernel
theorem dX7_image_44 : decode cX7_image 44 = .ok (.iload_n 1, 1) := by decide +kernel
theorem dX7_image_45 : decode cX7_image 45 = .ok (.imul, 1) := by decide +kernel
theorem dX7_image_46 : decode cX7_image 46 = .ok (.iload_n 2, 1) := by decide +kernel
theorem dX7_image_47 : decode cX7_image 47 = .ok (.iadd, 1) := by decide +kernel
theorem dX7_image_48 : decode cX7_image 48 = .ok (.aload_n 0, 1) := by decide +kernel
theorem dX7_image_49 : decode cX7_image 49 = .ok (.getfield 19, 3) := by decide +kernel
theorem dX7_image_52 : decode cX7_image 52 = .ok (.iload_n 2, 1) := by decide +kernel
theorem dX7_image_53 : decode cX7_image 53 = .ok (.iaload, 1) := by decide +kernel
theorem dX7_image_54 : decode cX7_image 54 = .ok (.iastore, 1) := by decide +kernel
theorem dX7_image_55 : decode cX7_image 55 = .ok (.iinc 2 1, 3) := by decide +kernel
theorem dX7_image_58 : decode cX7_image 58 = .ok (.goto (-28), 3) := by decide +kernel
theorem dX7_image_61 : decode cX7_image 61 = .ok (.aload_n 0, 1) := by decide +kernel
theorem dX7_image_62 : decode cX7_image 62 = .ok (.getfield 40, 3) := by decide +kernel
theorem dX7_image_65 : decode cX7_image 65 = .ok (.iload_n 1, 1) := by decide +kernel
theorem dX7_image_66 : decode cX7_image 66 = .ok (.iconst 1, 1) := by decide +kernel
theorem dX7_image_67 : decode cX7_image 67 = .ok (.bastore, 1) := by decide +kernel
theorem dX7_image_68 : decode cX7_image 68 = .ok (.iconst 1, 1) := by decide +kernel
theorem dX7_image_69 : decode cX7_image 69 = .ok (.ireturn, 1) := by decide +kernel
theorem dX7_restore_0 : decode cX7_restore 0 = .ok (.aload_n 0, 1) := by decide +kernel
theorem dX7_restore_1 : decode cX7_restore 1 = .ok (.iconst 0, 1) := by decide +kernel
theorem dX7_restore_2 : decode cX7_restore 2 = .ok (.putfield 50, 3) := by decide +kernel
theorem dX7_restore_5 : decode cX7_restore 5 = .ok (.iload_n 1, 1) := by decide +kernel
theorem dX7_restore_6 : decode cX7_restore 6 = .ok (.i2l, 1) := by decide +kernel
theorem dX7_restore_7 : decode cX7_restore 7 = .ok (.lconst 0, 1) := by decide +kernel
theorem dX7_restore_8 : decode cX7_restore 8 = .ok (.lconst 1, 1) := by decide +kernel
theorem dX7_restore_9 : decode cX7_restore 9 = .ok (.invokestatic 60, 3) := by decide +kernel
theorem dX7_restore_12 : decode cX7_restore 12 = .ok (.ifCond .ne 6, 3) := by decide +kernel
theorem dX7_restore_15 : decode cX7_restore 15 = .ok (.ldc 70, 2) := by decide +kernel
theorem dX7_restore_17 : decode cX7_restore 17 = .ok (.ireturn, 1) := by decide +kernel
theorem dX7_restore_18 : decode cX7_restore 18 = .ok (.aload_n 0, 1) := by decide +kernel
theorem dX7_restore_19 : decode cX7_restore 19 = .ok (.getfield 40, 3) := by decide +kernel
theorem dX7_restore_22 : decode cX7_restore 22 = .ok (.iload_n 1, 1) := by decide +kernel
theorem dX7_restore_23 : decode cX7_restore 23 = .ok (.baload, 1) := by decide +kernel
theorem dX7_restore_24 : decode cX7_restore 24 = .ok (.ifCond .ne 6, 3) := by decide +kernel
theorem dX7_restore_27 : decode cX7_restore 27 = .ok (.ldc 201, 2) := by decide +kernel
theorem dX7_restore_29 : decode cX7_restore 29 = .ok (.ireturn, 1) := by decide +kernel
theorem dX7_restore_30 : decode cX7_restore 30 = .ok (.iconst 0, 1) := by decide +kernel
theorem dX7_restore_31 : decode cX7_restore 31 = .ok (.istore_n 2, 1) := by decide +kernel
theorem dX7_restore_32 : decode cX7_restore 32 = .ok (.iload_n 2, 1) := by decide +kernel
theorem dX7_restore_33 : decode cX7_restore 33 = .ok (.sipush 143, 3) := by decide +kernel
theorem dX7_restore_36 : decode cX7_restore 36 = .ok (.if_icmp .ge 27, 3) := by decide +kernel
theorem dX7_restore_39 : decode cX7_restore 39 = .ok (.aload_n 0, 1) := by decide +kernel
theorem dX7_restore_40 : decode cX7_restore 40 = .ok (.getfield 19, 3) := by decide +kernel
end
section
theorem dX7_restore_43 : decode cX7_restore 43 = .ok (.iload_n 2, 1) := by decide +kernel
theorem dX7_restore_44 : decode cX7_restore 44 = .ok (.aload_n 0, 1) := by decide +kernel
theorem dX7_restore_45 : decode cX7_restore 45 = .ok (.getfield 44, 3) := by decide +kernel
theorem dX7_restore_48 : decode cX7_restore 48 = .ok (.sipush 143, 3) := by decide +kernel
theorem dX7_restore_51 : decode cX7_restore 51 = .ok (.iload_n 1, 1) := by decide +kernel
theorem dX7_restore_52 : decode cX7_restore 52 = .ok (.imul, 1) := by decide +kernel
theorem dX7_restore_53 : decode cX7_restore 53 = .ok (.iload_n 2, 1) := by decide +kernel
theorem dX7_restore_54 : decode cX7_restore 54 = .ok (.iadd, 1) := by decide +kernel
theorem dX7_restore_55 : decode cX7_restore 55 = .ok (.iaload, 1) := by decide +kernel
theorem dX7_restore_56 : decode cX7_restore 56 = .ok (.iastore, 1) := by decide +kernel
theorem dX7_restore_57 : decode cX7_restore 57 = .ok (.iinc 2 1, 3) := by decide +kernel
theorem dX7_restore_60 : decode cX7_restore 60 = .ok (.goto (-28), 3) := by decide +kernel
theorem dX7_restore_63 : decode cX7_restore 63 = .ok (.aload_n 0, 1) := by decide +kernel
theorem dX7_restore_64 : decode cX7_restore 64 = .ok (.iconst 0, 1) := by decide +kernel
theorem dX7_restore_65 : decode cX7_restore 65 = .ok (.putfield 152, 3) := by decide +kernel
theorem dX7_restore_68 : decode cX7_restore 68 = .ok (.iconst 1, 1) := by decide +kernel
theorem dX7_restore_69 : decode cX7_restore 69 = .ok (.ireturn, 1) := by decide +kernel
theorem dX7_isOf_0 : decode cX7_isOf 0 = .ok (.iload_n 1, 1) := by decide +kernel
theorem dX7_isOf_1 : decode cX7_isOf 1 = .ok (.ifCond .eq 28, 3) := by decide +kernel
theorem dX7_isOf_4 : decode cX7_isOf 4 = .ok (.iload_n 0, 1) := by decide +kernel
theorem dX7_isOf_5 : decode cX7_isOf 5 = .ok (.iload_n 1, 1) := by decide +kernel
theorem dX7_isOf_6 : decode cX7_isOf 6 = .ok (.if_icmp .eq 23, 3) := by decide +kernel
theorem dX7_isOf_9 : decode cX7_isOf 9 = .ok (.iload_n 1, 1) := by decide +kernel
theorem dX7_isOf_10 : decode cX7_isOf 10 = .ok (.iconst 1, 1) := by decide +kernel
theorem dX7_isOf_11 : decode cX7_isOf 11 = .ok (.if_icmp .ne 8, 3) := by decide +kernel
theorem dX7_isOf_14 : decode cX7_isOf 14 = .ok (.iload_n 0, 1) := by decide +kernel
theorem dX7_isOf_15 : decode cX7_isOf 15 = .ok (.iconst 4, 1) := by decide +kernel
theorem dX7_isOf_16 : decode cX7_isOf 16 = .ok (.if_icmp .lt 13, 3) := by decide +kernel
theorem dX7_isOf_19 : decode cX7_isOf 19 = .ok (.iload_n 1, 1) := by decide +kernel
theorem dX7_isOf_20 : decode cX7_isOf 20 = .ok (.iconst 4, 1) := by decide +kernel
theorem dX7_isOf_21 : decode cX7_isOf 21 = .ok (.if_icmp .ne 12, 3) := by decide +kernel
theorem dX7_isOf_24 : decode cX7_isOf 24 = .ok (.iload_n 0, 1) := by decide +kernel
theorem dX7_isOf_25 : decode cX7_isOf 25 = .ok (.iconst 5, 1) := by decide +kernel
theorem dX7_isOf_26 : decode cX7_isOf 26 = .ok (.if_icmp .ne 7, 3) := by decide +kernel
theorem dX7_isOf_29 : decode cX7_isOf 29 = .ok (.iconst 1, 1) := by decide +kernel
theorem dX7_isOf_30 : decode cX7_isOf 30 = .ok (.goto 4, 3) := by decide +kernel
theorem dX7_isOf_33 : decode cX7_isOf 33 = .ok (.iconst 0, 1) := by decide +kernel
theorem dX7_isOf_34 : decode cX7_isOf 34 = .ok (.ireturn, 1) := by decide +kernel
theorem dX7_kind_0 : decode cX7_kind 0 = .ok (.aload_n 0, 1) := by decide +kernel
theorem dX7_kind_1 : decode cX7_kind 1 = .ok (.iconst 0, 1) := by decide +kernel
theorem dX7_kind_2 : decode cX7_kind 2 = .ok (.putfield 50, 3) := by decide +kernel
theorem dX7_kind_5 : decode cX7_kind 5 = .ok (.aload_n 0, 1) := by decide +kernel
theorem dX7_kind_6 : decode cX7_kind 6 = .ok (.iload_n 1, 1) := by decide +kernel
theorem dX7_kind_7 : decode cX7_kind 7 = .ok (.invokevirtual 194, 3) := by decide +kernel
theorem dX7_kind_10 : decode cX7_kind 10 = .ok (.ifCond .eq 15, 3) := by decide +kernel
theorem dX7_kind_13 : decode cX7_kind 13 = .ok (.aload_n 0, 1) := by decide +kernel
theorem dX7_kind_14 : decode cX7_kind 14 = .ok (.getfield 19, 3) := by decide +kernel
theorem dX7_kind_17 : decode cX7_kind 17 = .ok (.iload_n 1, 1) := by decide +kernel
theorem dX7_kind_18 : decode cX7_kind 18 = .ok (.iconst 0, 1) := by decide +kernel
theorem dX7_kind_19 : decode cX7_kind 19 = .ok (.invokestatic 155, 3) := by decide +kernel
theorem dX7_kind_22 : decode cX7_kind 22 = .ok (.goto 5, 3) := by decide +kernel
theorem dX7_kind_25 : decode cX7_kind 25 = .ok (.ldc 70, 2) := by decide +kernel
theorem dX7_kind_27 : decode cX7_kind 27 = .ok (.ireturn, 1) := by decide +kernel
theorem dX7_as_0 : decode cX7_as 0 = .ok (.aload_n 0, 1) := by decide +kernel
theorem dX7_as_1 : decode cX7_as 1 = .ok (.iconst 0, 1) := by decide +kernel
theorem dX7_as_2 : decode cX7_as 2 = .ok (.putfield 50, 3) := by decide +kernel
theorem dX7_as_5 : decode cX7_as 5 = .ok (.aload_n 0, 1) := by decide +kernel
theorem dX7_as_6 : decode cX7_as 6 = .ok (.iload_n 1, 1) := by decide +kernel
theorem dX7_as_7 : decode cX7_as 7 = .ok (.invokevirtual 194, 3) := by decide +kernel
theorem dX7_as_10 : decode cX7_as 10 = .ok (.ifCond .eq 15, 3) := by decide +kernel
theorem dX7_as_13 : decode cX7_as 13 = .ok (.iload_n 2, 1) := by decide +kernel
theorem dX7_as_14 : decode cX7_as 14 = .ok (.i2l, 1) := by decide +kernel
theorem dX7_as_15 : decode cX7_as 15 = .ok (.lconst 0, 1) := by decide +kernel
theorem dX7_as_16 : decode cX7_as 16 = .ok (.ldc2_w 222, 3) := by decide +kernel
theorem dX7_as_19 : decode cX7_as 19 = .ok (.invokestatic 60, 3) := by decide +kernel
theorem dX7_as_22 : decode cX7_as 22 = .ok (.ifCond .ne 6, 3) := by decide +kernel
theorem dX7_as_25 : decode cX7_as 25 = .ok (.ldc 70, 2) := by decide +kernel
theorem dX7_as_27 : decode cX7_as 27 = .ok (.ireturn, 1) := by decide +kernel
theorem dX7_as_28 : decode cX7_as 28 = .ok (.aload_n 0, 1) := by decide +kernel
theorem dX7_as_29 : decode cX7_as 29 = .ok (.iconst 0, 1) := by decide +kernel
theorem dX7_as_30 : decode cX7_as 30 = .ok (.putfield 54, 3) := by decide +kernel
theorem dX7_as_33 : decode cX7_as 33 = .ok (.aload_n 0, 1) := by decide +kernel
theorem dX7_as_34 : decode cX7_as 34 = .ok (.getfield 19, 3) := by decide +kernel
theorem dX7_as_37 : decode cX7_as 37 = .ok (.iload_n 1, 1) := by decide +kernel
theorem dX7_as_38 : decode cX7_as 38 = .ok (.iconst 0, 1) := by decide +kernel
theorem dX7_as_39 : decode cX7_as 39 = .ok (.invokestatic 155, 3) := by decide +kernel
theorem dX7_as_42 : decode cX7_as 42 = .ok (.iload_n 2, 1) := by decide +kernel
theorem dX7_as_43 : decode cX7_as 43 = .ok (.invokestatic 267, 3) := by decide +kernel
theorem dX7_as_46 : decode cX7_as 46 = .ok (.ifCond .eq 7, 3) := by decide +kernel
theorem dX7_as_49 : decode cX7_as 49 = .ok (.iload_n 1, 1) := by decide +kernel
theorem dX7_as_50 : decode cX7_as 50 = .ok (.goto 8, 3) := by decide +kernel
theorem dX7_as_53 : decode cX7_as 53 = .ok (.aload_n 0, 1) := by decide +kernel
theorem dX7_as_54 : decode cX7_as 54 = .ok (.iconst 3, 1) := by decide +kernel
theorem dX7_as_55 : decode cX7_as 55 = .ok (.invokevirtual 71, 3) := by decide +kernel
theorem dX7_as_58 : decode cX7_as 58 = .ok (.ireturn, 1) := by decide +kernel
theorem dX7_began_0 : decode cX7_began 0 = .ok (.aload_n 0, 1) := by decide +kernel
theorem dX7_began_1 : decode cX7_began 1 = .ok (.getfield 270, 3) := by decide +kernel
theorem dX7_began_4 : decode cX7_began 4 = .ok (.bipush 16, 2) := by decide +kernel
theorem dX7_began_6 : decode cX7_began 6 = .ok (.if_icmp .ge 23, 3) := by decide +kernel
theorem dX7_began_9 : decode cX7_began 9 = .ok (.aload_n 0, 1) := by decide +kernel
theorem dX7_began_10 : decode cX7_began 10 = .ok (.getfield 47, 3) := by decide +kernel
theorem dX7_began_13 : decode cX7_began 13 = .ok (.aload_n 0, 1) := by decide +kernel
theorem dX7_began_14 : decode cX7_began 14 = .ok (.getfield 270, 3) := by decide +kernel
theorem dX7_began_17 : decode cX7_began 17 = .ok (.iload_n 1, 1) := by decide +kernel
theorem dX7_began_18 : decode cX7_began 18 = .ok (.iastore, 1) := by decide +kernel
theorem dX7_began_19 : decode cX7_began 19 = .ok (.aload_n 0, 1) := by decide +kernel
theorem dX7_began_20 : decode cX7_began 20 = .ok (.dup, 1) := by decide +kernel
theorem dX7_began_21 : decode cX7_began 21 = .ok (.getfield 270, 3) := by decide +kernel
theorem dX7_began_24 : decode cX7_began 24 = .ok (.iconst 1, 1) := by decide +kernel
theorem dX7_began_25 : decode cX7_began 25 = .ok (.iadd, 1) := by decide +kernel
theorem dX7_began_26 : decode cX7_began 26 = .ok (.putfield 270, 3) := by decide +kernel
theorem dX7_began_29 : decode cX7_began 29 = .ok (.return_, 1) := by decide +kernel
theorem dX7_plainSize_0 : decode cX7_plainSize 0 = .ok (.aload_n 0, 1) := by decide +kernel
theorem dX7_plainSize_1 : decode cX7_plainSize 1 = .ok (.bipush 10, 2) := by decide +kernel
theorem dX7_plainSize_3 : decode cX7_plainSize 3 = .ok (.invokevirtual 273, 3) := by decide +kernel
theorem dX7_plainSize_6 : decode cX7_plainSize 6 = .ok (.aload_n 0, 1) := by decide +kernel
theorem dX7_plainSize_7 : decode cX7_plainSize 7 = .ok (.iload_n 1, 1) := by decide +kernel
theorem dX7_plainSize_8 : decode cX7_plainSize 8 = .ok (.invokevirtual 217, 3) := by decide +kernel
theorem dX7_plainSize_11 : decode cX7_plainSize 11 = .ok (.invokestatic 214, 3) := by decide +kernel
theorem dX7_plainSize_14 : decode cX7_plainSize 14 = .ok (.ireturn, 1) := by decide +kernel
theorem dX7_twinSize_0 : decode cX7_twinSize 0 = .ok (.aload_n 0, 1) := by decide +kernel
theorem dX7_twinSize_1 : decode cX7_twinSize 1 = .ok (.getfield 19, 3) := by decide +kernel
theorem dX7_twinSize_4 : decode cX7_twinSize 4 = .ok (.iload_n 1, 1) := by decide +kernel
theorem dX7_twinSize_5 : decode cX7_twinSize 5 = .ok (.iconst 0, 1) := by decide +kernel
theorem dX7_twinSize_6 : decode cX7_twinSize 6 = .ok (.invokestatic 155, 3) := by decide +kernel
theorem dX7_twinSize_9 : decode cX7_twinSize 9 = .ok (.iconst 5, 1) := by decide +kernel
theorem dX7_twinSize_10 : decode cX7_twinSize 10 = .ok (.if_icmp .ne 7, 3) := by decide +kernel
theorem dX7_twinSize_13 : decode cX7_twinSize 13 = .ok (.iconst 1, 1) := by decide +kernel
theorem dX7_twinSize_14 : decode cX7_twinSize 14 = .ok (.goto 4, 3) := by decide +kernel
theorem dX7_twinSize_17 : decode cX7_twinSize 17 = .ok (.iconst 0, 1) := by decide +kernel
theorem dX7_twinSize_18 : decode cX7_twinSize 18 = .ok (.istore_n 2, 1) := by decide +kernel
theorem dX7_twinSize_19 : decode cX7_twinSize 19 = .ok (.iload_n 2, 1) := by decide +kernel
theorem dX7_twinSize_20 : decode cX7_twinSize 20 = .ok (.ifCond .eq 9, 3) := by decide +kernel
theorem dX7_twinSize_23 : decode cX7_twinSize 23 = .ok (.aload_n 0, 1) := by decide +kernel
theorem dX7_twinSize_24 : decode cX7_twinSize 24 = .ok (.bipush 14, 2) := by decide +kernel
theorem dX7_twinSize_26 : decode cX7_twinSize 26 = .ok (.invokevirtual 273, 3) := by decide +kernel
theorem dX7_twinSize_29 : decode cX7_twinSize 29 = .ok (.aload_n 0, 1) := by decide +kernel
theorem dX7_twinSize_30 : decode cX7_twinSize 30 = .ok (.bipush 13, 2) := by decide +kernel
theorem dX7_twinSize_32 : decode cX7_twinSize 32 = .ok (.invokevirtual 273, 3) := by decide +kernel
theorem dX7_twinSize_35 : decode cX7_twinSize 35 = .ok (.aload_n 0, 1) := by decide +kernel
theorem dX7_twinSize_36 : decode cX7_twinSize 36 = .ok (.iload_n 1, 1) := by decide +kernel
theorem dX7_twinSize_37 : decode cX7_twinSize 37 = .ok (.invokevirtual 276, 3) := by decide +kernel
theorem dX7_twinSize_40 : decode cX7_twinSize 40 = .ok (.bipush 100, 2) := by decide +kernel
theorem dX7_twinSize_42 : decode cX7_twinSize 42 = .ok (.isub, 1) := by decide +kernel
theorem dX7_twinSize_43 : decode cX7_twinSize 43 = .ok (.istore_n 3, 1) := by decide +kernel
theorem dX7_twinSize_44 : decode cX7_twinSize 44 = .ok (.iload_n 2, 1) := by decide +kernel
theorem dX7_twinSize_45 : decode cX7_twinSize 45 = .ok (.ifCond .eq 9, 3) := by decide +kernel
theorem dX7_twinSize_48 : decode cX7_twinSize 48 = .ok (.iconst 2, 1) := by decide +kernel
theorem dX7_twinSize_49 : decode cX7_twinSize 49 = .ok (.iload_n 3, 1) := by decide +kernel
theorem dX7_twinSize_50 : decode cX7_twinSize 50 = .ok (.imul, 1) := by decide +kernel
theorem dX7_twinSize_51 : decode cX7_twinSize 51 = .ok (.goto 4, 3) := by decide +kernel
theorem dX7_twinSize_54 : decode cX7_twinSize 54 = .ok (.iload_n 3, 1) := by decide +kernel
theorem dX7_twinSize_55 : decode cX7_twinSize 55 = .ok (.ireturn, 1) := by decide +kernel
theorem dX7_markOf_0 : decode cX7_markOf 0 = .ok (.aload_n 0, 1) := by decide +kernel
theorem dX7_markOf_1 : decode cX7_markOf 1 = .ok (.getfield 19, 3) := by decide +kernel
theorem dX7_markOf_4 : decode cX7_markOf 4 = .ok (.iload_n 1, 1) := by decide +kernel
theorem dX7_markOf_5 : decode cX7_markOf 5 = .ok (.iconst 0, 1) := by decide +kernel
theorem dX7_markOf_6 : decode cX7_markOf 6 = .ok (.invokestatic 155, 3) := by decide +kernel
theorem dX7_markOf_9 : decode cX7_markOf 9 = .ok (.istore_n 2, 1) := by decide +kernel
theorem dX7_markOf_10 : decode cX7_markOf 10 = .ok (.iload_n 2, 1) := by decide +kernel
theorem dX7_markOf_11 : decode cX7_markOf 11 = .ok (.iconst 4, 1) := by decide +kernel
theorem dX7_markOf_12 : decode cX7_markOf 12 = .ok (.if_icmp .lt 23, 3) := by decide +kernel
theorem dX7_markOf_15 : decode cX7_markOf 15 = .ok (.aload_n 0, 1) := by decide +kernel
theorem dX7_markOf_16 : decode cX7_markOf 16 = .ok (.bipush 23, 2) := by decide +kernel
theorem dX7_markOf_18 : decode cX7_markOf 18 = .ok (.invokevirtual 273, 3) := by decide +kernel
theorem dX7_markOf_21 : decode cX7_markOf 21 = .ok (.aload_n 0, 1) := by decide +kernel
theorem dX7_markOf_22 : decode cX7_markOf 22 = .ok (.bipush 20, 2) := by decide +kernel
theorem dX7_markOf_24 : decode cX7_markOf 24 = .ok (.invokevirtual 273, 3) := by decide +kernel
theorem dX7_markOf_27 : decode cX7_markOf 27 = .ok (.iload_n 1, 1) := by decide +kernel
theorem dX7_markOf_28 : decode cX7_markOf 28 = .ok (.aload_n 0, 1) := by decide +kernel
theorem dX7_markOf_29 : decode cX7_markOf 29 = .ok (.iload_n 1, 1) := by decide +kernel
theorem dX7_markOf_30 : decode cX7_markOf 30 = .ok (.invokevirtual 279, 3) := by decide +kernel
theorem dX7_markOf_33 : decode cX7_markOf 33 = .ok (.isub, 1) := by decide +kernel
theorem dX7_markOf_34 : decode cX7_markOf 34 = .ok (.ireturn, 1) := by decide +kernel
theorem dX7_markOf_35 : decode cX7_markOf 35 = .ok (.iload_n 2, 1) := by decide +kernel
theorem dX7_markOf_36 : decode cX7_markOf 36 = .ok (.iconst 1, 1) := by decide +kernel
theorem dX7_markOf_37 : decode cX7_markOf 37 = .ok (.if_icmp .eq 19, 3) := by decide +kernel
theorem dX7_markOf_40 : decode cX7_markOf 40 = .ok (.aload_n 0, 1) := by decide +kernel
theorem dX7_markOf_41 : decode cX7_markOf 41 = .ok (.iload_n 2, 1) := by decide +kernel
theorem dX7_markOf_42 : decode cX7_markOf 42 = .ok (.iconst 3, 1) := by decide +kernel
theorem dX7_markOf_43 : decode cX7_markOf 43 = .ok (.if_icmp .ne 8, 3) := by decide +kernel
theorem dX7_markOf_46 : decode cX7_markOf 46 = .ok (.bipush 22, 2) := by decide +kernel
theorem dX7_markOf_48 : decode cX7_markOf 48 = .ok (.goto 5, 3) := by decide +kernel
theorem dX7_markOf_51 : decode cX7_markOf 51 = .ok (.bipush 24, 2) := by decide +kernel
theorem dX7_markOf_53 : decode cX7_markOf 53 = .ok (.invokevirtual 273, 3) := by decide +kernel
theorem dX7_markOf_56 : decode cX7_markOf 56 = .ok (.aload_n 0, 1) := by decide +kernel
theorem dX7_markOf_57 : decode cX7_markOf 57 = .ok (.bipush 21, 2) := by decide +kernel
theorem dX7_markOf_59 : decode cX7_markOf 59 = .ok (.invokevirtual 273, 3) := by decide +kernel
theorem dX7_markOf_62 : decode cX7_markOf 62 = .ok (.aload_n 0, 1) := by decide +kernel
theorem dX7_markOf_63 : decode cX7_markOf 63 = .ok (.bipush 20, 2) := by decide +kernel
theorem dX7_markOf_65 : decode cX7_markOf 65 = .ok (.invokevirtual 273, 3) := by decide +kernel
theorem dX7_markOf_68 : decode cX7_markOf 68 = .ok (.iload_n 1, 1) := by decide +kernel
theorem dX7_markOf_69 : decode cX7_markOf 69 = .ok (.aload_n 0, 1) := by decide +kernel
theorem dX7_markOf_70 : decode cX7_markOf 70 = .ok (.getfield 19, 3) := by decide +kernel
theorem dX7_markOf_73 : decode cX7_markOf 73 = .ok (.iload_n 1, 1) := by decide +kernel
theorem dX7_markOf_74 : decode cX7_markOf 74 = .ok (.iconst 1, 1) := by decide +kernel
theorem dX7_markOf_75 : decode cX7_markOf 75 = .ok (.invokestatic 155, 3) := by decide +kernel
theorem dX7_markOf_78 : decode cX7_markOf 78 = .ok (.iadd, 1) := by decide +kernel
theorem dX7_markOf_79 : decode cX7_markOf 79 = .ok (.istore_n 3, 1) := by decide +kernel
theorem dX7_markOf_80 : decode cX7_markOf 80 = .ok (.iload_n 2, 1) := by decide +kernel
theorem dX7_markOf_81 : decode cX7_markOf 81 = .ok (.iconst 1, 1) := by decide +kernel
theorem dX7_markOf_82 : decode cX7_markOf 82 = .ok (.if_icmp .ne 7, 3) := by decide +kernel
theorem dX7_markOf_85 : decode cX7_markOf 85 = .ok (.iload_n 3, 1) := by decide +kernel
theorem dX7_markOf_86 : decode cX7_markOf 86 = .ok (.goto 19, 3) := by decide +kernel
theorem dX7_markOf_89 : decode cX7_markOf 89 = .ok (.iload_n 2, 1) := by decide +kernel
theorem dX7_markOf_90 : decode cX7_markOf 90 = .ok (.iconst 3, 1) := by decide +kernel
theorem dX7_markOf_91 : decode cX7_markOf 91 = .ok (.if_icmp .ne 11, 3) := by decide +kernel
theorem dX7_markOf_94 : decode cX7_markOf 94 = .ok (.iload_n 3, 1) := by decide +kernel
theorem dX7_markOf_95 : decode cX7_markOf 95 = .ok (.sipush 1000, 3) := by decide +kernel
theorem dX7_markOf_98 : decode cX7_markOf 98 = .ok (.isub, 1) := by decide +kernel
theorem dX7_markOf_99 : decode cX7_markOf 99 = .ok (.goto 6, 3) := by decide +kernel
theorem dX7_markOf_102 : decode cX7_markOf 102 = .ok (.iconst 2, 1) := by decide +kernel
theorem dX7_markOf_103 : decode cX7_markOf 103 = .ok (.iload_n 3, 1) := by decide +kernel
theorem dX7_markOf_104 : decode cX7_markOf 104 = .ok (.imul, 1) := by decide +kernel
theorem dX7_markOf_105 : decode cX7_markOf 105 = .ok (.ireturn, 1) := by decide +kernel
theorem dX7_sizeOf_0 : decode cX7_sizeOf 0 = .ok (.aload_n 0, 1) := by decide +kernel
theorem dX7_sizeOf_1 : decode cX7_sizeOf 1 = .ok (.getfield 19, 3) := by decide +kernel
theorem dX7_sizeOf_4 : decode cX7_sizeOf 4 = .ok (.iload_n 1, 1) := by decide +kernel
theorem dX7_sizeOf_5 : decode cX7_sizeOf 5 = .ok (.iconst 0, 1) := by decide +kernel
theorem dX7_sizeOf_6 : decode cX7_sizeOf 6 = .ok (.invokestatic 155, 3) := by decide +kernel
theorem dX7_sizeOf_9 : decode cX7_sizeOf 9 = .ok (.istore_n 2, 1) := by decide +kernel
theorem dX7_sizeOf_10 : decode cX7_sizeOf 10 = .ok (.iload_n 2, 1) := by decide +kernel
theorem dX7_sizeOf_11 : decode cX7_sizeOf 11 = .ok (.iconst 4, 1) := by decide +kernel
theorem dX7_sizeOf_12 : decode cX7_sizeOf 12 = .ok (.if_icmp .lt 9, 3) := by decide +kernel
theorem dX7_sizeOf_15 : decode cX7_sizeOf 15 = .ok (.aload_n 0, 1) := by decide +kernel
theorem dX7_sizeOf_16 : decode cX7_sizeOf 16 = .ok (.iload_n 1, 1) := by decide +kernel
theorem dX7_sizeOf_17 : decode cX7_sizeOf 17 = .ok (.invokevirtual 279, 3) := by decide +kernel
theorem dX7_sizeOf_20 : decode cX7_sizeOf 20 = .ok (.ireturn, 1) := by decide +kernel
theorem dX7_sizeOf_21 : decode cX7_sizeOf 21 = .ok (.iload_n 2, 1) := by decide +kernel
theorem dX7_sizeOf_22 : decode cX7_sizeOf 22 = .ok (.iconst 2, 1) := by decide +kernel
theorem dX7_sizeOf_23 : decode cX7_sizeOf 23 = .ok (.if_icmp .ne 9, 3) := by decide +kernel
theorem dX7_sizeOf_26 : decode cX7_sizeOf 26 = .ok (.aload_n 0, 1) := by decide +kernel
theorem dX7_sizeOf_27 : decode cX7_sizeOf 27 = .ok (.bipush 12, 2) := by decide +kernel
theorem dX7_sizeOf_29 : decode cX7_sizeOf 29 = .ok (.invokevirtual 273, 3) := by decide +kernel
theorem dX7_sizeOf_32 : decode cX7_sizeOf 32 = .ok (.aload_n 0, 1) := by decide +kernel
theorem dX7_sizeOf_33 : decode cX7_sizeOf 33 = .ok (.bipush 11, 2) := by decide +kernel
theorem dX7_sizeOf_35 : decode cX7_sizeOf 35 = .ok (.invokevirtual 273, 3) := by decide +kernel
theorem dX7_sizeOf_38 : decode cX7_sizeOf 38 = .ok (.aload_n 0, 1) := by decide +kernel
theorem dX7_sizeOf_39 : decode cX7_sizeOf 39 = .ok (.iload_n 1, 1) := by decide +kernel
theorem dX7_sizeOf_40 : decode cX7_sizeOf 40 = .ok (.invokevirtual 276, 3) := by decide +kernel
theorem dX7_sizeOf_43 : decode cX7_sizeOf 43 = .ok (.istore_n 3, 1) := by decide +kernel
theorem dX7_sizeOf_44 : decode cX7_sizeOf 44 = .ok (.iload_n 3, 1) := by decide +kernel
theorem dX7_sizeOf_45 : decode cX7_sizeOf 45 = .ok (.aload_n 0, 1) := by decide +kernel
theorem dX7_sizeOf_46 : decode cX7_sizeOf 46 = .ok (.iload_n 1, 1) := by decide +kernel
theorem dX7_sizeOf_47 : decode cX7_sizeOf 47 = .ok (.invokevirtual 282, 3) := by decide +kernel
theorem dX7_sizeOf_50 : decode cX7_sizeOf 50 = .ok (.iadd, 1) := by decide +kernel
theorem dX7_sizeOf_51 : decode cX7_sizeOf 51 = .ok (.istore_n 3, 1) := by decide +kernel
theorem dX7_sizeOf_52 : decode cX7_sizeOf 52 = .ok (.iload_n 2, 1) := by decide +kernel
theorem dX7_sizeOf_53 : decode cX7_sizeOf 53 = .ok (.iconst 2, 1) := by decide +kernel
theorem dX7_sizeOf_54 : decode cX7_sizeOf 54 = .ok (.if_icmp .ne 8, 3) := by decide +kernel
theorem dX7_sizeOf_57 : decode cX7_sizeOf 57 = .ok (.iload_n 3, 1) := by decide +kernel
theorem dX7_sizeOf_58 : decode cX7_sizeOf 58 = .ok (.ineg, 1) := by decide +kernel
theorem dX7_sizeOf_59 : decode cX7_sizeOf 59 = .ok (.goto 4, 3) := by decide +kernel
theorem dX7_sizeOf_62 : decode cX7_sizeOf 62 = .ok (.iload_n 3, 1) := by decide +kernel
theorem dX7_sizeOf_63 : decode cX7_sizeOf 63 = .ok (.ireturn, 1) := by decide +kernel
theorem dX7_ask_0 : decode cX7_ask 0 = .ok (.aload_n 0, 1) := by decide +kernel
theorem dX7_ask_1 : decode cX7_ask 1 = .ok (.iconst 0, 1) := by decide +kernel
theorem dX7_ask_2 : decode cX7_ask 2 = .ok (.putfield 50, 3) := by decide +kernel
theorem dX7_ask_5 : decode cX7_ask 5 = .ok (.aload_n 0, 1) := by decide +kernel
theorem dX7_ask_6 : decode cX7_ask 6 = .ok (.iload_n 1, 1) := by decide +kernel
theorem dX7_ask_7 : decode cX7_ask 7 = .ok (.invokevirtual 194, 3) := by decide +kernel
theorem dX7_ask_10 : decode cX7_ask 10 = .ok (.ifCond .eq 13, 3) := by decide +kernel
theorem dX7_ask_13 : decode cX7_ask 13 = .ok (.iload_n 2, 1) := by decide +kernel
theorem dX7_ask_14 : decode cX7_ask 14 = .ok (.i2l, 1) := by decide +kernel
theorem dX7_ask_15 : decode cX7_ask 15 = .ok (.lconst 0, 1) := by decide +kernel
theorem dX7_ask_16 : decode cX7_ask 16 = .ok (.lconst 1, 1) := by decide +kernel
theorem dX7_ask_17 : decode cX7_ask 17 = .ok (.invokestatic 60, 3) := by decide +kernel
theorem dX7_ask_20 : decode cX7_ask 20 = .ok (.ifCond .ne 6, 3) := by decide +kernel
theorem dX7_ask_23 : decode cX7_ask 23 = .ok (.ldc 70, 2) := by decide +kernel
theorem dX7_ask_25 : decode cX7_ask 25 = .ok (.ireturn, 1) := by decide +kernel
theorem dX7_ask_26 : decode cX7_ask 26 = .ok (.aload_n 0, 1) := by decide +kernel
theorem dX7_ask_27 : decode cX7_ask 27 = .ok (.iconst 0, 1) := by decide +kernel
theorem dX7_ask_28 : decode cX7_ask 28 = .ok (.putfield 270, 3) := by decide +kernel
theorem dX7_ask_31 : decode cX7_ask 31 = .ok (.iload_n 2, 1) := by decide +kernel
theorem dX7_ask_32 : decode cX7_ask 32 = .ok (.ifCond .ne 11, 3) := by decide +kernel
theorem dX7_ask_35 : decode cX7_ask 35 = .ok (.aload_n 0, 1) := by decide +kernel
theorem dX7_ask_36 : decode cX7_ask 36 = .ok (.iload_n 1, 1) := by decide +kernel
theorem dX7_ask_37 : decode cX7_ask 37 = .ok (.invokevirtual 285, 3) := by decide +kernel
theorem dX7_ask_40 : decode cX7_ask 40 = .ok (.goto 8, 3) := by decide +kernel
theorem dX7_ask_43 : decode cX7_ask 43 = .ok (.aload_n 0, 1) := by decide +kernel
theorem dX7_ask_44 : decode cX7_ask 44 = .ok (.iload_n 1, 1) := by decide +kernel
theorem dX7_ask_45 : decode cX7_ask 45 = .ok (.invokevirtual 282, 3) := by decide +kernel
theorem dX7_ask_48 : decode cX7_ask 48 = .ok (.ireturn, 1) := by decide +kernel
theorem dX7_trace_0 : decode cX7_trace 0 = .ok (.aload_n 0, 1) := by decide +kernel
theorem dX7_trace_1 : decode cX7_trace 1 = .ok (.iconst 0, 1) := by decide +kernel
theorem dX7_trace_2 : decode cX7_trace 2 = .ok (.putfield 50, 3) := by decide +kernel
theorem dX7_trace_5 : decode cX7_trace 5 = .ok (.iload_n 1, 1) := by decide +kernel
theorem dX7_trace_6 : decode cX7_trace 6 = .ok (.i2l, 1) := by decide +kernel
theorem dX7_trace_7 : decode cX7_trace 7 = .ok (.lconst 0, 1) := by decide +kernel
theorem dX7_trace_8 : decode cX7_trace 8 = .ok (.aload_n 0, 1) := by decide +kernel
theorem dX7_trace_9 : decode cX7_trace 9 = .ok (.getfield 270, 3) := by decide +kernel
theorem dX7_trace_12 : decode cX7_trace 12 = .ok (.iconst 1, 1) := by decide +kernel
theorem dX7_trace_13 : decode cX7_trace 13 = .ok (.isub, 1) := by decide +kernel
theorem dX7_trace_14 : decode cX7_trace 14 = .ok (.i2l, 1) := by decide +kernel
theorem dX7_trace_15 : decode cX7_trace 15 = .ok (.invokestatic 60, 3) := by decide +kernel
theorem dX7_trace_18 : decode cX7_trace 18 = .ok (.ifCond .eq 12, 3) := by decide +kernel
theorem dX7_trace_21 : decode cX7_trace 21 = .ok (.aload_n 0, 1) := by decide +kernel
theorem dX7_trace_22 : decode cX7_trace 22 = .ok (.getfield 47, 3) := by decide +kernel
theorem dX7_trace_25 : decode cX7_trace 25 = .ok (.iload_n 1, 1) := by decide +kernel
theorem dX7_trace_26 : decode cX7_trace 26 = .ok (.iaload, 1) := by decide +kernel
theorem dX7_trace_27 : decode cX7_trace 27 = .ok (.goto 5, 3) := by decide +kernel
theorem dX7_trace_30 : decode cX7_trace 30 = .ok (.ldc 93, 2) := by decide +kernel
theorem dX7_trace_32 : decode cX7_trace 32 = .ok (.ireturn, 1) := by decide +kernel
theorem dX7_count_0 : decode cX7_count 0 = .ok (.aload_n 0, 1) := by decide +kernel
theorem dX7_count_1 : decode cX7_count 1 = .ok (.iconst 0, 1) := by decide +kernel
theorem dX7_count_2 : decode cX7_count 2 = .ok (.putfield 50, 3) := by decide +kernel
theorem dX7_count_5 : decode cX7_count 5 = .ok (.iconst 0, 1) := by decide +kernel
theorem dX7_count_6 : decode cX7_count 6 = .ok (.istore_n 2, 1) := by decide +kernel
theorem dX7_count_7 : decode cX7_count 7 = .ok (.iload_n 1, 1) := by decide +kernel
theorem dX7_count_8 : decode cX7_count 8 = .ok (.tableswitch 113 0 6 #[44, 77, 84, 91, 98, 103, 108], 44) := by decide +kernel
theorem dX7_count_52 : decode cX7_count 52 = .ok (.iconst 0, 1) := by decide +kernel
theorem dX7_count_53 : decode cX7_count 53 = .ok (.istore_n 3, 1) := by decide +kernel
theorem dX7_count_54 : decode cX7_count 54 = .ok (.iload_n 3, 1) := by decide +kernel
theorem dX7_count_55 : decode cX7_count 55 = .ok (.bipush 8, 2) := by decide +kernel
theorem dX7_count_57 : decode cX7_count 57 = .ok (.if_icmp .ge 26, 3) := by decide +kernel
theorem dX7_count_60 : decode cX7_count 60 = .ok (.iload_n 2, 1) := by decide +kernel
theorem dX7_count_61 : decode cX7_count 61 = .ok (.aload_n 0, 1) := by decide +kernel
theorem dX7_count_62 : decode cX7_count 62 = .ok (.getfield 7, 3) := by decide +kernel
theorem dX7_count_65 : decode cX7_count 65 = .ok (.iload_n 3, 1) := by decide +kernel
theorem dX7_count_66 : decode cX7_count 66 = .ok (.iaload, 1) := by decide +kernel
theorem dX7_count_67 : decode cX7_count 67 = .ok (.ifCond .lt 7, 3) := by decide +kernel
theorem dX7_count_70 : decode cX7_count 70 = .ok (.iconst 1, 1) := by decide +kernel
theorem dX7_count_71 : decode cX7_count 71 = .ok (.goto 4, 3) := by decide +kernel
theorem dX7_count_74 : decode cX7_count 74 = .ok (.iconst 0, 1) := by decide +kernel
theorem dX7_count_75 : decode cX7_count 75 = .ok (.iadd, 1) := by decide +kernel
theorem dX7_count_76 : decode cX7_count 76 = .ok (.istore_n 2, 1) := by decide +kernel
theorem dX7_count_77 : decode cX7_count 77 = .ok (.iinc 3 1, 3) := by decide +kernel
theorem dX7_count_80 : decode cX7_count 80 = .ok (.goto (-26), 3) := by decide +kernel
theorem dX7_count_83 : decode cX7_count 83 = .ok (.iload_n 2, 1) := by decide +kernel
theorem dX7_count_84 : decode cX7_count 84 = .ok (.ireturn, 1) := by decide +kernel
theorem dX7_count_85 : decode cX7_count 85 = .ok (.aload_n 0, 1) := by decide +kernel
theorem dX7_count_86 : decode cX7_count 86 = .ok (.getfield 19, 3) := by decide +kernel
theorem dX7_count_89 : decode cX7_count 89 = .ok (.iconst 2, 1) := by decide +kernel
theorem dX7_count_90 : decode cX7_count 90 = .ok (.iaload, 1) := by decide +kernel
theorem dX7_count_91 : decode cX7_count 91 = .ok (.ireturn, 1) := by decide +kernel
theorem dX7_count_92 : decode cX7_count 92 = .ok (.aload_n 0, 1) := by decide +kernel
theorem dX7_count_93 : decode cX7_count 93 = .ok (.getfield 19, 3) := by decide +kernel
theorem dX7_count_96 : decode cX7_count 96 = .ok (.iconst 3, 1) := by decide +kernel
theorem dX7_count_97 : decode cX7_count 97 = .ok (.iaload, 1) := by decide +kernel
theorem dX7_count_98 : decode cX7_count 98 = .ok (.ireturn, 1) := by decide +kernel
theorem dX7_count_99 : decode cX7_count 99 = .ok (.aload_n 0, 1) := by decide +kernel
theorem dX7_count_100 : decode cX7_count 100 = .ok (.getfield 19, 3) := by decide +kernel
theorem dX7_count_103 : decode cX7_count 103 = .ok (.iconst 4, 1) := by decide +kernel
theorem dX7_count_104 : decode cX7_count 104 = .ok (.iaload, 1) := by decide +kernel
theorem dX7_count_105 : decode cX7_count 105 = .ok (.ireturn, 1) := by decide +kernel
theorem dX7_count_106 : decode cX7_count 106 = .ok (.aload_n 0, 1) := by decide +kernel
theorem dX7_count_107 : decode cX7_count 107 = .ok (.invokevirtual 211, 3) := by decide +kernel
theorem dX7_count_110 : decode cX7_count 110 = .ok (.ireturn, 1) := by decide +kernel
theorem dX7_count_111 : decode cX7_count 111 = .ok (.aload_n 0, 1) := by decide +kernel
theorem dX7_count_112 : decode cX7_count 112 = .ok (.getfield 152, 3) := by decide +kernel
theorem dX7_count_115 : decode cX7_count 115 = .ok (.ireturn, 1) := by decide +kernel
theorem dX7_count_116 : decode cX7_count 116 = .ok (.aload_n 0, 1) := by decide +kernel
theorem dX7_count_117 : decode cX7_count 117 = .ok (.getfield 77, 3) := by decide +kernel
theorem dX7_count_120 : decode cX7_count 120 = .ok (.ireturn, 1) := by decide +kernel
theorem dX7_count_121 : decode cX7_count 121 = .ok (.ldc 70, 2) := by decide +kernel
theorem dX7_count_123 : decode cX7_count 123 = .ok (.ireturn, 1) := by decide +kernel
theorem dX7_status_0 : decode cX7_status 0 = .ok (.aload_n 0, 1) := by decide +kernel
theorem dX7_status_1 : decode cX7_status 1 = .ok (.iconst 0, 1) := by decide +kernel
theorem dX7_status_2 : decode cX7_status 2 = .ok (.putfield 50, 3) := by decide +kernel
theorem dX7_status_5 : decode cX7_status 5 = .ok (.aload_n 0, 1) := by decide +kernel
theorem dX7_status_6 : decode cX7_status 6 = .ok (.getfield 54, 3) := by decide +kernel
theorem dX7_status_9 : decode cX7_status 9 = .ok (.ireturn, 1) := by decide +kernel
theorem dJ6_bitCount_0f7a4_0 : decode cJ6_bitCount_0f7a4 0 = .ok (.iload_n 0, 1) := by decide +kernel
theorem dJ6_bitCount_0f7a4_1 : decode cJ6_bitCount_0f7a4 1 = .ok (.iload_n 0, 1) := by decide +kernel
theorem dJ6_bitCount_0f7a4_2 : decode cJ6_bitCount_0f7a4 2 = .ok (.iconst 1, 1) := by decide +kernel
theorem dJ6_bitCount_0f7a4_3 : decode cJ6_bitCount_0f7a4 3 = .ok (.iushr, 1) := by decide +kernel
theorem dJ6_bitCount_0f7a4_4 : decode cJ6_bitCount_0f7a4 4 = .ok (.ldc_w 265, 3) := by decide +kernel
theorem dJ6_bitCount_0f7a4_7 : decode cJ6_bitCount_0f7a4 7 = .ok (.iand, 1) := by decide +kernel
theorem dJ6_bitCount_0f7a4_8 : decode cJ6_bitCount_0f7a4 8 = .ok (.isub, 1) := by decide +kernel
theorem dJ6_bitCount_0f7a4_9 : decode cJ6_bitCount_0f7a4 9 = .ok (.istore_n 0, 1) := by decide +kernel
theorem dJ6_bitCount_0f7a4_10 : decode cJ6_bitCount_0f7a4 10 = .ok (.iload_n 0, 1) := by decide +kernel
theorem dJ6_bitCount_0f7a4_11 : decode cJ6_bitCount_0f7a4 11 = .ok (.ldc_w 266, 3) := by decide +kernel
theorem dJ6_bitCount_0f7a4_14 : decode cJ6_bitCount_0f7a4 14 = .ok (.iand, 1) := by decide +kernel
theorem dJ6_bitCount_0f7a4_15 : decode cJ6_bitCount_0f7a4 15 = .ok (.iload_n 0, 1) := by decide +kernel
theorem dJ6_bitCount_0f7a4_16 : decode cJ6_bitCount_0f7a4 16 = .ok (.iconst 2, 1) := by decide +kernel
theorem dJ6_bitCount_0f7a4_17 : decode cJ6_bitCount_0f7a4 17 = .ok (.iushr, 1) := by decide +kernel
theorem dJ6_bitCount_0f7a4_18 : decode cJ6_bitCount_0f7a4 18 = .ok (.ldc_w 266, 3) := by decide +kernel
theorem dJ6_bitCount_0f7a4_21 : decode cJ6_bitCount_0f7a4 21 = .ok (.iand, 1) := by decide +kernel
theorem dJ6_bitCount_0f7a4_22 : decode cJ6_bitCount_0f7a4 22 = .ok (.iadd, 1) := by decide +kernel
theorem dJ6_bitCount_0f7a4_23 : decode cJ6_bitCount_0f7a4 23 = .ok (.istore_n 0, 1) := by decide +kernel
theorem dJ6_bitCount_0f7a4_24 : decode cJ6_bitCount_0f7a4 24 = .ok (.iload_n 0, 1) := by decide +kernel
theorem dJ6_bitCount_0f7a4_25 : decode cJ6_bitCount_0f7a4 25 = .ok (.iload_n 0, 1) := by decide +kernel
theorem dJ6_bitCount_0f7a4_26 : decode cJ6_bitCount_0f7a4 26 = .ok (.iconst 4, 1) := by decide +kernel
theorem dJ6_bitCount_0f7a4_27 : decode cJ6_bitCount_0f7a4 27 = .ok (.iushr, 1) := by decide +kernel
theorem dJ6_bitCount_0f7a4_28 : decode cJ6_bitCount_0f7a4 28 = .ok (.iadd, 1) := by decide +kernel
theorem dJ6_bitCount_0f7a4_29 : decode cJ6_bitCount_0f7a4 29 = .ok (.ldc_w 267, 3) := by decide +kernel
theorem dJ6_bitCount_0f7a4_32 : decode cJ6_bitCount_0f7a4 32 = .ok (.iand, 1) := by decide +kernel
theorem dJ6_bitCount_0f7a4_33 : decode cJ6_bitCount_0f7a4 33 = .ok (.istore_n 0, 1) := by decide +kernel
theorem dJ6_bitCount_0f7a4_34 : decode cJ6_bitCount_0f7a4 34 = .ok (.iload_n 0, 1) := by decide +kernel
theorem dJ6_bitCount_0f7a4_35 : decode cJ6_bitCount_0f7a4 35 = .ok (.iload_n 0, 1) := by decide +kernel
theorem dJ6_bitCount_0f7a4_36 : decode cJ6_bitCount_0f7a4 36 = .ok (.bipush 8, 2) := by decide +kernel
theorem dJ6_bitCount_0f7a4_38 : decode cJ6_bitCount_0f7a4 38 = .ok (.iushr, 1) := by decide +kernel
theorem dJ6_bitCount_0f7a4_39 : decode cJ6_bitCount_0f7a4 39 = .ok (.iadd, 1) := by decide +kernel
theorem dJ6_bitCount_0f7a4_40 : decode cJ6_bitCount_0f7a4 40 = .ok (.istore_n 0, 1) := by decide +kernel
theorem dJ6_bitCount_0f7a4_41 : decode cJ6_bitCount_0f7a4 41 = .ok (.iload_n 0, 1) := by decide +kernel
theorem dJ6_bitCount_0f7a4_42 : decode cJ6_bitCount_0f7a4 42 = .ok (.iload_n 0, 1) := by decide +kernel
theorem dJ6_bitCount_0f7a4_43 : decode cJ6_bitCount_0f7a4 43 = .ok (.bipush 16, 2) := by decide +kernel
theorem dJ6_bitCount_0f7a4_45 : decode cJ6_bitCount_0f7a4 45 = .ok (.iushr, 1) := by decide +kernel
theorem dJ6_bitCount_0f7a4_46 : decode cJ6_bitCount_0f7a4 46 = .ok (.iadd, 1) := by decide +kernel
theorem dJ6_bitCount_0f7a4_47 : decode cJ6_bitCount_0f7a4 47 = .ok (.istore_n 0, 1) := by decide +kernel
theorem dJ6_bitCount_0f7a4_48 : decode cJ6_bitCount_0f7a4 48 = .ok (.iload_n 0, 1) := by decide +kernel
theorem dJ6_bitCount_0f7a4_49 : decode cJ6_bitCount_0f7a4 49 = .ok (.bipush 63, 2) := by decide +kernel
theorem dJ6_bitCount_0f7a4_51 : decode cJ6_bitCount_0f7a4 51 = .ok (.iand, 1) := by decide +kernel
theorem dJ6_bitCount_0f7a4_52 : decode cJ6_bitCount_0f7a4 52 = .ok (.ireturn, 1) := by decide +kernel
theorem dJ9_abs_0f7a4_0 : decode cJ9_abs_0f7a4 0 = .ok (.iload_n 0, 1) := by decide +kernel
theorem dJ9_abs_0f7a4_1 : decode cJ9_abs_0f7a4 1 = .ok (.ifCond .ge 8, 3) := by decide +kernel
theorem dJ9_abs_0f7a4_4 : decode cJ9_abs_0f7a4 4 = .ok (.iload_n 0, 1) := by decide +kernel
theorem dJ9_abs_0f7a4_5 : decode cJ9_abs_0f7a4 5 = .ok (.ineg, 1) := by decide +kernel
theorem dJ9_abs_0f7a4_6 : decode cJ9_abs_0f7a4 6 = .ok (.goto 4, 3) := by decide +kernel
theorem dJ9_abs_0f7a4_9 : decode cJ9_abs_0f7a4 9 = .ok (.iload_n 0, 1) := by decide +kernel
theorem dJ9_abs_0f7a4_10 : decode cJ9_abs_0f7a4 10 = .ok (.ireturn, 1) := by decide +kernel
theorem dJ9_max_7cf53_0 : decode cJ9_max_7cf53 0 = .ok (.iload_n 0, 1) := by decide +kernel
theorem dJ9_max_7cf53_1 : decode cJ9_max_7cf53 1 = .ok (.iload_n 1, 1) := by decide +kernel
theorem dJ9_max_7cf53_2 : decode cJ9_max_7cf53 2 = .ok (.if_icmp .lt 7, 3) := by decide +kernel
theorem dJ9_max_7cf53_5 : decode cJ9_max_7cf53 5 = .ok (.iload_n 0, 1) := by decide +kernel
theorem dJ9_max_7cf53_6 : decode cJ9_max_7cf53 6 = .ok (.goto 4, 3) := by decide +kernel
theorem dJ9_max_7cf53_9 : decode cJ9_max_7cf53 9 = .ok (.iload_n 1, 1) := by decide +kernel
theorem dJ9_max_7cf53_10 : decode cJ9_max_7cf53 10 = .ok (.ireturn, 1) := by decide +kernel
theorem dJ9_max_f86c9_0 : decode cJ9_max_f86c9 0 = .ok (.lload_n 0, 1) := by decide +kernel
theorem dJ9_max_f86c9_1 : decode cJ9_max_f86c9 1 = .ok (.lload_n 2, 1) := by decide +kernel
theorem dJ9_max_f86c9_2 : decode cJ9_max_f86c9 2 = .ok (.lcmp, 1) := by decide +kernel
theorem dJ9_max_f86c9_3 : decode cJ9_max_f86c9 3 = .ok (.ifCond .lt 7, 3) := by decide +kernel
theorem dJ9_max_f86c9_6 : decode cJ9_max_f86c9 6 = .ok (.lload_n 0, 1) := by decide +kernel
theorem dJ9_max_f86c9_7 : decode cJ9_max_f86c9 7 = .ok (.goto 4, 3) := by decide +kernel
theorem dJ9_max_f86c9_10 : decode cJ9_max_f86c9 10 = .ok (.lload_n 2, 1) := by decide +kernel
theorem dJ9_max_f86c9_11 : decode cJ9_max_f86c9 11 = .ok (.lreturn, 1) := by decide +kernel
theorem dJ9_min_7cf53_0 : decode cJ9_min_7cf53 0 = .ok (.iload_n 0, 1) := by decide +kernel
theorem dJ9_min_7cf53_1 : decode cJ9_min_7cf53 1 = .ok (.iload_n 1, 1) := by decide +kernel
theorem dJ9_min_7cf53_2 : decode cJ9_min_7cf53 2 = .ok (.if_icmp .gt 7, 3) := by decide +kernel
theorem dJ9_min_7cf53_5 : decode cJ9_min_7cf53 5 = .ok (.iload_n 0, 1) := by decide +kernel
theorem dJ9_min_7cf53_6 : decode cJ9_min_7cf53 6 = .ok (.goto 4, 3) := by decide +kernel
theorem dJ9_min_7cf53_9 : decode cJ9_min_7cf53 9 = .ok (.iload_n 1, 1) := by decide +kernel
theorem dJ9_min_7cf53_10 : decode cJ9_min_7cf53 10 = .ok (.ireturn, 1) := by decide +kernel
theorem dJ9_min_f86c9_0 : decode cJ9_min_f86c9 0 = .ok (.lload_n 0, 1) := by decide +kernel
theorem dJ9_min_f86c9_1 : decode cJ9_min_f86c9 1 = .ok (.lload_n 2, 1) := by decide +kernel
theorem dJ9_min_f86c9_2 : decode cJ9_min_f86c9 2 = .ok (.lcmp, 1) := by decide +kernel
theorem dJ9_min_f86c9_3 : decode cJ9_min_f86c9 3 = .ok (.ifCond .gt 7, 3) := by decide +kernel
theorem dJ9_min_f86c9_6 : decode cJ9_min_f86c9 6 = .ok (.lload_n 0, 1) := by decide +kernel
theorem dJ9_min_f86c9_7 : decode cJ9_min_f86c9 7 = .ok (.goto 4, 3) := by decide +kernel
theorem dJ9_min_f86c9_10 : decode cJ9_min_f86c9 10 = .ok (.lload_n 2, 1) := by decide +kernel
theorem dJ9_min_f86c9_11 : decode cJ9_min_f86c9 11 = .ok (.lreturn, 1) := by decide +kernel
theorem dL_law_0 : decode cL_law 0 = .ok (.new 7, 3) := by decide +kernel
theorem dL_law_3 : decode cL_law 3 = .ok (.dup, 1) := by decide +kernel
theorem dL_law_4 : decode cL_law 4 = .ok (.invokespecial 9, 3) := by decide +kernel
theorem dL_law_7 : decode cL_law 7 = .ok (.astore_n 1, 1) := by decide +kernel
theorem dL_law_8 : decode cL_law 8 = .ok (.new 10, 3) := by decide +kernel
theorem dL_law_11 : decode cL_law 11 = .ok (.dup, 1) := by decide +kernel
theorem dL_law_12 : decode cL_law 12 = .ok (.invokespecial 12, 3) := by decide +kernel
theorem dL_law_15 : decode cL_law 15 = .ok (.astore_n 2, 1) := by decide +kernel
theorem dL_law_16 : decode cL_law 16 = .ok (.iconst 0, 1) := by decide +kernel
theorem dL_law_17 : decode cL_law 17 = .ok (.istore_n 3, 1) := by decide +kernel
theorem dL_law_18 : decode cL_law 18 = .ok (.iload_n 3, 1) := by decide +kernel
theorem dL_law_19 : decode cL_law 19 = .ok (.aload_n 0, 1) := by decide +kernel
theorem dL_law_20 : decode cL_law 20 = .ok (.arraylength, 1) := by decide +kernel
theorem dL_law_21 : decode cL_law 21 = .ok (.bipush 6, 2) := by decide +kernel
theorem dL_law_23 : decode cL_law 23 = .ok (.isub, 1) := by decide +kernel
theorem dL_law_24 : decode cL_law 24 = .ok (.if_icmp .gt 1275, 3) := by decide +kernel
theorem dL_law_27 : decode cL_law 27 = .ok (.aload_n 0, 1) := by decide +kernel
theorem dL_law_28 : decode cL_law 28 = .ok (.iload_n 3, 1) := by decide +kernel
theorem dL_law_29 : decode cL_law 29 = .ok (.iaload, 1) := by decide +kernel
theorem dL_law_30 : decode cL_law 30 = .ok (.bipush 63, 2) := by decide +kernel
theorem dL_law_32 : decode cL_law 32 = .ok (.iand, 1) := by decide +kernel
theorem dL_law_33 : decode cL_law 33 = .ok (.tableswitch 1260 0 34 #[155, 198, 241, 304, 327, 350, 363, 376, 389, 432, 465, 498, 521, 554, 597, 620, 653, 696, 719, 752, 815, 858, 891, 934, 967, 1000, 1023, 1066, 1089, 1112, 1135, 1168, 1201, 1224, 1247], 155) := by decide +kernel
theorem dL_law_188 : decode cL_law 188 = .ok (.aload_n 1, 1) := by decide +kernel
theorem dL_law_189 : decode cL_law 189 = .ok (.aload_n 0, 1) := by decide +kernel
theorem dL_law_190 : decode cL_law 190 = .ok (.iload_n 3, 1) := by decide +kernel
theorem dL_law_191 : decode cL_law 191 = .ok (.iconst 1, 1) := by decide +kernel
theorem dL_law_192 : decode cL_law 192 = .ok (.iadd, 1) := by decide +kernel
theorem dL_law_193 : decode cL_law 193 = .ok (.iaload, 1) := by decide +kernel
theorem dL_law_194 : decode cL_law 194 = .ok (.aload_n 0, 1) := by decide +kernel
theorem dL_law_195 : decode cL_law 195 = .ok (.iload_n 3, 1) := by decide +kernel
theorem dL_law_196 : decode cL_law 196 = .ok (.iconst 2, 1) := by decide +kernel
theorem dL_law_197 : decode cL_law 197 = .ok (.iadd, 1) := by decide +kernel
theorem dL_law_198 : decode cL_law 198 = .ok (.iaload, 1) := by decide +kernel
theorem dL_law_199 : decode cL_law 199 = .ok (.aload_n 0, 1) := by decide +kernel
theorem dL_law_200 : decode cL_law 200 = .ok (.iload_n 3, 1) := by decide +kernel
theorem dL_law_201 : decode cL_law 201 = .ok (.iconst 3, 1) := by decide +kernel
theorem dL_law_202 : decode cL_law 202 = .ok (.iadd, 1) := by decide +kernel
theorem dL_law_203 : decode cL_law 203 = .ok (.iaload, 1) := by decide +kernel
theorem dL_law_204 : decode cL_law 204 = .ok (.invokevirtual 13, 3) := by decide +kernel
theorem dL_law_207 : decode cL_law 207 = .ok (.aload_n 2, 1) := by decide +kernel
theorem dL_law_208 : decode cL_law 208 = .ok (.aload_n 0, 1) := by decide +kernel
theorem dL_law_209 : decode cL_law 209 = .ok (.iload_n 3, 1) := by decide +kernel
theorem dL_law_210 : decode cL_law 210 = .ok (.iconst 1, 1) := by decide +kernel
theorem dL_law_211 : decode cL_law 211 = .ok (.iadd, 1) := by decide +kernel
theorem dL_law_212 : decode cL_law 212 = .ok (.iaload, 1) := by decide +kernel
theorem dL_law_213 : decode cL_law 213 = .ok (.aload_n 0, 1) := by decide +kernel
theorem dL_law_214 : decode cL_law 214 = .ok (.iload_n 3, 1) := by decide +kernel
theorem dL_law_215 : decode cL_law 215 = .ok (.iconst 2, 1) := by decide +kernel
theorem dL_law_216 : decode cL_law 216 = .ok (.iadd, 1) := by decide +kernel
theorem dL_law_217 : decode cL_law 217 = .ok (.iaload, 1) := by decide +kernel
theorem dL_law_218 : decode cL_law 218 = .ok (.aload_n 0, 1) := by decide +kernel
theorem dL_law_219 : decode cL_law 219 = .ok (.iload_n 3, 1) := by decide +kernel
theorem dL_law_220 : decode cL_law 220 = .ok (.iconst 3, 1) := by decide +kernel
theorem dL_law_221 : decode cL_law 221 = .ok (.iadd, 1) := by decide +kernel
theorem dL_law_222 : decode cL_law 222 = .ok (.iaload, 1) := by decide +kernel
theorem dL_law_223 : decode cL_law 223 = .ok (.invokevirtual 17, 3) := by decide +kernel
theorem dL_law_226 : decode cL_law 226 = .ok (.if_icmp .eq 1067, 3) := by decide +kernel
theorem dL_law_229 : decode cL_law 229 = .ok (.iconst 0, 1) := by decide +kernel
theorem dL_law_230 : decode cL_law 230 = .ok (.ireturn, 1) := by decide +kernel
theorem dL_law_231 : decode cL_law 231 = .ok (.aload_n 1, 1) := by decide +kernel
theorem dL_law_232 : decode cL_law 232 = .ok (.aload_n 0, 1) := by decide +kernel
theorem dL_law_233 : decode cL_law 233 = .ok (.iload_n 3, 1) := by decide +kernel
theorem dL_law_234 : decode cL_law 234 = .ok (.iconst 1, 1) := by decide +kernel
theorem dL_law_235 : decode cL_law 235 = .ok (.iadd, 1) := by decide +kernel
theorem dL_law_236 : decode cL_law 236 = .ok (.iaload, 1) := by decide +kernel
theorem dL_law_237 : decode cL_law 237 = .ok (.aload_n 0, 1) := by decide +kernel
theorem dL_law_238 : decode cL_law 238 = .ok (.iload_n 3, 1) := by decide +kernel
theorem dL_law_239 : decode cL_law 239 = .ok (.iconst 2, 1) := by decide +kernel
theorem dL_law_240 : decode cL_law 240 = .ok (.iadd, 1) := by decide +kernel
theorem dL_law_241 : decode cL_law 241 = .ok (.iaload, 1) := by decide +kernel
theorem dL_law_242 : decode cL_law 242 = .ok (.aload_n 0, 1) := by decide +kernel
theorem dL_law_243 : decode cL_law 243 = .ok (.iload_n 3, 1) := by decide +kernel
theorem dL_law_244 : decode cL_law 244 = .ok (.iconst 3, 1) := by decide +kernel
theorem dL_law_245 : decode cL_law 245 = .ok (.iadd, 1) := by decide +kernel
theorem dL_law_246 : decode cL_law 246 = .ok (.iaload, 1) := by decide +kernel
theorem dL_law_247 : decode cL_law 247 = .ok (.invokevirtual 18, 3) := by decide +kernel
theorem dL_law_250 : decode cL_law 250 = .ok (.aload_n 2, 1) := by decide +kernel
theorem dL_law_251 : decode cL_law 251 = .ok (.aload_n 0, 1) := by decide +kernel
theorem dL_law_252 : decode cL_law 252 = .ok (.iload_n 3, 1) := by decide +kernel
theorem dL_law_253 : decode cL_law 253 = .ok (.iconst 1, 1) := by decide +kernel
theorem dL_law_254 : decode cL_law 254 = .ok (.iadd, 1) := by decide +kernel
theorem dL_law_255 : decode cL_law 255 = .ok (.iaload, 1) := by decide +kernel
theorem dL_law_256 : decode cL_law 256 = .ok (.aload_n 0, 1) := by decide +kernel
theorem dL_law_257 : decode cL_law 257 = .ok (.iload_n 3, 1) := by decide +kernel
theorem dL_law_258 : decode cL_law 258 = .ok (.iconst 2, 1) := by decide +kernel
theorem dL_law_259 : decode cL_law 259 = .ok (.iadd, 1) := by decide +kernel
theorem dL_law_260 : decode cL_law 260 = .ok (.iaload, 1) := by decide +kernel
theorem dL_law_261 : decode cL_law 261 = .ok (.aload_n 0, 1) := by decide +kernel
theorem dL_law_262 : decode cL_law 262 = .ok (.iload_n 3, 1) := by decide +kernel
theorem dL_law_263 : decode cL_law 263 = .ok (.iconst 3, 1) := by decide +kernel
theorem dL_law_264 : decode cL_law 264 = .ok (.iadd, 1) := by decide +kernel
theorem dL_law_265 : decode cL_law 265 = .ok (.iaload, 1) := by decide +kernel
theorem dL_law_266 : decode cL_law 266 = .ok (.invokevirtual 21, 3) := by decide +kernel
theorem dL_law_269 : decode cL_law 269 = .ok (.if_icmp .eq 1024, 3) := by decide +kernel
theorem dL_law_272 : decode cL_law 272 = .ok (.iconst 0, 1) := by decide +kernel
theorem dL_law_273 : decode cL_law 273 = .ok (.ireturn, 1) := by decide +kernel
theorem dL_law_274 : decode cL_law 274 = .ok (.aload_n 1, 1) := by decide +kernel
theorem dL_law_275 : decode cL_law 275 = .ok (.aload_n 0, 1) := by decide +kernel
theorem dL_law_276 : decode cL_law 276 = .ok (.iload_n 3, 1) := by decide +kernel
theorem dL_law_277 : decode cL_law 277 = .ok (.iconst 1, 1) := by decide +kernel
theorem dL_law_278 : decode cL_law 278 = .ok (.iadd, 1) := by decide +kernel
theorem dL_law_279 : decode cL_law 279 = .ok (.iaload, 1) := by decide +kernel
theorem dL_law_280 : decode cL_law 280 = .ok (.aload_n 0, 1) := by decide +kernel
theorem dL_law_281 : decode cL_law 281 = .ok (.iload_n 3, 1) := by decide +kernel
theorem dL_law_282 : decode cL_law 282 = .ok (.iconst 2, 1) := by decide +kernel
theorem dL_law_283 : decode cL_law 283 = .ok (.iadd, 1) := by decide +kernel
theorem dL_law_284 : decode cL_law 284 = .ok (.iaload, 1) := by decide +kernel
theorem dL_law_285 : decode cL_law 285 = .ok (.aload_n 0, 1) := by decide +kernel
theorem dL_law_286 : decode cL_law 286 = .ok (.iload_n 3, 1) := by decide +kernel
theorem dL_law_287 : decode cL_law 287 = .ok (.iconst 3, 1) := by decide +kernel
theorem dL_law_288 : decode cL_law 288 = .ok (.iadd, 1) := by decide +kernel
theorem dL_law_289 : decode cL_law 289 = .ok (.iaload, 1) := by decide +kernel
theorem dL_law_290 : decode cL_law 290 = .ok (.aload_n 0, 1) := by decide +kernel
theorem dL_law_291 : decode cL_law 291 = .ok (.iload_n 3, 1) := by decide +kernel
theorem dL_law_292 : decode cL_law 292 = .ok (.iconst 4, 1) := by decide +kernel
theorem dL_law_293 : decode cL_law 293 = .ok (.iadd, 1) := by decide +kernel
theorem dL_law_294 : decode cL_law 294 = .ok (.iaload, 1) := by decide +kernel
theorem dL_law_295 : decode cL_law 295 = .ok (.aload_n 0, 1) := by decide +kernel
theorem dL_law_296 : decode cL_law 296 = .ok (.iload_n 3, 1) := by decide +kernel
theorem dL_law_297 : decode cL_law 297 = .ok (.iconst 5, 1) := by decide +kernel
theorem dL_law_298 : decode cL_law 298 = .ok (.iadd, 1) := by decide +kernel
theorem dL_law_299 : decode cL_law 299 = .ok (.iaload, 1) := by decide +kernel
theorem dL_law_300 : decode cL_law 300 = .ok (.invokevirtual 22, 3) := by decide +kernel
theorem dL_law_303 : decode cL_law 303 = .ok (.aload_n 2, 1) := by decide +kernel
theorem dL_law_304 : decode cL_law 304 = .ok (.aload_n 0, 1) := by decide +kernel
theorem dL_law_305 : decode cL_law 305 = .ok (.iload_n 3, 1) := by decide +kernel
theorem dL_law_306 : decode cL_law 306 = .ok (.iconst 1, 1) := by decide +kernel
theorem dL_law_307 : decode cL_law 307 = .ok (.iadd, 1) := by decide +kernel
theorem dL_law_308 : decode cL_law 308 = .ok (.iaload, 1) := by decide +kernel
theorem dL_law_309 : decode cL_law 309 = .ok (.aload_n 0, 1) := by decide +kernel
theorem dL_law_310 : decode cL_law 310 = .ok (.iload_n 3, 1) := by decide +kernel
theorem dL_law_311 : decode cL_law 311 = .ok (.iconst 2, 1) := by decide +kernel
theorem dL_law_312 : decode cL_law 312 = .ok (.iadd, 1) := by decide +kernel
theorem dL_law_313 : decode cL_law 313 = .ok (.iaload, 1) := by decide +kernel
theorem dL_law_314 : decode cL_law 314 = .ok (.aload_n 0, 1) := by decide +kernel
theorem dL_law_315 : decode cL_law 315 = .ok (.iload_n 3, 1) := by decide +kernel
theorem dL_law_316 : decode cL_law 316 = .ok (.iconst 3, 1) := by decide +kernel
theorem dL_law_317 : decode cL_law 317 = .ok (.iadd, 1) := by decide +kernel
theorem dL_law_318 : decode cL_law 318 = .ok (.iaload, 1) := by decide +kernel
theorem dL_law_319 : decode cL_law 319 = .ok (.aload_n 0, 1) := by decide +kernel
theorem dL_law_320 : decode cL_law 320 = .ok (.iload_n 3, 1) := by decide +kernel
theorem dL_law_321 : decode cL_law 321 = .ok (.iconst 4, 1) := by decide +kernel
theorem dL_law_322 : decode cL_law 322 = .ok (.iadd, 1) := by decide +kernel
theorem dL_law_323 : decode cL_law 323 = .ok (.iaload, 1) := by decide +kernel
theorem dL_law_324 : decode cL_law 324 = .ok (.aload_n 0, 1) := by decide +kernel
theorem dL_law_325 : decode cL_law 325 = .ok (.iload_n 3, 1) := by decide +kernel
theorem dL_law_326 : decode cL_law 326 = .ok (.iconst 5, 1) := by decide +kernel
theorem dL_law_327 : decode cL_law 327 = .ok (.iadd, 1) := by decide +kernel
theorem dL_law_328 : decode cL_law 328 = .ok (.iaload, 1) := by decide +kernel
theorem dL_law_329 : decode cL_law 329 = .ok (.invokevirtual 26, 3) := by decide +kernel
theorem dL_law_332 : decode cL_law 332 = .ok (.if_icmp .eq 961, 3) := by decide +kernel
theorem dL_law_335 : decode cL_law 335 = .ok (.iconst 0, 1) := by decide +kernel
theorem dL_law_336 : decode cL_law 336 = .ok (.ireturn, 1) := by decide +kernel
theorem dL_law_337 : decode cL_law 337 = .ok (.aload_n 1, 1) := by decide +kernel
theorem dL_law_338 : decode cL_law 338 = .ok (.aload_n 0, 1) := by decide +kernel
theorem dL_law_339 : decode cL_law 339 = .ok (.iload_n 3, 1) := by decide +kernel
theorem dL_law_340 : decode cL_law 340 = .ok (.iconst 1, 1) := by decide +kernel
theorem dL_law_341 : decode cL_law 341 = .ok (.iadd, 1) := by decide +kernel
theorem dL_law_342 : decode cL_law 342 = .ok (.iaload, 1) := by decide +kernel
theorem dL_law_343 : decode cL_law 343 = .ok (.invokevirtual 27, 3) := by decide +kernel
theorem dL_law_346 : decode cL_law 346 = .ok (.aload_n 2, 1) := by decide +kernel
theorem dL_law_347 : decode cL_law 347 = .ok (.aload_n 0, 1) := by decide +kernel
theorem dL_law_348 : decode cL_law 348 = .ok (.iload_n 3, 1) := by decide +kernel
theorem dL_law_349 : decode cL_law 349 = .ok (.iconst 1, 1) := by decide +kernel
theorem dL_law_350 : decode cL_law 350 = .ok (.iadd, 1) := by decide +kernel
theorem dL_law_351 : decode cL_law 351 = .ok (.iaload, 1) := by decide +kernel
theorem dL_law_352 : decode cL_law 352 = .ok (.invokevirtual 31, 3) := by decide +kernel
theorem dL_law_355 : decode cL_law 355 = .ok (.if_icmp .eq 938, 3) := by decide +kernel
theorem dL_law_358 : decode cL_law 358 = .ok (.iconst 0, 1) := by decide +kernel
theorem dL_law_359 : decode cL_law 359 = .ok (.ireturn, 1) := by decide +kernel
theorem dL_law_360 : decode cL_law 360 = .ok (.aload_n 1, 1) := by decide +kernel
theorem dL_law_361 : decode cL_law 361 = .ok (.aload_n 0, 1) := by decide +kernel
theorem dL_law_362 : decode cL_law 362 = .ok (.iload_n 3, 1) := by decide +kernel
theorem dL_law_363 : decode cL_law 363 = .ok (.iconst 1, 1) := by decide +kernel
theorem dL_law_364 : decode cL_law 364 = .ok (.iadd, 1) := by decide +kernel
theorem dL_law_365 : decode cL_law 365 = .ok (.iaload, 1) := by decide +kernel
theorem dL_law_366 : decode cL_law 366 = .ok (.invokevirtual 32, 3) := by decide +kernel
theorem dL_law_369 : decode cL_law 369 = .ok (.aload_n 2, 1) := by decide +kernel
theorem dL_law_370 : decode cL_law 370 = .ok (.aload_n 0, 1) := by decide +kernel
theorem dL_law_371 : decode cL_law 371 = .ok (.iload_n 3, 1) := by decide +kernel
theorem dL_law_372 : decode cL_law 372 = .ok (.iconst 1, 1) := by decide +kernel
theorem dL_law_373 : decode cL_law 373 = .ok (.iadd, 1) := by decide +kernel
theorem dL_law_374 : decode cL_law 374 = .ok (.iaload, 1) := by decide +kernel
theorem dL_law_375 : decode cL_law 375 = .ok (.invokevirtual 35, 3) := by decide +kernel
theorem dL_law_378 : decode cL_law 378 = .ok (.if_icmp .eq 915, 3) := by decide +kernel
theorem dL_law_381 : decode cL_law 381 = .ok (.iconst 0, 1) := by decide +kernel
theorem dL_law_382 : decode cL_law 382 = .ok (.ireturn, 1) := by decide +kernel
theorem dL_law_383 : decode cL_law 383 = .ok (.aload_n 1, 1) := by decide +kernel
theorem dL_law_384 : decode cL_law 384 = .ok (.invokevirtual 36, 3) := by decide +kernel
theorem dL_law_387 : decode cL_law 387 = .ok (.aload_n 2, 1) := by decide +kernel
theorem dL_law_388 : decode cL_law 388 = .ok (.invokevirtual 40, 3) := by decide +kernel
theorem dL_law_391 : decode cL_law 391 = .ok (.if_icmp .eq 902, 3) := by decide +kernel
theorem dL_law_394 : decode cL_law 394 = .ok (.iconst 0, 1) := by decide +kernel
theorem dL_law_395 : decode cL_law 395 = .ok (.ireturn, 1) := by decide +kernel
theorem dL_law_396 : decode cL_law 396 = .ok (.aload_n 1, 1) := by decide +kernel
theorem dL_law_397 : decode cL_law 397 = .ok (.invokevirtual 41, 3) := by decide +kernel
theorem dL_law_400 : decode cL_law 400 = .ok (.aload_n 2, 1) := by decide +kernel
theorem dL_law_401 : decode cL_law 401 = .ok (.invokevirtual 44, 3) := by decide +kernel
theorem dL_law_404 : decode cL_law 404 = .ok (.if_icmp .eq 889, 3) := by decide +kernel
theorem dL_law_407 : decode cL_law 407 = .ok (.iconst 0, 1) := by decide +kernel
theorem dL_law_408 : decode cL_law 408 = .ok (.ireturn, 1) := by decide +kernel
theorem dL_law_409 : decode cL_law 409 = .ok (.aload_n 1, 1) := by decide +kernel
theorem dL_law_410 : decode cL_law 410 = .ok (.invokevirtual 45, 3) := by decide +kernel
theorem dL_law_413 : decode cL_law 413 = .ok (.aload_n 2, 1) := by decide +kernel
theorem dL_law_414 : decode cL_law 414 = .ok (.invokevirtual 48, 3) := by decide +kernel
theorem dL_law_417 : decode cL_law 417 = .ok (.if_icmp .eq 876, 3) := by decide +kernel
theorem dL_law_420 : decode cL_law 420 = .ok (.iconst 0, 1) := by decide +kernel
theorem dL_law_421 : decode cL_law 421 = .ok (.ireturn, 1) := by decide +kernel
theorem dL_law_422 : decode cL_law 422 = .ok (.aload_n 1, 1) := by decide +kernel
theorem dL_law_423 : decode cL_law 423 = .ok (.aload_n 0, 1) := by decide +kernel
theorem dL_law_424 : decode cL_law 424 = .ok (.iload_n 3, 1) := by decide +kernel
theorem dL_law_425 : decode cL_law 425 = .ok (.iconst 1, 1) := by decide +kernel
theorem dL_law_426 : decode cL_law 426 = .ok (.iadd, 1) := by decide +kernel
theorem dL_law_427 : decode cL_law 427 = .ok (.iaload, 1) := by decide +kernel
theorem dL_law_428 : decode cL_law 428 = .ok (.aload_n 0, 1) := by decide +kernel
theorem dL_law_429 : decode cL_law 429 = .ok (.iload_n 3, 1) := by decide +kernel
theorem dL_law_430 : decode cL_law 430 = .ok (.iconst 2, 1) := by decide +kernel
theorem dL_law_431 : decode cL_law 431 = .ok (.iadd, 1) := by decide +kernel
theorem dL_law_432 : decode cL_law 432 = .ok (.iaload, 1) := by decide +kernel
theorem dL_law_433 : decode cL_law 433 = .ok (.aload_n 0, 1) := by decide +kernel
theorem dL_law_434 : decode cL_law 434 = .ok (.iload_n 3, 1) := by decide +kernel
theorem dL_law_435 : decode cL_law 435 = .ok (.iconst 3, 1) := by decide +kernel
theorem dL_law_436 : decode cL_law 436 = .ok (.iadd, 1) := by decide +kernel
theorem dL_law_437 : decode cL_law 437 = .ok (.iaload, 1) := by decide +kernel
theorem dL_law_438 : decode cL_law 438 = .ok (.invokevirtual 49, 3) := by decide +kernel
theorem dL_law_441 : decode cL_law 441 = .ok (.aload_n 2, 1) := by decide +kernel
theorem dL_law_442 : decode cL_law 442 = .ok (.aload_n 0, 1) := by decide +kernel
theorem dL_law_443 : decode cL_law 443 = .ok (.iload_n 3, 1) := by decide +kernel
theorem dL_law_444 : decode cL_law 444 = .ok (.iconst 1, 1) := by decide +kernel
theorem dL_law_445 : decode cL_law 445 = .ok (.iadd, 1) := by decide +kernel
theorem dL_law_446 : decode cL_law 446 = .ok (.iaload, 1) := by decide +kernel
theorem dL_law_447 : decode cL_law 447 = .ok (.aload_n 0, 1) := by decide +kernel
theorem dL_law_448 : decode cL_law 448 = .ok (.iload_n 3, 1) := by decide +kernel
theorem dL_law_449 : decode cL_law 449 = .ok (.iconst 2, 1) := by decide +kernel
theorem dL_law_450 : decode cL_law 450 = .ok (.iadd, 1) := by decide +kernel
theorem dL_law_451 : decode cL_law 451 = .ok (.iaload, 1) := by decide +kernel
theorem dL_law_452 : decode cL_law 452 = .ok (.aload_n 0, 1) := by decide +kernel
theorem dL_law_453 : decode cL_law 453 = .ok (.iload_n 3, 1) := by decide +kernel
theorem dL_law_454 : decode cL_law 454 = .ok (.iconst 3, 1) := by decide +kernel
theorem dL_law_455 : decode cL_law 455 = .ok (.iadd, 1) := by decide +kernel
theorem dL_law_456 : decode cL_law 456 = .ok (.iaload, 1) := by decide +kernel
theorem dL_law_457 : decode cL_law 457 = .ok (.invokevirtual 52, 3) := by decide +kernel
theorem dL_law_460 : decode cL_law 460 = .ok (.if_icmp .eq 833, 3) := by decide +kernel
theorem dL_law_463 : decode cL_law 463 = .ok (.iconst 0, 1) := by decide +kernel
theorem dL_law_464 : decode cL_law 464 = .ok (.ireturn, 1) := by decide +kernel
theorem dL_law_465 : decode cL_law 465 = .ok (.aload_n 1, 1) := by decide +kernel
theorem dL_law_466 : decode cL_law 466 = .ok (.aload_n 0, 1) := by decide +kernel
theorem dL_law_467 : decode cL_law 467 = .ok (.iload_n 3, 1) := by decide +kernel
theorem dL_law_468 : decode cL_law 468 = .ok (.iconst 1, 1) := by decide +kernel
theorem dL_law_469 : decode cL_law 469 = .ok (.iadd, 1) := by decide +kernel
theorem dL_law_470 : decode cL_law 470 = .ok (.iaload, 1) := by decide +kernel
theorem dL_law_471 : decode cL_law 471 = .ok (.aload_n 0, 1) := by decide +kernel
theorem dL_law_472 : decode cL_law 472 = .ok (.iload_n 3, 1) := by decide +kernel
theorem dL_law_473 : decode cL_law 473 = .ok (.iconst 2, 1) := by decide +kernel
theorem dL_law_474 : decode cL_law 474 = .ok (.iadd, 1) := by decide +kernel
theorem dL_law_475 : decode cL_law 475 = .ok (.iaload, 1) := by decide +kernel
theorem dL_law_476 : decode cL_law 476 = .ok (.invokevirtual 53, 3) := by decide +kernel
theorem dL_law_479 : decode cL_law 479 = .ok (.aload_n 2, 1) := by decide +kernel
theorem dL_law_480 : decode cL_law 480 = .ok (.aload_n 0, 1) := by decide +kernel
theorem dL_law_481 : decode cL_law 481 = .ok (.iload_n 3, 1) := by decide +kernel
theorem dL_law_482 : decode cL_law 482 = .ok (.iconst 1, 1) := by decide +kernel
theorem dL_law_483 : decode cL_law 483 = .ok (.iadd, 1) := by decide +kernel
theorem dL_law_484 : decode cL_law 484 = .ok (.iaload, 1) := by decide +kernel
theorem dL_law_485 : decode cL_law 485 = .ok (.aload_n 0, 1) := by decide +kernel
theorem dL_law_486 : decode cL_law 486 = .ok (.iload_n 3, 1) := by decide +kernel
theorem dL_law_487 : decode cL_law 487 = .ok (.iconst 2, 1) := by decide +kernel
theorem dL_law_488 : decode cL_law 488 = .ok (.iadd, 1) := by decide +kernel
theorem dL_law_489 : decode cL_law 489 = .ok (.iaload, 1) := by decide +kernel
theorem dL_law_490 : decode cL_law 490 = .ok (.invokevirtual 57, 3) := by decide +kernel
theorem dL_law_493 : decode cL_law 493 = .ok (.if_icmp .eq 800, 3) := by decide +kernel
theorem dL_law_496 : decode cL_law 496 = .ok (.iconst 0, 1) := by decide +kernel
theorem dL_law_497 : decode cL_law 497 = .ok (.ireturn, 1) := by decide +kernel
theorem dL_law_498 : decode cL_law 498 = .ok (.aload_n 1, 1) := by decide +kernel
theorem dL_law_499 : decode cL_law 499 = .ok (.aload_n 0, 1) := by decide +kernel
theorem dL_law_500 : decode cL_law 500 = .ok (.iload_n 3, 1) := by decide +kernel
theorem dL_law_501 : decode cL_law 501 = .ok (.iconst 1, 1) := by decide +kernel
theorem dL_law_502 : decode cL_law 502 = .ok (.iadd, 1) := by decide +kernel
theorem dL_law_503 : decode cL_law 503 = .ok (.iaload, 1) := by decide +kernel
theorem dL_law_504 : decode cL_law 504 = .ok (.aload_n 0, 1) := by decide +kernel
theorem dL_law_505 : decode cL_law 505 = .ok (.iload_n 3, 1) := by decide +kernel
theorem dL_law_506 : decode cL_law 506 = .ok (.iconst 2, 1) := by decide +kernel
theorem dL_law_507 : decode cL_law 507 = .ok (.iadd, 1) := by decide +kernel
theorem dL_law_508 : decode cL_law 508 = .ok (.iaload, 1) := by decide +kernel
theorem dL_law_509 : decode cL_law 509 = .ok (.invokevirtual 58, 3) := by decide +kernel
theorem dL_law_512 : decode cL_law 512 = .ok (.aload_n 2, 1) := by decide +kernel
theorem dL_law_513 : decode cL_law 513 = .ok (.aload_n 0, 1) := by decide +kernel
theorem dL_law_514 : decode cL_law 514 = .ok (.iload_n 3, 1) := by decide +kernel
theorem dL_law_515 : decode cL_law 515 = .ok (.iconst 1, 1) := by decide +kernel
theorem dL_law_516 : decode cL_law 516 = .ok (.iadd, 1) := by decide +kernel
theorem dL_law_517 : decode cL_law 517 = .ok (.iaload, 1) := by decide +kernel
theorem dL_law_518 : decode cL_law 518 = .ok (.aload_n 0, 1) := by decide +kernel
theorem dL_law_519 : decode cL_law 519 = .ok (.iload_n 3, 1) := by decide +kernel
theorem dL_law_520 : decode cL_law 520 = .ok (.iconst 2, 1) := by decide +kernel
theorem dL_law_521 : decode cL_law 521 = .ok (.iadd, 1) := by decide +kernel
theorem dL_law_522 : decode cL_law 522 = .ok (.iaload, 1) := by decide +kernel
theorem dL_law_523 : decode cL_law 523 = .ok (.invokevirtual 61, 3) := by decide +kernel
theorem dL_law_526 : decode cL_law 526 = .ok (.if_icmp .eq 767, 3) := by decide +kernel
theorem dL_law_529 : decode cL_law 529 = .ok (.iconst 0, 1) := by decide +kernel
theorem dL_law_530 : decode cL_law 530 = .ok (.ireturn, 1) := by decide +kernel
theorem dL_law_531 : decode cL_law 531 = .ok (.aload_n 1, 1) := by decide +kernel
theorem dL_law_532 : decode cL_law 532 = .ok (.aload_n 0, 1) := by decide +kernel
theorem dL_law_533 : decode cL_law 533 = .ok (.iload_n 3, 1) := by decide +kernel
theorem dL_law_534 : decode cL_law 534 = .ok (.iconst 1, 1) := by decide +kernel
theorem dL_law_535 : decode cL_law 535 = .ok (.iadd, 1) := by decide +kernel
theorem dL_law_536 : decode cL_law 536 = .ok (.iaload, 1) := by decide +kernel
theorem dL_law_537 : decode cL_law 537 = .ok (.invokevirtual 62, 3) := by decide +kernel
theorem dL_law_540 : decode cL_law 540 = .ok (.aload_n 2, 1) := by decide +kernel
theorem dL_law_541 : decode cL_law 541 = .ok (.aload_n 0, 1) := by decide +kernel
theorem dL_law_542 : decode cL_law 542 = .ok (.iload_n 3, 1) := by decide +kernel
theorem dL_law_543 : decode cL_law 543 = .ok (.iconst 1, 1) := by decide +kernel
theorem dL_law_544 : decode cL_law 544 = .ok (.iadd, 1) := by decide +kernel
theorem dL_law_545 : decode cL_law 545 = .ok (.iaload, 1) := by decide +kernel
theorem dL_law_546 : decode cL_law 546 = .ok (.invokevirtual 65, 3) := by decide +kernel
theorem dL_law_549 : decode cL_law 549 = .ok (.if_icmp .eq 744, 3) := by decide +kernel
theorem dL_law_552 : decode cL_law 552 = .ok (.iconst 0, 1) := by decide +kernel
theorem dL_law_553 : decode cL_law 553 = .ok (.ireturn, 1) := by decide +kernel
theorem dL_law_554 : decode cL_law 554 = .ok (.aload_n 1, 1) := by decide +kernel
theorem dL_law_555 : decode cL_law 555 = .ok (.aload_n 0, 1) := by decide +kernel
theorem dL_law_556 : decode cL_law 556 = .ok (.iload_n 3, 1) := by decide +kernel
theorem dL_law_557 : decode cL_law 557 = .ok (.iconst 1, 1) := by decide +kernel
theorem dL_law_558 : decode cL_law 558 = .ok (.iadd, 1) := by decide +kernel
theorem dL_law_559 : decode cL_law 559 = .ok (.iaload, 1) := by decide +kernel
theorem dL_law_560 : decode cL_law 560 = .ok (.aload_n 0, 1) := by decide +kernel
theorem dL_law_561 : decode cL_law 561 = .ok (.iload_n 3, 1) := by decide +kernel
theorem dL_law_562 : decode cL_law 562 = .ok (.iconst 2, 1) := by decide +kernel
theorem dL_law_563 : decode cL_law 563 = .ok (.iadd, 1) := by decide +kernel
theorem dL_law_564 : decode cL_law 564 = .ok (.iaload, 1) := by decide +kernel
theorem dL_law_565 : decode cL_law 565 = .ok (.invokevirtual 66, 3) := by decide +kernel
theorem dL_law_568 : decode cL_law 568 = .ok (.aload_n 2, 1) := by decide +kernel
theorem dL_law_569 : decode cL_law 569 = .ok (.aload_n 0, 1) := by decide +kernel
theorem dL_law_570 : decode cL_law 570 = .ok (.iload_n 3, 1) := by decide +kernel
theorem dL_law_571 : decode cL_law 571 = .ok (.iconst 1, 1) := by decide +kernel
theorem dL_law_572 : decode cL_law 572 = .ok (.iadd, 1) := by decide +kernel
theorem dL_law_573 : decode cL_law 573 = .ok (.iaload, 1) := by decide +kernel
theorem dL_law_574 : decode cL_law 574 = .ok (.aload_n 0, 1) := by decide +kernel
theorem dL_law_575 : decode cL_law 575 = .ok (.iload_n 3, 1) := by decide +kernel
theorem dL_law_576 : decode cL_law 576 = .ok (.iconst 2, 1) := by decide +kernel
theorem dL_law_577 : decode cL_law 577 = .ok (.iadd, 1) := by decide +kernel
theorem dL_law_578 : decode cL_law 578 = .ok (.iaload, 1) := by decide +kernel
theorem dL_law_579 : decode cL_law 579 = .ok (.invokevirtual 69, 3) := by decide +kernel
theorem dL_law_582 : decode cL_law 582 = .ok (.if_icmp .eq 711, 3) := by decide +kernel
theorem dL_law_585 : decode cL_law 585 = .ok (.iconst 0, 1) := by decide +kernel
theorem dL_law_586 : decode cL_law 586 = .ok (.ireturn, 1) := by decide +kernel
theorem dL_law_587 : decode cL_law 587 = .ok (.aload_n 1, 1) := by decide +kernel
theorem dL_law_588 : decode cL_law 588 = .ok (.aload_n 0, 1) := by decide +kernel
theorem dL_law_589 : decode cL_law 589 = .ok (.iload_n 3, 1) := by decide +kernel
theorem dL_law_590 : decode cL_law 590 = .ok (.iconst 1, 1) := by decide +kernel
theorem dL_law_591 : decode cL_law 591 = .ok (.iadd, 1) := by decide +kernel
theorem dL_law_592 : decode cL_law 592 = .ok (.iaload, 1) := by decide +kernel
theorem dL_law_593 : decode cL_law 593 = .ok (.aload_n 0, 1) := by decide +kernel
theorem dL_law_594 : decode cL_law 594 = .ok (.iload_n 3, 1) := by decide +kernel
theorem dL_law_595 : decode cL_law 595 = .ok (.iconst 2, 1) := by decide +kernel
theorem dL_law_596 : decode cL_law 596 = .ok (.iadd, 1) := by decide +kernel
theorem dL_law_597 : decode cL_law 597 = .ok (.iaload, 1) := by decide +kernel
theorem dL_law_598 : decode cL_law 598 = .ok (.aload_n 0, 1) := by decide +kernel
theorem dL_law_599 : decode cL_law 599 = .ok (.iload_n 3, 1) := by decide +kernel
theorem dL_law_600 : decode cL_law 600 = .ok (.iconst 3, 1) := by decide +kernel
theorem dL_law_601 : decode cL_law 601 = .ok (.iadd, 1) := by decide +kernel
theorem dL_law_602 : decode cL_law 602 = .ok (.iaload, 1) := by decide +kernel
theorem dL_law_603 : decode cL_law 603 = .ok (.invokevirtual 70, 3) := by decide +kernel
theorem dL_law_606 : decode cL_law 606 = .ok (.aload_n 2, 1) := by decide +kernel
theorem dL_law_607 : decode cL_law 607 = .ok (.aload_n 0, 1) := by decide +kernel
theorem dL_law_608 : decode cL_law 608 = .ok (.iload_n 3, 1) := by decide +kernel
theorem dL_law_609 : decode cL_law 609 = .ok (.iconst 1, 1) := by decide +kernel
theorem dL_law_610 : decode cL_law 610 = .ok (.iadd, 1) := by decide +kernel
theorem dL_law_611 : decode cL_law 611 = .ok (.iaload, 1) := by decide +kernel
theorem dL_law_612 : decode cL_law 612 = .ok (.aload_n 0, 1) := by decide +kernel
theorem dL_law_613 : decode cL_law 613 = .ok (.iload_n 3, 1) := by decide +kernel
theorem dL_law_614 : decode cL_law 614 = .ok (.iconst 2, 1) := by decide +kernel
theorem dL_law_615 : decode cL_law 615 = .ok (.iadd, 1) := by decide +kernel
theorem dL_law_616 : decode cL_law 616 = .ok (.iaload, 1) := by decide +kernel
theorem dL_law_617 : decode cL_law 617 = .ok (.aload_n 0, 1) := by decide +kernel
theorem dL_law_618 : decode cL_law 618 = .ok (.iload_n 3, 1) := by decide +kernel
theorem dL_law_619 : decode cL_law 619 = .ok (.iconst 3, 1) := by decide +kernel
theorem dL_law_620 : decode cL_law 620 = .ok (.iadd, 1) := by decide +kernel
theorem dL_law_621 : decode cL_law 621 = .ok (.iaload, 1) := by decide +kernel
theorem dL_law_622 : decode cL_law 622 = .ok (.invokevirtual 73, 3) := by decide +kernel
theorem dL_law_625 : decode cL_law 625 = .ok (.if_icmp .eq 668, 3) := by decide +kernel
theorem dL_law_628 : decode cL_law 628 = .ok (.iconst 0, 1) := by decide +kernel
theorem dL_law_629 : decode cL_law 629 = .ok (.ireturn, 1) := by decide +kernel
theorem dL_law_630 : decode cL_law 630 = .ok (.aload_n 1, 1) := by decide +kernel
theorem dL_law_631 : decode cL_law 631 = .ok (.aload_n 0, 1) := by decide +kernel
theorem dL_law_632 : decode cL_law 632 = .ok (.iload_n 3, 1) := by decide +kernel
theorem dL_law_633 : decode cL_law 633 = .ok (.iconst 1, 1) := by decide +kernel
theorem dL_law_634 : decode cL_law 634 = .ok (.iadd, 1) := by decide +kernel
theorem dL_law_635 : decode cL_law 635 = .ok (.iaload, 1) := by decide +kernel
theorem dL_law_636 : decode cL_law 636 = .ok (.invokevirtual 74, 3) := by decide +kernel
theorem dL_law_639 : decode cL_law 639 = .ok (.aload_n 2, 1) := by decide +kernel
theorem dL_law_640 : decode cL_law 640 = .ok (.aload_n 0, 1) := by decide +kernel
theorem dL_law_641 : decode cL_law 641 = .ok (.iload_n 3, 1) := by decide +kernel
theorem dL_law_642 : decode cL_law 642 = .ok (.iconst 1, 1) := by decide +kernel
theorem dL_law_643 : decode cL_law 643 = .ok (.iadd, 1) := by decide +kernel
theorem dL_law_644 : decode cL_law 644 = .ok (.iaload, 1) := by decide +kernel
theorem dL_law_645 : decode cL_law 645 = .ok (.invokevirtual 77, 3) := by decide +kernel
theorem dL_law_648 : decode cL_law 648 = .ok (.if_icmp .eq 645, 3) := by decide +kernel
theorem dL_law_651 : decode cL_law 651 = .ok (.iconst 0, 1) := by decide +kernel
theorem dL_law_652 : decode cL_law 652 = .ok (.ireturn, 1) := by decide +kernel
theorem dL_law_653 : decode cL_law 653 = .ok (.aload_n 1, 1) := by decide +kernel
theorem dL_law_654 : decode cL_law 654 = .ok (.aload_n 0, 1) := by decide +kernel
theorem dL_law_655 : decode cL_law 655 = .ok (.iload_n 3, 1) := by decide +kernel
theorem dL_law_656 : decode cL_law 656 = .ok (.iconst 1, 1) := by decide +kernel
theorem dL_law_657 : decode cL_law 657 = .ok (.iadd, 1) := by decide +kernel
theorem dL_law_658 : decode cL_law 658 = .ok (.iaload, 1) := by decide +kernel
theorem dL_law_659 : decode cL_law 659 = .ok (.aload_n 0, 1) := by decide +kernel
theorem dL_law_660 : decode cL_law 660 = .ok (.iload_n 3, 1) := by decide +kernel
theorem dL_law_661 : decode cL_law 661 = .ok (.iconst 2, 1) := by decide +kernel
theorem dL_law_662 : decode cL_law 662 = .ok (.iadd, 1) := by decide +kernel
theorem dL_law_663 : decode cL_law 663 = .ok (.iaload, 1) := by decide +kernel
theorem dL_law_664 : decode cL_law 664 = .ok (.invokevirtual 78, 3) := by decide +kernel
theorem dL_law_667 : decode cL_law 667 = .ok (.aload_n 2, 1) := by decide +kernel
theorem dL_law_668 : decode cL_law 668 = .ok (.aload_n 0, 1) := by decide +kernel
theorem dL_law_669 : decode cL_law 669 = .ok (.iload_n 3, 1) := by decide +kernel
theorem dL_law_670 : decode cL_law 670 = .ok (.iconst 1, 1) := by decide +kernel
theorem dL_law_671 : decode cL_law 671 = .ok (.iadd, 1) := by decide +kernel
theorem dL_law_672 : decode cL_law 672 = .ok (.iaload, 1) := by decide +kernel
theorem dL_law_673 : decode cL_law 673 = .ok (.aload_n 0, 1) := by decide +kernel
theorem dL_law_674 : decode cL_law 674 = .ok (.iload_n 3, 1) := by decide +kernel
theorem dL_law_675 : decode cL_law 675 = .ok (.iconst 2, 1) := by decide +kernel
theorem dL_law_676 : decode cL_law 676 = .ok (.iadd, 1) := by decide +kernel
theorem dL_law_677 : decode cL_law 677 = .ok (.iaload, 1) := by decide +kernel
theorem dL_law_678 : decode cL_law 678 = .ok (.invokevirtual 81, 3) := by decide +kernel
theorem dL_law_681 : decode cL_law 681 = .ok (.if_icmp .eq 612, 3) := by decide +kernel
theorem dL_law_684 : decode cL_law 684 = .ok (.iconst 0, 1) := by decide +kernel
theorem dL_law_685 : decode cL_law 685 = .ok (.ireturn, 1) := by decide +kernel
theorem dL_law_686 : decode cL_law 686 = .ok (.aload_n 1, 1) := by decide +kernel
theorem dL_law_687 : decode cL_law 687 = .ok (.aload_n 0, 1) := by decide +kernel
theorem dL_law_688 : decode cL_law 688 = .ok (.iload_n 3, 1) := by decide +kernel
theorem dL_law_689 : decode cL_law 689 = .ok (.iconst 1, 1) := by decide +kernel
theorem dL_law_690 : decode cL_law 690 = .ok (.iadd, 1) := by decide +kernel
theorem dL_law_691 : decode cL_law 691 = .ok (.iaload, 1) := by decide +kernel
theorem dL_law_692 : decode cL_law 692 = .ok (.aload_n 0, 1) := by decide +kernel
theorem dL_law_693 : decode cL_law 693 = .ok (.iload_n 3, 1) := by decide +kernel
theorem dL_law_694 : decode cL_law 694 = .ok (.iconst 2, 1) := by decide +kernel
theorem dL_law_695 : decode cL_law 695 = .ok (.iadd, 1) := by decide +kernel
theorem dL_law_696 : decode cL_law 696 = .ok (.iaload, 1) := by decide +kernel
theorem dL_law_697 : decode cL_law 697 = .ok (.aload_n 0, 1) := by decide +kernel
theorem dL_law_698 : decode cL_law 698 = .ok (.iload_n 3, 1) := by decide +kernel
theorem dL_law_699 : decode cL_law 699 = .ok (.iconst 3, 1) := by decide +kernel
theorem dL_law_700 : decode cL_law 700 = .ok (.iadd, 1) := by decide +kernel
theorem dL_law_701 : decode cL_law 701 = .ok (.iaload, 1) := by decide +kernel
theorem dL_law_702 : decode cL_law 702 = .ok (.invokevirtual 82, 3) := by decide +kernel
theorem dL_law_705 : decode cL_law 705 = .ok (.aload_n 2, 1) := by decide +kernel
theorem dL_law_706 : decode cL_law 706 = .ok (.aload_n 0, 1) := by decide +kernel
theorem dL_law_707 : decode cL_law 707 = .ok (.iload_n 3, 1) := by decide +kernel
theorem dL_law_708 : decode cL_law 708 = .ok (.iconst 1, 1) := by decide +kernel
theorem dL_law_709 : decode cL_law 709 = .ok (.iadd, 1) := by decide +kernel
theorem dL_law_710 : decode cL_law 710 = .ok (.iaload, 1) := by decide +kernel
theorem dL_law_711 : decode cL_law 711 = .ok (.aload_n 0, 1) := by decide +kernel
theorem dL_law_712 : decode cL_law 712 = .ok (.iload_n 3, 1) := by decide +kernel
theorem dL_law_713 : decode cL_law 713 = .ok (.iconst 2, 1) := by decide +kernel
theorem dL_law_714 : decode cL_law 714 = .ok (.iadd, 1) := by decide +kernel
theorem dL_law_715 : decode cL_law 715 = .ok (.iaload, 1) := by decide +kernel
theorem dL_law_716 : decode cL_law 716 = .ok (.aload_n 0, 1) := by decide +kernel
theorem dL_law_717 : decode cL_law 717 = .ok (.iload_n 3, 1) := by decide +kernel
theorem dL_law_718 : decode cL_law 718 = .ok (.iconst 3, 1) := by decide +kernel
theorem dL_law_719 : decode cL_law 719 = .ok (.iadd, 1) := by decide +kernel
theorem dL_law_720 : decode cL_law 720 = .ok (.iaload, 1) := by decide +kernel
theorem dL_law_721 : decode cL_law 721 = .ok (.invokevirtual 85, 3) := by decide +kernel
theorem dL_law_724 : decode cL_law 724 = .ok (.if_icmp .eq 569, 3) := by decide +kernel
theorem dL_law_727 : decode cL_law 727 = .ok (.iconst 0, 1) := by decide +kernel
theorem dL_law_728 : decode cL_law 728 = .ok (.ireturn, 1) := by decide +kernel
theorem dL_law_729 : decode cL_law 729 = .ok (.aload_n 1, 1) := by decide +kernel
theorem dL_law_730 : decode cL_law 730 = .ok (.aload_n 0, 1) := by decide +kernel
theorem dL_law_731 : decode cL_law 731 = .ok (.iload_n 3, 1) := by decide +kernel
theorem dL_law_732 : decode cL_law 732 = .ok (.iconst 1, 1) := by decide +kernel
theorem dL_law_733 : decode cL_law 733 = .ok (.iadd, 1) := by decide +kernel
theorem dL_law_734 : decode cL_law 734 = .ok (.iaload, 1) := by decide +kernel
theorem dL_law_735 : decode cL_law 735 = .ok (.invokevirtual 86, 3) := by decide +kernel
theorem dL_law_738 : decode cL_law 738 = .ok (.aload_n 2, 1) := by decide +kernel
theorem dL_law_739 : decode cL_law 739 = .ok (.aload_n 0, 1) := by decide +kernel
theorem dL_law_740 : decode cL_law 740 = .ok (.iload_n 3, 1) := by decide +kernel
theorem dL_law_741 : decode cL_law 741 = .ok (.iconst 1, 1) := by decide +kernel
theorem dL_law_742 : decode cL_law 742 = .ok (.iadd, 1) := by decide +kernel
theorem dL_law_743 : decode cL_law 743 = .ok (.iaload, 1) := by decide +kernel
theorem dL_law_744 : decode cL_law 744 = .ok (.invokevirtual 89, 3) := by decide +kernel
theorem dL_law_747 : decode cL_law 747 = .ok (.if_icmp .eq 546, 3) := by decide +kernel
theorem dL_law_750 : decode cL_law 750 = .ok (.iconst 0, 1) := by decide +kernel
theorem dL_law_751 : decode cL_law 751 = .ok (.ireturn, 1) := by decide +kernel
theorem dL_law_752 : decode cL_law 752 = .ok (.aload_n 1, 1) := by decide +kernel
theorem dL_law_753 : decode cL_law 753 = .ok (.aload_n 0, 1) := by decide +kernel
theorem dL_law_754 : decode cL_law 754 = .ok (.iload_n 3, 1) := by decide +kernel
theorem dL_law_755 : decode cL_law 755 = .ok (.iconst 1, 1) := by decide +kernel
theorem dL_law_756 : decode cL_law 756 = .ok (.iadd, 1) := by decide +kernel
theorem dL_law_757 : decode cL_law 757 = .ok (.iaload, 1) := by decide +kernel
theorem dL_law_758 : decode cL_law 758 = .ok (.aload_n 0, 1) := by decide +kernel
theorem dL_law_759 : decode cL_law 759 = .ok (.iload_n 3, 1) := by decide +kernel
theorem dL_law_760 : decode cL_law 760 = .ok (.iconst 2, 1) := by decide +kernel
theorem dL_law_761 : decode cL_law 761 = .ok (.iadd, 1) := by decide +kernel
theorem dL_law_762 : decode cL_law 762 = .ok (.iaload, 1) := by decide +kernel
theorem dL_law_763 : decode cL_law 763 = .ok (.invokevirtual 90, 3) := by decide +kernel
theorem dL_law_766 : decode cL_law 766 = .ok (.aload_n 2, 1) := by decide +kernel
theorem dL_law_767 : decode cL_law 767 = .ok (.aload_n 0, 1) := by decide +kernel
theorem dL_law_768 : decode cL_law 768 = .ok (.iload_n 3, 1) := by decide +kernel
theorem dL_law_769 : decode cL_law 769 = .ok (.iconst 1, 1) := by decide +kernel
theorem dL_law_770 : decode cL_law 770 = .ok (.iadd, 1) := by decide +kernel
theorem dL_law_771 : decode cL_law 771 = .ok (.iaload, 1) := by decide +kernel
theorem dL_law_772 : decode cL_law 772 = .ok (.aload_n 0, 1) := by decide +kernel
theorem dL_law_773 : decode cL_law 773 = .ok (.iload_n 3, 1) := by decide +kernel
theorem dL_law_774 : decode cL_law 774 = .ok (.iconst 2, 1) := by decide +kernel
theorem dL_law_775 : decode cL_law 775 = .ok (.iadd, 1) := by decide +kernel
theorem dL_law_776 : decode cL_law 776 = .ok (.iaload, 1) := by decide +kernel
theorem dL_law_777 : decode cL_law 777 = .ok (.invokevirtual 93, 3) := by decide +kernel
theorem dL_law_780 : decode cL_law 780 = .ok (.if_icmp .eq 513, 3) := by decide +kernel
theorem dL_law_783 : decode cL_law 783 = .ok (.iconst 0, 1) := by decide +kernel
theorem dL_law_784 : decode cL_law 784 = .ok (.ireturn, 1) := by decide +kernel
theorem dL_law_785 : decode cL_law 785 = .ok (.aload_n 1, 1) := by decide +kernel
theorem dL_law_786 : decode cL_law 786 = .ok (.aload_n 0, 1) := by decide +kernel
theorem dL_law_787 : decode cL_law 787 = .ok (.iload_n 3, 1) := by decide +kernel
theorem dL_law_788 : decode cL_law 788 = .ok (.iconst 1, 1) := by decide +kernel
theorem dL_law_789 : decode cL_law 789 = .ok (.iadd, 1) := by decide +kernel
theorem dL_law_790 : decode cL_law 790 = .ok (.iaload, 1) := by decide +kernel
theorem dL_law_791 : decode cL_law 791 = .ok (.aload_n 0, 1) := by decide +kernel
theorem dL_law_792 : decode cL_law 792 = .ok (.iload_n 3, 1) := by decide +kernel
theorem dL_law_793 : decode cL_law 793 = .ok (.iconst 2, 1) := by decide +kernel
theorem dL_law_794 : decode cL_law 794 = .ok (.iadd, 1) := by decide +kernel
theorem dL_law_795 : decode cL_law 795 = .ok (.iaload, 1) := by decide +kernel
theorem dL_law_796 : decode cL_law 796 = .ok (.aload_n 0, 1) := by decide +kernel
theorem dL_law_797 : decode cL_law 797 = .ok (.iload_n 3, 1) := by decide +kernel
theorem dL_law_798 : decode cL_law 798 = .ok (.iconst 3, 1) := by decide +kernel
theorem dL_law_799 : decode cL_law 799 = .ok (.iadd, 1) := by decide +kernel
theorem dL_law_800 : decode cL_law 800 = .ok (.iaload, 1) := by decide +kernel
theorem dL_law_801 : decode cL_law 801 = .ok (.aload_n 0, 1) := by decide +kernel
theorem dL_law_802 : decode cL_law 802 = .ok (.iload_n 3, 1) := by decide +kernel
theorem dL_law_803 : decode cL_law 803 = .ok (.iconst 4, 1) := by decide +kernel
theorem dL_law_804 : decode cL_law 804 = .ok (.iadd, 1) := by decide +kernel
theorem dL_law_805 : decode cL_law 805 = .ok (.iaload, 1) := by decide +kernel
theorem dL_law_806 : decode cL_law 806 = .ok (.aload_n 0, 1) := by decide +kernel
theorem dL_law_807 : decode cL_law 807 = .ok (.iload_n 3, 1) := by decide +kernel
theorem dL_law_808 : decode cL_law 808 = .ok (.iconst 5, 1) := by decide +kernel
theorem dL_law_809 : decode cL_law 809 = .ok (.iadd, 1) := by decide +kernel
theorem dL_law_810 : decode cL_law 810 = .ok (.iaload, 1) := by decide +kernel
theorem dL_law_811 : decode cL_law 811 = .ok (.invokevirtual 94, 3) := by decide +kernel
theorem dL_law_814 : decode cL_law 814 = .ok (.aload_n 2, 1) := by decide +kernel
theorem dL_law_815 : decode cL_law 815 = .ok (.aload_n 0, 1) := by decide +kernel
theorem dL_law_816 : decode cL_law 816 = .ok (.iload_n 3, 1) := by decide +kernel
theorem dL_law_817 : decode cL_law 817 = .ok (.iconst 1, 1) := by decide +kernel
theorem dL_law_818 : decode cL_law 818 = .ok (.iadd, 1) := by decide +kernel
theorem dL_law_819 : decode cL_law 819 = .ok (.iaload, 1) := by decide +kernel
theorem dL_law_820 : decode cL_law 820 = .ok (.aload_n 0, 1) := by decide +kernel
theorem dL_law_821 : decode cL_law 821 = .ok (.iload_n 3, 1) := by decide +kernel
theorem dL_law_822 : decode cL_law 822 = .ok (.iconst 2, 1) := by decide +kernel
theorem dL_law_823 : decode cL_law 823 = .ok (.iadd, 1) := by decide +kernel
theorem dL_law_824 : decode cL_law 824 = .ok (.iaload, 1) := by decide +kernel
theorem dL_law_825 : decode cL_law 825 = .ok (.aload_n 0, 1) := by decide +kernel
theorem dL_law_826 : decode cL_law 826 = .ok (.iload_n 3, 1) := by decide +kernel
theorem dL_law_827 : decode cL_law 827 = .ok (.iconst 3, 1) := by decide +kernel
theorem dL_law_828 : decode cL_law 828 = .ok (.iadd, 1) := by decide +kernel
theorem dL_law_829 : decode cL_law 829 = .ok (.iaload, 1) := by decide +kernel
theorem dL_law_830 : decode cL_law 830 = .ok (.aload_n 0, 1) := by decide +kernel
theorem dL_law_831 : decode cL_law 831 = .ok (.iload_n 3, 1) := by decide +kernel
theorem dL_law_832 : decode cL_law 832 = .ok (.iconst 4, 1) := by decide +kernel
theorem dL_law_833 : decode cL_law 833 = .ok (.iadd, 1) := by decide +kernel
theorem dL_law_834 : decode cL_law 834 = .ok (.iaload, 1) := by decide +kernel
theorem dL_law_835 : decode cL_law 835 = .ok (.aload_n 0, 1) := by decide +kernel
theorem dL_law_836 : decode cL_law 836 = .ok (.iload_n 3, 1) := by decide +kernel
theorem dL_law_837 : decode cL_law 837 = .ok (.iconst 5, 1) := by decide +kernel
theorem dL_law_838 : decode cL_law 838 = .ok (.iadd, 1) := by decide +kernel
theorem dL_law_839 : decode cL_law 839 = .ok (.iaload, 1) := by decide +kernel
theorem dL_law_840 : decode cL_law 840 = .ok (.invokevirtual 97, 3) := by decide +kernel
theorem dL_law_843 : decode cL_law 843 = .ok (.if_icmp .eq 450, 3) := by decide +kernel
theorem dL_law_846 : decode cL_law 846 = .ok (.iconst 0, 1) := by decide +kernel
theorem dL_law_847 : decode cL_law 847 = .ok (.ireturn, 1) := by decide +kernel
theorem dL_law_848 : decode cL_law 848 = .ok (.aload_n 1, 1) := by decide +kernel
theorem dL_law_849 : decode cL_law 849 = .ok (.aload_n 0, 1) := by decide +kernel
theorem dL_law_850 : decode cL_law 850 = .ok (.iload_n 3, 1) := by decide +kernel
theorem dL_law_851 : decode cL_law 851 = .ok (.iconst 1, 1) := by decide +kernel
theorem dL_law_852 : decode cL_law 852 = .ok (.iadd, 1) := by decide +kernel
theorem dL_law_853 : decode cL_law 853 = .ok (.iaload, 1) := by decide +kernel
theorem dL_law_854 : decode cL_law 854 = .ok (.aload_n 0, 1) := by decide +kernel
theorem dL_law_855 : decode cL_law 855 = .ok (.iload_n 3, 1) := by decide +kernel
theorem dL_law_856 : decode cL_law 856 = .ok (.iconst 2, 1) := by decide +kernel
theorem dL_law_857 : decode cL_law 857 = .ok (.iadd, 1) := by decide +kernel
theorem dL_law_858 : decode cL_law 858 = .ok (.iaload, 1) := by decide +kernel
theorem dL_law_859 : decode cL_law 859 = .ok (.aload_n 0, 1) := by decide +kernel
theorem dL_law_860 : decode cL_law 860 = .ok (.iload_n 3, 1) := by decide +kernel
theorem dL_law_861 : decode cL_law 861 = .ok (.iconst 3, 1) := by decide +kernel
theorem dL_law_862 : decode cL_law 862 = .ok (.iadd, 1) := by decide +kernel
theorem dL_law_863 : decode cL_law 863 = .ok (.iaload, 1) := by decide +kernel
theorem dL_law_864 : decode cL_law 864 = .ok (.invokevirtual 98, 3) := by decide +kernel
theorem dL_law_867 : decode cL_law 867 = .ok (.aload_n 2, 1) := by decide +kernel
theorem dL_law_868 : decode cL_law 868 = .ok (.aload_n 0, 1) := by decide +kernel
theorem dL_law_869 : decode cL_law 869 = .ok (.iload_n 3, 1) := by decide +kernel
theorem dL_law_870 : decode cL_law 870 = .ok (.iconst 1, 1) := by decide +kernel
theorem dL_law_871 : decode cL_law 871 = .ok (.iadd, 1) := by decide +kernel
theorem dL_law_872 : decode cL_law 872 = .ok (.iaload, 1) := by decide +kernel
theorem dL_law_873 : decode cL_law 873 = .ok (.aload_n 0, 1) := by decide +kernel
theorem dL_law_874 : decode cL_law 874 = .ok (.iload_n 3, 1) := by decide +kernel
theorem dL_law_875 : decode cL_law 875 = .ok (.iconst 2, 1) := by decide +kernel
theorem dL_law_876 : decode cL_law 876 = .ok (.iadd, 1) := by decide +kernel
theorem dL_law_877 : decode cL_law 877 = .ok (.iaload, 1) := by decide +kernel
theorem dL_law_878 : decode cL_law 878 = .ok (.aload_n 0, 1) := by decide +kernel
theorem dL_law_879 : decode cL_law 879 = .ok (.iload_n 3, 1) := by decide +kernel
theorem dL_law_880 : decode cL_law 880 = .ok (.iconst 3, 1) := by decide +kernel
theorem dL_law_881 : decode cL_law 881 = .ok (.iadd, 1) := by decide +kernel
theorem dL_law_882 : decode cL_law 882 = .ok (.iaload, 1) := by decide +kernel
theorem dL_law_883 : decode cL_law 883 = .ok (.invokevirtual 101, 3) := by decide +kernel
theorem dL_law_886 : decode cL_law 886 = .ok (.if_icmp .eq 407, 3) := by decide +kernel
theorem dL_law_889 : decode cL_law 889 = .ok (.iconst 0, 1) := by decide +kernel
theorem dL_law_890 : decode cL_law 890 = .ok (.ireturn, 1) := by decide +kernel
theorem dL_law_891 : decode cL_law 891 = .ok (.aload_n 1, 1) := by decide +kernel
theorem dL_law_892 : decode cL_law 892 = .ok (.aload_n 0, 1) := by decide +kernel
theorem dL_law_893 : decode cL_law 893 = .ok (.iload_n 3, 1) := by decide +kernel
theorem dL_law_894 : decode cL_law 894 = .ok (.iconst 1, 1) := by decide +kernel
theorem dL_law_895 : decode cL_law 895 = .ok (.iadd, 1) := by decide +kernel
theorem dL_law_896 : decode cL_law 896 = .ok (.iaload, 1) := by decide +kernel
theorem dL_law_897 : decode cL_law 897 = .ok (.aload_n 0, 1) := by decide +kernel
theorem dL_law_898 : decode cL_law 898 = .ok (.iload_n 3, 1) := by decide +kernel
theorem dL_law_899 : decode cL_law 899 = .ok (.iconst 2, 1) := by decide +kernel
theorem dL_law_900 : decode cL_law 900 = .ok (.iadd, 1) := by decide +kernel
theorem dL_law_901 : decode cL_law 901 = .ok (.iaload, 1) := by decide +kernel
theorem dL_law_902 : decode cL_law 902 = .ok (.invokevirtual 102, 3) := by decide +kernel
theorem dL_law_905 : decode cL_law 905 = .ok (.aload_n 2, 1) := by decide +kernel
theorem dL_law_906 : decode cL_law 906 = .ok (.aload_n 0, 1) := by decide +kernel
theorem dL_law_907 : decode cL_law 907 = .ok (.iload_n 3, 1) := by decide +kernel
theorem dL_law_908 : decode cL_law 908 = .ok (.iconst 1, 1) := by decide +kernel
theorem dL_law_909 : decode cL_law 909 = .ok (.iadd, 1) := by decide +kernel
theorem dL_law_910 : decode cL_law 910 = .ok (.iaload, 1) := by decide +kernel
theorem dL_law_911 : decode cL_law 911 = .ok (.aload_n 0, 1) := by decide +kernel
theorem dL_law_912 : decode cL_law 912 = .ok (.iload_n 3, 1) := by decide +kernel
theorem dL_law_913 : decode cL_law 913 = .ok (.iconst 2, 1) := by decide +kernel
theorem dL_law_914 : decode cL_law 914 = .ok (.iadd, 1) := by decide +kernel
theorem dL_law_915 : decode cL_law 915 = .ok (.iaload, 1) := by decide +kernel
theorem dL_law_916 : decode cL_law 916 = .ok (.invokevirtual 105, 3) := by decide +kernel
theorem dL_law_919 : decode cL_law 919 = .ok (.if_icmp .eq 374, 3) := by decide +kernel
theorem dL_law_922 : decode cL_law 922 = .ok (.iconst 0, 1) := by decide +kernel
theorem dL_law_923 : decode cL_law 923 = .ok (.ireturn, 1) := by decide +kernel
theorem dL_law_924 : decode cL_law 924 = .ok (.aload_n 1, 1) := by decide +kernel
theorem dL_law_925 : decode cL_law 925 = .ok (.aload_n 0, 1) := by decide +kernel
theorem dL_law_926 : decode cL_law 926 = .ok (.iload_n 3, 1) := by decide +kernel
theorem dL_law_927 : decode cL_law 927 = .ok (.iconst 1, 1) := by decide +kernel
theorem dL_law_928 : decode cL_law 928 = .ok (.iadd, 1) := by decide +kernel
theorem dL_law_929 : decode cL_law 929 = .ok (.iaload, 1) := by decide +kernel
theorem dL_law_930 : decode cL_law 930 = .ok (.aload_n 0, 1) := by decide +kernel
theorem dL_law_931 : decode cL_law 931 = .ok (.iload_n 3, 1) := by decide +kernel
theorem dL_law_932 : decode cL_law 932 = .ok (.iconst 2, 1) := by decide +kernel
theorem dL_law_933 : decode cL_law 933 = .ok (.iadd, 1) := by decide +kernel
theorem dL_law_934 : decode cL_law 934 = .ok (.iaload, 1) := by decide +kernel
theorem dL_law_935 : decode cL_law 935 = .ok (.aload_n 0, 1) := by decide +kernel
theorem dL_law_936 : decode cL_law 936 = .ok (.iload_n 3, 1) := by decide +kernel
theorem dL_law_937 : decode cL_law 937 = .ok (.iconst 3, 1) := by decide +kernel
theorem dL_law_938 : decode cL_law 938 = .ok (.iadd, 1) := by decide +kernel
theorem dL_law_939 : decode cL_law 939 = .ok (.iaload, 1) := by decide +kernel
theorem dL_law_940 : decode cL_law 940 = .ok (.invokevirtual 106, 3) := by decide +kernel
theorem dL_law_943 : decode cL_law 943 = .ok (.aload_n 2, 1) := by decide +kernel
theorem dL_law_944 : decode cL_law 944 = .ok (.aload_n 0, 1) := by decide +kernel
theorem dL_law_945 : decode cL_law 945 = .ok (.iload_n 3, 1) := by decide +kernel
theorem dL_law_946 : decode cL_law 946 = .ok (.iconst 1, 1) := by decide +kernel
theorem dL_law_947 : decode cL_law 947 = .ok (.iadd, 1) := by decide +kernel
theorem dL_law_948 : decode cL_law 948 = .ok (.iaload, 1) := by decide +kernel
theorem dL_law_949 : decode cL_law 949 = .ok (.aload_n 0, 1) := by decide +kernel
theorem dL_law_950 : decode cL_law 950 = .ok (.iload_n 3, 1) := by decide +kernel
theorem dL_law_951 : decode cL_law 951 = .ok (.iconst 2, 1) := by decide +kernel
theorem dL_law_952 : decode cL_law 952 = .ok (.iadd, 1) := by decide +kernel
theorem dL_law_953 : decode cL_law 953 = .ok (.iaload, 1) := by decide +kernel
theorem dL_law_954 : decode cL_law 954 = .ok (.aload_n 0, 1) := by decide +kernel
theorem dL_law_955 : decode cL_law 955 = .ok (.iload_n 3, 1) := by decide +kernel
theorem dL_law_956 : decode cL_law 956 = .ok (.iconst 3, 1) := by decide +kernel
theorem dL_law_957 : decode cL_law 957 = .ok (.iadd, 1) := by decide +kernel
theorem dL_law_958 : decode cL_law 958 = .ok (.iaload, 1) := by decide +kernel
theorem dL_law_959 : decode cL_law 959 = .ok (.invokevirtual 109, 3) := by decide +kernel
theorem dL_law_962 : decode cL_law 962 = .ok (.if_icmp .eq 331, 3) := by decide +kernel
theorem dL_law_965 : decode cL_law 965 = .ok (.iconst 0, 1) := by decide +kernel
theorem dL_law_966 : decode cL_law 966 = .ok (.ireturn, 1) := by decide +kernel
theorem dL_law_967 : decode cL_law 967 = .ok (.aload_n 1, 1) := by decide +kernel
theorem dL_law_968 : decode cL_law 968 = .ok (.aload_n 0, 1) := by decide +kernel
theorem dL_law_969 : decode cL_law 969 = .ok (.iload_n 3, 1) := by decide +kernel
theorem dL_law_970 : decode cL_law 970 = .ok (.iconst 1, 1) := by decide +kernel
theorem dL_law_971 : decode cL_law 971 = .ok (.iadd, 1) := by decide +kernel
theorem dL_law_972 : decode cL_law 972 = .ok (.iaload, 1) := by decide +kernel
theorem dL_law_973 : decode cL_law 973 = .ok (.aload_n 0, 1) := by decide +kernel
theorem dL_law_974 : decode cL_law 974 = .ok (.iload_n 3, 1) := by decide +kernel
theorem dL_law_975 : decode cL_law 975 = .ok (.iconst 2, 1) := by decide +kernel
theorem dL_law_976 : decode cL_law 976 = .ok (.iadd, 1) := by decide +kernel
theorem dL_law_977 : decode cL_law 977 = .ok (.iaload, 1) := by decide +kernel
theorem dL_law_978 : decode cL_law 978 = .ok (.invokevirtual 110, 3) := by decide +kernel
theorem dL_law_981 : decode cL_law 981 = .ok (.aload_n 2, 1) := by decide +kernel
theorem dL_law_982 : decode cL_law 982 = .ok (.aload_n 0, 1) := by decide +kernel
theorem dL_law_983 : decode cL_law 983 = .ok (.iload_n 3, 1) := by decide +kernel
theorem dL_law_984 : decode cL_law 984 = .ok (.iconst 1, 1) := by decide +kernel
theorem dL_law_985 : decode cL_law 985 = .ok (.iadd, 1) := by decide +kernel
theorem dL_law_986 : decode cL_law 986 = .ok (.iaload, 1) := by decide +kernel
theorem dL_law_987 : decode cL_law 987 = .ok (.aload_n 0, 1) := by decide +kernel
theorem dL_law_988 : decode cL_law 988 = .ok (.iload_n 3, 1) := by decide +kernel
theorem dL_law_989 : decode cL_law 989 = .ok (.iconst 2, 1) := by decide +kernel
theorem dL_law_990 : decode cL_law 990 = .ok (.iadd, 1) := by decide +kernel
theorem dL_law_991 : decode cL_law 991 = .ok (.iaload, 1) := by decide +kernel
theorem dL_law_992 : decode cL_law 992 = .ok (.invokevirtual 113, 3) := by decide +kernel
theorem dL_law_995 : decode cL_law 995 = .ok (.if_icmp .eq 298, 3) := by decide +kernel
theorem dL_law_998 : decode cL_law 998 = .ok (.iconst 0, 1) := by decide +kernel
theorem dL_law_999 : decode cL_law 999 = .ok (.ireturn, 1) := by decide +kernel
theorem dL_law_1000 : decode cL_law 1000 = .ok (.aload_n 1, 1) := by decide +kernel
theorem dL_law_1001 : decode cL_law 1001 = .ok (.aload_n 0, 1) := by decide +kernel
theorem dL_law_1002 : decode cL_law 1002 = .ok (.iload_n 3, 1) := by decide +kernel
theorem dL_law_1003 : decode cL_law 1003 = .ok (.iconst 1, 1) := by decide +kernel
theorem dL_law_1004 : decode cL_law 1004 = .ok (.iadd, 1) := by decide +kernel
theorem dL_law_1005 : decode cL_law 1005 = .ok (.iaload, 1) := by decide +kernel
theorem dL_law_1006 : decode cL_law 1006 = .ok (.aload_n 0, 1) := by decide +kernel
theorem dL_law_1007 : decode cL_law 1007 = .ok (.iload_n 3, 1) := by decide +kernel
theorem dL_law_1008 : decode cL_law 1008 = .ok (.iconst 2, 1) := by decide +kernel
theorem dL_law_1009 : decode cL_law 1009 = .ok (.iadd, 1) := by decide +kernel
theorem dL_law_1010 : decode cL_law 1010 = .ok (.iaload, 1) := by decide +kernel
theorem dL_law_1011 : decode cL_law 1011 = .ok (.invokevirtual 114, 3) := by decide +kernel
theorem dL_law_1014 : decode cL_law 1014 = .ok (.aload_n 2, 1) := by decide +kernel
theorem dL_law_1015 : decode cL_law 1015 = .ok (.aload_n 0, 1) := by decide +kernel
theorem dL_law_1016 : decode cL_law 1016 = .ok (.iload_n 3, 1) := by decide +kernel
theorem dL_law_1017 : decode cL_law 1017 = .ok (.iconst 1, 1) := by decide +kernel
theorem dL_law_1018 : decode cL_law 1018 = .ok (.iadd, 1) := by decide +kernel
theorem dL_law_1019 : decode cL_law 1019 = .ok (.iaload, 1) := by decide +kernel
theorem dL_law_1020 : decode cL_law 1020 = .ok (.aload_n 0, 1) := by decide +kernel
theorem dL_law_1021 : decode cL_law 1021 = .ok (.iload_n 3, 1) := by decide +kernel
theorem dL_law_1022 : decode cL_law 1022 = .ok (.iconst 2, 1) := by decide +kernel
theorem dL_law_1023 : decode cL_law 1023 = .ok (.iadd, 1) := by decide +kernel
theorem dL_law_1024 : decode cL_law 1024 = .ok (.iaload, 1) := by decide +kernel
theorem dL_law_1025 : decode cL_law 1025 = .ok (.invokevirtual 117, 3) := by decide +kernel
theorem dL_law_1028 : decode cL_law 1028 = .ok (.if_icmp .eq 265, 3) := by decide +kernel
theorem dL_law_1031 : decode cL_law 1031 = .ok (.iconst 0, 1) := by decide +kernel
theorem dL_law_1032 : decode cL_law 1032 = .ok (.ireturn, 1) := by decide +kernel
theorem dL_law_1033 : decode cL_law 1033 = .ok (.aload_n 1, 1) := by decide +kernel
theorem dL_law_1034 : decode cL_law 1034 = .ok (.aload_n 0, 1) := by decide +kernel
theorem dL_law_1035 : decode cL_law 1035 = .ok (.iload_n 3, 1) := by decide +kernel
theorem dL_law_1036 : decode cL_law 1036 = .ok (.iconst 1, 1) := by decide +kernel
theorem dL_law_1037 : decode cL_law 1037 = .ok (.iadd, 1) := by decide +kernel
theorem dL_law_1038 : decode cL_law 1038 = .ok (.iaload, 1) := by decide +kernel
theorem dL_law_1039 : decode cL_law 1039 = .ok (.invokevirtual 118, 3) := by decide +kernel
theorem dL_law_1042 : decode cL_law 1042 = .ok (.aload_n 2, 1) := by decide +kernel
theorem dL_law_1043 : decode cL_law 1043 = .ok (.aload_n 0, 1) := by decide +kernel
theorem dL_law_1044 : decode cL_law 1044 = .ok (.iload_n 3, 1) := by decide +kernel
theorem dL_law_1045 : decode cL_law 1045 = .ok (.iconst 1, 1) := by decide +kernel
theorem dL_law_1046 : decode cL_law 1046 = .ok (.iadd, 1) := by decide +kernel
theorem dL_law_1047 : decode cL_law 1047 = .ok (.iaload, 1) := by decide +kernel
theorem dL_law_1048 : decode cL_law 1048 = .ok (.invokevirtual 121, 3) := by decide +kernel
theorem dL_law_1051 : decode cL_law 1051 = .ok (.if_icmp .eq 242, 3) := by decide +kernel
theorem dL_law_1054 : decode cL_law 1054 = .ok (.iconst 0, 1) := by decide +kernel
theorem dL_law_1055 : decode cL_law 1055 = .ok (.ireturn, 1) := by decide +kernel
theorem dL_law_1056 : decode cL_law 1056 = .ok (.aload_n 1, 1) := by decide +kernel
theorem dL_law_1057 : decode cL_law 1057 = .ok (.aload_n 0, 1) := by decide +kernel
theorem dL_law_1058 : decode cL_law 1058 = .ok (.iload_n 3, 1) := by decide +kernel
theorem dL_law_1059 : decode cL_law 1059 = .ok (.iconst 1, 1) := by decide +kernel
theorem dL_law_1060 : decode cL_law 1060 = .ok (.iadd, 1) := by decide +kernel
theorem dL_law_1061 : decode cL_law 1061 = .ok (.iaload, 1) := by decide +kernel
theorem dL_law_1062 : decode cL_law 1062 = .ok (.aload_n 0, 1) := by decide +kernel
theorem dL_law_1063 : decode cL_law 1063 = .ok (.iload_n 3, 1) := by decide +kernel
theorem dL_law_1064 : decode cL_law 1064 = .ok (.iconst 2, 1) := by decide +kernel
theorem dL_law_1065 : decode cL_law 1065 = .ok (.iadd, 1) := by decide +kernel
theorem dL_law_1066 : decode cL_law 1066 = .ok (.iaload, 1) := by decide +kernel
theorem dL_law_1067 : decode cL_law 1067 = .ok (.aload_n 0, 1) := by decide +kernel
theorem dL_law_1068 : decode cL_law 1068 = .ok (.iload_n 3, 1) := by decide +kernel
theorem dL_law_1069 : decode cL_law 1069 = .ok (.iconst 3, 1) := by decide +kernel
theorem dL_law_1070 : decode cL_law 1070 = .ok (.iadd, 1) := by decide +kernel
theorem dL_law_1071 : decode cL_law 1071 = .ok (.iaload, 1) := by decide +kernel
theorem dL_law_1072 : decode cL_law 1072 = .ok (.invokevirtual 122, 3) := by decide +kernel
theorem dL_law_1075 : decode cL_law 1075 = .ok (.aload_n 2, 1) := by decide +kernel
theorem dL_law_1076 : decode cL_law 1076 = .ok (.aload_n 0, 1) := by decide +kernel
theorem dL_law_1077 : decode cL_law 1077 = .ok (.iload_n 3, 1) := by decide +kernel
theorem dL_law_1078 : decode cL_law 1078 = .ok (.iconst 1, 1) := by decide +kernel
theorem dL_law_1079 : decode cL_law 1079 = .ok (.iadd, 1) := by decide +kernel
theorem dL_law_1080 : decode cL_law 1080 = .ok (.iaload, 1) := by decide +kernel
theorem dL_law_1081 : decode cL_law 1081 = .ok (.aload_n 0, 1) := by decide +kernel
theorem dL_law_1082 : decode cL_law 1082 = .ok (.iload_n 3, 1) := by decide +kernel
theorem dL_law_1083 : decode cL_law 1083 = .ok (.iconst 2, 1) := by decide +kernel
theorem dL_law_1084 : decode cL_law 1084 = .ok (.iadd, 1) := by decide +kernel
theorem dL_law_1085 : decode cL_law 1085 = .ok (.iaload, 1) := by decide +kernel
theorem dL_law_1086 : decode cL_law 1086 = .ok (.aload_n 0, 1) := by decide +kernel
theorem dL_law_1087 : decode cL_law 1087 = .ok (.iload_n 3, 1) := by decide +kernel
theorem dL_law_1088 : decode cL_law 1088 = .ok (.iconst 3, 1) := by decide +kernel
theorem dL_law_1089 : decode cL_law 1089 = .ok (.iadd, 1) := by decide +kernel
theorem dL_law_1090 : decode cL_law 1090 = .ok (.iaload, 1) := by decide +kernel
theorem dL_law_1091 : decode cL_law 1091 = .ok (.invokevirtual 125, 3) := by decide +kernel
theorem dL_law_1094 : decode cL_law 1094 = .ok (.if_icmp .eq 199, 3) := by decide +kernel
theorem dL_law_1097 : decode cL_law 1097 = .ok (.iconst 0, 1) := by decide +kernel
theorem dL_law_1098 : decode cL_law 1098 = .ok (.ireturn, 1) := by decide +kernel
theorem dL_law_1099 : decode cL_law 1099 = .ok (.aload_n 1, 1) := by decide +kernel
theorem dL_law_1100 : decode cL_law 1100 = .ok (.aload_n 0, 1) := by decide +kernel
theorem dL_law_1101 : decode cL_law 1101 = .ok (.iload_n 3, 1) := by decide +kernel
theorem dL_law_1102 : decode cL_law 1102 = .ok (.iconst 1, 1) := by decide +kernel
theorem dL_law_1103 : decode cL_law 1103 = .ok (.iadd, 1) := by decide +kernel
theorem dL_law_1104 : decode cL_law 1104 = .ok (.iaload, 1) := by decide +kernel
theorem dL_law_1105 : decode cL_law 1105 = .ok (.invokevirtual 126, 3) := by decide +kernel
theorem dL_law_1108 : decode cL_law 1108 = .ok (.aload_n 2, 1) := by decide +kernel
theorem dL_law_1109 : decode cL_law 1109 = .ok (.aload_n 0, 1) := by decide +kernel
theorem dL_law_1110 : decode cL_law 1110 = .ok (.iload_n 3, 1) := by decide +kernel
theorem dL_law_1111 : decode cL_law 1111 = .ok (.iconst 1, 1) := by decide +kernel
theorem dL_law_1112 : decode cL_law 1112 = .ok (.iadd, 1) := by decide +kernel
theorem dL_law_1113 : decode cL_law 1113 = .ok (.iaload, 1) := by decide +kernel
theorem dL_law_1114 : decode cL_law 1114 = .ok (.invokevirtual 129, 3) := by decide +kernel
theorem dL_law_1117 : decode cL_law 1117 = .ok (.if_icmp .eq 176, 3) := by decide +kernel
theorem dL_law_1120 : decode cL_law 1120 = .ok (.iconst 0, 1) := by decide +kernel
theorem dL_law_1121 : decode cL_law 1121 = .ok (.ireturn, 1) := by decide +kernel
theorem dL_law_1122 : decode cL_law 1122 = .ok (.aload_n 1, 1) := by decide +kernel
theorem dL_law_1123 : decode cL_law 1123 = .ok (.aload_n 0, 1) := by decide +kernel
theorem dL_law_1124 : decode cL_law 1124 = .ok (.iload_n 3, 1) := by decide +kernel
theorem dL_law_1125 : decode cL_law 1125 = .ok (.iconst 1, 1) := by decide +kernel
theorem dL_law_1126 : decode cL_law 1126 = .ok (.iadd, 1) := by decide +kernel
theorem dL_law_1127 : decode cL_law 1127 = .ok (.iaload, 1) := by decide +kernel
theorem dL_law_1128 : decode cL_law 1128 = .ok (.invokevirtual 130, 3) := by decide +kernel
theorem dL_law_1131 : decode cL_law 1131 = .ok (.aload_n 2, 1) := by decide +kernel
theorem dL_law_1132 : decode cL_law 1132 = .ok (.aload_n 0, 1) := by decide +kernel
theorem dL_law_1133 : decode cL_law 1133 = .ok (.iload_n 3, 1) := by decide +kernel
theorem dL_law_1134 : decode cL_law 1134 = .ok (.iconst 1, 1) := by decide +kernel
theorem dL_law_1135 : decode cL_law 1135 = .ok (.iadd, 1) := by decide +kernel
theorem dL_law_1136 : decode cL_law 1136 = .ok (.iaload, 1) := by decide +kernel
theorem dL_law_1137 : decode cL_law 1137 = .ok (.invokevirtual 133, 3) := by decide +kernel
theorem dL_law_1140 : decode cL_law 1140 = .ok (.if_icmp .eq 153, 3) := by decide +kernel
theorem dL_law_1143 : decode cL_law 1143 = .ok (.iconst 0, 1) := by decide +kernel
theorem dL_law_1144 : decode cL_law 1144 = .ok (.ireturn, 1) := by decide +kernel
theorem dL_law_1145 : decode cL_law 1145 = .ok (.aload_n 1, 1) := by decide +kernel
theorem dL_law_1146 : decode cL_law 1146 = .ok (.aload_n 0, 1) := by decide +kernel
theorem dL_law_1147 : decode cL_law 1147 = .ok (.iload_n 3, 1) := by decide +kernel
theorem dL_law_1148 : decode cL_law 1148 = .ok (.iconst 1, 1) := by decide +kernel
theorem dL_law_1149 : decode cL_law 1149 = .ok (.iadd, 1) := by decide +kernel
theorem dL_law_1150 : decode cL_law 1150 = .ok (.iaload, 1) := by decide +kernel
theorem dL_law_1151 : decode cL_law 1151 = .ok (.invokevirtual 134, 3) := by decide +kernel
theorem dL_law_1154 : decode cL_law 1154 = .ok (.aload_n 2, 1) := by decide +kernel
theorem dL_law_1155 : decode cL_law 1155 = .ok (.aload_n 0, 1) := by decide +kernel
theorem dL_law_1156 : decode cL_law 1156 = .ok (.iload_n 3, 1) := by decide +kernel
theorem dL_law_1157 : decode cL_law 1157 = .ok (.iconst 1, 1) := by decide +kernel
theorem dL_law_1158 : decode cL_law 1158 = .ok (.iadd, 1) := by decide +kernel
theorem dL_law_1159 : decode cL_law 1159 = .ok (.iaload, 1) := by decide +kernel
theorem dL_law_1160 : decode cL_law 1160 = .ok (.invokevirtual 137, 3) := by decide +kernel
theorem dL_law_1163 : decode cL_law 1163 = .ok (.if_icmp .eq 130, 3) := by decide +kernel
theorem dL_law_1166 : decode cL_law 1166 = .ok (.iconst 0, 1) := by decide +kernel
theorem dL_law_1167 : decode cL_law 1167 = .ok (.ireturn, 1) := by decide +kernel
theorem dL_law_1168 : decode cL_law 1168 = .ok (.aload_n 1, 1) := by decide +kernel
theorem dL_law_1169 : decode cL_law 1169 = .ok (.aload_n 0, 1) := by decide +kernel
theorem dL_law_1170 : decode cL_law 1170 = .ok (.iload_n 3, 1) := by decide +kernel
theorem dL_law_1171 : decode cL_law 1171 = .ok (.iconst 1, 1) := by decide +kernel
theorem dL_law_1172 : decode cL_law 1172 = .ok (.iadd, 1) := by decide +kernel
theorem dL_law_1173 : decode cL_law 1173 = .ok (.iaload, 1) := by decide +kernel
theorem dL_law_1174 : decode cL_law 1174 = .ok (.aload_n 0, 1) := by decide +kernel
theorem dL_law_1175 : decode cL_law 1175 = .ok (.iload_n 3, 1) := by decide +kernel
theorem dL_law_1176 : decode cL_law 1176 = .ok (.iconst 2, 1) := by decide +kernel
theorem dL_law_1177 : decode cL_law 1177 = .ok (.iadd, 1) := by decide +kernel
theorem dL_law_1178 : decode cL_law 1178 = .ok (.iaload, 1) := by decide +kernel
theorem dL_law_1179 : decode cL_law 1179 = .ok (.invokevirtual 138, 3) := by decide +kernel
theorem dL_law_1182 : decode cL_law 1182 = .ok (.aload_n 2, 1) := by decide +kernel
theorem dL_law_1183 : decode cL_law 1183 = .ok (.aload_n 0, 1) := by decide +kernel
theorem dL_law_1184 : decode cL_law 1184 = .ok (.iload_n 3, 1) := by decide +kernel
theorem dL_law_1185 : decode cL_law 1185 = .ok (.iconst 1, 1) := by decide +kernel
theorem dL_law_1186 : decode cL_law 1186 = .ok (.iadd, 1) := by decide +kernel
theorem dL_law_1187 : decode cL_law 1187 = .ok (.iaload, 1) := by decide +kernel
theorem dL_law_1188 : decode cL_law 1188 = .ok (.aload_n 0, 1) := by decide +kernel
theorem dL_law_1189 : decode cL_law 1189 = .ok (.iload_n 3, 1) := by decide +kernel
theorem dL_law_1190 : decode cL_law 1190 = .ok (.iconst 2, 1) := by decide +kernel
theorem dL_law_1191 : decode cL_law 1191 = .ok (.iadd, 1) := by decide +kernel
theorem dL_law_1192 : decode cL_law 1192 = .ok (.iaload, 1) := by decide +kernel
theorem dL_law_1193 : decode cL_law 1193 = .ok (.invokevirtual 141, 3) := by decide +kernel
theorem dL_law_1196 : decode cL_law 1196 = .ok (.if_icmp .eq 97, 3) := by decide +kernel
theorem dL_law_1199 : decode cL_law 1199 = .ok (.iconst 0, 1) := by decide +kernel
theorem dL_law_1200 : decode cL_law 1200 = .ok (.ireturn, 1) := by decide +kernel
theorem dL_law_1201 : decode cL_law 1201 = .ok (.aload_n 1, 1) := by decide +kernel
theorem dL_law_1202 : decode cL_law 1202 = .ok (.aload_n 0, 1) := by decide +kernel
theorem dL_law_1203 : decode cL_law 1203 = .ok (.iload_n 3, 1) := by decide +kernel
theorem dL_law_1204 : decode cL_law 1204 = .ok (.iconst 1, 1) := by decide +kernel
theorem dL_law_1205 : decode cL_law 1205 = .ok (.iadd, 1) := by decide +kernel
theorem dL_law_1206 : decode cL_law 1206 = .ok (.iaload, 1) := by decide +kernel
theorem dL_law_1207 : decode cL_law 1207 = .ok (.aload_n 0, 1) := by decide +kernel
theorem dL_law_1208 : decode cL_law 1208 = .ok (.iload_n 3, 1) := by decide +kernel
theorem dL_law_1209 : decode cL_law 1209 = .ok (.iconst 2, 1) := by decide +kernel
theorem dL_law_1210 : decode cL_law 1210 = .ok (.iadd, 1) := by decide +kernel
theorem dL_law_1211 : decode cL_law 1211 = .ok (.iaload, 1) := by decide +kernel
theorem dL_law_1212 : decode cL_law 1212 = .ok (.invokevirtual 142, 3) := by decide +kernel
theorem dL_law_1215 : decode cL_law 1215 = .ok (.aload_n 2, 1) := by decide +kernel
theorem dL_law_1216 : decode cL_law 1216 = .ok (.aload_n 0, 1) := by decide +kernel
theorem dL_law_1217 : decode cL_law 1217 = .ok (.iload_n 3, 1) := by decide +kernel
theorem dL_law_1218 : decode cL_law 1218 = .ok (.iconst 1, 1) := by decide +kernel
theorem dL_law_1219 : decode cL_law 1219 = .ok (.iadd, 1) := by decide +kernel
theorem dL_law_1220 : decode cL_law 1220 = .ok (.iaload, 1) := by decide +kernel
theorem dL_law_1221 : decode cL_law 1221 = .ok (.aload_n 0, 1) := by decide +kernel
theorem dL_law_1222 : decode cL_law 1222 = .ok (.iload_n 3, 1) := by decide +kernel
end
section
theorem dL_law_1223 : decode cL_law 1223 = .ok (.iconst 2, 1) := by decide +kernel
theorem dL_law_1224 : decode cL_law 1224 = .ok (.iadd, 1) := by decide +kernel
theorem dL_law_1225 : decode cL_law 1225 = .ok (.iaload, 1) := by decide +kernel
theorem dL_law_1226 : decode cL_law 1226 = .ok (.invokevirtual 145, 3) := by decide +kernel
theorem dL_law_1229 : decode cL_law 1229 = .ok (.if_icmp .eq 64, 3) := by decide +kernel
theorem dL_law_1232 : decode cL_law 1232 = .ok (.iconst 0, 1) := by decide +kernel
theorem dL_law_1233 : decode cL_law 1233 = .ok (.ireturn, 1) := by decide +kernel
theorem dL_law_1234 : decode cL_law 1234 = .ok (.aload_n 1, 1) := by decide +kernel
theorem dL_law_1235 : decode cL_law 1235 = .ok (.aload_n 0, 1) := by decide +kernel
theorem dL_law_1236 : decode cL_law 1236 = .ok (.iload_n 3, 1) := by decide +kernel
theorem dL_law_1237 : decode cL_law 1237 = .ok (.iconst 1, 1) := by decide +kernel
theorem dL_law_1238 : decode cL_law 1238 = .ok (.iadd, 1) := by decide +kernel
theorem dL_law_1239 : decode cL_law 1239 = .ok (.iaload, 1) := by decide +kernel
theorem dL_law_1240 : decode cL_law 1240 = .ok (.invokevirtual 146, 3) := by decide +kernel
theorem dL_law_1243 : decode cL_law 1243 = .ok (.aload_n 2, 1) := by decide +kernel
theorem dL_law_1244 : decode cL_law 1244 = .ok (.aload_n 0, 1) := by decide +kernel
theorem dL_law_1245 : decode cL_law 1245 = .ok (.iload_n 3, 1) := by decide +kernel
theorem dL_law_1246 : decode cL_law 1246 = .ok (.iconst 1, 1) := by decide +kernel
theorem dL_law_1247 : decode cL_law 1247 = .ok (.iadd, 1) := by decide +kernel
theorem dL_law_1248 : decode cL_law 1248 = .ok (.iaload, 1) := by decide +kernel
theorem dL_law_1249 : decode cL_law 1249 = .ok (.invokevirtual 149, 3) := by decide +kernel
theorem dL_law_1252 : decode cL_law 1252 = .ok (.if_icmp .eq 41, 3) := by decide +kernel
theorem dL_law_1255 : decode cL_law 1255 = .ok (.iconst 0, 1) := by decide +kernel
theorem dL_law_1256 : decode cL_law 1256 = .ok (.ireturn, 1) := by decide +kernel
theorem dL_law_1257 : decode cL_law 1257 = .ok (.aload_n 1, 1) := by decide +kernel
theorem dL_law_1258 : decode cL_law 1258 = .ok (.aload_n 0, 1) := by decide +kernel
theorem dL_law_1259 : decode cL_law 1259 = .ok (.iload_n 3, 1) := by decide +kernel
theorem dL_law_1260 : decode cL_law 1260 = .ok (.iconst 1, 1) := by decide +kernel
theorem dL_law_1261 : decode cL_law 1261 = .ok (.iadd, 1) := by decide +kernel
theorem dL_law_1262 : decode cL_law 1262 = .ok (.iaload, 1) := by decide +kernel
theorem dL_law_1263 : decode cL_law 1263 = .ok (.invokevirtual 150, 3) := by decide +kernel
theorem dL_law_1266 : decode cL_law 1266 = .ok (.aload_n 2, 1) := by decide +kernel
theorem dL_law_1267 : decode cL_law 1267 = .ok (.aload_n 0, 1) := by decide +kernel
theorem dL_law_1268 : decode cL_law 1268 = .ok (.iload_n 3, 1) := by decide +kernel
theorem dL_law_1269 : decode cL_law 1269 = .ok (.iconst 1, 1) := by decide +kernel
theorem dL_law_1270 : decode cL_law 1270 = .ok (.iadd, 1) := by decide +kernel
theorem dL_law_1271 : decode cL_law 1271 = .ok (.iaload, 1) := by decide +kernel
theorem dL_law_1272 : decode cL_law 1272 = .ok (.invokevirtual 153, 3) := by decide +kernel
theorem dL_law_1275 : decode cL_law 1275 = .ok (.if_icmp .eq 18, 3) := by decide +kernel
theorem dL_law_1278 : decode cL_law 1278 = .ok (.iconst 0, 1) := by decide +kernel
theorem dL_law_1279 : decode cL_law 1279 = .ok (.ireturn, 1) := by decide +kernel
theorem dL_law_1280 : decode cL_law 1280 = .ok (.aload_n 1, 1) := by decide +kernel
theorem dL_law_1281 : decode cL_law 1281 = .ok (.invokevirtual 154, 3) := by decide +kernel
theorem dL_law_1284 : decode cL_law 1284 = .ok (.aload_n 2, 1) := by decide +kernel
theorem dL_law_1285 : decode cL_law 1285 = .ok (.invokevirtual 157, 3) := by decide +kernel
theorem dL_law_1288 : decode cL_law 1288 = .ok (.if_icmp .eq 5, 3) := by decide +kernel
theorem dL_law_1291 : decode cL_law 1291 = .ok (.iconst 0, 1) := by decide +kernel
theorem dL_law_1292 : decode cL_law 1292 = .ok (.ireturn, 1) := by decide +kernel
theorem dL_law_1293 : decode cL_law 1293 = .ok (.iinc 3 6, 3) := by decide +kernel
theorem dL_law_1296 : decode cL_law 1296 = .ok (.goto (-1278), 3) := by decide +kernel
theorem dL_law_1299 : decode cL_law 1299 = .ok (.iconst 1, 1) := by decide +kernel
theorem dL_law_1300 : decode cL_law 1300 = .ok (.ireturn, 1) := by decide +kernel
end
section
/-! THE WORLD OF THE CLAIM AS NUMBERS: a fixed list of cells (objects and arrays), of which only the ints change -/
abbrev zLo : Type := List (Nat × Value)
abbrev zSt : Type := List Value
abbrev zSo : Type := Nat → Nat → Int32
abbrev zNx : Type := Nat × zLo × zSt × zSo
abbrev zR : Type := zNx ⊕ ((Nat × List Value × zSt × Nat) ⊕ Option Value)
abbrev zOp : Type := zLo → zSt → zSo → Option zR
abbrev zCell : Type := Nat × Nat × List (Option Nat)
abbrev zG : Type := (Nat → Nat) × va_G × (Nat → ClassId)
abbrev zM : Type := MethodName × ByteArray × Nat × Option FieldType
/-- the cells: (0, class, fields: none a number, some k the cell k), (1, n) ints, (2, n) booleans, (3, type, cells) references -/
def zLAY : List zCell := [
  (0, 6, [some 1, some 18, some 20, some 29, some 38, some 57, some 64, some 68, none]),
  (3, 2, [some 2, some 4, some 6, some 8, some 10, some 12, some 14, some 16]),
  (0, 4, [some 3, none, none, none]),
  (1, 40, []),
  (0, 4, [some 5, none, none, none]),
  (1, 40, []),
  (0, 4, [some 7, none, none, none]),
  (1, 40, []),
  (0, 4, [some 9, none, none, none]),
  (1, 40, []),
  (0, 4, [some 11, none, none, none]),
  (1, 40, []),
  (0, 4, [some 13, none, none, none]),
  (1, 40, []),
  (0, 4, [some 15, none, none, none]),
  (1, 40, []),
  (0, 4, [some 17, none, none, none]),
  (1, 40, []),
  (0, 5, [some 19, none, none, none, none]),
  (1, 120, []),
  (0, 3, [none, none, none, none, none, none, some 21, some 22, some 23, some 24, some 25, some 26, some 27, some 28]),
  (1, 6, []),
  (1, 6, []),
  (1, 6, []),
  (1, 6, []),
  (1, 6, []),
  (1, 36, []),
  (1, 36, []),
  (1, 36, []),
  (0, 3, [none, none, none, none, none, none, some 30, some 31, some 32, some 33, some 34, some 35, some 36, some 37]),
  (1, 6, []),
  (1, 6, []),
  (1, 6, []),
  (1, 6, []),
  (1, 6, []),
  (1, 36, []),
  (1, 36, []),
  (1, 36, []),
  (3, 3, [some 39, some 48]),
  (0, 3, [none, none, none, none, none, none, some 40, some 41, some 42, some 43, some 44, some 45, some 46, some 47]),
  (1, 6, []),
  (1, 6, []),
  (1, 6, []),
  (1, 6, []),
  (1, 6, []),
  (1, 36, []),
  (1, 36, []),
  (1, 36, []),
  (0, 3, [none, none, none, none, none, none, some 49, some 50, some 51, some 52, some 53, some 54, some 55, some 56]),
  (1, 6, []),
  (1, 6, []),
  (1, 6, []),
  (1, 6, []),
  (1, 6, []),
  (1, 36, []),
  (1, 36, []),
  (1, 36, []),
  (0, 0, [none, none, some 58, some 59, some 60, some 61, some 62, some 63]),
  (1, 24, []),
  (1, 24, []),
  (1, 24, []),
  (1, 144, []),
  (1, 144, []),
  (1, 144, []),
  (0, 2, [none, some 65, some 66, some 67]),
  (1, 6, []),
  (1, 6, []),
  (1, 384, []),
  (0, 1, [some 69, none]),
  (1, 16, []),
  (0, 7, [none, none, some 71, some 72, some 73, some 74, some 75, some 76, some 77, none, some 78, none, none, none, none, none, none, none, none, some 79, some 80, some 81, some 82, some 83, none]),
  (1, 8, []),
  (1, 8, []),
  (1, 320, []),
  (1, 143, []),
  (1, 143, []),
  (1, 143, []),
  (1, 3432, []),
  (1, 120, []),
  (1, 6, []),
  (1, 384, []),
  (2, 2, []),
  (1, 286, []),
  (1, 16, [])]
/-- the statics that are tables: name, length; the k-th is 'cell' 1000 + k; the script is 1100, its length in 1101 -/
def zTB : List (String × Nat) := [("ABOVE", 6), ("SIZE_BODIES", 6), ("MARK_BODIES", 6)]
def zL (σ : zSo) : Nat := (σ 1101 0).toNatClampNeg
def zcv (ad : Nat → Nat) (v : Value) : Value := match v with
  | .ref k => .ref (ad k)
  | u => u
def zlo (ad : Nat → Nat) (ls : zLo) : List (Nat × Value) := ls.map fun q => (q.1, zcv ad q.2)
theorem zcv_cat (ad : Nat → Nat) (v : Value) : (zcv ad v).category = v.category := by cases v <;> rfl
def zf (g : zG) (f : Nat → Int32) (j : Nat) (r : Option Nat) : Value := match r with
  | none => .int (f j)
  | some q => .ref (g.1 q)
def zE (g : zG) (f : Nat → Int32) (c : zCell) : va_E := match c.1 with
  | 0 => .inr (c.2.1, c.2.2.mapIdx fun j r => zf g f j r)
  | 1 => .inl (g.2.2 0, c.2.1, .inl f)
  | 2 => .inl (g.2.2 1, c.2.1, .inl f)
  | _ => .inl (g.2.2 c.2.1, c.2.2.length, .inr (.inr (.inr (.inr fun j => (c.2.2.getD j none).map g.1))))
def zW (g : zG) (σ : zSo) : va_W := zLAY.mapIdx fun k c => (g.1 k, zE g (σ k) c)
theorem zW_at (g : zG) (σ : zSo) {k : Nat} {c : zCell} (h : zLAY[k]? = some c) : (zW g σ)[k]? = some (g.1 k, zE g (σ k) c) := by
  rw [zW, List.getElem?_mapIdx, h]; rfl
theorem zW_len (g : zG) (σ : zSo) : (zW g σ).length = zLAY.length := by rw [zW, List.length_mapIdx]
theorem zW_set (g : zG) {σ σ' : zSo} {k : Nat} {c : zCell} (h : zLAY[k]? = some c) (ho : ∀ a, a ≠ k → σ' a = σ a) : (zW g σ).set k (g.1 k, zE g (σ' k) c) = zW g σ' := by
  apply List.ext_getElem?
  intro i
  rw [List.getElem?_set]
  by_cases hi : k = i
  · subst hi
    have hlt : k < (zW g σ).length := by rw [zW_len]; exact (List.getElem?_eq_some_iff.mp h).1
    rw [if_pos rfl, if_pos hlt, zW_at g σ' h]
  · rw [if_neg hi, zW, zW, List.getElem?_mapIdx, List.getElem?_mapIdx, ho i (fun e => hi e.symm)]
/-- one number becomes another -/
def zup (σ : zSo) (k j : Nat) (v : Int32) : zSo := fun a => if a = k then upd (σ a) j v else σ a
theorem zup_k (σ : zSo) (k j : Nat) (v : Int32) : zup σ k j v k = upd (σ k) j v := by simp [zup]
theorem zup_o (σ : zSo) {k a : Nat} (j : Nat) (v : Int32) (h : a ≠ k) : zup σ k j v a = σ a := by simp [zup, h]
/-- a stretch of one array comes into another (or the same) -/
def zcp (σ : zSo) (a b sp dp n : Nat) : zSo := fun q => if q = b then va_cpy (σ a) (σ b) sp dp n else σ q
theorem zcp_k (σ : zSo) (a b sp dp n : Nat) : zcp σ a b sp dp n b = va_cpy (σ a) (σ b) sp dp n := by simp [zcp]
theorem zcp_o (σ : zSo) {a b q : Nat} (sp dp n : Nat) (h : q ≠ b) : zcp σ a b sp dp n q = σ q := by simp [zcp, h]
theorem zE_put (g : zG) (f : Nat → Int32) (fs : List (Option Nat)) {j : Nat} (h : fs[j]? = some none) (v : Int32) :
    (fs.mapIdx fun j r => zf g f j r).set j (.int v) = fs.mapIdx fun i r => zf g (upd f j v) i r := by
  apply List.ext_getElem?
  intro i
  rw [List.getElem?_set]
  by_cases hi : j = i
  · subst hi
    have hlt : j < (fs.mapIdx fun j r => zf g f j r).length := by rw [List.length_mapIdx]; exact (List.getElem?_eq_some_iff.mp h).1
    rw [if_pos rfl, if_pos hlt, List.getElem?_mapIdx, h]
    simp [zf, upd]
  · rw [if_neg hi, List.getElem?_mapIdx, List.getElem?_mapIdx]
    cases fs[i]? with
    | none => rfl
    | some r =>
      cases r with
      | none =>
        have hi' : ¬ i = j := fun e => hi e.symm
        simp [zf, upd, hi']
      | some q => rfl
def zty (g : zG) : List (ClassId × FieldType) := [(g.2.2 0, .int), (g.2.2 1, .boolean), (g.2.2 2, .object "BeatBounds$Row"), (g.2.2 3, .object "BeatBounds$Parish")]
def zStat (g : zG) (σ : zSo) (A : Nat → Prop) (U : State) (H : Heap) : Prop :=
  (∀ (k : Nat) (q : String × Nat), zTB[k]? = some q → va_Z "BeatBounds" q.1 "[I" (.ref (g.1 (1000 + k))) A U H ∧ va_T .int (g.1 (1000 + k)) q.2 (fun j => .int (σ (1000 + k) j)) A U H) ∧ va_T .int (g.1 1100) (zL σ) (fun j => .int (σ 1100 j)) A U H
theorem zStat.moved {g : zG} {σ : zSo} {A : Nat → Prop} {u U : State} {H : Heap} (hvm : u.vm.Alike U.vm) (h : zStat g σ A u H) : zStat g σ A U H :=
  ⟨fun k q hk => ⟨(h.1 k q hk).1.moved hvm, (h.1 k q hk).2.moved hvm⟩, h.2.moved hvm⟩
theorem zStat.kept {g : zG} {σ : zSo} {A : Nat → Prop} {U : State} {H H1 : Heap} (h : zStat g σ A U H) (hq : ∀ a : Nat, a < H.size → ¬ A a → H1[a]? = H[a]?) : zStat g σ A U H1 :=
  ⟨fun k q hk => ⟨(h.1 k q hk).1.kept hq, (h.1 k q hk).2.kept hq⟩, h.2.kept hq⟩
theorem zStat.narrow {g : zG} {σ : zSo} {A B : Nat → Prop} {U : State} {H : Heap} (h : zStat g σ A U H) (hq : ∀ q, B q → A q) : zStat g σ B U H :=
  ⟨fun k q hk => ⟨(h.1 k q hk).1.narrow hq, (h.1 k q hk).2.narrow hq⟩, h.2.narrow hq⟩
/-- where a method's frame stands -/
def zCx (own : String) (cc : ByteArray) (nL d : Nat) (p : Program) (R : Room) (s : State) (m : MethodId) (args : Array Value) (c : Code) (g : zG) (σ0 : zSo) (A : Nat → Prop) (cells slots : Nat) : Prop :=
  p.tables.exec = Jvm.exec ∧ c.code = cc ∧ c.maxLocals = nL ∧ s.vm.findClass own = some m.cls ∧ (∀ w ∈ lw_tbl, w.before args s = true) ∧ va_K g.2.1 vwCl (zty g) s ∧ zStat g σ0 A s s.heap ∧ (∀ q, s.heap.size ≤ q → A q) ∧ d + 1 ≤ R.frames ∧ 40 * (d + 1) ≤ R.locals ∧ cells ≤ R.cells ∧ slots ≤ R.slots
/-- from every state of the machine that the numbers tell: it comes to Q -/
def zGo (nL : Nat) (p : Program) (l : Launch) (e : Env) (R : Room) (s : State) (m : MethodId) (args : Array Value) (below : List Frame) (meth : Method) (c : Code) (g : zG) (σ0 : zSo) (A : Nat → Prop) (cells slots : Nat) (Q : State → Prop) (pc : Nat) (lo : zLo) (st : zSt) (σ : zSo) : Prop :=
  ∀ (H : Heap) (locs : List Loc) (ls : Array Slot), va_P g.2.1 vwCl (zW g σ) H → va_D A (zW g σ) → va_S A s.heap H locs → (∀ k, 1000 ≤ k → σ k = σ0 k) → lv_has ls nL (zlo g.1 lo) → W p l e R s m args below meth c H locs cells slots Q (F0 m pc ls (st.map (zcv g.1)))
def zrm (d : Nat) : Room := { frames := d + 1, cells := 0, slots := 0, locals := 40 * (d + 1) }
def zws (q : zM) : List Cond := .code q.1 q.2.1 q.2.2.1 q.2.2.2 :: lw_tbl
def zPc (g : zG) (σ0 : zSo) (as : List Value) (σ : zSo) (sz : Nat) : Array Value → State → Prop := va_Pc (as.map (zcv g.1)) (fun U => U.heap.size = sz ∧ va_P g.2.1 vwCl (zW g σ) U.heap ∧ va_K g.2.1 vwCl (zty g) U ∧ va_D (fun _ => True) (zW g σ) ∧ zStat g σ0 (va_A (zW g σ) sz) U U.heap ∧ ∀ k, 1000 ≤ k → σ k = σ0 k)
def zQc (g : zG) (σ0 σ : zSo) (sz : Nat) (r : Option Value) (σ1 : zSo) : Array Value → State → Outcome → State → Prop := fun _ st oc t => oc = .returned (r.map (zcv g.1)) ∧ va_P g.2.1 vwCl (zW g σ1) t.heap ∧ va_D (va_A (zW g σ) sz) (zW g σ1) ∧ (∀ k, 1000 ≤ k → σ1 k = σ0 k) ∧ va_F (va_A (zW g σ) sz) st t
def zMet (l : Launch) (d : Nat) (q : zM) (as : List Value) (σ : zSo) (r : Option Value) (σ1 : zSo) (g : zG) (σ0 : zSo) : Prop := ∀ sz, Met l q.1 (zws q) (zrm d) (zPc g σ0 as σ sz) (zQc g σ0 σ sz r σ1) 0 0 (va_A (zW g σ) sz)
/-- what is done at a return -/
def zRet (cc : ByteArray) (nL : Nat) (ret : Option FieldType) (p : Program) (l : Launch) (e : Env) (R : Room) (s : State) (m : MethodId) (args : Array Value) (below : List Frame) (meth : Method) (c : Code) (g : zG) (σ0 : zSo) (A : Nat → Prop) (cells slots : Nat) (Q : State → Prop) (r : Option Value) (σ : zSo) : Prop :=
  (∀ (pc : Nat) (lo : zLo) (v : Int32) (ty : FieldType), decode cc pc = .ok (.ireturn, 1) → r = some (.int v) → ret = some ty → narrow ty (.int v) = .int v → zGo nL p l e R s m args below meth c g σ0 A cells slots Q pc lo [.int v] σ) ∧
  (∀ (pc : Nat) (lo : zLo) (v : Int64), decode cc pc = .ok (.lreturn, 1) → r = some (.long v) → ret = some .long → zGo nL p l e R s m args below meth c g σ0 A cells slots Q pc lo [.long v] σ) ∧
  (∀ (pc : Nat) (lo : zLo), decode cc pc = .ok (.return_, 1) → r = none → ret = none → zGo nL p l e R s m args below meth c g σ0 A cells slots Q pc lo [] σ)
/-- the method list: by number -/
def zOc (zMD : List zM) (nL : Nat) (cc : ByteArray) (ret : Option FieldType) (d : Nat) (p : Program) (l : Launch) (e : Env) (R : Room) (s : State) (m : MethodId) (args : Array Value) (below : List Frame) (meth : Method) (c : Code) (g : zG) (σ0 : zSo) (A : Nat → Prop) (cells slots : Nat) (Q : State → Prop) (lo : zLo) (σ : zSo) (K : Prop) (x : zR) : Prop := match x with
  | .inl (pc', lo', st', σ') => zGo nL p l e R s m args below meth c g σ0 A cells slots Q pc' lo' st' σ' → K
  | .inr (.inl (i, as, rest, pc')) => ∃ q, zMD[i]? = some q ∧ ∀ (d' : Nat) (r : Option Value) (σ1 : zSo), d = d' + 1 → zMet l d' q as σ r σ1 g σ0 → zGo nL p l e R s m args below meth c g σ0 A cells slots Q pc' lo (r.toList ++ rest) σ1 → K
  | .inr (.inr r) => zRet cc nL ret p l e R s m args below meth c g σ0 A cells slots Q r σ → K
/-- an instruction and what it does to the numbers -/
def zSnd (zMD : List zM) (own : String) (cc : ByteArray) (nL : Nat) (ret : Option FieldType) (pc : Nat) (f : zOp) : Prop :=
  ∀ (d : Nat) (p : Program) (l : Launch) (e : Env) (R : Room) (s : State) (m : MethodId) (args : Array Value) (below : List Frame) (meth : Method) (c : Code) (g : zG) (σ0 : zSo) (A : Nat → Prop) (cells slots : Nat) (Q : State → Prop),
    zCx own cc nL d p R s m args c g σ0 A cells slots → ∀ (lo : zLo) (st : zSt) (σ : zSo) (x : zR), f lo st σ = some x → zOc zMD nL cc ret d p l e R s m args below meth c g σ0 A cells slots Q lo σ (zGo nL p l e R s m args below meth c g σ0 A cells slots Q pc lo st σ) x
end
section
def zlget : zLo → Nat → Option Value
  | [], _ => none
  | (j, v) :: t, k => match Nat.beq j k with
    | true => some v
    | false => zlget t k
/-- a local becomes v (of category 1): in its place, or at the end -/
def zlset : zLo → Nat → Value → Option zLo
  | [], k, v => some [(k, v)]
  | (j, u) :: t, k, v => match Nat.beq j k with
    | true => match zldel t k with
      | some t' => some ((k, v) :: t')
      | none => none
    | false => match Nat.beq (j + 1) k && Nat.beq u.category 2 with
      | true => zlset t k v
      | false => match zlset t k v with
        | some t' => some ((j, u) :: t')
        | none => none
where zldel : zLo → Nat → Option zLo
  | [], _ => some []
  | (j, u) :: t, k => match Nat.beq j k || (Nat.beq (j + 1) k && Nat.beq u.category 2) with
    | true => zldel t k
    | false => match zldel t k with
      | some t' => some ((j, u) :: t')
      | none => none
def zldel2 : zLo → Nat → Option zLo
  | [], _ => some []
  | (j, u) :: t, k => match Nat.beq j k || (Nat.beq j (k + 1) || (Nat.beq (j + 1) k && Nat.beq u.category 2)) with
    | true => zldel2 t k
    | false => match zldel2 t k with
      | some t' => some ((j, u) :: t')
      | none => none
/-- a local becomes v (of category 2) -/
def zlset2 : zLo → Nat → Value → Option zLo
  | [], k, v => some [(k, v)]
  | (j, u) :: t, k, v => match Nat.beq j k with
    | true => match zldel2 t k with
      | some t' => some ((k, v) :: t')
      | none => none
    | false => match Nat.beq j (k + 1) || (Nat.beq (j + 1) k && Nat.beq u.category 2) with
      | true => zlset2 t k v
      | false => match zlset2 t k v with
        | some t' => some ((j, u) :: t')
        | none => none
theorem zlget_mem : ∀ {ls : zLo} {k : Nat} {v : Value}, zlget ls k = some v → (k, v) ∈ ls
  | [], _, _, h => by cases h
  | (j, u) :: t, k, v, h => by
    unfold zlget at h
    split at h
    · rename_i hb
      cases h
      rw [Nat.eq_of_beq_eq_true hb]
      exact List.mem_cons_self
    · exact List.mem_cons_of_mem _ (zlget_mem h)
theorem zldel_mem : ∀ {ls ls' : zLo} {k : Nat}, zlset.zldel ls k = some ls' → ∀ q ∈ ls', q ∈ ls ∧ q.1 ≠ k ∧ ¬ (q.1 + 1 = k ∧ q.2.category = 2)
  | [], _, _, h => by cases h; intro q hq; cases hq
  | (j, u) :: t, ls', k, h => by
    unfold zlset.zldel at h
    split at h
    · intro q hq
      exact ⟨List.mem_cons_of_mem _ (zldel_mem h q hq).1, (zldel_mem h q hq).2⟩
    · rename_i hb
      split at h
      · rename_i t' ht
        cases h
        intro q hq
        rcases List.mem_cons.mp hq with hq | hq
        · subst hq
          refine ⟨List.mem_cons_self, fun e => ?_, fun e => ?_⟩
          · have e : j = k := e
            subst e
            simp at hb
          · simp [Nat.beq_eq, e.1, e.2] at hb
        · exact ⟨List.mem_cons_of_mem _ (zldel_mem ht q hq).1, (zldel_mem ht q hq).2⟩
      · cases h
theorem zlset_mem : ∀ {ls ls' : zLo} {k : Nat} {v : Value}, zlset ls k v = some ls' → ∀ q ∈ ls', q = (k, v) ∨ (q ∈ ls ∧ q.1 ≠ k ∧ ¬ (q.1 + 1 = k ∧ q.2.category = 2))
  | [], _, _, _, h => by cases h; intro q hq; exact Or.inl (List.mem_singleton.mp hq)
  | (j, u) :: t, ls', k, v, h => by
    unfold zlset at h
    split at h
    · split at h
      · rename_i t' ht
        cases h
        intro q hq
        rcases List.mem_cons.mp hq with hq | hq
        · exact Or.inl hq
        · exact Or.inr ⟨List.mem_cons_of_mem _ (zldel_mem ht q hq).1, (zldel_mem ht q hq).2⟩
      · cases h
    · rename_i hb
      split at h
      · intro q hq
        rcases zlset_mem h q hq with hq | hq
        · exact Or.inl hq
        · exact Or.inr ⟨List.mem_cons_of_mem _ hq.1, hq.2⟩
      · rename_i hc
        split at h
        · rename_i t' ht
          cases h
          intro q hq
          rcases List.mem_cons.mp hq with hq | hq
          · subst hq
            refine Or.inr ⟨List.mem_cons_self, fun e => ?_, fun e => ?_⟩
            · have e : j = k := e
              subst e
              simp at hb
            · simp [Nat.beq_eq, e.1, e.2] at hc
          · rcases zlset_mem ht q hq with hq | hq
            · exact Or.inl hq
            · exact Or.inr ⟨List.mem_cons_of_mem _ hq.1, hq.2⟩
        · cases h
theorem zldel2_mem : ∀ {ls ls' : zLo} {k : Nat}, zldel2 ls k = some ls' → ∀ q ∈ ls', q ∈ ls ∧ q.1 ≠ k ∧ q.1 ≠ k + 1 ∧ ¬ (q.1 + 1 = k ∧ q.2.category = 2)
  | [], _, _, h => by cases h; intro q hq; cases hq
  | (j, u) :: t, ls', k, h => by
    unfold zldel2 at h
    split at h
    · intro q hq
      exact ⟨List.mem_cons_of_mem _ (zldel2_mem h q hq).1, (zldel2_mem h q hq).2⟩
    · rename_i hb
      split at h
      · rename_i t' ht
        cases h
        intro q hq
        rcases List.mem_cons.mp hq with hq | hq
        · subst hq
          refine ⟨List.mem_cons_self, fun e => ?_, fun e => ?_, fun e => ?_⟩
          · have e : j = k := e
            subst e
            simp at hb
          · have e : j = k + 1 := e
            subst e
            simp at hb
          · simp [Nat.beq_eq, e.1, e.2] at hb
        · exact ⟨List.mem_cons_of_mem _ (zldel2_mem ht q hq).1, (zldel2_mem ht q hq).2⟩
      · cases h
theorem zlset2_mem : ∀ {ls ls' : zLo} {k : Nat} {v : Value}, zlset2 ls k v = some ls' → ∀ q ∈ ls', q = (k, v) ∨ (q ∈ ls ∧ q.1 ≠ k ∧ q.1 ≠ k + 1 ∧ ¬ (q.1 + 1 = k ∧ q.2.category = 2))
  | [], _, _, _, h => by cases h; intro q hq; exact Or.inl (List.mem_singleton.mp hq)
  | (j, u) :: t, ls', k, v, h => by
    unfold zlset2 at h
    split at h
    · split at h
      · rename_i t' ht
        cases h
        intro q hq
        rcases List.mem_cons.mp hq with hq | hq
        · exact Or.inl hq
        · exact Or.inr ⟨List.mem_cons_of_mem _ (zldel2_mem ht q hq).1, (zldel2_mem ht q hq).2⟩
      · cases h
    · rename_i hb
      split at h
      · intro q hq
        rcases zlset2_mem h q hq with hq | hq
        · exact Or.inl hq
        · exact Or.inr ⟨List.mem_cons_of_mem _ hq.1, hq.2⟩
      · rename_i hc
        split at h
        · rename_i t' ht
          cases h
          intro q hq
          rcases List.mem_cons.mp hq with hq | hq
          · subst hq
            refine Or.inr ⟨List.mem_cons_self, fun e => ?_, fun e => ?_, fun e => ?_⟩
            · have e : j = k := e
              subst e
              simp at hb
            · have e : j = k + 1 := e
              subst e
              simp at hc
            · simp [Nat.beq_eq, e.1, e.2] at hc
          · rcases zlset2_mem ht q hq with hq | hq
            · exact Or.inl hq
            · exact Or.inr ⟨List.mem_cons_of_mem _ hq.1, hq.2⟩
        · cases h
theorem zlo_get {ad : Nat → Nat} {ls : Array Slot} {nL : Nat} {lo : zLo} {k : Nat} {v : Value} (hl : lv_has ls nL (zlo ad lo)) (h : zlget lo k = some v) : ls[k]? = some (.val (zcv ad v)) :=
  hl.2.2 (k, zcv ad v) (List.mem_map.mpr ⟨(k, v), zlget_mem h, rfl⟩)
theorem zlo_set {ad : Nat → Nat} {ls : Array Slot} {nL : Nat} {lo lo' : zLo} {k : Nat} {v : Value} (hl : lv_has ls nL ((k, zcv ad v) :: (zlo ad lo).filter (fun q => !(q.1 == k) && !(q.1 + 1 == k && q.2.category == 2)))) (h : zlset lo k v = some lo') : lv_has ls nL (zlo ad lo') := by
  refine ⟨hl.1, hl.2.1, fun q hq => ?_⟩
  obtain ⟨a, ha, rfl⟩ := List.mem_map.mp hq
  rcases zlset_mem h a ha with e | ⟨h1, h2, h3⟩
  · subst e
    exact hl.2.2 _ List.mem_cons_self
  · refine hl.2.2 (a.1, zcv ad a.2) (List.mem_cons_of_mem _ (List.mem_filter.mpr ⟨List.mem_map.mpr ⟨a, h1, rfl⟩, ?_⟩))
    simp only [zcv_cat, Bool.and_eq_true, Bool.not_eq_true', beq_eq_false_iff_ne, ne_eq, Bool.and_eq_false_iff]
    refine ⟨h2, ?_⟩
    by_cases e : a.1 + 1 = k
    · exact Or.inr (fun z => h3 ⟨e, z⟩)
    · exact Or.inl e
theorem zlo_set2 {ad : Nat → Nat} {ls : Array Slot} {nL : Nat} {lo lo' : zLo} {k : Nat} {v : Value} (hl : lv_has ls nL ((k, zcv ad v) :: (zlo ad lo).filter (fun q => !(q.1 == k) && (!(q.1 == k + 1) && !(q.1 + 1 == k && q.2.category == 2))))) (h : zlset2 lo k v = some lo') : lv_has ls nL (zlo ad lo') := by
  refine ⟨hl.1, hl.2.1, fun q hq => ?_⟩
  obtain ⟨a, ha, rfl⟩ := List.mem_map.mp hq
  rcases zlset2_mem h a ha with e | ⟨h1, h2, h4, h3⟩
  · subst e
    exact hl.2.2 _ List.mem_cons_self
  · refine hl.2.2 (a.1, zcv ad a.2) (List.mem_cons_of_mem _ (List.mem_filter.mpr ⟨List.mem_map.mpr ⟨a, h1, rfl⟩, ?_⟩))
    simp only [zcv_cat, Bool.and_eq_true, Bool.not_eq_true', beq_eq_false_iff_ne, ne_eq, Bool.and_eq_false_iff]
    refine ⟨h2, h4, ?_⟩
    by_cases e : a.1 + 1 = k
    · exact Or.inr (fun z => h3 ⟨e, z⟩)
    · exact Or.inl e
def zo_no : zOp := fun _ _ _ => none
theorem zs_no {zMD : List zM} {own : String} {cc : ByteArray} {nL : Nat} {ret : Option FieldType} {pc : Nat} : zSnd zMD own cc nL ret pc zo_no := by
  intro d p l e R s m args below meth c g σ0 A cells slots Q hC lo st σ x hx
  cases hx

def zo_c (v : Int32) (n : Nat) : zOp := fun lo st σ => some (.inl (n, lo, .int v :: st, σ))
def zo_cl (v : Int64) (n : Nat) : zOp := fun lo st σ => some (.inl (n, lo, .long v :: st, σ))
theorem zs_iconst {zMD : List zM} {own : String} {cc : ByteArray} {nL : Nat} {ret : Option FieldType} {pc : Nat} {z : Int} {v : Int32} (hd : decode cc pc = .ok (.iconst z, 1)) (hv : Int32.ofInt z = v) : zSnd zMD own cc nL ret pc (zo_c v (pc + 1)) := by
  intro d p l e R s m args below meth c g σ0 A cells slots Q hC lo st σ x hx
  obtain ⟨hex, hb, hml, hown, hts, hK, hSt, hA, hfr, hlo, hce, hsl⟩ := hC
  cases hx
  intro K H locs ls hP hD hS hF hl
  exact lv_iconst hex hb hd hv (K H locs ls hP hD hS hF hl)
theorem zs_bipush {zMD : List zM} {own : String} {cc : ByteArray} {nL : Nat} {ret : Option FieldType} {pc : Nat} {z : Int} {v : Int32} (hd : decode cc pc = .ok (.bipush z, 2)) (hv : (Int8.ofInt z).toInt32 = v) : zSnd zMD own cc nL ret pc (zo_c v (pc + 2)) := by
  intro d p l e R s m args below meth c g σ0 A cells slots Q hC lo st σ x hx
  obtain ⟨hex, hb, hml, hown, hts, hK, hSt, hA, hfr, hlo, hce, hsl⟩ := hC
  cases hx
  intro K H locs ls hP hD hS hF hl
  exact lv_bipush hex hb hd hv (K H locs ls hP hD hS hF hl)
theorem zs_sipush {zMD : List zM} {own : String} {cc : ByteArray} {nL : Nat} {ret : Option FieldType} {pc : Nat} {z : Int} {v : Int32} (hd : decode cc pc = .ok (.sipush z, 3)) (hv : (Int16.ofInt z).toInt32 = v) : zSnd zMD own cc nL ret pc (zo_c v (pc + 3)) := by
  intro d p l e R s m args below meth c g σ0 A cells slots Q hC lo st σ x hx
  obtain ⟨hex, hb, hml, hown, hts, hK, hSt, hA, hfr, hlo, hce, hsl⟩ := hC
  cases hx
  intro K H locs ls hP hD hS hF hl
  exact lv_sipush hex hb hd hv (K H locs ls hP hD hS hF hl)
theorem zs_ldc {zMD : List zM} {own : String} {cc : ByteArray} {nL : Nat} {ret : Option FieldType} {pc : Nat} {i : Nat} {v : Int32} (hd : decode cc pc = .ok (.ldc i, 2)) (hm : Cond.constant own i v ∈ lw_tbl) : zSnd zMD own cc nL ret pc (zo_c v (pc + 2)) := by
  intro d p l e R s m args below meth c g σ0 A cells slots Q hC lo st σ x hx
  obtain ⟨hex, hb, hml, hown, hts, hK, hSt, hA, hfr, hlo, hce, hsl⟩ := hC
  cases hx
  intro K H locs ls hP hD hS hF hl
  exact lv_ldc hex hb hown (hts _ hm) hd (K H locs ls hP hD hS hF hl)
theorem zs_ldcw {zMD : List zM} {own : String} {cc : ByteArray} {nL : Nat} {ret : Option FieldType} {pc : Nat} {i : Nat} {v : Int32} (hd : decode cc pc = .ok (.ldc_w i, 3)) (hm : Cond.constant own i v ∈ lw_tbl) : zSnd zMD own cc nL ret pc (zo_c v (pc + 3)) := by
  intro d p l e R s m args below meth c g σ0 A cells slots Q hC lo st σ x hx
  obtain ⟨hex, hb, hml, hown, hts, hK, hSt, hA, hfr, hlo, hce, hsl⟩ := hC
  cases hx
  intro K H locs ls hP hD hS hF hl
  exact lv_ldcw hex hb hown (hts _ hm) hd (K H locs ls hP hD hS hF hl)
theorem zs_ldc2 {zMD : List zM} {own : String} {cc : ByteArray} {nL : Nat} {ret : Option FieldType} {pc : Nat} {i : Nat} {v : Int64} (hd : decode cc pc = .ok (.ldc2_w i, 3)) (hm : Cond.constantLong own i v ∈ lw_tbl) : zSnd zMD own cc nL ret pc (zo_cl v (pc + 3)) := by
  intro d p l e R s m args below meth c g σ0 A cells slots Q hC lo st σ x hx
  obtain ⟨hex, hb, hml, hown, hts, hK, hSt, hA, hfr, hlo, hce, hsl⟩ := hC
  cases hx
  intro K H locs ls hP hD hS hF hl
  exact lv_ldc2 hex hb hown (hts _ hm) hd (K H locs ls hP hD hS hF hl)
theorem zs_lconst {zMD : List zM} {own : String} {cc : ByteArray} {nL : Nat} {ret : Option FieldType} {pc : Nat} {z : Fin 2} {v : Int64} (hd : decode cc pc = .ok (.lconst z, 1)) (hv : Int64.ofNat (z : Nat) = v) : zSnd zMD own cc nL ret pc (zo_cl v (pc + 1)) := by
  intro d p l e R s m args below meth c g σ0 A cells slots Q hC lo st σ x hx
  obtain ⟨hex, hb, hml, hown, hts, hK, hSt, hA, hfr, hlo, hce, hsl⟩ := hC
  cases hx
  intro K H locs ls hP hD hS hF hl
  exact lv_lconst hex hb hd hv (K H locs ls hP hD hS hF hl)
def zo_ild (k n : Nat) : zOp := fun lo st σ => match zlget lo k with
  | some (.int v) => some (.inl (n, lo, .int v :: st, σ))
  | _ => none
theorem zs_ild {zMD : List zM} {own : String} {cc : ByteArray} {nL : Nat} {ret : Option FieldType} {pc : Nat} {k : Nat} (hd : decode cc pc = .ok (.iload k, 2)) : zSnd zMD own cc nL ret pc (zo_ild k (pc + 2)) := by
  intro d p l e R s m args below meth c g σ0 A cells slots Q hC lo st σ x hx
  obtain ⟨hex, hb, hml, hown, hts, hK, hSt, hA, hfr, hlo, hce, hsl⟩ := hC
  unfold zo_ild at hx
  split at hx
  · rename_i v hv
    cases hx
    intro K H locs ls hP hD hS hF hl
    exact lv_iload hex hb hd (zlo_get hl hv) (K H locs ls hP hD hS hF hl)
  · cases hx
theorem zs_ildn {zMD : List zM} {own : String} {cc : ByteArray} {nL : Nat} {ret : Option FieldType} {pc : Nat} {q : Fin 4} {k : Nat} (hd : decode cc pc = .ok (.iload_n q, 1)) (hq : (q : Nat) = k) : zSnd zMD own cc nL ret pc (zo_ild k (pc + 1)) := by
  intro d p l e R s m args below meth c g σ0 A cells slots Q hC lo st σ x hx
  obtain ⟨hex, hb, hml, hown, hts, hK, hSt, hA, hfr, hlo, hce, hsl⟩ := hC
  unfold zo_ild at hx
  split at hx
  · rename_i v hv
    cases hx
    intro K H locs ls hP hD hS hF hl
    exact lv_iload_n hex hb hd hq (zlo_get hl hv) (K H locs ls hP hD hS hF hl)
  · cases hx
def zo_lld (k n : Nat) : zOp := fun lo st σ => match zlget lo k with
  | some (.long v) => some (.inl (n, lo, .long v :: st, σ))
  | _ => none
theorem zs_lld {zMD : List zM} {own : String} {cc : ByteArray} {nL : Nat} {ret : Option FieldType} {pc : Nat} {k : Nat} (hd : decode cc pc = .ok (.lload k, 2)) : zSnd zMD own cc nL ret pc (zo_lld k (pc + 2)) := by
  intro d p l e R s m args below meth c g σ0 A cells slots Q hC lo st σ x hx
  obtain ⟨hex, hb, hml, hown, hts, hK, hSt, hA, hfr, hlo, hce, hsl⟩ := hC
  unfold zo_lld at hx
  split at hx
  · rename_i v hv
    cases hx
    intro K H locs ls hP hD hS hF hl
    exact lv_lload hex hb hd (zlo_get hl hv) (K H locs ls hP hD hS hF hl)
  · cases hx
theorem zs_lldn {zMD : List zM} {own : String} {cc : ByteArray} {nL : Nat} {ret : Option FieldType} {pc : Nat} {q : Fin 4} {k : Nat} (hd : decode cc pc = .ok (.lload_n q, 1)) (hq : (q : Nat) = k) : zSnd zMD own cc nL ret pc (zo_lld k (pc + 1)) := by
  intro d p l e R s m args below meth c g σ0 A cells slots Q hC lo st σ x hx
  obtain ⟨hex, hb, hml, hown, hts, hK, hSt, hA, hfr, hlo, hce, hsl⟩ := hC
  unfold zo_lld at hx
  split at hx
  · rename_i v hv
    cases hx
    intro K H locs ls hP hD hS hF hl
    exact lv_lload_n hex hb hd hq (zlo_get hl hv) (K H locs ls hP hD hS hF hl)
  · cases hx
def zo_ald (k n : Nat) : zOp := fun lo st σ => match zlget lo k with
  | some (.ref v) => some (.inl (n, lo, .ref v :: st, σ))
  | _ => none
theorem zs_ald {zMD : List zM} {own : String} {cc : ByteArray} {nL : Nat} {ret : Option FieldType} {pc : Nat} {k : Nat} (hd : decode cc pc = .ok (.aload k, 2)) : zSnd zMD own cc nL ret pc (zo_ald k (pc + 2)) := by
  intro d p l e R s m args below meth c g σ0 A cells slots Q hC lo st σ x hx
  obtain ⟨hex, hb, hml, hown, hts, hK, hSt, hA, hfr, hlo, hce, hsl⟩ := hC
  unfold zo_ald at hx
  split at hx
  · rename_i v hv
    cases hx
    intro K H locs ls hP hD hS hF hl
    exact lv_aload hex hb hd (zlo_get hl hv) (K H locs ls hP hD hS hF hl)
  · cases hx
theorem zs_aldn {zMD : List zM} {own : String} {cc : ByteArray} {nL : Nat} {ret : Option FieldType} {pc : Nat} {q : Fin 4} {k : Nat} (hd : decode cc pc = .ok (.aload_n q, 1)) (hq : (q : Nat) = k) : zSnd zMD own cc nL ret pc (zo_ald k (pc + 1)) := by
  intro d p l e R s m args below meth c g σ0 A cells slots Q hC lo st σ x hx
  obtain ⟨hex, hb, hml, hown, hts, hK, hSt, hA, hfr, hlo, hce, hsl⟩ := hC
  unfold zo_ald at hx
  split at hx
  · rename_i v hv
    cases hx
    intro K H locs ls hP hD hS hF hl
    exact lv_aload_n hex hb hd hq (zlo_get hl hv) (K H locs ls hP hD hS hF hl)
  · cases hx
def zo_ist (k n : Nat) : zOp := fun lo st σ => match st with
  | .int v :: r => match zlset lo k (.int v) with
    | some lo' => some (.inl (n, lo', r, σ))
    | none => none
  | _ => none
theorem zs_ist {zMD : List zM} {own : String} {cc : ByteArray} {nL : Nat} {ret : Option FieldType} {pc : Nat} {k : Nat} (hd : decode cc pc = .ok (.istore k, 2)) (hn : k < nL) : zSnd zMD own cc nL ret pc (zo_ist k (pc + 2)) := by
  intro d p l e R s m args below meth c g σ0 A cells slots Q hC lo st σ x hx
  obtain ⟨hex, hb, hml, hown, hts, hK, hSt, hA, hfr, hlo, hce, hsl⟩ := hC
  unfold zo_ist at hx
  split at hx
  · split at hx
    · rename_i lo' hs
      cases hx
      intro K H locs ls hP hD hS hF hl
      exact lv_istore hex hb hd hl hn rfl (fun ls' hl' => K H locs ls' hP hD hS hF (zlo_set hl' hs))
    · cases hx
  · cases hx
theorem zs_istn {zMD : List zM} {own : String} {cc : ByteArray} {nL : Nat} {ret : Option FieldType} {pc : Nat} {k : Nat} {q : Fin 4} (hd : decode cc pc = .ok (.istore_n q, 1)) (hq : (q : Nat) = k) (hn : k < nL) : zSnd zMD own cc nL ret pc (zo_ist k (pc + 1)) := by
  intro d p l e R s m args below meth c g σ0 A cells slots Q hC lo st σ x hx
  obtain ⟨hex, hb, hml, hown, hts, hK, hSt, hA, hfr, hlo, hce, hsl⟩ := hC
  unfold zo_ist at hx
  split at hx
  · split at hx
    · rename_i lo' hs
      cases hx
      intro K H locs ls hP hD hS hF hl
      exact lv_istore_n hex hb hd hq hl hn rfl (fun ls' hl' => K H locs ls' hP hD hS hF (zlo_set hl' hs))
    · cases hx
  · cases hx
def zo_lst (k n : Nat) : zOp := fun lo st σ => match st with
  | .long v :: r => match zlset2 lo k (.long v) with
    | some lo' => some (.inl (n, lo', r, σ))
    | none => none
  | _ => none
theorem zs_lst {zMD : List zM} {own : String} {cc : ByteArray} {nL : Nat} {ret : Option FieldType} {pc : Nat} {k : Nat} (hd : decode cc pc = .ok (.lstore k, 2)) (hn : k + 1 < nL) : zSnd zMD own cc nL ret pc (zo_lst k (pc + 2)) := by
  intro d p l e R s m args below meth c g σ0 A cells slots Q hC lo st σ x hx
  obtain ⟨hex, hb, hml, hown, hts, hK, hSt, hA, hfr, hlo, hce, hsl⟩ := hC
  unfold zo_lst at hx
  split at hx
  · split at hx
    · rename_i lo' hs
      cases hx
      intro K H locs ls hP hD hS hF hl
      exact lv_lstore hex hb hd hl hn rfl (fun ls' hl' => K H locs ls' hP hD hS hF (zlo_set2 hl' hs))
    · cases hx
  · cases hx
theorem zs_lstn {zMD : List zM} {own : String} {cc : ByteArray} {nL : Nat} {ret : Option FieldType} {pc : Nat} {k : Nat} {q : Fin 4} (hd : decode cc pc = .ok (.lstore_n q, 1)) (hq : (q : Nat) = k) (hn : k + 1 < nL) : zSnd zMD own cc nL ret pc (zo_lst k (pc + 1)) := by
  intro d p l e R s m args below meth c g σ0 A cells slots Q hC lo st σ x hx
  obtain ⟨hex, hb, hml, hown, hts, hK, hSt, hA, hfr, hlo, hce, hsl⟩ := hC
  unfold zo_lst at hx
  split at hx
  · split at hx
    · rename_i lo' hs
      cases hx
      intro K H locs ls hP hD hS hF hl
      exact lv_lstore_n hex hb hd hq hl hn rfl (fun ls' hl' => K H locs ls' hP hD hS hF (zlo_set2 hl' hs))
    · cases hx
  · cases hx
def zo_ast (k n : Nat) : zOp := fun lo st σ => match st with
  | .ref v :: r => match zlset lo k (.ref v) with
    | some lo' => some (.inl (n, lo', r, σ))
    | none => none
  | _ => none
theorem zs_ast {zMD : List zM} {own : String} {cc : ByteArray} {nL : Nat} {ret : Option FieldType} {pc : Nat} {k : Nat} (hd : decode cc pc = .ok (.astore k, 2)) (hn : k < nL) : zSnd zMD own cc nL ret pc (zo_ast k (pc + 2)) := by
  intro d p l e R s m args below meth c g σ0 A cells slots Q hC lo st σ x hx
  obtain ⟨hex, hb, hml, hown, hts, hK, hSt, hA, hfr, hlo, hce, hsl⟩ := hC
  unfold zo_ast at hx
  split at hx
  · split at hx
    · rename_i lo' hs
      cases hx
      intro K H locs ls hP hD hS hF hl
      exact lv_astore hex hb hd hl hn rfl (fun ls' hl' => K H locs ls' hP hD hS hF (zlo_set hl' hs))
    · cases hx
  · cases hx
theorem zs_astn {zMD : List zM} {own : String} {cc : ByteArray} {nL : Nat} {ret : Option FieldType} {pc : Nat} {k : Nat} {q : Fin 4} (hd : decode cc pc = .ok (.astore_n q, 1)) (hq : (q : Nat) = k) (hn : k < nL) : zSnd zMD own cc nL ret pc (zo_ast k (pc + 1)) := by
  intro d p l e R s m args below meth c g σ0 A cells slots Q hC lo st σ x hx
  obtain ⟨hex, hb, hml, hown, hts, hK, hSt, hA, hfr, hlo, hce, hsl⟩ := hC
  unfold zo_ast at hx
  split at hx
  · split at hx
    · rename_i lo' hs
      cases hx
      intro K H locs ls hP hD hS hF hl
      exact lv_astore_n hex hb hd hq hl hn rfl (fun ls' hl' => K H locs ls' hP hD hS hF (zlo_set hl' hs))
    · cases hx
  · cases hx
def zo_iinc (k : Nat) (z : Int32) (n : Nat) : zOp := fun lo st σ => match zlget lo k with
  | some (.int v) => match zlset lo k (.int (v + z)) with
    | some lo' => some (.inl (n, lo', st, σ))
    | none => none
  | _ => none
theorem zs_iinc {zMD : List zM} {own : String} {cc : ByteArray} {nL : Nat} {ret : Option FieldType} {pc : Nat} {k : Nat} {z : Int} {y : Int32} (hd : decode cc pc = .ok (.iinc k z, 3)) (hy : Int32.ofInt z = y) (hn : k < nL) : zSnd zMD own cc nL ret pc (zo_iinc k y (pc + 3)) := by
  intro d p l e R s m args below meth c g σ0 A cells slots Q hC lo st σ x hx
  obtain ⟨hex, hb, hml, hown, hts, hK, hSt, hA, hfr, hlo, hce, hsl⟩ := hC
  subst hy
  unfold zo_iinc at hx
  split at hx
  · rename_i v hv
    split at hx
    · rename_i lo' hs
      cases hx
      intro K H locs ls hP hD hS hF hl
      obtain ⟨k', hk'⟩ := List.getElem?_of_mem (List.mem_map.mpr ⟨(k, Value.int v), zlget_mem hv, rfl⟩ : (k, Value.int v) ∈ zlo g.1 lo)
      exact lv_iinc (k := k') hex hb hd hl hk' rfl hn rfl (fun ls' hl' => K H locs ls' hP hD hS hF (zlo_set hl' hs))
    · cases hx
  · cases hx
def zo_iadd (n : Nat) : zOp := fun lo st σ => match st with
  | .int y :: .int x :: r => some (.inl (n, lo, .int (x + y) :: r, σ))
  | _ => none
theorem zs_iadd {zMD : List zM} {own : String} {cc : ByteArray} {nL : Nat} {ret : Option FieldType} {pc : Nat} (hd : decode cc pc = .ok (.iadd, 1)) : zSnd zMD own cc nL ret pc (zo_iadd (pc + 1)) := by
  intro d p l e R s m args below meth c g σ0 A cells slots Q hC lo st σ x hx
  obtain ⟨hex, hb, hml, hown, hts, hK, hSt, hA, hfr, hlo, hce, hsl⟩ := hC
  unfold zo_iadd at hx
  split at hx
  · cases hx
    intro K H locs ls hP hD hS hF hl
    exact lv_iadd hex hb hd (K H locs ls hP hD hS hF hl)
  · cases hx
def zo_isub (n : Nat) : zOp := fun lo st σ => match st with
  | .int y :: .int x :: r => some (.inl (n, lo, .int (x - y) :: r, σ))
  | _ => none
theorem zs_isub {zMD : List zM} {own : String} {cc : ByteArray} {nL : Nat} {ret : Option FieldType} {pc : Nat} (hd : decode cc pc = .ok (.isub, 1)) : zSnd zMD own cc nL ret pc (zo_isub (pc + 1)) := by
  intro d p l e R s m args below meth c g σ0 A cells slots Q hC lo st σ x hx
  obtain ⟨hex, hb, hml, hown, hts, hK, hSt, hA, hfr, hlo, hce, hsl⟩ := hC
  unfold zo_isub at hx
  split at hx
  · cases hx
    intro K H locs ls hP hD hS hF hl
    exact lv_isub hex hb hd (K H locs ls hP hD hS hF hl)
  · cases hx
def zo_imul (n : Nat) : zOp := fun lo st σ => match st with
  | .int y :: .int x :: r => some (.inl (n, lo, .int (x * y) :: r, σ))
  | _ => none
theorem zs_imul {zMD : List zM} {own : String} {cc : ByteArray} {nL : Nat} {ret : Option FieldType} {pc : Nat} (hd : decode cc pc = .ok (.imul, 1)) : zSnd zMD own cc nL ret pc (zo_imul (pc + 1)) := by
  intro d p l e R s m args below meth c g σ0 A cells slots Q hC lo st σ x hx
  obtain ⟨hex, hb, hml, hown, hts, hK, hSt, hA, hfr, hlo, hce, hsl⟩ := hC
  unfold zo_imul at hx
  split at hx
  · cases hx
    intro K H locs ls hP hD hS hF hl
    exact lv_imul hex hb hd (K H locs ls hP hD hS hF hl)
  · cases hx
def zo_iand (n : Nat) : zOp := fun lo st σ => match st with
  | .int y :: .int x :: r => some (.inl (n, lo, .int (x &&& y) :: r, σ))
  | _ => none
theorem zs_iand {zMD : List zM} {own : String} {cc : ByteArray} {nL : Nat} {ret : Option FieldType} {pc : Nat} (hd : decode cc pc = .ok (.iand, 1)) : zSnd zMD own cc nL ret pc (zo_iand (pc + 1)) := by
  intro d p l e R s m args below meth c g σ0 A cells slots Q hC lo st σ x hx
  obtain ⟨hex, hb, hml, hown, hts, hK, hSt, hA, hfr, hlo, hce, hsl⟩ := hC
  unfold zo_iand at hx
  split at hx
  · cases hx
    intro K H locs ls hP hD hS hF hl
    exact lv_iand hex hb hd (K H locs ls hP hD hS hF hl)
  · cases hx
def zo_ior (n : Nat) : zOp := fun lo st σ => match st with
  | .int y :: .int x :: r => some (.inl (n, lo, .int (x ||| y) :: r, σ))
  | _ => none
theorem zs_ior {zMD : List zM} {own : String} {cc : ByteArray} {nL : Nat} {ret : Option FieldType} {pc : Nat} (hd : decode cc pc = .ok (.ior, 1)) : zSnd zMD own cc nL ret pc (zo_ior (pc + 1)) := by
  intro d p l e R s m args below meth c g σ0 A cells slots Q hC lo st σ x hx
  obtain ⟨hex, hb, hml, hown, hts, hK, hSt, hA, hfr, hlo, hce, hsl⟩ := hC
  unfold zo_ior at hx
  split at hx
  · cases hx
    intro K H locs ls hP hD hS hF hl
    exact lv_ior hex hb hd (K H locs ls hP hD hS hF hl)
  · cases hx
def zo_ixor (n : Nat) : zOp := fun lo st σ => match st with
  | .int y :: .int x :: r => some (.inl (n, lo, .int (x ^^^ y) :: r, σ))
  | _ => none
theorem zs_ixor {zMD : List zM} {own : String} {cc : ByteArray} {nL : Nat} {ret : Option FieldType} {pc : Nat} (hd : decode cc pc = .ok (.ixor, 1)) : zSnd zMD own cc nL ret pc (zo_ixor (pc + 1)) := by
  intro d p l e R s m args below meth c g σ0 A cells slots Q hC lo st σ x hx
  obtain ⟨hex, hb, hml, hown, hts, hK, hSt, hA, hfr, hlo, hce, hsl⟩ := hC
  unfold zo_ixor at hx
  split at hx
  · cases hx
    intro K H locs ls hP hD hS hF hl
    exact lv_ixor hex hb hd (K H locs ls hP hD hS hF hl)
  · cases hx
def zo_ishl (n : Nat) : zOp := fun lo st σ => match st with
  | .int y :: .int x :: r => some (.inl (n, lo, .int (x <<< (y &&& 31)) :: r, σ))
  | _ => none
theorem zs_ishl {zMD : List zM} {own : String} {cc : ByteArray} {nL : Nat} {ret : Option FieldType} {pc : Nat} (hd : decode cc pc = .ok (.ishl, 1)) : zSnd zMD own cc nL ret pc (zo_ishl (pc + 1)) := by
  intro d p l e R s m args below meth c g σ0 A cells slots Q hC lo st σ x hx
  obtain ⟨hex, hb, hml, hown, hts, hK, hSt, hA, hfr, hlo, hce, hsl⟩ := hC
  unfold zo_ishl at hx
  split at hx
  · cases hx
    intro K H locs ls hP hD hS hF hl
    exact lv_ishl hex hb hd (K H locs ls hP hD hS hF hl)
  · cases hx
def zo_ishr (n : Nat) : zOp := fun lo st σ => match st with
  | .int y :: .int x :: r => some (.inl (n, lo, .int (x >>> (y &&& 31)) :: r, σ))
  | _ => none
theorem zs_ishr {zMD : List zM} {own : String} {cc : ByteArray} {nL : Nat} {ret : Option FieldType} {pc : Nat} (hd : decode cc pc = .ok (.ishr, 1)) : zSnd zMD own cc nL ret pc (zo_ishr (pc + 1)) := by
  intro d p l e R s m args below meth c g σ0 A cells slots Q hC lo st σ x hx
  obtain ⟨hex, hb, hml, hown, hts, hK, hSt, hA, hfr, hlo, hce, hsl⟩ := hC
  unfold zo_ishr at hx
  split at hx
  · cases hx
    intro K H locs ls hP hD hS hF hl
    exact lv_ishr hex hb hd (K H locs ls hP hD hS hF hl)
  · cases hx
def zo_iushr (n : Nat) : zOp := fun lo st σ => match st with
  | .int y :: .int x :: r => some (.inl (n, lo, .int ((x.toUInt32 >>> (y.toUInt32 &&& Int32.toUInt32 31)).toInt32) :: r, σ))
  | _ => none
theorem zs_iushr {zMD : List zM} {own : String} {cc : ByteArray} {nL : Nat} {ret : Option FieldType} {pc : Nat} (hd : decode cc pc = .ok (.iushr, 1)) : zSnd zMD own cc nL ret pc (zo_iushr (pc + 1)) := by
  intro d p l e R s m args below meth c g σ0 A cells slots Q hC lo st σ x hx
  obtain ⟨hex, hb, hml, hown, hts, hK, hSt, hA, hfr, hlo, hce, hsl⟩ := hC
  unfold zo_iushr at hx
  split at hx
  · cases hx
    intro K H locs ls hP hD hS hF hl
    exact lv_iushr hex hb hd rfl (K H locs ls hP hD hS hF hl)
  · cases hx
def zo_idiv (n : Nat) : zOp := fun lo st σ => match st with
  | .int y :: .int x :: r => if ¬ y = 0 then some (.inl (n, lo, .int (x / y) :: r, σ)) else none
  | _ => none
theorem zs_idiv {zMD : List zM} {own : String} {cc : ByteArray} {nL : Nat} {ret : Option FieldType} {pc : Nat} (hd : decode cc pc = .ok (.idiv, 1)) : zSnd zMD own cc nL ret pc (zo_idiv (pc + 1)) := by
  intro d p l e R s m args below meth c g σ0 A cells slots Q hC lo st σ x hx
  obtain ⟨hex, hb, hml, hown, hts, hK, hSt, hA, hfr, hlo, hce, hsl⟩ := hC
  unfold zo_idiv at hx
  split at hx
  · split at hx
    · rename_i hg
      cases hx
      intro K H locs ls hP hD hS hF hl
      exact lv_idiv hex hb hd hg (K H locs ls hP hD hS hF hl)
    · cases hx
  · cases hx
def zo_irem (n : Nat) : zOp := fun lo st σ => match st with
  | .int y :: .int x :: r => if ¬ y = 0 then some (.inl (n, lo, .int (x - x / y * y) :: r, σ)) else none
  | _ => none
theorem zs_irem {zMD : List zM} {own : String} {cc : ByteArray} {nL : Nat} {ret : Option FieldType} {pc : Nat} (hd : decode cc pc = .ok (.irem, 1)) : zSnd zMD own cc nL ret pc (zo_irem (pc + 1)) := by
  intro d p l e R s m args below meth c g σ0 A cells slots Q hC lo st σ x hx
  obtain ⟨hex, hb, hml, hown, hts, hK, hSt, hA, hfr, hlo, hce, hsl⟩ := hC
  unfold zo_irem at hx
  split at hx
  · split at hx
    · rename_i hg
      cases hx
      intro K H locs ls hP hD hS hF hl
      exact lv_irem hex hb hd hg (K H locs ls hP hD hS hF hl)
    · cases hx
  · cases hx
def zo_ladd (n : Nat) : zOp := fun lo st σ => match st with
  | .long y :: .long x :: r => some (.inl (n, lo, .long (x + y) :: r, σ))
  | _ => none
theorem zs_ladd {zMD : List zM} {own : String} {cc : ByteArray} {nL : Nat} {ret : Option FieldType} {pc : Nat} (hd : decode cc pc = .ok (.ladd, 1)) : zSnd zMD own cc nL ret pc (zo_ladd (pc + 1)) := by
  intro d p l e R s m args below meth c g σ0 A cells slots Q hC lo st σ x hx
  obtain ⟨hex, hb, hml, hown, hts, hK, hSt, hA, hfr, hlo, hce, hsl⟩ := hC
  unfold zo_ladd at hx
  split at hx
  · cases hx
    intro K H locs ls hP hD hS hF hl
    exact lv_ladd hex hb hd (K H locs ls hP hD hS hF hl)
  · cases hx
def zo_lsub (n : Nat) : zOp := fun lo st σ => match st with
  | .long y :: .long x :: r => some (.inl (n, lo, .long (x - y) :: r, σ))
  | _ => none
theorem zs_lsub {zMD : List zM} {own : String} {cc : ByteArray} {nL : Nat} {ret : Option FieldType} {pc : Nat} (hd : decode cc pc = .ok (.lsub, 1)) : zSnd zMD own cc nL ret pc (zo_lsub (pc + 1)) := by
  intro d p l e R s m args below meth c g σ0 A cells slots Q hC lo st σ x hx
  obtain ⟨hex, hb, hml, hown, hts, hK, hSt, hA, hfr, hlo, hce, hsl⟩ := hC
  unfold zo_lsub at hx
  split at hx
  · cases hx
    intro K H locs ls hP hD hS hF hl
    exact lv_lsub hex hb hd (K H locs ls hP hD hS hF hl)
  · cases hx
def zo_lmul (n : Nat) : zOp := fun lo st σ => match st with
  | .long y :: .long x :: r => some (.inl (n, lo, .long (x * y) :: r, σ))
  | _ => none
theorem zs_lmul {zMD : List zM} {own : String} {cc : ByteArray} {nL : Nat} {ret : Option FieldType} {pc : Nat} (hd : decode cc pc = .ok (.lmul, 1)) : zSnd zMD own cc nL ret pc (zo_lmul (pc + 1)) := by
  intro d p l e R s m args below meth c g σ0 A cells slots Q hC lo st σ x hx
  obtain ⟨hex, hb, hml, hown, hts, hK, hSt, hA, hfr, hlo, hce, hsl⟩ := hC
  unfold zo_lmul at hx
  split at hx
  · cases hx
    intro K H locs ls hP hD hS hF hl
    exact lv_lmul hex hb hd (K H locs ls hP hD hS hF hl)
  · cases hx
def zo_lrem (n : Nat) : zOp := fun lo st σ => match st with
  | .long y :: .long x :: r => if ¬ y = 0 then some (.inl (n, lo, .long (x - x / y * y) :: r, σ)) else none
  | _ => none
theorem zs_lrem {zMD : List zM} {own : String} {cc : ByteArray} {nL : Nat} {ret : Option FieldType} {pc : Nat} (hd : decode cc pc = .ok (.lrem, 1)) : zSnd zMD own cc nL ret pc (zo_lrem (pc + 1)) := by
  intro d p l e R s m args below meth c g σ0 A cells slots Q hC lo st σ x hx
  obtain ⟨hex, hb, hml, hown, hts, hK, hSt, hA, hfr, hlo, hce, hsl⟩ := hC
  unfold zo_lrem at hx
  split at hx
  · split at hx
    · rename_i hg
      cases hx
      intro K H locs ls hP hD hS hF hl
      exact lv_lrem hex hb hd hg (K H locs ls hP hD hS hF hl)
    · cases hx
  · cases hx
def zo_lcmp (n : Nat) : zOp := fun lo st σ => match st with
  | .long y :: .long x :: r => some (.inl (n, lo, .int (lg_cmp x y) :: r, σ))
  | _ => none
theorem zs_lcmp {zMD : List zM} {own : String} {cc : ByteArray} {nL : Nat} {ret : Option FieldType} {pc : Nat} (hd : decode cc pc = .ok (.lcmp, 1)) : zSnd zMD own cc nL ret pc (zo_lcmp (pc + 1)) := by
  intro d p l e R s m args below meth c g σ0 A cells slots Q hC lo st σ x hx
  obtain ⟨hex, hb, hml, hown, hts, hK, hSt, hA, hfr, hlo, hce, hsl⟩ := hC
  unfold zo_lcmp at hx
  split at hx
  · cases hx
    intro K H locs ls hP hD hS hF hl
    exact W.lcmp hex hb hd (K H locs ls hP hD hS hF hl)
  · cases hx
def zo_ineg (n : Nat) : zOp := fun lo st σ => match st with
  | .int x :: r => some (.inl (n, lo, .int (-x) :: r, σ))
  | _ => none
theorem zs_ineg {zMD : List zM} {own : String} {cc : ByteArray} {nL : Nat} {ret : Option FieldType} {pc : Nat} (hd : decode cc pc = .ok (.ineg, 1)) : zSnd zMD own cc nL ret pc (zo_ineg (pc + 1)) := by
  intro d p l e R s m args below meth c g σ0 A cells slots Q hC lo st σ x hx
  obtain ⟨hex, hb, hml, hown, hts, hK, hSt, hA, hfr, hlo, hce, hsl⟩ := hC
  unfold zo_ineg at hx
  split at hx
  · cases hx
    intro K H locs ls hP hD hS hF hl
    exact lv_ineg hex hb hd (K H locs ls hP hD hS hF hl)
  · cases hx
def zo_i2l (n : Nat) : zOp := fun lo st σ => match st with
  | .int x :: r => some (.inl (n, lo, .long x.toInt64 :: r, σ))
  | _ => none
theorem zs_i2l {zMD : List zM} {own : String} {cc : ByteArray} {nL : Nat} {ret : Option FieldType} {pc : Nat} (hd : decode cc pc = .ok (.i2l, 1)) : zSnd zMD own cc nL ret pc (zo_i2l (pc + 1)) := by
  intro d p l e R s m args below meth c g σ0 A cells slots Q hC lo st σ x hx
  obtain ⟨hex, hb, hml, hown, hts, hK, hSt, hA, hfr, hlo, hce, hsl⟩ := hC
  unfold zo_i2l at hx
  split at hx
  · cases hx
    intro K H locs ls hP hD hS hF hl
    exact lv_i2l hex hb hd rfl (K H locs ls hP hD hS hF hl)
  · cases hx
def zo_l2i (n : Nat) : zOp := fun lo st σ => match st with
  | .long x :: r => some (.inl (n, lo, .int x.toInt32 :: r, σ))
  | _ => none
theorem zs_l2i {zMD : List zM} {own : String} {cc : ByteArray} {nL : Nat} {ret : Option FieldType} {pc : Nat} (hd : decode cc pc = .ok (.l2i, 1)) : zSnd zMD own cc nL ret pc (zo_l2i (pc + 1)) := by
  intro d p l e R s m args below meth c g σ0 A cells slots Q hC lo st σ x hx
  obtain ⟨hex, hb, hml, hown, hts, hK, hSt, hA, hfr, hlo, hce, hsl⟩ := hC
  unfold zo_l2i at hx
  split at hx
  · cases hx
    intro K H locs ls hP hD hS hF hl
    exact lv_l2i hex hb hd rfl (K H locs ls hP hD hS hF hl)
  · cases hx
def zo_i2b (n : Nat) : zOp := fun lo st σ => match st with
  | .int x :: r => some (.inl (n, lo, .int x.toInt8.toInt32 :: r, σ))
  | _ => none
theorem zs_i2b {zMD : List zM} {own : String} {cc : ByteArray} {nL : Nat} {ret : Option FieldType} {pc : Nat} (hd : decode cc pc = .ok (.i2b, 1)) : zSnd zMD own cc nL ret pc (zo_i2b (pc + 1)) := by
  intro d p l e R s m args below meth c g σ0 A cells slots Q hC lo st σ x hx
  obtain ⟨hex, hb, hml, hown, hts, hK, hSt, hA, hfr, hlo, hce, hsl⟩ := hC
  unfold zo_i2b at hx
  split at hx
  · cases hx
    intro K H locs ls hP hD hS hF hl
    exact lv_i2b hex hb hd rfl (K H locs ls hP hD hS hF hl)
  · cases hx
def zo_i2s (n : Nat) : zOp := fun lo st σ => match st with
  | .int x :: r => some (.inl (n, lo, .int x.toInt16.toInt32 :: r, σ))
  | _ => none
theorem zs_i2s {zMD : List zM} {own : String} {cc : ByteArray} {nL : Nat} {ret : Option FieldType} {pc : Nat} (hd : decode cc pc = .ok (.i2s, 1)) : zSnd zMD own cc nL ret pc (zo_i2s (pc + 1)) := by
  intro d p l e R s m args below meth c g σ0 A cells slots Q hC lo st σ x hx
  obtain ⟨hex, hb, hml, hown, hts, hK, hSt, hA, hfr, hlo, hce, hsl⟩ := hC
  unfold zo_i2s at hx
  split at hx
  · cases hx
    intro K H locs ls hP hD hS hF hl
    exact lv_i2s hex hb hd rfl (K H locs ls hP hD hS hF hl)
  · cases hx
def zo_dupi (n : Nat) : zOp := fun lo st σ => match st with
  | .int x :: r => some (.inl (n, lo, .int x :: .int x :: r, σ))
  | _ => none
theorem zs_dupi {zMD : List zM} {own : String} {cc : ByteArray} {nL : Nat} {ret : Option FieldType} {pc : Nat} (hd : decode cc pc = .ok (.dup, 1)) : zSnd zMD own cc nL ret pc (zo_dupi (pc + 1)) := by
  intro d p l e R s m args below meth c g σ0 A cells slots Q hC lo st σ x hx
  obtain ⟨hex, hb, hml, hown, hts, hK, hSt, hA, hfr, hlo, hce, hsl⟩ := hC
  unfold zo_dupi at hx
  split at hx
  · cases hx
    intro K H locs ls hP hD hS hF hl
    exact lv_dup hex hb hd rfl (K H locs ls hP hD hS hF hl)
  · cases hx
def zo_dupa (n : Nat) : zOp := fun lo st σ => match st with
  | .ref x :: r => some (.inl (n, lo, .ref x :: .ref x :: r, σ))
  | _ => none
theorem zs_dupa {zMD : List zM} {own : String} {cc : ByteArray} {nL : Nat} {ret : Option FieldType} {pc : Nat} (hd : decode cc pc = .ok (.dup, 1)) : zSnd zMD own cc nL ret pc (zo_dupa (pc + 1)) := by
  intro d p l e R s m args below meth c g σ0 A cells slots Q hC lo st σ x hx
  obtain ⟨hex, hb, hml, hown, hts, hK, hSt, hA, hfr, hlo, hce, hsl⟩ := hC
  unfold zo_dupa at hx
  split at hx
  · cases hx
    intro K H locs ls hP hD hS hF hl
    exact lv_dup hex hb hd rfl (K H locs ls hP hD hS hF hl)
  · cases hx
def zo_popi (n : Nat) : zOp := fun lo st σ => match st with
  | .int x :: r => some (.inl (n, lo, r, σ))
  | _ => none
theorem zs_popi {zMD : List zM} {own : String} {cc : ByteArray} {nL : Nat} {ret : Option FieldType} {pc : Nat} (hd : decode cc pc = .ok (.pop, 1)) : zSnd zMD own cc nL ret pc (zo_popi (pc + 1)) := by
  intro d p l e R s m args below meth c g σ0 A cells slots Q hC lo st σ x hx
  obtain ⟨hex, hb, hml, hown, hts, hK, hSt, hA, hfr, hlo, hce, hsl⟩ := hC
  unfold zo_popi at hx
  split at hx
  · cases hx
    intro K H locs ls hP hD hS hF hl
    exact lv_pop hex hb hd rfl (K H locs ls hP hD hS hF hl)
  · cases hx
def zo_dup2 (n : Nat) : zOp := fun lo st σ => match st with
  | .int x :: .ref y :: r => some (.inl (n, lo, .int x :: .ref y :: .int x :: .ref y :: r, σ))
  | _ => none
theorem zs_dup2 {zMD : List zM} {own : String} {cc : ByteArray} {nL : Nat} {ret : Option FieldType} {pc : Nat} (hd : decode cc pc = .ok (.dup2, 1)) : zSnd zMD own cc nL ret pc (zo_dup2 (pc + 1)) := by
  intro d p l e R s m args below meth c g σ0 A cells slots Q hC lo st σ x hx
  obtain ⟨hex, hb, hml, hown, hts, hK, hSt, hA, hfr, hlo, hce, hsl⟩ := hC
  unfold zo_dup2 at hx
  split at hx
  · cases hx
    intro K H locs ls hP hD hS hF hl
    exact lv_dup2_11 hex hb hd rfl rfl (K H locs ls hP hD hS hF hl)
  · cases hx
def zo_zeq (t n : Nat) : zOp := fun lo st σ => match st with
  | .int x :: r => some (.inl (if x = 0 then t else n, lo, r, σ))
  | _ => none
theorem zs_zeq {zMD : List zM} {own : String} {cc : ByteArray} {nL : Nat} {ret : Option FieldType} {pc : Nat} {off : Int} {t : Nat} (hd : decode cc pc = .ok (.ifCond .eq off, 3)) (ht : (pc : Int) + off = (t : Int)) : zSnd zMD own cc nL ret pc (zo_zeq t (pc + 3)) := by
  intro d p l e R s m args below meth c g σ0 A cells slots Q hC lo st σ x hx
  obtain ⟨hex, hb, hml, hown, hts, hK, hSt, hA, hfr, hlo, hce, hsl⟩ := hC
  unfold zo_zeq at hx
  split at hx
  · cases hx
    intro K H locs ls hP hD hS hF hl
    have K := K H locs ls hP hD hS hF hl
    exact lv_if_eq hex hb hd ht (fun q => by rw [if_pos q] at K; exact K) (fun q => by rw [if_neg q] at K; exact K)
  · cases hx
def zo_zne (t n : Nat) : zOp := fun lo st σ => match st with
  | .int x :: r => some (.inl (if x = 0 then n else t, lo, r, σ))
  | _ => none
theorem zs_zne {zMD : List zM} {own : String} {cc : ByteArray} {nL : Nat} {ret : Option FieldType} {pc : Nat} {off : Int} {t : Nat} (hd : decode cc pc = .ok (.ifCond .ne off, 3)) (ht : (pc : Int) + off = (t : Int)) : zSnd zMD own cc nL ret pc (zo_zne t (pc + 3)) := by
  intro d p l e R s m args below meth c g σ0 A cells slots Q hC lo st σ x hx
  obtain ⟨hex, hb, hml, hown, hts, hK, hSt, hA, hfr, hlo, hce, hsl⟩ := hC
  unfold zo_zne at hx
  split at hx
  · cases hx
    intro K H locs ls hP hD hS hF hl
    have K := K H locs ls hP hD hS hF hl
    exact lv_if_ne hex hb hd ht (fun q => by rw [if_neg q] at K; exact K) (fun q => by rw [if_pos q] at K; exact K)
  · cases hx
def zo_zlt (t n : Nat) : zOp := fun lo st σ => match st with
  | .int x :: r => some (.inl (if x < 0 then t else n, lo, r, σ))
  | _ => none
theorem zs_zlt {zMD : List zM} {own : String} {cc : ByteArray} {nL : Nat} {ret : Option FieldType} {pc : Nat} {off : Int} {t : Nat} (hd : decode cc pc = .ok (.ifCond .lt off, 3)) (ht : (pc : Int) + off = (t : Int)) : zSnd zMD own cc nL ret pc (zo_zlt t (pc + 3)) := by
  intro d p l e R s m args below meth c g σ0 A cells slots Q hC lo st σ x hx
  obtain ⟨hex, hb, hml, hown, hts, hK, hSt, hA, hfr, hlo, hce, hsl⟩ := hC
  unfold zo_zlt at hx
  split at hx
  · cases hx
    intro K H locs ls hP hD hS hF hl
    have K := K H locs ls hP hD hS hF hl
    exact lv_if_lt hex hb hd ht (fun q => by rw [if_pos q] at K; exact K) (fun q => by rw [if_neg q] at K; exact K)
  · cases hx
def zo_zge (t n : Nat) : zOp := fun lo st σ => match st with
  | .int x :: r => some (.inl (if 0 ≤ x then t else n, lo, r, σ))
  | _ => none
theorem zs_zge {zMD : List zM} {own : String} {cc : ByteArray} {nL : Nat} {ret : Option FieldType} {pc : Nat} {off : Int} {t : Nat} (hd : decode cc pc = .ok (.ifCond .ge off, 3)) (ht : (pc : Int) + off = (t : Int)) : zSnd zMD own cc nL ret pc (zo_zge t (pc + 3)) := by
  intro d p l e R s m args below meth c g σ0 A cells slots Q hC lo st σ x hx
  obtain ⟨hex, hb, hml, hown, hts, hK, hSt, hA, hfr, hlo, hce, hsl⟩ := hC
  unfold zo_zge at hx
  split at hx
  · cases hx
    intro K H locs ls hP hD hS hF hl
    have K := K H locs ls hP hD hS hF hl
    exact lv_if_ge hex hb hd ht (fun q => by rw [if_pos q] at K; exact K) (fun q => by rw [if_neg q] at K; exact K)
  · cases hx
def zo_zgt (t n : Nat) : zOp := fun lo st σ => match st with
  | .int x :: r => some (.inl (if 0 < x then t else n, lo, r, σ))
  | _ => none
theorem zs_zgt {zMD : List zM} {own : String} {cc : ByteArray} {nL : Nat} {ret : Option FieldType} {pc : Nat} {off : Int} {t : Nat} (hd : decode cc pc = .ok (.ifCond .gt off, 3)) (ht : (pc : Int) + off = (t : Int)) : zSnd zMD own cc nL ret pc (zo_zgt t (pc + 3)) := by
  intro d p l e R s m args below meth c g σ0 A cells slots Q hC lo st σ x hx
  obtain ⟨hex, hb, hml, hown, hts, hK, hSt, hA, hfr, hlo, hce, hsl⟩ := hC
  unfold zo_zgt at hx
  split at hx
  · cases hx
    intro K H locs ls hP hD hS hF hl
    have K := K H locs ls hP hD hS hF hl
    exact lv_if_gt hex hb hd ht (fun q => by rw [if_pos q] at K; exact K) (fun q => by rw [if_neg q] at K; exact K)
  · cases hx
def zo_zle (t n : Nat) : zOp := fun lo st σ => match st with
  | .int x :: r => some (.inl (if x ≤ 0 then t else n, lo, r, σ))
  | _ => none
theorem zs_zle {zMD : List zM} {own : String} {cc : ByteArray} {nL : Nat} {ret : Option FieldType} {pc : Nat} {off : Int} {t : Nat} (hd : decode cc pc = .ok (.ifCond .le off, 3)) (ht : (pc : Int) + off = (t : Int)) : zSnd zMD own cc nL ret pc (zo_zle t (pc + 3)) := by
  intro d p l e R s m args below meth c g σ0 A cells slots Q hC lo st σ x hx
  obtain ⟨hex, hb, hml, hown, hts, hK, hSt, hA, hfr, hlo, hce, hsl⟩ := hC
  unfold zo_zle at hx
  split at hx
  · cases hx
    intro K H locs ls hP hD hS hF hl
    have K := K H locs ls hP hD hS hF hl
    exact lv_if_le hex hb hd ht (fun q => by rw [if_pos q] at K; exact K) (fun q => by rw [if_neg q] at K; exact K)
  · cases hx
def zo_ceq (t n : Nat) : zOp := fun lo st σ => match st with
  | .int y :: .int x :: r => some (.inl (if x = y then t else n, lo, r, σ))
  | _ => none
theorem zs_ceq {zMD : List zM} {own : String} {cc : ByteArray} {nL : Nat} {ret : Option FieldType} {pc : Nat} {off : Int} {t : Nat} (hd : decode cc pc = .ok (.if_icmp .eq off, 3)) (ht : (pc : Int) + off = (t : Int)) : zSnd zMD own cc nL ret pc (zo_ceq t (pc + 3)) := by
  intro d p l e R s m args below meth c g σ0 A cells slots Q hC lo st σ x hx
  obtain ⟨hex, hb, hml, hown, hts, hK, hSt, hA, hfr, hlo, hce, hsl⟩ := hC
  unfold zo_ceq at hx
  split at hx
  · cases hx
    intro K H locs ls hP hD hS hF hl
    have K := K H locs ls hP hD hS hF hl
    exact lv_icmp_eq hex hb hd ht (fun q => by rw [if_pos q] at K; exact K) (fun q => by rw [if_neg q] at K; exact K)
  · cases hx
def zo_cne (t n : Nat) : zOp := fun lo st σ => match st with
  | .int y :: .int x :: r => some (.inl (if x = y then n else t, lo, r, σ))
  | _ => none
theorem zs_cne {zMD : List zM} {own : String} {cc : ByteArray} {nL : Nat} {ret : Option FieldType} {pc : Nat} {off : Int} {t : Nat} (hd : decode cc pc = .ok (.if_icmp .ne off, 3)) (ht : (pc : Int) + off = (t : Int)) : zSnd zMD own cc nL ret pc (zo_cne t (pc + 3)) := by
  intro d p l e R s m args below meth c g σ0 A cells slots Q hC lo st σ x hx
  obtain ⟨hex, hb, hml, hown, hts, hK, hSt, hA, hfr, hlo, hce, hsl⟩ := hC
  unfold zo_cne at hx
  split at hx
  · cases hx
    intro K H locs ls hP hD hS hF hl
    have K := K H locs ls hP hD hS hF hl
    exact lv_icmp_ne hex hb hd ht (fun q => by rw [if_neg q] at K; exact K) (fun q => by rw [if_pos q] at K; exact K)
  · cases hx
def zo_clt (t n : Nat) : zOp := fun lo st σ => match st with
  | .int y :: .int x :: r => some (.inl (if x < y then t else n, lo, r, σ))
  | _ => none
theorem zs_clt {zMD : List zM} {own : String} {cc : ByteArray} {nL : Nat} {ret : Option FieldType} {pc : Nat} {off : Int} {t : Nat} (hd : decode cc pc = .ok (.if_icmp .lt off, 3)) (ht : (pc : Int) + off = (t : Int)) : zSnd zMD own cc nL ret pc (zo_clt t (pc + 3)) := by
  intro d p l e R s m args below meth c g σ0 A cells slots Q hC lo st σ x hx
  obtain ⟨hex, hb, hml, hown, hts, hK, hSt, hA, hfr, hlo, hce, hsl⟩ := hC
  unfold zo_clt at hx
  split at hx
  · cases hx
    intro K H locs ls hP hD hS hF hl
    have K := K H locs ls hP hD hS hF hl
    exact lv_icmp_lt hex hb hd ht (fun q => by rw [if_pos q] at K; exact K) (fun q => by rw [if_neg q] at K; exact K)
  · cases hx
def zo_cge (t n : Nat) : zOp := fun lo st σ => match st with
  | .int y :: .int x :: r => some (.inl (if y ≤ x then t else n, lo, r, σ))
  | _ => none
theorem zs_cge {zMD : List zM} {own : String} {cc : ByteArray} {nL : Nat} {ret : Option FieldType} {pc : Nat} {off : Int} {t : Nat} (hd : decode cc pc = .ok (.if_icmp .ge off, 3)) (ht : (pc : Int) + off = (t : Int)) : zSnd zMD own cc nL ret pc (zo_cge t (pc + 3)) := by
  intro d p l e R s m args below meth c g σ0 A cells slots Q hC lo st σ x hx
  obtain ⟨hex, hb, hml, hown, hts, hK, hSt, hA, hfr, hlo, hce, hsl⟩ := hC
  unfold zo_cge at hx
  split at hx
  · cases hx
    intro K H locs ls hP hD hS hF hl
    have K := K H locs ls hP hD hS hF hl
    exact lv_icmp_ge hex hb hd ht (fun q => by rw [if_pos q] at K; exact K) (fun q => by rw [if_neg q] at K; exact K)
  · cases hx
def zo_cgt (t n : Nat) : zOp := fun lo st σ => match st with
  | .int y :: .int x :: r => some (.inl (if y < x then t else n, lo, r, σ))
  | _ => none
theorem zs_cgt {zMD : List zM} {own : String} {cc : ByteArray} {nL : Nat} {ret : Option FieldType} {pc : Nat} {off : Int} {t : Nat} (hd : decode cc pc = .ok (.if_icmp .gt off, 3)) (ht : (pc : Int) + off = (t : Int)) : zSnd zMD own cc nL ret pc (zo_cgt t (pc + 3)) := by
  intro d p l e R s m args below meth c g σ0 A cells slots Q hC lo st σ x hx
  obtain ⟨hex, hb, hml, hown, hts, hK, hSt, hA, hfr, hlo, hce, hsl⟩ := hC
  unfold zo_cgt at hx
  split at hx
  · cases hx
    intro K H locs ls hP hD hS hF hl
    have K := K H locs ls hP hD hS hF hl
    exact lv_icmp_gt hex hb hd ht (fun q => by rw [if_pos q] at K; exact K) (fun q => by rw [if_neg q] at K; exact K)
  · cases hx
def zo_cle (t n : Nat) : zOp := fun lo st σ => match st with
  | .int y :: .int x :: r => some (.inl (if x ≤ y then t else n, lo, r, σ))
  | _ => none
theorem zs_cle {zMD : List zM} {own : String} {cc : ByteArray} {nL : Nat} {ret : Option FieldType} {pc : Nat} {off : Int} {t : Nat} (hd : decode cc pc = .ok (.if_icmp .le off, 3)) (ht : (pc : Int) + off = (t : Int)) : zSnd zMD own cc nL ret pc (zo_cle t (pc + 3)) := by
  intro d p l e R s m args below meth c g σ0 A cells slots Q hC lo st σ x hx
  obtain ⟨hex, hb, hml, hown, hts, hK, hSt, hA, hfr, hlo, hce, hsl⟩ := hC
  unfold zo_cle at hx
  split at hx
  · cases hx
    intro K H locs ls hP hD hS hF hl
    have K := K H locs ls hP hD hS hF hl
    exact lv_icmp_le hex hb hd ht (fun q => by rw [if_pos q] at K; exact K) (fun q => by rw [if_neg q] at K; exact K)
  · cases hx
def zo_goto (t : Nat) : zOp := fun lo st σ => some (.inl (t, lo, st, σ))
theorem zs_goto {zMD : List zM} {own : String} {cc : ByteArray} {nL : Nat} {ret : Option FieldType} {pc : Nat} {off : Int} {t : Nat} (hd : decode cc pc = .ok (.goto off, 3)) (ht : (pc : Int) + off = (t : Int)) : zSnd zMD own cc nL ret pc (zo_goto t) := by
  intro d p l e R s m args below meth c g σ0 A cells slots Q hC lo st σ x hx
  obtain ⟨hex, hb, hml, hown, hts, hK, hSt, hA, hfr, hlo, hce, hsl⟩ := hC
  cases hx
  intro K H locs ls hP hD hS hF hl
  exact lv_goto hex hb hd ht (K H locs ls hP hD hS hF hl)
/-- a switch: by the list of its values -/
def zsw (x : Int32) : List (Int32 × Nat) → Nat → Nat
  | [], d => d
  | (v, t) :: r, d => if x = v then t else zsw x r d
theorem zsw_spec (x : Int32) (d : Nat) : ∀ ps : List (Int32 × Nat), (∃ q ∈ ps, x = q.1 ∧ zsw x ps d = q.2) ∨ ((∀ q ∈ ps, x ≠ q.1) ∧ zsw x ps d = d)
  | [] => Or.inr ⟨fun _ h => (by cases h), rfl⟩
  | (v, t) :: r => by
    by_cases h : x = v
    · exact Or.inl ⟨(v, t), List.mem_cons_self, h, by simp [zsw, h]⟩
    · rcases zsw_spec x d r with ⟨q, h1, h2, h3⟩ | ⟨h1, h2⟩
      · exact Or.inl ⟨q, List.mem_cons_of_mem _ h1, h2, by simp [zsw, h, h3]⟩
      · refine Or.inr ⟨fun q hq => ?_, by simp [zsw, h, h2]⟩
        rcases List.mem_cons.mp hq with e | e
        · rw [e]; exact h
        · exact h1 q e
def zo_sw (ps : List (Int32 × Nat)) (d : Nat) : zOp := fun lo st σ => match st with
  | .int x :: r => some (.inl (zsw x ps d, lo, r, σ))
  | _ => none
theorem zs_tsw {zMD : List zM} {own : String} {cc : ByteArray} {nL : Nat} {ret : Option FieldType} {pc : Nat} {dflt bot top : Int} {offs : Array Int} {len : Nat} {ps : List (Int32 × Nat)} {t : Nat} (hd : decode cc pc = .ok (.tableswitch dflt bot top offs, len)) (ht : (pc : Int) + dflt = (t : Int))
    (hp : ∀ q ∈ ps, ¬ q.1.toInt < bot ∧ ¬ top < q.1.toInt ∧ (offs[(q.1.toInt - bot).toNat]?).map (fun z => (pc : Int) + z) = some (q.2 : Int)) (hc : ∀ k : Nat, k < (top + 1 - bot).toNat → ∃ q ∈ ps, q.1.toInt = bot + (k : Int)) : zSnd zMD own cc nL ret pc (zo_sw ps t) := by
  intro d p l e R s m args below meth c g σ0 A cells slots Q hC lo st σ x hx
  obtain ⟨hex, hb, hml, hown, hts, hK, hSt, hA, hfr, hlo, hce, hsl⟩ := hC
  unfold zo_sw at hx
  split at hx
  · rename_i x r
    cases hx
    intro K H locs ls hP hD hS hF hl
    have K := K H locs ls hP hD hS hF hl
    rcases zsw_spec x t ps with ⟨q, h1, h2, h3⟩ | ⟨h1, h2⟩
    · obtain ⟨a1, a2, a3⟩ := hp q h1
      rw [h3] at K
      rw [← h2] at a1 a2 a3
      obtain ⟨off, b1, b2⟩ := Option.map_eq_some_iff.mp a3
      exact lv_tableIn hex hb hd a1 a2 b1 b2 K
    · rw [h2] at K
      refine lv_tableOut hex hb hd ?_ ht K
      by_cases a1 : x.toInt < bot
      · exact Or.inl a1
      · by_cases a2 : top < x.toInt
        · exact Or.inr a2
        · obtain ⟨q, c1, c2⟩ := hc (x.toInt - bot).toNat (by omega)
          exact absurd (Int32.toInt_inj.mp (by rw [c2]; omega)) (h1 q c1)
  · cases hx
theorem zoff_none {k : Int} {dflt : Int} : ∀ {ps : List (Int × Int)}, (∀ q ∈ ps, q.1 ≠ k) → Op.lookupswitch.offset ps dflt k = dflt
  | [], _ => rfl
  | (a, z) :: r, h => by
    rw [Op.lookupswitch.offset_cons, if_neg (h (a, z) List.mem_cons_self)]
    exact zoff_none (fun q hq => h q (List.mem_cons_of_mem _ hq))
theorem zs_lsw {zMD : List zM} {own : String} {cc : ByteArray} {nL : Nat} {ret : Option FieldType} {pc : Nat} {dflt : Int} {pa : Array (Int × Int)} {len : Nat} {ps : List (Int32 × Nat)} {t : Nat} (hd : decode cc pc = .ok (.lookupswitch dflt pa, len)) (ho : (pa.toList.zip (pa.toList.drop 1)).all (fun (a, next) => a.1 < next.1) = true) (ht : (pc : Int) + dflt = (t : Int))
    (hp : ∀ q ∈ ps, (pc : Int) + Op.lookupswitch.offset pa.toList dflt q.1.toInt = (q.2 : Int)) (hc : ∀ a ∈ pa.toList, ∃ q ∈ ps, q.1.toInt = a.1) : zSnd zMD own cc nL ret pc (zo_sw ps t) := by
  intro d p l e R s m args below meth c g σ0 A cells slots Q hC lo st σ x hx
  obtain ⟨hex, hb, hml, hown, hts, hK, hSt, hA, hfr, hlo, hce, hsl⟩ := hC
  unfold zo_sw at hx
  split at hx
  · rename_i x r
    cases hx
    intro K H locs ls hP hD hS hF hl
    have K := K H locs ls hP hD hS hF hl
    rcases zsw_spec x t ps with ⟨q, h1, h2, h3⟩ | ⟨h1, h2⟩
    · rw [h3] at K
      have a := hp q h1
      rw [← h2] at a
      exact lv_lookup hex hb hd ho rfl a K
    · rw [h2] at K
      refine lv_lookup hex hb hd ho (zoff_none (fun a ha e => ?_)) ht K
      obtain ⟨q, c1, c2⟩ := hc a ha
      exact absurd (Int32.toInt_inj.mp (by rw [c2, e])) (h1 q c1)
  · cases hx
/-- how long an array is -/
def zlen (σ : zSo) (k : Nat) : Option Nat := match zLAY[k]? with
  | some (1, n, _) => some n
  | some _ => none
  | none => match zTB[k - 1000]? with
    | some (_, n) => match Nat.ble 1000 k with
      | true => some n
      | false => none
    | none => match Nat.beq k 1100 with
      | true => some (zL σ)
      | false => none
theorem zlen_spec {σ : zSo} {k n : Nat} (h : zlen σ k = some n) : (∃ c, zLAY[k]? = some (1, n, c)) ∨ (∃ j s, k = 1000 + j ∧ zTB[j]? = some (s, n)) ∨ (k = 1100 ∧ n = zL σ) := by
  unfold zlen at h
  split at h
  · rename_i n' c hc
    cases h
    exact Or.inl ⟨c, hc⟩
  · cases h
  · split at h
    · rename_i s n' hs
      split at h
      · rename_i hb
        cases h
        have := Nat.le_of_ble_eq_true hb
        exact Or.inr (Or.inl ⟨k - 1000, s, by omega, hs⟩)
      · cases h
    · split at h
      · rename_i hb
        cases h
        exact Or.inr (Or.inr ⟨Nat.eq_of_beq_eq_true hb, rfl⟩)
      · cases h
section ZT
variable {p : Program} {l : Launch} {e : Env} {R : Room} {s : State} {m : MethodId} {args : Array Value} {below : List Frame} {meth : Method} {c : Code} {H : Heap} {locs : List Loc} {cells slots : Nat} {Q : State → Prop} {A : Nat → Prop} {cc : ByteArray} {pc : Nat} {ls : Array Slot} {rest : List Value}
theorem zT_ld (hexec : p.tables.exec = Jvm.exec) (hb : c.code = cc) {t N : Nat} {f : Nat → Int32} (hT : va_T .int t N (fun j => .int (f j)) A s s.heap) (hS : va_S A s.heap H locs) {i : Int32} (hin : ¬ (i < 0 ∨ N ≤ i.toNatClampNeg)) (hdg : decode cc pc = .ok (.iaload, 1))
    (kk : W p l e R s m args below meth c H locs cells slots Q (F0 m (pc + 1) ls (.int (f i.toNatClampNeg) :: rest))) : W p l e R s m args below meth c H locs cells slots Q (F0 m pc ls (.int i :: .ref t :: rest)) := by
  obtain ⟨cell, h1, h2, h3, h4, h5, h6, h7⟩ := hT
  have hlt : i.toNatClampNeg < N := Nat.not_le.mp fun q => hin (Or.inr q)
  exact W.iald (v := .int (f i.toNatClampNeg)) hexec hb (by rw [hS.2.1 t (Array.getElem?_eq_some_iff.mp h1).1 h7]; exact h1) h2 h3 (fun q => q.elim (fun z => hin (Or.inl z)) (fun z => hin (Or.inr (Nat.le_trans h4 z)))) (h6 _ hlt) rfl rfl hdg kk
theorem zT_len (hexec : p.tables.exec = Jvm.exec) (hb : c.code = cc) {t N : Nat} {f : Nat → Int32} (hT : va_T .int t N (fun j => .int (f j)) A s s.heap) (hS : va_S A s.heap H locs) (hdg : decode cc pc = .ok (.arraylength, 1))
    (kk : W p l e R s m args below meth c H locs cells slots Q (F0 m (pc + 1) ls (.int (Int32.ofNat N) :: rest))) : W p l e R s m args below meth c H locs cells slots Q (F0 m pc ls (.ref t :: rest)) := by
  obtain ⟨cell, h1, h2, h3, h4, h5, h6, h7⟩ := hT
  exact W.alen (n := Int32.ofNat N) hexec hb (by rw [hS.2.1 t (Array.getElem?_eq_some_iff.mp h1).1 h7]; exact h1) h2 h5 rfl rfl hdg kk
end ZT
def zo_iald (n : Nat) : zOp := fun lo st σ => match st with
  | .int i :: .ref k :: r => match zlen σ k with
    | some N => if ¬ (i < 0 ∨ N ≤ i.toNatClampNeg) then some (.inl (n, lo, .int (σ k i.toNatClampNeg) :: r, σ)) else none
    | none => none
  | _ => none
theorem zs_iald {zMD : List zM} {own : String} {cc : ByteArray} {nL : Nat} {ret : Option FieldType} {pc : Nat} (hd : decode cc pc = .ok (.iaload, 1)) : zSnd zMD own cc nL ret pc (zo_iald (pc + 1)) := by
  intro d p l e R s m args below meth c g σ0 A cells slots Q hC lo st σ x hx
  obtain ⟨hex, hb, hml, hown, hts, hK, hSt, hA, hfr, hlo, hce, hsl⟩ := hC
  unfold zo_iald at hx
  split at hx
  · rename_i i k r
    split at hx
    · rename_i N hN
      split at hx
      · rename_i hg
        cases hx
        intro K H locs ls hP hD hS hF hl
        have K := K H locs ls hP hD hS hF hl
        rcases zlen_spec hN with ⟨w, hc⟩ | ⟨j, q, rfl, hj⟩ | ⟨rfl, rfl⟩
        · exact va_iald (q0 := k) (t0 := 0) hex hb hK hP (zW_at g σ hc) rfl hg hd K
        · have hT := (hSt.1 j _ hj).2
          rw [hF (1000 + j) (by omega)] at K
          exact zT_ld hex hb hT hS hg hd K
        · have hT := hSt.2
          rw [hF 1100 (by omega)] at K
          rw [show zL σ = zL σ0 from by rw [zL, zL, hF 1101 (by omega)]] at hg
          exact zT_ld hex hb hT hS hg hd K
      · cases hx
    · cases hx
  · cases hx
def zo_alen (n : Nat) : zOp := fun lo st σ => match st with
  | .ref k :: r => match Nat.beq k 1100 with
    | true => some (.inl (n, lo, .int (Int32.ofNat (zL σ)) :: r, σ))
    | false => none
  | _ => none
theorem zs_alen {zMD : List zM} {own : String} {cc : ByteArray} {nL : Nat} {ret : Option FieldType} {pc : Nat} (hd : decode cc pc = .ok (.arraylength, 1)) : zSnd zMD own cc nL ret pc (zo_alen (pc + 1)) := by
  intro d p l e R s m args below meth c g σ0 A cells slots Q hC lo st σ x hx
  obtain ⟨hex, hb, hml, hown, hts, hK, hSt, hA, hfr, hlo, hce, hsl⟩ := hC
  unfold zo_alen at hx
  split at hx
  · rename_i k r
    split at hx
    · rename_i hk
      cases hx
      intro K H locs ls hP hD hS hF hl
      have K := K H locs ls hP hD hS hF hl
      rw [show zL σ = zL σ0 from by rw [zL, zL, hF 1101 (by omega)]] at K
      cases Nat.eq_of_beq_eq_true hk
      exact zT_len hex hb hSt.2 hS hd K
    · cases hx
  · cases hx
def zo_iast (n : Nat) : zOp := fun lo st σ => match st with
  | .int v :: .int i :: .ref k :: r => match zLAY[k]? with
    | some (1, N, _) => if ¬ (i < 0 ∨ N ≤ i.toNatClampNeg) then some (.inl (n, lo, r, zup σ k i.toNatClampNeg v)) else none
    | _ => none
  | _ => none
theorem zLAY_lt {k : Nat} {c : zCell} (h : zLAY[k]? = some c) : k < 1000 := Nat.lt_of_lt_of_le (List.getElem?_eq_some_iff.mp h).1 (by decide)
theorem zfix {σ σ0 : zSo} {k j : Nat} {v : Int32} {c : zCell} (h : zLAY[k]? = some c) (hF : ∀ k, 1000 ≤ k → σ k = σ0 k) : ∀ q, 1000 ≤ q → zup σ k j v q = σ0 q := fun q hq => by
  rw [zup_o σ j v (by have := zLAY_lt h; omega)]; exact hF q hq
theorem zs_iast {zMD : List zM} {own : String} {cc : ByteArray} {nL : Nat} {ret : Option FieldType} {pc : Nat} (hd : decode cc pc = .ok (.iastore, 1)) : zSnd zMD own cc nL ret pc (zo_iast (pc + 1)) := by
  intro d p l e R s m args below meth c g σ0 A cells slots Q hC lo st σ x hx
  obtain ⟨hex, hb, hml, hown, hts, hK, hSt, hA, hfr, hlo, hce, hsl⟩ := hC
  unfold zo_iast at hx
  split at hx
  · rename_i v i k r
    split at hx
    · rename_i N w hc
      split at hx
      · rename_i hg
        cases hx
        intro K H locs ls hP hD hS hF hl
        refine va_iast (q0 := k) (t0 := 0) hex hb hK hP hD hS (zW_at g σ hc) rfl hg hd (fun H1 locs1 hP1 hD1 hS1 => ?_)
        have e : (zW g σ).set k (g.1 k, Sum.inl (g.2.2 0, N, Sum.inl (upd (σ k) i.toNatClampNeg v))) = zW g (zup σ k i.toNatClampNeg v) := by
          have := zW_set g (σ := σ) (σ' := zup σ k i.toNatClampNeg v) hc (fun a ha => zup_o σ _ _ ha)
          rw [zup_k] at this
          exact this
        rw [e] at hP1 hD1
        exact K H1 locs1 ls hP1 hD1 hS1 (zfix hc hF) hl
      · cases hx
    · cases hx
  · cases hx
def zo_bald (n : Nat) : zOp := fun lo st σ => match st with
  | .int i :: .ref k :: r => match zLAY[k]? with
    | some (2, N, _) => if ¬ (i < 0 ∨ N ≤ i.toNatClampNeg) then some (.inl (n, lo, .int (σ k i.toNatClampNeg) :: r, σ)) else none
    | _ => none
  | _ => none
theorem zs_bald {zMD : List zM} {own : String} {cc : ByteArray} {nL : Nat} {ret : Option FieldType} {pc : Nat} (hd : decode cc pc = .ok (.baload, 1)) : zSnd zMD own cc nL ret pc (zo_bald (pc + 1)) := by
  intro d p l e R s m args below meth c g σ0 A cells slots Q hC lo st σ x hx
  obtain ⟨hex, hb, hml, hown, hts, hK, hSt, hA, hfr, hlo, hce, hsl⟩ := hC
  unfold zo_bald at hx
  split at hx
  · rename_i i k r
    split at hx
    · rename_i N w hc
      split at hx
      · rename_i hg
        cases hx
        intro K H locs ls hP hD hS hF hl
        exact va_zald (q0 := k) (t0 := 1) hex hb hK hP (zW_at g σ hc) rfl hg hd (K H locs ls hP hD hS hF hl)
      · cases hx
    · cases hx
  · cases hx
def zo_bast (n : Nat) : zOp := fun lo st σ => match st with
  | .int v :: .int i :: .ref k :: r => match zLAY[k]? with
    | some (2, N, _) => if ¬ (i < 0 ∨ N ≤ i.toNatClampNeg) then some (.inl (n, lo, r, zup σ k i.toNatClampNeg (vp_nar .boolean v))) else none
    | _ => none
  | _ => none
theorem zs_bast {zMD : List zM} {own : String} {cc : ByteArray} {nL : Nat} {ret : Option FieldType} {pc : Nat} (hd : decode cc pc = .ok (.bastore, 1)) : zSnd zMD own cc nL ret pc (zo_bast (pc + 1)) := by
  intro d p l e R s m args below meth c g σ0 A cells slots Q hC lo st σ x hx
  obtain ⟨hex, hb, hml, hown, hts, hK, hSt, hA, hfr, hlo, hce, hsl⟩ := hC
  unfold zo_bast at hx
  split at hx
  · rename_i v i k r
    split at hx
    · rename_i N w hc
      split at hx
      · rename_i hg
        cases hx
        intro K H locs ls hP hD hS hF hl
        refine va_zast (q0 := k) (t0 := 1) hex hb hK hP hD hS (zW_at g σ hc) rfl hg hd (fun H1 locs1 hP1 hD1 hS1 => ?_)
        have e : (zW g σ).set k (g.1 k, Sum.inl (g.2.2 1, N, Sum.inl (upd (σ k) i.toNatClampNeg (vp_nar .boolean v)))) = zW g (zup σ k i.toNatClampNeg (vp_nar .boolean v)) := by
          have := zW_set g (σ := σ) (σ' := zup σ k i.toNatClampNeg (vp_nar .boolean v)) hc (fun a ha => zup_o σ _ _ ha)
          rw [zup_k] at this
          exact this
        rw [e] at hP1 hD1
        exact K H1 locs1 ls hP1 hD1 hS1 (zfix hc hF) hl
      · cases hx
    · cases hx
  · cases hx
def zo_aald (n : Nat) : zOp := fun lo st σ => match st with
  | .int i :: .ref k :: r => match zLAY[k]? with
    | some (3, t, fs) => if ¬ (i < 0 ∨ fs.length ≤ i.toNatClampNeg) then (match fs[i.toNatClampNeg]? with
      | some (some q) => some (.inl (n, lo, .ref q :: r, σ))
      | _ => none) else none
    | _ => none
  | _ => none
theorem zs_aald {zMD : List zM} {own : String} {cc : ByteArray} {nL : Nat} {ret : Option FieldType} {pc : Nat} (hd : decode cc pc = .ok (.aaload, 1)) (hlay : ∀ (k t : Nat) (fs : List (Option Nat)), zLAY[k]? = some (3, t, fs) → t = 2 ∨ t = 3) : zSnd zMD own cc nL ret pc (zo_aald (pc + 1)) := by
  intro d p l e R s m args below meth c g σ0 A cells slots Q hC lo st σ x hx
  obtain ⟨hex, hb, hml, hown, hts, hK, hSt, hA, hfr, hlo, hce, hsl⟩ := hC
  unfold zo_aald at hx
  split at hx
  · rename_i i k r
    split at hx
    · rename_i t fs hc
      split at hx
      · rename_i hg
        split at hx
        · rename_i q hq
          cases hx
          intro K H locs ls hP hD hS hF hl
          have K := K H locs ls hP hD hS hF hl
          have e : va_rf ((fs.getD i.toNatClampNeg none).map g.1) = .ref (g.1 q) := by rw [List.getD_eq_getElem?_getD, hq]; rfl
          rcases hlay k t fs hc with rfl | rfl
          · refine va_aldq (C := "BeatBounds$Row") (q0 := k) (t0 := 2) hex hb hK hP (zW_at g σ hc) rfl hg hd ?_
            rw [e]
            exact K
          · refine va_aldq (C := "BeatBounds$Parish") (q0 := k) (t0 := 3) hex hb hK hP (zW_at g σ hc) rfl hg hd ?_
            rw [e]
            exact K
        · cases hx
      · cases hx
    · cases hx
  · cases hx
def zo_get (ci j n : Nat) : zOp := fun lo st σ => match st with
  | .ref k :: r => match zLAY[k]? with
    | some (0, cj, fs) => match Nat.beq cj ci with
      | true => match fs[j]? with
        | some none => some (.inl (n, lo, .int (σ k j) :: r, σ))
        | some (some q) => some (.inl (n, lo, .ref q :: r, σ))
        | none => none
      | false => none
    | _ => none
  | _ => none
theorem zs_get {zMD : List zM} {own : String} {cc : ByteArray} {nL : Nat} {ret : Option FieldType} {pc : Nat} {ci j idx N : Nat} {C : String} {T : u_T} (hd : decode cc pc = .ok (.getfield idx, 3)) (hc : vwCl[ci]? = some (C, T, N)) (hin : ∀ w ∈ u_ws C T N, w ∈ lw_tbl) (hj : j < N) (hm : Cond.fieldLink own idx (T j).1 (T j).2.1 (T j).2.2.1 ∈ lw_tbl) : zSnd zMD own cc nL ret pc (zo_get ci j (pc + 3)) := by
  intro d p l e R s m args below meth c g σ0 A cells slots Q hC lo st σ x hx
  obtain ⟨hex, hb, hml, hown, hts, hK, hSt, hA, hfr, hlo, hce, hsl⟩ := hC
  unfold zo_get at hx
  split at hx
  · rename_i k r
    split at hx
    · rename_i cj fs hk
      split at hx
      · rename_i hb2
        cases Nat.eq_of_beq_eq_true hb2
        split at hx
        · rename_i hf
          cases hx
          intro K H locs ls hP hD hS hF hl
          refine va_get (q0 := k) (ci := ci) hex hb hts hin hown hK hP (zW_at g σ hk) hc j hj (hts _ hm) (fun _ h => h) (v := .int (σ k j)) ?_ hd (K H locs ls hP hD hS hF hl)
          rw [List.getElem?_mapIdx, hf]; rfl
        · rename_i q hf
          cases hx
          intro K H locs ls hP hD hS hF hl
          refine va_get (q0 := k) (ci := ci) hex hb hts hin hown hK hP (zW_at g σ hk) hc j hj (hts _ hm) (fun _ h => h) (v := .ref (g.1 q)) ?_ hd (K H locs ls hP hD hS hF hl)
          rw [List.getElem?_mapIdx, hf]; rfl
        · cases hx
      · cases hx
    · cases hx
  · cases hx
def zo_put (ci j n : Nat) : zOp := fun lo st σ => match st with
  | .int v :: .ref k :: r => match zLAY[k]? with
    | some (0, cj, fs) => match Nat.beq cj ci with
      | true => match fs[j]? with
        | some none => some (.inl (n, lo, r, zup σ k j v))
        | _ => none
      | false => none
    | _ => none
  | _ => none
/-- the same, of a boolean -/
def zo_putZ (ci j n : Nat) : zOp := fun lo st σ => match st with
  | .int v :: .ref k :: r => match zLAY[k]? with
    | some (0, cj, fs) => match Nat.beq cj ci with
      | true => match fs[j]? with
        | some none => if v = 0 ∨ v = 1 then some (.inl (n, lo, r, zup σ k j v)) else none
        | _ => none
      | false => none
    | _ => none
  | _ => none
theorem zputW (g : zG) (σ : zSo) {k ci j : Nat} {fs : List (Option Nat)} (v : Int32) (hk : zLAY[k]? = some (0, ci, fs)) (hf : fs[j]? = some none) : (zW g σ).set k (g.1 k, Sum.inr (ci, (fs.mapIdx fun j r => zf g (σ k) j r).set j (.int v))) = zW g (zup σ k j v) := by
  rw [zE_put g (σ k) fs hf v]
  have := zW_set g (σ := σ) (σ' := zup σ k j v) hk (fun a ha => zup_o σ _ _ ha)
  rw [zup_k] at this
  exact this
theorem zs_put {zMD : List zM} {own : String} {cc : ByteArray} {nL : Nat} {ret : Option FieldType} {pc : Nat} {ci j idx N : Nat} {C : String} {T : u_T} {ty0 : Nat → FieldType} (hd : decode cc pc = .ok (.putfield idx, 3)) (hc : vwCl[ci]? = some (C, T, N)) (hin : ∀ w ∈ u_ws C T N, w ∈ lw_tbl) (hty : ∀ k, k < N → parseFieldDescriptor (T k).2.2.1 = some (ty0 k)) (hnm : ∀ a, a < N → ∀ b, b < N → a ≠ b → (T a).2.1 ≠ (T b).2.1) (hj : j < N) (hm : Cond.fieldLink own idx (T j).1 (T j).2.1 (T j).2.2.1 ∈ lw_tbl) (hfin : (T j).2.2.2 = false) (hi : ty0 j = .int) : zSnd zMD own cc nL ret pc (zo_put ci j (pc + 3)) := by
  intro d p l e R s m args below meth c g σ0 A cells slots Q hC lo st σ x hx
  obtain ⟨hex, hb, hml, hown, hts, hK, hSt, hA, hfr, hlo, hce, hsl⟩ := hC
  unfold zo_put at hx
  split at hx
  · rename_i v k r
    split at hx
    · rename_i cj fs hk
      split at hx
      · rename_i hb2
        cases Nat.eq_of_beq_eq_true hb2
        split at hx
        · rename_i hf
          cases hx
          intro K H locs ls hP hD hS hF hl
          refine va_put (q0 := k) (ci := ci) (v := .int v) (ty := .int) hex hb hts hin ty0 hty hnm hown hK hP hD hS (zW_at g σ hk) hc j hj (hts _ hm) (fun _ h => h) hfin (by rw [hty j hj, hi]) rfl rfl (by rw [List.length_mapIdx]; exact (List.getElem?_eq_some_iff.mp hf).1) hd (fun H1 locs1 hP1 hD1 hS1 => ?_)
          rw [zputW g σ v hk hf] at hP1 hD1
          exact K H1 locs1 ls hP1 hD1 hS1 (zfix hk hF) hl
        · cases hx
      · cases hx
    · cases hx
  · cases hx
theorem znarZ {v : Int32} (h : v = 0 ∨ v = 1) : narrow .boolean (.int v) = .int v ∧ fits .boolean (.int v) = true := by
  rcases h with rfl | rfl <;> exact ⟨by decide, by decide⟩
theorem zs_putZ {zMD : List zM} {own : String} {cc : ByteArray} {nL : Nat} {ret : Option FieldType} {pc : Nat} {ci j idx N : Nat} {C : String} {T : u_T} {ty0 : Nat → FieldType} (hd : decode cc pc = .ok (.putfield idx, 3)) (hc : vwCl[ci]? = some (C, T, N)) (hin : ∀ w ∈ u_ws C T N, w ∈ lw_tbl) (hty : ∀ k, k < N → parseFieldDescriptor (T k).2.2.1 = some (ty0 k)) (hnm : ∀ a, a < N → ∀ b, b < N → a ≠ b → (T a).2.1 ≠ (T b).2.1) (hj : j < N) (hm : Cond.fieldLink own idx (T j).1 (T j).2.1 (T j).2.2.1 ∈ lw_tbl) (hfin : (T j).2.2.2 = false) (hi : ty0 j = .boolean) : zSnd zMD own cc nL ret pc (zo_putZ ci j (pc + 3)) := by
  intro d p l e R s m args below meth c g σ0 A cells slots Q hC lo st σ x hx
  obtain ⟨hex, hb, hml, hown, hts, hK, hSt, hA, hfr, hlo, hce, hsl⟩ := hC
  unfold zo_putZ at hx
  split at hx
  · rename_i v k r
    split at hx
    · rename_i cj fs hk
      split at hx
      · rename_i hb2
        cases Nat.eq_of_beq_eq_true hb2
        split at hx
        · rename_i hf
          split at hx
          · rename_i hg
            cases hx
            intro K H locs ls hP hD hS hF hl
            refine va_put (q0 := k) (ci := ci) (v := .int v) (ty := .boolean) hex hb hts hin ty0 hty hnm hown hK hP hD hS (zW_at g σ hk) hc j hj (hts _ hm) (fun _ h => h) hfin (by rw [hty j hj, hi]) (znarZ hg).1 (znarZ hg).2 (by rw [List.length_mapIdx]; exact (List.getElem?_eq_some_iff.mp hf).1) hd (fun H1 locs1 hP1 hD1 hS1 => ?_)
            rw [zputW g σ v hk hf] at hP1 hD1
            exact K H1 locs1 ls hP1 hD1 hS1 (zfix hk hF) hl
          · cases hx
        · cases hx
      · cases hx
    · cases hx
  · cases hx
def zo_gets (k n : Nat) : zOp := fun lo st σ => some (.inl (n, lo, .ref (1000 + k) :: st, σ))
theorem zs_gets {zMD : List zM} {own : String} {cc : ByteArray} {nL : Nat} {ret : Option FieldType} {pc : Nat} {k idx : Nat} {q : String × Nat} (hd : decode cc pc = .ok (.getstatic idx, 3)) (hq : zTB[k]? = some q) (hm : Cond.fieldLink own idx "BeatBounds" q.1 "[I" ∈ lw_tbl) : zSnd zMD own cc nL ret pc (zo_gets k (pc + 3)) := by
  intro d p l e R s m args below meth c g σ0 A cells slots Q hC lo st σ x hx
  obtain ⟨hex, hb, hml, hown, hts, hK, hSt, hA, hfr, hlo, hce, hsl⟩ := hC
  cases hx
  intro K H locs ls hP hD hS hF hl
  exact va_gets hex hb (hSt.1 k q hq).1 hS hown (hts _ hm) (fun _ h => h) hd (K H locs ls hP hD hS hF hl)
theorem zs_getsN {zMD : List zM} {own : String} {cc : ByteArray} {nL : Nat} {ret : Option FieldType} {pc : Nat} {k idx : Nat} {q : String × Nat} {host : String} (hd : decode cc pc = .ok (.getstatic idx, 3)) (hq : zTB[k]? = some q) (hm : Cond.fieldLinkNest own idx "BeatBounds" q.1 "[I" host ∈ lw_tbl) : zSnd zMD own cc nL ret pc (zo_gets k (pc + 3)) := by
  intro d p l e R s m args below meth c g σ0 A cells slots Q hC lo st σ x hx
  obtain ⟨hex, hb, hml, hown, hts, hK, hSt, hA, hfr, hlo, hce, hsl⟩ := hC
  cases hx
  intro K H locs ls hP hD hS hF hl
  exact va_getsN hex hb (hSt.1 k q hq).1 hS hown (hts _ hm) (fun _ h => h) hd (K H locs ls hP hD hS hF hl)
/-- how many words the values take -/
def zcat : List Value → Nat
  | [] => 0
  | v :: r => v.category + zcat r
theorem zcat_sum (ad : Nat → Nat) : ∀ st : List Value, ((st.map (zcv ad)).map fun v => v.category).sum = zcat st
  | [] => rfl
  | v :: r => by simp only [List.map_cons, List.sum_cons, zcat, zcv_cat, zcat_sum ad r]
def zo_copy (n : Nat) : zOp := fun lo st σ => match st with
  | .int cn :: .int dp :: .ref b :: .int sp :: .ref a :: r => match zLAY[a]? with
    | some (1, N0, _) => match zLAY[b]? with
      | some (1, N1, _) => match Nat.ble (zcat r) 8 with
        | true => if ¬ sp < 0 ∧ ¬ dp < 0 ∧ ¬ cn < 0 ∧ sp.toNatClampNeg + cn.toNatClampNeg ≤ N0 ∧ dp.toNatClampNeg + cn.toNatClampNeg ≤ N1 then some (.inl (n, lo, r, zcp σ a b sp.toNatClampNeg dp.toNatClampNeg cn.toNatClampNeg)) else none
        | false => none
      | _ => none
    | _ => none
  | _ => none
theorem zs_copy {zMD : List zM} {own : String} {cc : ByteArray} {nL : Nat} {ret : Option FieldType} {pc : Nat} {idx : Nat} (hd : decode cc pc = .ok (.invokestatic idx, 3)) (h1 : Cond.methodLink own idx arraycopyName ∈ lw_tbl) (h2 : Cond.native arraycopyName ∈ lw_tbl) (h3 : Cond.static arraycopyName ∈ lw_tbl) (h4 : Cond.initialized "java/lang/System" ∈ lw_tbl) : zSnd zMD own cc nL ret pc (zo_copy (pc + 3)) := by
  intro d p l e R s m args below meth c g σ0 A cells slots Q hC lo st σ x hx
  obtain ⟨hex, hb, hml, hown, hts, hK, hSt, hA, hfr, hlo, hce, hsl⟩ := hC
  unfold zo_copy at hx
  split at hx
  · rename_i cn dp b sp a r
    split at hx
    · rename_i N0 w0 ha
      split at hx
      · rename_i N1 w1 hbb
        split at hx
        · rename_i hcat
          split at hx
          · rename_i hg
            cases hx
            obtain ⟨g1, g2, g3, g4, g5⟩ := hg
            intro K H locs ls hP hD hS hF hl
            refine va_copyi (q0 := a) (q1 := b) (t0 := 0) (t1 := 0) (ty := .int) hex hb (hml.trans hl.1.symm) hown (hts _ h1) (hts _ h2) (hts _ h3) (hts _ h4) hK hP hD hS (zW_at g σ ha) (zW_at g σ hbb) rfl rfl rfl g1 g2 g3 g4 g5 (fun _ _ => rfl) (by omega) ?_ hd (fun H1 locs1 hP1 hD1 hS1 => ?_)
            · have := Nat.le_of_ble_eq_true hcat
              rw [show List.map (zcv g.1) r = r.map (zcv g.1) from rfl, zcat_sum]
              have e : nativeFrameWords "java/lang/System" "arraycopy" 5 = 7 := by decide
              rw [e]
              omega
            · have e : (zW g σ).set b (g.1 b, Sum.inl (g.2.2 0, N1, Sum.inl (va_cpy (σ a) (σ b) sp.toNatClampNeg dp.toNatClampNeg cn.toNatClampNeg))) = zW g (zcp σ a b sp.toNatClampNeg dp.toNatClampNeg cn.toNatClampNeg) := by
                have := zW_set g (σ := σ) (σ' := zcp σ a b sp.toNatClampNeg dp.toNatClampNeg cn.toNatClampNeg) hbb (fun q hq => zcp_o σ _ _ _ hq)
                rw [zcp_k] at this
                exact this
              rw [e] at hP1 hD1
              refine K H1 locs1 ls hP1 hD1 hS1 (fun q hq => ?_) hl
              rw [zcp_o σ _ _ _ (by have := zLAY_lt hbb; omega)]
              exact hF q hq
          · cases hx
        · cases hx
      · cases hx
    · cases hx
  · cases hx
/-- the uppermost n values, the lowest first, and the rest -/
def zpop : Nat → zSt → List Value → Option (List Value × zSt)
  | 0, st, acc => some (acc, st)
  | n + 1, v :: r, acc => zpop n r (v :: acc)
  | _ + 1, [], _ => none
theorem zpop_spec : ∀ {n : Nat} {st : zSt} {acc as : List Value} {rest : zSt}, zpop n st acc = some (as, rest) → ∃ bs, as = bs ++ acc ∧ st = bs.reverse ++ rest ∧ bs.length = n
  | 0, st, acc, as, rest, h => by cases h; exact ⟨[], rfl, rfl, rfl⟩
  | n + 1, v :: r, acc, as, rest, h => by
    obtain ⟨bs, h1, h2, h3⟩ := zpop_spec (n := n) h
    exact ⟨bs ++ [v], by rw [h1, List.append_assoc]; rfl, by rw [h2, List.reverse_append]; rfl, by rw [List.length_append, h3]; rfl⟩
  | _ + 1, [], _, _, _, h => by cases h
def zo_invS (i k n : Nat) : zOp := fun lo st σ => match zpop k st [] with
  | some (as, rest) => match Nat.ble (zcat rest) 8 with
    | true => some (.inr (.inl (i, as, rest, n)))
    | false => none
  | none => none
/-- a call of an object of the class ci, with k values besides it -/
def zo_invV (i ci k n : Nat) : zOp := fun lo st σ => match zpop k st [] with
  | some (as, rest) => match rest with
    | .ref b :: rs => match zLAY[b]? with
      | some (0, cj, _) => match Nat.beq cj ci && Nat.ble (zcat rs) 8 with
        | true => some (.inr (.inl (i, .ref b :: as, rs, n)))
        | false => none
      | _ => none
    | _ => none
  | none => none
section ZC
variable {p : Program} {l : Launch} {e : Env} {R : Room} {s : State} {m : MethodId} {args : Array Value} {below : List Frame} {meth : Method} {c : Code} {H : Heap} {locs : List Loc} {cells slots : Nat} {Q : State → Prop} {A : Nat → Prop} {pc : Nat} {ls : Array Slot} {rest st0 : List Value} {a : Array Value} {g : zG} {σ0 σ σ1 : zSo} {r : Option Value}
theorem zcall (hr : va_Run p l e R s m args below meth c H locs cells slots 0 0 (F0 m pc ls st0) rest (zQc g σ0 σ H.size r σ1 a) (va_A (zW g σ) H.size)) (hS : va_S A s.heap H locs) (hf : ∀ q, va_A (zW g σ) H.size q → A q)
    (kk : ∀ (H1 : Heap) (locs1 : List Loc), va_P g.2.1 vwCl (zW g σ1) H1 → va_D (va_A (zW g σ) H.size) (zW g σ1) → va_S A s.heap H1 locs1 → (∀ k, 1000 ≤ k → σ1 k = σ0 k) → W p l e R s m args below meth c H1 locs1 cells slots Q (F0 m (pc + 3) ls ((r.map (zcv g.1)).toList ++ rest))) : W p l e R s m args below meth c H locs cells slots Q (F0 m pc ls st0) := by
  intro T hT X
  obtain ⟨v, st₀, t, T', L, h0, X', hL, e1, e2, ⟨hv, hp, hd, hx, hz, hk⟩, st⟩ := hr T hT X
  cases hv
  rw [h0] at hz hk
  obtain ⟨t2, a1, b1⟩ := kk T'.heap (locs ++ L) (by rw [e1]; exact hp) hd
    ⟨Nat.le_trans hS.1 (by rw [e1]; exact hz), fun q h1 h2 => by rw [e1, hk q (Nat.lt_of_lt_of_le h1 hS.1) (fun z => h2 (hf q z))]; exact hS.2.1 q h1 h2, fun q hq => by
      rcases List.mem_append.mp hq with h | h
      · exact hS.2.2 q h
      · exact hf _ (hL q h)⟩ hx T' rfl X'
  exact ⟨t2, st t2 a1, b1⟩
end ZC
theorem zgoodIn {q : zM} (hg : ∀ w ∈ lw_tbl, goodWord w = true) (hq : Cond.code q.1 q.2.1 q.2.2.1 q.2.2.2 ∈ lw_tbl) : GoodIn lw_tbl (zws q) := by
  intro w hw
  rcases List.mem_cons.mp hw with e | e
  · rw [e]
    exact ⟨hq, good_of_word (hg _ hq)⟩
  · exact ⟨e, good_of_word (hg w e)⟩
theorem zblind (g : zG) (σ0 : zSo) (as : List Value) (σ : zSo) (sz : Nat) : FrameBlind (zPc g σ0 as σ sz) := by
  intro a U f mk h
  obtain ⟨h0, h1, h2, h3, h4, h5, h6⟩ := h
  exact ⟨h0, h1, h2, va_K.moved (u := U) (U := U.calling f mk a) (Vm.Alike.refl U.vm) h3, h4, zStat.moved (u := U) (U := U.calling f mk a) (Vm.Alike.refl U.vm) h5, h6⟩
theorem zcallPre {g : zG} {σ0 σ : zSo} {A : Nat → Prop} {s U : State} {H : Heap} {locs : List Loc} {as : List Value} (hK : va_K g.2.1 vwCl (zty g) s) (hSt : zStat g σ0 A s s.heap) (hP : va_P g.2.1 vwCl (zW g σ) H) (hD : va_D A (zW g σ)) (hS : va_S A s.heap H locs) (hf : ∀ q, va_A (zW g σ) H.size q → A q) (hF : ∀ k, 1000 ≤ k → σ k = σ0 k) (hU : U.heap = H) (hW : s.WarmedH U.vm) : zPc g σ0 as σ H.size (as.map (zcv g.1)).toArray U := by
  refine ⟨rfl, by rw [hU], by rw [hU]; exact hP, va_K.moved hW.alike hK, hD.weaken (fun _ _ _ _ => trivial), ?_, hF⟩
  rw [hU]
  exact ((hSt.kept (fun a h1 h2 => hS.2.1 a h1 h2)).narrow hf).moved hW.alike
theorem zfree {g : zG} {σ : zSo} {A : Nat → Prop} {s : State} {H : Heap} {locs : List Loc} (hA : ∀ q, s.heap.size ≤ q → A q) (hD : va_D A (zW g σ)) (hS : va_S A s.heap H locs) : ∀ q, va_A (zW g σ) H.size q → A q := by
  intro q h
  rcases h with ⟨k, e, h⟩ | h
  · exact hD.2 k (q, e) h
  · exact hA q (Nat.le_trans hS.1 h)
/-- what is fixed of a method: its words are in the table, its class has no rows of its own in the machine -/
def zMok (q : zM) (n : Nat) : Prop := Cond.code q.1 q.2.1 q.2.2.1 q.2.2.2 ∈ lw_tbl ∧ Cond.initialized q.1.cls ∈ lw_tbl ∧ q.1.cls ≠ "java/lang/invoke/MethodHandle" ∧ q.1.cls ≠ "java/lang/invoke/VarHandle" ∧ (parseMethodDescriptor q.1.desc).map (fun d => d.parameters.length) = some n ∧ q.2.2.1 ≤ 21
theorem zs_invS {zMD : List zM} {own : String} {cc : ByteArray} {nL : Nat} {ret : Option FieldType} {pc : Nat} {i k idx : Nat} {q : zM} (hd : decode cc pc = .ok (.invokestatic idx, 3)) (hq : zMD[i]? = some q) (hk : zMok q k) (h1 : Cond.methodLink own idx q.1 ∈ lw_tbl) (h2 : Cond.static q.1 ∈ lw_tbl) (hgw : ∀ w ∈ lw_tbl, goodWord w = true) : zSnd zMD own cc nL ret pc (zo_invS i k (pc + 3)) := by
  intro d p l e R s m args below meth c g σ0 A cells slots Q hC lo st σ x hx
  obtain ⟨hex, hb, hml, hown, hts, hK, hSt, hA, hfr, hlo, hce, hsl⟩ := hC
  unfold zo_invS at hx
  split at hx
  · rename_i as rest hp
    split at hx
    · rename_i hcat
      cases hx
      refine ⟨q, hq, fun d' r σ1 hdd hM K H locs ls hP hD hS hF hl => ?_⟩
      subst hdd
      obtain ⟨bs, e1, e2, e3⟩ := zpop_spec hp
      rw [List.append_nil] at e1
      subst e1
      obtain ⟨k1, k2, k3, k4, k5, k6⟩ := hk
      have hf := zfree hA hD hS
      have hR : (zrm d').frames + 1 ≤ R.frames ∧ 8 + (q.2.2.1 + 11) + (zrm d').locals ≤ R.locals := by
        constructor
        · show d' + 1 + 1 ≤ R.frames
          omega
        · show 8 + (q.2.2.1 + 11) + 40 * (d' + 1) ≤ R.locals
          omega
      have hrun := va_runS (As := as.map (zcv g.1)) (rest := rest.map (zcv g.1)) (g := F0 m pc ls (st.map (zcv g.1))) (p := p) (e := e) (below := below) (meth := meth) (locs := locs) (cells := cells) (slots := slots) (H := H) (index := idx) (bytes := q.2.1) (maxL := q.2.2.1) (ret := q.2.2.2) (n := k) (R := R) ⟨hex, hb, hml, hown, hts⟩ (hM H.size) ⟨callB_of k hts (zgoodIn hgw k1) rfl rfl rfl (hts _ k2) (hts _ h1) ⟨k3, k4, k5⟩ hR, hts _ h2⟩ ⟨zblind _ _ _ _ _, fun U hU hW => zcallPre hK hSt hP hD hS hf hF hU hW⟩ rfl (by rw [List.length_map]; exact e3) hl.1 (by show st.map (zcv g.1) = _; rw [e2, List.map_append, List.map_reverse]) (lv_room (by rw [zcat_sum]; exact Nat.le_of_ble_eq_true hcat)) hd ⟨hce, hsl⟩
      refine zcall hrun hS hf (fun H1 locs1 hP1 hD1 hS1 hF1 => ?_)
      have KK := K H1 locs1 ls hP1 (hD1.weaken (fun _ q _ h => hf q.1 h)) hS1 hF1 hl
      rw [List.map_append] at KK
      have e9 : (r.map (zcv g.1)).toList = r.toList.map (zcv g.1) := by cases r <;> rfl
      rw [e9]
      exact KK
    · cases hx
  · cases hx
theorem zs_invV {zMD : List zM} {own : String} {cc : ByteArray} {nL : Nat} {ret : Option FieldType} {pc : Nat} {i ci k idx N : Nat} {q : zM} {T : u_T} (hd : decode cc pc = .ok (.invokevirtual idx, 3)) (hq : zMD[i]? = some q) (hc : vwCl[ci]? = some (q.1.cls, T, N)) (hk : zMok q k) (h1 : Cond.methodLink own idx q.1 ∈ lw_tbl) (h2 : Cond.instanceMethod q.1 ∈ lw_tbl) (h3 : Cond.selects q.1.cls q.1 q.1 ∈ lw_tbl) (hgw : ∀ w ∈ lw_tbl, goodWord w = true) : zSnd zMD own cc nL ret pc (zo_invV i ci k (pc + 3)) := by
  intro d p l e R s m args below meth c g σ0 A cells slots Q hC lo st σ x hx
  obtain ⟨hex, hb, hml, hown, hts, hK, hSt, hA, hfr, hlo, hce, hsl⟩ := hC
  unfold zo_invV at hx
  split at hx
  · rename_i as rest hp
    split at hx
    · rename_i b rs
      split at hx
      · rename_i cj fs hb1
        split at hx
        · rename_i hcat
          rw [Bool.and_eq_true] at hcat
          obtain ⟨hcj, hcat⟩ := hcat
          cases Nat.eq_of_beq_eq_true hcj
          cases hx
          refine ⟨q, hq, fun d' r σ1 hdd hM K H locs ls hP hD hS hF hl => ?_⟩
          subst hdd
          obtain ⟨bs, e1, e2, e3⟩ := zpop_spec hp
          rw [List.append_nil] at e1
          subst e1
          obtain ⟨k1, k2, k3, k4, k5, k6⟩ := hk
          have hf := zfree hA hD hS
          have hR : (zrm d').frames + 1 ≤ R.frames ∧ 8 + (q.2.2.1 + 11) + (zrm d').locals ≤ R.locals := by
            constructor
            · show d' + 1 + 1 ≤ R.frames
              omega
            · show 8 + (q.2.2.1 + 11) + 40 * (d' + 1) ≤ R.locals
              omega
          have hrun := va_runV (As := as.map (zcv g.1)) (b := g.1 b) (rest := rs.map (zcv g.1)) (C := q.1.cls) (g := F0 m pc ls (st.map (zcv g.1))) (p := p) (e := e) (below := below) (meth := meth) (locs := locs) (cells := cells) (slots := slots) (H := H) (index := idx) (bytes := q.2.1) (maxL := q.2.2.1) (ret := q.2.2.2) (n := k) (R := R) ⟨hex, hb, hml, hown, hts⟩ (hM H.size) ⟨callB_of k hts (zgoodIn hgw k1) rfl rfl rfl (hts _ k2) (hts _ h1) ⟨k3, k4, k5⟩ hR, hts _ h2, hts _ h3⟩ ⟨zblind _ _ _ _ _, va_recv hK hP hc (zW_at g σ hb1), fun U hU hW => zcallPre (as := .ref b :: as) hK hSt hP hD hS hf hF hU hW⟩ rfl (by rw [List.length_map]; exact e3) hl.1 (by show st.map (zcv g.1) = _; rw [e2, List.map_append, List.map_reverse]; rfl) (lv_room (by rw [zcat_sum]; exact Nat.le_of_ble_eq_true hcat)) hd ⟨hce, hsl⟩
          refine zcall hrun hS hf (fun H1 locs1 hP1 hD1 hS1 hF1 => ?_)
          have KK := K H1 locs1 ls hP1 (hD1.weaken (fun _ q _ h => hf q.1 h)) hS1 hF1 hl
          rw [List.map_append] at KK
          have e9 : (r.map (zcv g.1)).toList = r.toList.map (zcv g.1) := by cases r <;> rfl
          rw [e9]
          exact KK
        · cases hx
      · cases hx
    · cases hx
  · cases hx
def zo_iret : zOp := fun lo st σ => match st with
  | [.int v] => some (.inr (.inr (some (.int v))))
  | _ => none
theorem zs_iret {zMD : List zM} {own : String} {cc : ByteArray} {nL pc : Nat} (hd : decode cc pc = .ok (.ireturn, 1)) : zSnd zMD own cc nL (some .int) pc zo_iret := by
  intro d p l e R s m args below meth c g σ0 A cells slots Q hC lo st σ x hx
  obtain ⟨hex, hb, hml, hown, hts, hK, hSt, hA, hfr, hlo, hce, hsl⟩ := hC
  unfold zo_iret at hx
  split at hx
  · cases hx
    intro K
    exact K.1 pc lo _ .int hd rfl rfl rfl
  · cases hx
def zo_zret : zOp := fun lo st σ => match st with
  | [.int v] => if v = 0 ∨ v = 1 then some (.inr (.inr (some (.int v)))) else none
  | _ => none
theorem zs_zret {zMD : List zM} {own : String} {cc : ByteArray} {nL pc : Nat} (hd : decode cc pc = .ok (.ireturn, 1)) : zSnd zMD own cc nL (some .boolean) pc zo_zret := by
  intro d p l e R s m args below meth c g σ0 A cells slots Q hC lo st σ x hx
  obtain ⟨hex, hb, hml, hown, hts, hK, hSt, hA, hfr, hlo, hce, hsl⟩ := hC
  unfold zo_zret at hx
  split at hx
  · split at hx
    · rename_i hg
      cases hx
      intro K
      exact K.1 pc lo _ .boolean hd rfl rfl (znarZ hg).1
    · cases hx
  · cases hx
def zo_lret : zOp := fun lo st σ => match st with
  | [.long v] => some (.inr (.inr (some (.long v))))
  | _ => none
theorem zs_lret {zMD : List zM} {own : String} {cc : ByteArray} {nL pc : Nat} (hd : decode cc pc = .ok (.lreturn, 1)) : zSnd zMD own cc nL (some .long) pc zo_lret := by
  intro d p l e R s m args below meth c g σ0 A cells slots Q hC lo st σ x hx
  obtain ⟨hex, hb, hml, hown, hts, hK, hSt, hA, hfr, hlo, hce, hsl⟩ := hC
  unfold zo_lret at hx
  split at hx
  · cases hx
    intro K
    exact K.2.1 pc lo _ hd rfl rfl
  · cases hx
def zo_vret : zOp := fun lo st σ => match st with
  | [] => some (.inr (.inr none))
  | _ => none
theorem zs_vret {zMD : List zM} {own : String} {cc : ByteArray} {nL pc : Nat} (hd : decode cc pc = .ok (.return_, 1)) : zSnd zMD own cc nL none pc zo_vret := by
  intro d p l e R s m args below meth c g σ0 A cells slots Q hC lo st σ x hx
  obtain ⟨hex, hb, hml, hown, hts, hK, hSt, hA, hfr, hlo, hce, hsl⟩ := hC
  unfold zo_vret at hx
  split at hx
  · cases hx
    intro K
    exact K.2.2 pc lo hd rfl rfl
  · cases hx
/-- a stretch of a method's table -/
def zOk (zMD : List zM) (own : String) (cc : ByteArray) (nL : Nat) (ret : Option FieldType) (b : Nat) (t : List zOp) : Prop := ∀ (j : Nat) (f : zOp), t[j]? = some f → zSnd zMD own cc nL ret (b + j) f
theorem zok_nil {zMD : List zM} {own : String} {cc : ByteArray} {nL : Nat} {ret : Option FieldType} {b : Nat} : zOk zMD own cc nL ret b [] := fun j f h => by simp at h
theorem zok_cons {zMD : List zM} {own : String} {cc : ByteArray} {nL : Nat} {ret : Option FieldType} {b : Nat} {f : zOp} {t : List zOp} (hf : zSnd zMD own cc nL ret b f) (h : zOk zMD own cc nL ret (b + 1) t) : zOk zMD own cc nL ret b (f :: t) := fun j f' hj => by
  cases j with
  | zero => cases hj; exact hf
  | succ j =>
    have := h j f' hj
    rw [show b + (j + 1) = b + 1 + j from by omega]
    exact this
end
