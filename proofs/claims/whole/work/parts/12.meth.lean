theorem zlay3 : ∀ (k t : Nat) (fs : List (Option Nat)), zLAY[k]? = some (3, t, fs) → t = 2 ∨ t = 3 := by
  intro k t fs h
  have h1 : ∀ c ∈ zLAY, c.1 = 3 → c.2.1 = 2 ∨ c.2.1 = 3 := by decide +kernel
  exact h1 _ (List.mem_of_getElem? h) rfl
def zOkM (zMD : List zM) (own : String) (cc : ByteArray) (nL : Nat) (ret : Option FieldType) (b : Nat) (t : List (List zOp)) : Prop := ∀ (j : Nat) (f : List zOp), t[j]? = some f → zOk zMD own cc nL ret (16 * (b + j)) f
theorem zokM_nil {zMD : List zM} {own : String} {cc : ByteArray} {nL : Nat} {ret : Option FieldType} {b : Nat} : zOkM zMD own cc nL ret b [] := fun j f h => by simp at h
theorem zokM_cons {zMD : List zM} {own : String} {cc : ByteArray} {nL : Nat} {ret : Option FieldType} {b : Nat} {f : List zOp} {t : List (List zOp)} (hf : zOk zMD own cc nL ret (16 * b) f) (h : zOkM zMD own cc nL ret (b + 1) t) : zOkM zMD own cc nL ret b (f :: t) := fun j f' hj => by
  cases j with
  | zero => cases hj; exact hf
  | succ j =>
    have := h j f' hj
    rw [show b + (j + 1) = b + 1 + j from by omega]
    exact this
theorem igX0 : ∀ w ∈ wsX00, w ∈ zTab := fun w h => List.mem_filter.mpr ⟨inX0 w h, (by decide : ∀ w ∈ wsX00, goodWord w = true) w h⟩
theorem igX1 : ∀ w ∈ wsX10, w ∈ zTab := fun w h => List.mem_filter.mpr ⟨inX1 w h, (by decide : ∀ w ∈ wsX10, goodWord w = true) w h⟩
theorem igX2 : ∀ w ∈ wsX20, w ∈ zTab := fun w h => List.mem_filter.mpr ⟨inX2 w h, (by decide : ∀ w ∈ wsX20, goodWord w = true) w h⟩
theorem igX3 : ∀ w ∈ wsX30, w ∈ zTab := fun w h => List.mem_filter.mpr ⟨inX3 w h, (by decide : ∀ w ∈ wsX30, goodWord w = true) w h⟩
theorem igX4 : ∀ w ∈ wsX40, w ∈ zTab := fun w h => List.mem_filter.mpr ⟨inX4 w h, (by decide : ∀ w ∈ wsX40, goodWord w = true) w h⟩
theorem igX5 : ∀ w ∈ wsX50, w ∈ zTab := fun w h => List.mem_filter.mpr ⟨inX5 w h, (by decide : ∀ w ∈ wsX50, goodWord w = true) w h⟩
theorem igX6 : ∀ w ∈ wsX60, w ∈ zTab := fun w h => List.mem_filter.mpr ⟨inX6 w h, (by decide : ∀ w ∈ wsX60, goodWord w = true) w h⟩
theorem igX7 : ∀ w ∈ wsX70, w ∈ zTab := fun w h => List.mem_filter.mpr ⟨inX7 w h, (by decide : ∀ w ∈ wsX70, goodWord w = true) w h⟩
theorem mt1 {w : Cond} (h : w ∈ tables_1_1) : w ∈ lw_tbl := List.mem_append_right _ (List.mem_append_left _ h)
theorem mg1 {w : Cond} (h : w ∈ tables_1_1) (hg : goodWord w = true) : w ∈ zTab := List.mem_filter.mpr ⟨mt1 h, hg⟩
theorem mt2 {w : Cond} (h : w ∈ tables_1_2) : w ∈ lw_tbl := List.mem_append_right _ (List.mem_append_right _ (List.mem_append_left _ h))
theorem mg2 {w : Cond} (h : w ∈ tables_1_2) (hg : goodWord w = true) : w ∈ zTab := List.mem_filter.mpr ⟨mt2 h, hg⟩
theorem mt3 {w : Cond} (h : w ∈ tables_1_3) : w ∈ lw_tbl := List.mem_append_right _ (List.mem_append_right _ (List.mem_append_right _ (List.mem_append_left _ h)))
theorem mg3 {w : Cond} (h : w ∈ tables_1_3) (hg : goodWord w = true) : w ∈ zTab := List.mem_filter.mpr ⟨mt3 h, hg⟩
theorem mt4 {w : Cond} (h : w ∈ tables_1_4) : w ∈ lw_tbl := List.mem_append_right _ (List.mem_append_right _ (List.mem_append_right _ (List.mem_append_right _ (List.mem_append_left _ h))))
theorem mg4 {w : Cond} (h : w ∈ tables_1_4) (hg : goodWord w = true) : w ∈ zTab := List.mem_filter.mpr ⟨mt4 h, hg⟩
theorem mt5 {w : Cond} (h : w ∈ tables_1_5) : w ∈ lw_tbl := List.mem_append_right _ (List.mem_append_right _ (List.mem_append_right _ (List.mem_append_right _ (List.mem_append_right _ (h)))))
theorem mg5 {w : Cond} (h : w ∈ tables_1_5) (hg : goodWord w = true) : w ∈ zTab := List.mem_filter.mpr ⟨mt5 h, hg⟩
theorem mp1 {q : MethodName × Nat} (h : q ∈ lw_privs_1) : Cond.selects q.1.cls q.1 q.1 ∈ zTab := List.mem_filter.mpr ⟨List.mem_append_left _ (List.mem_map.mpr ⟨q, List.mem_append_left _ h, rfl⟩), rfl⟩
theorem mp2 {q : MethodName × Nat} (h : q ∈ lw_privs_2) : Cond.selects q.1.cls q.1 q.1 ∈ zTab := List.mem_filter.mpr ⟨List.mem_append_left _ (List.mem_map.mpr ⟨q, List.mem_append_right _ (List.mem_append_left _ h), rfl⟩), rfl⟩
theorem mp3 {q : MethodName × Nat} (h : q ∈ lw_privs_3) : Cond.selects q.1.cls q.1 q.1 ∈ zTab := List.mem_filter.mpr ⟨List.mem_append_left _ (List.mem_map.mpr ⟨q, List.mem_append_right _ (List.mem_append_right _ (List.mem_append_left _ h)), rfl⟩), rfl⟩
theorem mp4 {q : MethodName × Nat} (h : q ∈ lw_privs_4) : Cond.selects q.1.cls q.1 q.1 ∈ zTab := List.mem_filter.mpr ⟨List.mem_append_left _ (List.mem_map.mpr ⟨q, List.mem_append_right _ (List.mem_append_right _ (List.mem_append_right _ (h))), rfl⟩), rfl⟩
theorem mw_2_121 : Cond.code ⟨"BeatBounds$Acts", "forgetAll", "()V"⟩ prog_2_method_2_code 1 none ∈ zTab := mg2 (List.mem_of_getElem? (i := 121) rfl) rfl
theorem mw_1_4 : Cond.initialized "BeatBounds$Acts" ∈ zTab := mg1 (List.mem_of_getElem? (i := 4) rfl) rfl
theorem mw_2_161 : Cond.code ⟨"BeatBounds$Acts", "keep", "(IILBeatBounds$Parish;)V"⟩ prog_2_method_3_code 4 none ∈ zTab := mg2 (List.mem_of_getElem? (i := 161) rfl) rfl
theorem mw_2_134 : Cond.code ⟨"BeatBounds$Acts", "takeBack", "(LBeatBounds$Parish;)V"⟩ prog_2_method_4_code 3 none ∈ zTab := mg2 (List.mem_of_getElem? (i := 134) rfl) rfl
theorem mw_2_165 : Cond.code ⟨"BeatBounds$Acts", "keepBumps", "(ILBeatBounds$Parish;)V"⟩ prog_2_method_5_code 5 none ∈ zTab := mg2 (List.mem_of_getElem? (i := 165) rfl) rfl
theorem mw_2_138 : Cond.code ⟨"BeatBounds$Acts", "takeBumpsBack", "(ILBeatBounds$Parish;)V"⟩ prog_2_method_6_code 5 none ∈ zTab := mg2 (List.mem_of_getElem? (i := 138) rfl) rfl
theorem mw_3_204 : Cond.code ⟨"BeatBounds$Asks", "answer", "(LBeatBounds$Parish;II)I"⟩ prog_3_method_2_code 4 (some .int) ∈ zTab := mg3 (List.mem_of_getElem? (i := 204) rfl) rfl
theorem mw_1_6 : Cond.initialized "BeatBounds$Asks" ∈ zTab := mg1 (List.mem_of_getElem? (i := 6) rfl) rfl
theorem mw_3_207 : Cond.code ⟨"BeatBounds$Asks", "bodyOf", "(II)I"⟩ prog_3_method_3_code 5 (some .int) ∈ zTab := mg3 (List.mem_of_getElem? (i := 207) rfl) rfl
theorem mw_3_226 : Cond.code ⟨"BeatBounds$Asks", "anew", "(ILBeatBounds$Parish;II)I"⟩ prog_3_method_4_code 5 (some .int) ∈ zTab := mg3 (List.mem_of_getElem? (i := 226) rfl) rfl
theorem mw_3_216 : Cond.code ⟨"BeatBounds$Asks", "begin", "(ILBeatBounds$Parish;II)I"⟩ prog_3_method_5_code 6 (some .int) ∈ zTab := mg3 (List.mem_of_getElem? (i := 216) rfl) rfl
theorem mw_3_220 : Cond.code ⟨"BeatBounds$Asks", "leave", "(I)V"⟩ prog_3_method_6_code 2 none ∈ zTab := mg3 (List.mem_of_getElem? (i := 220) rfl) rfl
theorem mw_3_12 : Cond.code ⟨"BeatBounds$Oaths", "gather", "(LBeatBounds$Parish;I)V"⟩ prog_4_method_2_code 5 none ∈ zTab := mg3 (List.mem_of_getElem? (i := 12) rfl) rfl
theorem mw_1_5 : Cond.initialized "BeatBounds$Oaths" ∈ zTab := mg1 (List.mem_of_getElem? (i := 5) rfl) rfl
theorem mw_3_22 : Cond.code ⟨"BeatBounds$Oaths", "least", "()I"⟩ prog_4_method_3_code 3 (some .int) ∈ zTab := mg3 (List.mem_of_getElem? (i := 22) rfl) rfl
theorem mw_3_27 : Cond.code ⟨"BeatBounds$Oaths", "greatest", "()I"⟩ prog_4_method_4_code 3 (some .int) ∈ zTab := mg3 (List.mem_of_getElem? (i := 27) rfl) rfl
theorem mw_3_32 : Cond.code ⟨"BeatBounds$Oaths", "middle", "()I"⟩ prog_4_method_5_code 4 (some .int) ∈ zTab := mg3 (List.mem_of_getElem? (i := 32) rfl) rfl
theorem mw_3_44 : Cond.code ⟨"BeatBounds$Oaths", "ofOldest", "(LBeatBounds$Parish;)I"⟩ prog_4_method_6_code 5 (some .int) ∈ zTab := mg3 (List.mem_of_getElem? (i := 44) rfl) rfl
theorem mw_3_36 : Cond.code ⟨"BeatBounds$Oaths", "below", "(I)I"⟩ prog_4_method_7_code 4 (some .int) ∈ zTab := mg3 (List.mem_of_getElem? (i := 36) rfl) rfl
theorem mw_3_40 : Cond.code ⟨"BeatBounds$Oaths", "alike", "(I)I"⟩ prog_4_method_8_code 4 (some .int) ∈ zTab := mg3 (List.mem_of_getElem? (i := 40) rfl) rfl
theorem mw_3_64 : Cond.code ⟨"BeatBounds$Oaths", "likeliestYard", "()I"⟩ prog_4_method_9_code 5 (some .int) ∈ zTab := mg3 (List.mem_of_getElem? (i := 64) rfl) rfl
theorem mw_3_142 : Cond.code ⟨"BeatBounds$Oaths", "raiseBribed", "(LBeatBounds$Parish;I)V"⟩ prog_4_method_10_code 7 none ∈ zTab := mg3 (List.mem_of_getElem? (i := 142) rfl) rfl
theorem mw_3_98 : Cond.code ⟨"BeatBounds$Oaths", "countOrders", "()V"⟩ prog_4_method_11_code 4 none ∈ zTab := mg3 (List.mem_of_getElem? (i := 98) rfl) rfl
theorem mw_3_102 : Cond.code ⟨"BeatBounds$Oaths", "waysOn", "(II)I"⟩ prog_4_method_12_code 5 (some .int) ∈ zTab := mg3 (List.mem_of_getElem? (i := 102) rfl) rfl
theorem mw_3_106 : Cond.code ⟨"BeatBounds$Oaths", "areNear", "(II)Z"⟩ prog_4_method_13_code 3 (some .boolean) ∈ zTab := mg3 (List.mem_of_getElem? (i := 106) rfl) rfl
theorem mw_3_113 : Cond.code ⟨"BeatBounds$Oaths", "orders", "()I"⟩ prog_4_method_14_code 3 (some .int) ∈ zTab := mg3 (List.mem_of_getElem? (i := 113) rfl) rfl
theorem mw_3_117 : Cond.code ⟨"BeatBounds$Oaths", "inFirstOrder", "(I)I"⟩ prog_4_method_15_code 5 (some .int) ∈ zTab := mg3 (List.mem_of_getElem? (i := 117) rfl) rfl
theorem mw_3_121 : Cond.code ⟨"BeatBounds$Oaths", "firstNext", "(II)I"⟩ prog_4_method_16_code 5 (some .int) ∈ zTab := mg3 (List.mem_of_getElem? (i := 121) rfl) rfl
theorem mw_2_69 : Cond.code ⟨"BeatBounds$Parish", "clear", "()V"⟩ prog_5_method_2_code 2 none ∈ zTab := mg2 (List.mem_of_getElem? (i := 69) rfl) rfl
theorem mw_1_3 : Cond.initialized "BeatBounds$Parish" ∈ zTab := mg1 (List.mem_of_getElem? (i := 3) rfl) rfl
theorem mw_2_116 : Cond.code ⟨"BeatBounds$Parish", "become", "(LBeatBounds$Parish;)V"⟩ prog_5_method_3_code 2 none ∈ zTab := mg2 (List.mem_of_getElem? (i := 116) rfl) rfl
theorem mw_2_142 : Cond.code ⟨"BeatBounds$Parish", "placeOf", "(II)I"⟩ prog_5_method_4_code 3 (some .int) ∈ zTab := mg2 (List.mem_of_getElem? (i := 142) rfl) rfl
theorem mw_2_157 : Cond.code ⟨"BeatBounds$Parish", "everybody", "()I"⟩ prog_5_method_5_code 1 (some .int) ∈ zTab := mg2 (List.mem_of_getElem? (i := 157) rfl) rfl
theorem mw_2_184 : Cond.code ⟨"BeatBounds$Parish", "age", "(I)I"⟩ prog_5_method_6_code 2 (some .int) ∈ zTab := mg2 (List.mem_of_getElem? (i := 184) rfl) rfl
theorem mw_2_180 : Cond.code ⟨"BeatBounds$Parish", "isAlive", "(I)Z"⟩ prog_5_method_7_code 2 (some .boolean) ∈ zTab := mg2 (List.mem_of_getElem? (i := 180) rfl) rfl
theorem mw_2_176 : Cond.code ⟨"BeatBounds$Parish", "isTakable", "(I)Z"⟩ prog_5_method_8_code 2 (some .boolean) ∈ zTab := mg2 (List.mem_of_getElem? (i := 176) rfl) rfl
theorem mw_2_208 : Cond.code ⟨"BeatBounds$Parish", "living", "()I"⟩ prog_5_method_9_code 3 (some .int) ∈ zTab := mg2 (List.mem_of_getElem? (i := 208) rfl) rfl
theorem mw_3_82 : Cond.code ⟨"BeatBounds$Parish", "takable", "()I"⟩ prog_5_method_10_code 3 (some .int) ∈ zTab := mg3 (List.mem_of_getElem? (i := 82) rfl) rfl
theorem mw_2_172 : Cond.code ⟨"BeatBounds$Parish", "bump", "(III)I"⟩ prog_5_method_11_code 7 (some .int) ∈ zTab := mg2 (List.mem_of_getElem? (i := 172) rfl) rfl
theorem mw_2_228 : Cond.code ⟨"BeatBounds$Parish", "oath", "(II)I"⟩ prog_5_method_12_code 8 (some .int) ∈ zTab := mg2 (List.mem_of_getElem? (i := 228) rfl) rfl
theorem mw_2_224 : Cond.code ⟨"BeatBounds$Parish", "stonesSwornBy", "(I)I"⟩ prog_5_method_13_code 4 (some .int) ∈ zTab := mg2 (List.mem_of_getElem? (i := 224) rfl) rfl
theorem mw_3_18 : Cond.code ⟨"BeatBounds$Parish", "swearersTo", "(I)I"⟩ prog_5_method_14_code 4 (some .int) ∈ zTab := mg3 (List.mem_of_getElem? (i := 18) rfl) rfl
theorem mw_3_170 : Cond.code ⟨"BeatBounds$Parish", "stonesSworn", "()I"⟩ prog_5_method_15_code 3 (some .int) ∈ zTab := mg3 (List.mem_of_getElem? (i := 170) rfl) rfl
theorem mw_3_175 : Cond.code ⟨"BeatBounds$Parish", "yardsSworn", "()I"⟩ prog_5_method_16_code 5 (some .int) ∈ zTab := mg3 (List.mem_of_getElem? (i := 175) rfl) rfl
theorem mw_3_161 : Cond.code ⟨"BeatBounds$Parish", "passYearBy", "(J)V"⟩ prog_5_method_17_code 4 none ∈ zTab := mg3 (List.mem_of_getElem? (i := 161) rfl) rfl
theorem mw_2_20 : Cond.code ⟨"BeatBounds$Row", "begin", "(II)V"⟩ prog_6_method_2_code 4 none ∈ zTab := mg2 (List.mem_of_getElem? (i := 20) rfl) rfl
theorem mw_1_7 : Cond.initialized "BeatBounds$Row" ∈ zTab := mg1 (List.mem_of_getElem? (i := 7) rfl) rfl
theorem mw_2_32 : Cond.code ⟨"BeatBounds$Row", "holds", "(II)Z"⟩ prog_6_method_3_code 3 (some .boolean) ∈ zTab := mg2 (List.mem_of_getElem? (i := 32) rfl) rfl
theorem mw_2_36 : Cond.code ⟨"BeatBounds$Row", "cut", "(I)I"⟩ prog_6_method_4_code 2 (some .int) ∈ zTab := mg2 (List.mem_of_getElem? (i := 36) rfl) rfl
theorem mw_2_55 : Cond.code ⟨"BeatBounds$Tape", "hasRoom", "()Z"⟩ prog_7_method_2_code 1 (some .boolean) ∈ zTab := mg2 (List.mem_of_getElem? (i := 55) rfl) rfl
theorem mw_1_2 : Cond.initialized "BeatBounds$Tape" ∈ zTab := mg1 (List.mem_of_getElem? (i := 2) rfl) rfl
theorem mw_2_60 : Cond.code ⟨"BeatBounds$Tape", "append", "(I)I"⟩ prog_7_method_3_code 2 (some .int) ∈ zTab := mg2 (List.mem_of_getElem? (i := 60) rfl) rfl
theorem mw_2_73 : Cond.code ⟨"BeatBounds$Tape", "readInto", "(LBeatBounds$Parish;)Z"⟩ prog_7_method_4_code 3 (some .boolean) ∈ zTab := mg2 (List.mem_of_getElem? (i := 73) rfl) rfl
theorem mw_2_77 : Cond.code ⟨"BeatBounds$Tape", "readLaw", "(LBeatBounds$Parish;)Z"⟩ prog_7_method_5_code 2 (some .boolean) ∈ zTab := mg2 (List.mem_of_getElem? (i := 77) rfl) rfl
theorem mw_2_100 : Cond.code ⟨"BeatBounds$Tape", "readStones", "(LBeatBounds$Parish;)Z"⟩ prog_7_method_6_code 4 (some .boolean) ∈ zTab := mg2 (List.mem_of_getElem? (i := 100) rfl) rfl
theorem mw_2_104 : Cond.code ⟨"BeatBounds$Tape", "readWitnesses", "(LBeatBounds$Parish;)Z"⟩ prog_7_method_7_code 4 (some .boolean) ∈ zTab := mg2 (List.mem_of_getElem? (i := 104) rfl) rfl
theorem mw_2_111 : Cond.code ⟨"BeatBounds$Tape", "readLife", "(LBeatBounds$Parish;I)Z"⟩ prog_7_method_8_code 5 (some .boolean) ∈ zTab := mg2 (List.mem_of_getElem? (i := 111) rfl) rfl
theorem mw_2_89 : Cond.code ⟨"BeatBounds$Tape", "fails", "(I)Z"⟩ prog_7_method_9_code 2 (some .boolean) ∈ zTab := mg2 (List.mem_of_getElem? (i := 89) rfl) rfl
theorem mw_2_85 : Cond.code ⟨"BeatBounds$Tape", "letterAt", "(I)I"⟩ prog_7_method_10_code 2 (some .int) ∈ zTab := mg2 (List.mem_of_getElem? (i := 85) rfl) rfl
theorem mw_2_81 : Cond.code ⟨"BeatBounds$Tape", "passes", "(I)Z"⟩ prog_7_method_11_code 2 (some .boolean) ∈ zTab := mg2 (List.mem_of_getElem? (i := 81) rfl) rfl
theorem mw_2_93 : Cond.code ⟨"BeatBounds$Tape", "number", "(II)I"⟩ prog_7_method_12_code 5 (some .int) ∈ zTab := mg2 (List.mem_of_getElem? (i := 93) rfl) rfl
theorem mw_2_96 : Cond.code ⟨"BeatBounds$Tape", "isFigure", "(I)Z"⟩ prog_7_method_13_code 1 (some .boolean) ∈ zTab := mg2 (List.mem_of_getElem? (i := 96) rfl) rfl
theorem mw_2_107 : Cond.code ⟨"BeatBounds$Tape", "kindTold", "(I)I"⟩ prog_7_method_14_code 1 (some .int) ∈ zTab := mg2 (List.mem_of_getElem? (i := 107) rfl) rfl
theorem mw_2_7 : Cond.code ⟨"BeatBounds", "row", "(III)I"⟩ prog_1_method_2_code 4 (some .int) ∈ zTab := mg2 (List.mem_of_getElem? (i := 7) rfl) rfl
theorem mw_1_1 : Cond.initialized "BeatBounds" ∈ zTab := mg1 (List.mem_of_getElem? (i := 1) rfl) rfl
theorem mw_2_28 : Cond.code ⟨"BeatBounds", "set", "(III)I"⟩ prog_1_method_3_code 5 (some .int) ∈ zTab := mg2 (List.mem_of_getElem? (i := 28) rfl) rfl
theorem mw_2_40 : Cond.code ⟨"BeatBounds", "copy", "(IIIII)I"⟩ prog_1_method_4_code 8 (some .int) ∈ zTab := mg2 (List.mem_of_getElem? (i := 40) rfl) rfl
theorem mw_2_47 : Cond.code ⟨"BeatBounds", "drop", "(I)I"⟩ prog_1_method_5_code 3 (some .int) ∈ zTab := mg2 (List.mem_of_getElem? (i := 47) rfl) rfl
theorem mw_2_51 : Cond.code ⟨"BeatBounds", "feed", "(I)I"⟩ prog_1_method_6_code 2 (some .int) ∈ zTab := mg2 (List.mem_of_getElem? (i := 51) rfl) rfl
theorem mw_2_65 : Cond.code ⟨"BeatBounds", "parish", "()I"⟩ prog_1_method_7_code 1 (some .int) ∈ zTab := mg2 (List.mem_of_getElem? (i := 65) rfl) rfl
theorem mw_2_125 : Cond.code ⟨"BeatBounds", "fault", "()I"⟩ prog_1_method_8_code 1 (some .int) ∈ zTab := mg2 (List.mem_of_getElem? (i := 125) rfl) rfl
theorem mw_2_129 : Cond.code ⟨"BeatBounds", "undo", "()I"⟩ prog_1_method_9_code 1 (some .int) ∈ zTab := mg2 (List.mem_of_getElem? (i := 129) rfl) rfl
theorem mw_2_146 : Cond.code ⟨"BeatBounds", "walk", "(III)I"⟩ prog_1_method_10_code 4 (some .int) ∈ zTab := mg2 (List.mem_of_getElem? (i := 146) rfl) rfl
theorem mw_2_189 : Cond.code ⟨"BeatBounds", "move", "(II)I"⟩ prog_1_method_11_code 4 (some .int) ∈ zTab := mg2 (List.mem_of_getElem? (i := 189) rfl) rfl
theorem mw_2_196 : Cond.code ⟨"BeatBounds", "bribe", "(II)I"⟩ prog_1_method_12_code 4 (some .int) ∈ zTab := mg2 (List.mem_of_getElem? (i := 196) rfl) rfl
theorem mw_2_204 : Cond.code ⟨"BeatBounds", "years", "(I)I"⟩ prog_1_method_13_code 3 (some .int) ∈ zTab := mg2 (List.mem_of_getElem? (i := 204) rfl) rfl
theorem mw_2_218 : Cond.code ⟨"BeatBounds", "witness", "(II)I"⟩ prog_1_method_14_code 3 (some .int) ∈ zTab := mg2 (List.mem_of_getElem? (i := 218) rfl) rfl
theorem mw_2_237 : Cond.code ⟨"BeatBounds", "memory", "(III)I"⟩ prog_1_method_15_code 5 (some .int) ∈ zTab := mg2 (List.mem_of_getElem? (i := 237) rfl) rfl
theorem mw_3_4 : Cond.code ⟨"BeatBounds", "stone", "(I)I"⟩ prog_1_method_16_code 2 (some .int) ∈ zTab := mg3 (List.mem_of_getElem? (i := 4) rfl) rfl
theorem mw_3_8 : Cond.code ⟨"BeatBounds", "sworn", "(II)I"⟩ prog_1_method_17_code 3 (some .int) ∈ zTab := mg3 (List.mem_of_getElem? (i := 8) rfl) rfl
theorem mw_3_49 : Cond.code ⟨"BeatBounds", "belief", "(III)I"⟩ prog_1_method_18_code 5 (some .int) ∈ zTab := mg3 (List.mem_of_getElem? (i := 49) rfl) rfl
theorem mw_3_60 : Cond.code ⟨"BeatBounds", "likeliest", "(I)I"⟩ prog_1_method_19_code 2 (some .int) ∈ zTab := mg3 (List.mem_of_getElem? (i := 60) rfl) rfl
theorem mw_3_68 : Cond.code ⟨"BeatBounds", "till", "(II)I"⟩ prog_1_method_20_code 4 (some .int) ∈ zTab := mg3 (List.mem_of_getElem? (i := 68) rfl) rfl
theorem mw_3_75 : Cond.code ⟨"BeatBounds", "take", "(IIIII)I"⟩ prog_1_method_21_code 13 (some .int) ∈ zTab := mg3 (List.mem_of_getElem? (i := 75) rfl) rfl
theorem mw_3_90 : Cond.code ⟨"BeatBounds", "pain", "(III)I"⟩ prog_1_method_22_code 5 (some .int) ∈ zTab := mg3 (List.mem_of_getElem? (i := 90) rfl) rfl
theorem mw_3_94 : Cond.code ⟨"BeatBounds", "order", "(II)I"⟩ prog_1_method_23_code 3 (some .int) ∈ zTab := mg3 (List.mem_of_getElem? (i := 94) rfl) rfl
theorem mw_3_125 : Cond.code ⟨"BeatBounds", "stood", "(III)I"⟩ prog_1_method_24_code 13 (some .int) ∈ zTab := mg3 (List.mem_of_getElem? (i := 125) rfl) rfl
theorem mw_3_138 : Cond.code ⟨"BeatBounds", "shift", "(II)I"⟩ prog_1_method_25_code 4 (some .int) ∈ zTab := mg3 (List.mem_of_getElem? (i := 138) rfl) rfl
theorem mw_3_146 : Cond.code ⟨"BeatBounds", "map", "(II)I"⟩ prog_1_method_26_code 3 (some .int) ∈ zTab := mg3 (List.mem_of_getElem? (i := 146) rfl) rfl
theorem mw_3_150 : Cond.code ⟨"BeatBounds", "agree", "(I)I"⟩ prog_1_method_27_code 4 (some .int) ∈ zTab := mg3 (List.mem_of_getElem? (i := 150) rfl) rfl
theorem mw_3_154 : Cond.code ⟨"BeatBounds", "drawn", "(III)I"⟩ prog_1_method_28_code 7 (some .int) ∈ zTab := mg3 (List.mem_of_getElem? (i := 154) rfl) rfl
theorem mw_3_179 : Cond.code ⟨"BeatBounds", "image", "(I)I"⟩ prog_1_method_29_code 2 (some .int) ∈ zTab := mg3 (List.mem_of_getElem? (i := 179) rfl) rfl
theorem mw_3_183 : Cond.code ⟨"BeatBounds", "restore", "(I)I"⟩ prog_1_method_30_code 2 (some .int) ∈ zTab := mg3 (List.mem_of_getElem? (i := 183) rfl) rfl
theorem mw_3_187 : Cond.code ⟨"BeatBounds", "kind", "(I)I"⟩ prog_1_method_31_code 2 (some .int) ∈ zTab := mg3 (List.mem_of_getElem? (i := 187) rfl) rfl
theorem mw_3_191 : Cond.code ⟨"BeatBounds", "as", "(II)I"⟩ prog_1_method_32_code 3 (some .int) ∈ zTab := mg3 (List.mem_of_getElem? (i := 191) rfl) rfl
theorem mw_3_200 : Cond.code ⟨"BeatBounds", "ask", "(II)I"⟩ prog_1_method_33_code 3 (some .int) ∈ zTab := mg3 (List.mem_of_getElem? (i := 200) rfl) rfl
theorem mw_3_231 : Cond.code ⟨"BeatBounds", "trace", "(I)I"⟩ prog_1_method_34_code 2 (some .int) ∈ zTab := mg3 (List.mem_of_getElem? (i := 231) rfl) rfl
theorem mw_3_235 : Cond.code ⟨"BeatBounds", "count", "(I)I"⟩ prog_1_method_35_code 2 (some .int) ∈ zTab := mg3 (List.mem_of_getElem? (i := 235) rfl) rfl
theorem mw_4_3 : Cond.code ⟨"BeatBounds", "status", "()I"⟩ prog_1_method_36_code 1 (some .int) ∈ zTab := mg4 (List.mem_of_getElem? (i := 3) rfl) rfl
theorem mw_2_15 : Cond.code ⟨"BeatBounds", "finding", "(I)I"⟩ prog_1_method_37_code 2 (some .int) ∈ zTab := mg2 (List.mem_of_getElem? (i := 15) rfl) rfl
theorem mw_2_24 : Cond.code ⟨"BeatBounds", "fine", "(I)I"⟩ prog_1_method_38_code 2 (some .int) ∈ zTab := mg2 (List.mem_of_getElem? (i := 24) rfl) rfl
theorem mw_3_239 : Cond.code ⟨"BeatBounds", "rowsThere", "()I"⟩ prog_1_method_39_code 3 (some .int) ∈ zTab := mg3 (List.mem_of_getElem? (i := 239) rfl) rfl
theorem mw_3_86 : Cond.code ⟨"BeatBounds", "swearersIfTaken", "(III)I"⟩ prog_1_method_40_code 4 (some .int) ∈ zTab := mg3 (List.mem_of_getElem? (i := 86) rfl) rfl
theorem mw_2_150 : Cond.code ⟨"BeatBounds", "isStone", "(I)Z"⟩ prog_1_method_41_code 2 (some .boolean) ∈ zTab := mg2 (List.mem_of_getElem? (i := 150) rfl) rfl
theorem mw_2_200 : Cond.code ⟨"BeatBounds", "isWitness", "(I)Z"⟩ prog_1_method_42_code 2 (some .boolean) ∈ zTab := mg2 (List.mem_of_getElem? (i := 200) rfl) rfl
theorem mw_2_10 : Cond.code ⟨"BeatBounds", "isRow", "(I)Z"⟩ prog_1_method_43_code 1 (some .boolean) ∈ zTab := mg2 (List.mem_of_getElem? (i := 10) rfl) rfl
theorem mw_2_192 : Cond.code ⟨"BeatBounds", "isYard", "(I)Z"⟩ prog_1_method_44_code 1 (some .boolean) ∈ zTab := mg2 (List.mem_of_getElem? (i := 192) rfl) rfl
theorem mw_2_153 : Cond.code ⟨"BeatBounds", "isPain", "(I)Z"⟩ prog_1_method_45_code 1 (some .boolean) ∈ zTab := mg2 (List.mem_of_getElem? (i := 153) rfl) rfl
theorem mw_3_71 : Cond.code ⟨"BeatBounds", "isMany", "(I)Z"⟩ prog_1_method_46_code 1 (some .boolean) ∈ zTab := mg3 (List.mem_of_getElem? (i := 71) rfl) rfl
theorem mw_3_78 : Cond.code ⟨"BeatBounds", "isLater", "(I)Z"⟩ prog_1_method_47_code 1 (some .boolean) ∈ zTab := mg3 (List.mem_of_getElem? (i := 78) rfl) rfl
theorem mw_3_52 : Cond.code ⟨"BeatBounds", "isEither", "(I)Z"⟩ prog_1_method_48_code 1 (some .boolean) ∈ zTab := mg3 (List.mem_of_getElem? (i := 52) rfl) rfl
theorem mw_3_56 : Cond.code ⟨"BeatBounds", "inLowestTerms", "(III)I"⟩ prog_1_method_49_code 4 (some .int) ∈ zTab := mg3 (List.mem_of_getElem? (i := 56) rfl) rfl
theorem mw_3_194 : Cond.code ⟨"BeatBounds", "isOf", "(II)Z"⟩ prog_1_method_50_code 4 (some .boolean) ∈ zTab := mg3 (List.mem_of_getElem? (i := 194) rfl) rfl
theorem mw_4_97 : Cond.code ⟨"BeatBoundsModel", "in", "(JJJ)Z"⟩ prog_9_method_3_code 6 (some .boolean) ∈ zTab := mg4 (List.mem_of_getElem? (i := 97) rfl) rfl
theorem mw_1_8 : Cond.initialized "BeatBoundsModel" ∈ zTab := mg1 (List.mem_of_getElem? (i := 8) rfl) rfl
theorem mw_4_103 : Cond.code ⟨"BeatBoundsModel", "finding", "(I)I"⟩ prog_9_method_4_code 2 (some .int) ∈ zTab := mg4 (List.mem_of_getElem? (i := 103) rfl) rfl
theorem mw_4_93 : Cond.code ⟨"BeatBoundsModel", "isRow", "(I)Z"⟩ prog_9_method_5_code 1 (some .boolean) ∈ zTab := mg4 (List.mem_of_getElem? (i := 93) rfl) rfl
theorem mw_4_90 : Cond.code ⟨"BeatBoundsModel", "row", "(III)I"⟩ prog_9_method_6_code 5 (some .int) ∈ zTab := mg4 (List.mem_of_getElem? (i := 90) rfl) rfl
theorem mw_4_108 : Cond.code ⟨"BeatBoundsModel", "set", "(III)I"⟩ prog_9_method_7_code 4 (some .int) ∈ zTab := mg4 (List.mem_of_getElem? (i := 108) rfl) rfl
theorem mw_4_112 : Cond.code ⟨"BeatBoundsModel", "copy", "(IIIII)I"⟩ prog_9_method_8_code 9 (some .int) ∈ zTab := mg4 (List.mem_of_getElem? (i := 112) rfl) rfl
theorem mw_4_116 : Cond.code ⟨"BeatBoundsModel", "drop", "(I)I"⟩ prog_9_method_9_code 2 (some .int) ∈ zTab := mg4 (List.mem_of_getElem? (i := 116) rfl) rfl
theorem mw_4_120 : Cond.code ⟨"BeatBoundsModel", "feed", "(I)I"⟩ prog_9_method_10_code 2 (some .int) ∈ zTab := mg4 (List.mem_of_getElem? (i := 120) rfl) rfl
theorem mw_4_155 : Cond.code ⟨"BeatBoundsModel", "bad", "(I)V"⟩ prog_9_method_11_code 2 none ∈ zTab := mg4 (List.mem_of_getElem? (i := 155) rfl) rfl
theorem mw_4_138 : Cond.code ⟨"BeatBoundsModel", "nextToken", "()V"⟩ prog_9_method_12_code 1 none ∈ zTab := mg4 (List.mem_of_getElem? (i := 138) rfl) rfl
theorem mw_4_151 : Cond.code ⟨"BeatBoundsModel", "must", "(Z)V"⟩ prog_9_method_13_code 2 none ∈ zTab := mg4 (List.mem_of_getElem? (i := 151) rfl) rfl
theorem mw_4_147 : Cond.code ⟨"BeatBoundsModel", "isLetter", "(I)Z"⟩ prog_9_method_14_code 2 (some .boolean) ∈ zTab := mg4 (List.mem_of_getElem? (i := 147) rfl) rfl
theorem mw_4_159 : Cond.code ⟨"BeatBoundsModel", "number", "(II)I"⟩ prog_9_method_15_code 4 (some .int) ∈ zTab := mg4 (List.mem_of_getElem? (i := 159) rfl) rfl
theorem mw_4_163 : Cond.code ⟨"BeatBoundsModel", "mustSign", "(I)V"⟩ prog_9_method_16_code 2 none ∈ zTab := mg4 (List.mem_of_getElem? (i := 163) rfl) rfl
theorem mw_4_134 : Cond.code ⟨"BeatBoundsModel", "begin", "()V"⟩ prog_9_method_17_code 1 none ∈ zTab := mg4 (List.mem_of_getElem? (i := 134) rfl) rfl
theorem mw_4_182 : Cond.code ⟨"BeatBoundsModel", "failed", "()Z"⟩ prog_9_method_18_code 1 (some .boolean) ∈ zTab := mg4 (List.mem_of_getElem? (i := 182) rfl) rfl
theorem mw_4_126 : Cond.code ⟨"BeatBoundsModel", "fault", "()I"⟩ prog_9_method_19_code 1 (some .int) ∈ zTab := mg4 (List.mem_of_getElem? (i := 126) rfl) rfl
theorem mw_4_174 : Cond.code ⟨"BeatBoundsModel", "kindBy", "(I)I"⟩ prog_9_method_20_code 1 (some .int) ∈ zTab := mg4 (List.mem_of_getElem? (i := 174) rfl) rfl
theorem mw_4_171 : Cond.code ⟨"BeatBoundsModel", "isSort", "()Z"⟩ prog_9_method_21_code 1 (some .boolean) ∈ zTab := mg4 (List.mem_of_getElem? (i := 171) rfl) rfl
theorem mw_4_167 : Cond.code ⟨"BeatBoundsModel", "readStone", "()V"⟩ prog_9_method_22_code 2 none ∈ zTab := mg4 (List.mem_of_getElem? (i := 167) rfl) rfl
theorem mw_4_178 : Cond.code ⟨"BeatBoundsModel", "readWitness", "()V"⟩ prog_9_method_23_code 5 none ∈ zTab := mg4 (List.mem_of_getElem? (i := 178) rfl) rfl
theorem mw_4_130 : Cond.code ⟨"BeatBoundsModel", "parish", "()I"⟩ prog_9_method_24_code 2 (some .int) ∈ zTab := mg4 (List.mem_of_getElem? (i := 130) rfl) rfl
theorem mw_5_2 : Cond.code ⟨"BeatBoundsModel", "isThere", "()Z"⟩ prog_9_method_25_code 1 (some .boolean) ∈ zTab := mg5 (List.mem_of_getElem? (i := 2) rfl) rfl
theorem mw_4_191 : Cond.code ⟨"BeatBoundsModel", "isStone", "(I)Z"⟩ prog_9_method_26_code 2 (some .boolean) ∈ zTab := mg4 (List.mem_of_getElem? (i := 191) rfl) rfl
theorem mw_4_231 : Cond.code ⟨"BeatBoundsModel", "isWitness", "(I)Z"⟩ prog_9_method_27_code 2 (some .boolean) ∈ zTab := mg4 (List.mem_of_getElem? (i := 231) rfl) rfl
theorem mw_4_195 : Cond.code ⟨"BeatBoundsModel", "everybody", "()I"⟩ prog_9_method_28_code 1 (some .int) ∈ zTab := mg4 (List.mem_of_getElem? (i := 195) rfl) rfl
theorem mw_5_13 : Cond.code ⟨"BeatBoundsModel", "bits", "(I)I"⟩ prog_9_method_29_code 3 (some .int) ∈ zTab := mg5 (List.mem_of_getElem? (i := 13) rfl) rfl
theorem mw_4_206 : Cond.code ⟨"BeatBoundsModel", "has", "(II)Z"⟩ prog_9_method_30_code 2 (some .boolean) ∈ zTab := mg4 (List.mem_of_getElem? (i := 206) rfl) rfl
theorem mw_4_215 : Cond.code ⟨"BeatBoundsModel", "of", "([III)I"⟩ prog_9_method_31_code 3 (some .int) ∈ zTab := mg4 (List.mem_of_getElem? (i := 215) rfl) rfl
theorem mw_4_218 : Cond.code ⟨"BeatBoundsModel", "known", "(II)I"⟩ prog_9_method_32_code 2 (some .int) ∈ zTab := mg4 (List.mem_of_getElem? (i := 218) rfl) rfl
theorem mw_4_212 : Cond.code ⟨"BeatBoundsModel", "isAlive", "([II)Z"⟩ prog_9_method_33_code 2 (some .boolean) ∈ zTab := mg4 (List.mem_of_getElem? (i := 212) rfl) rfl
theorem mw_4_209 : Cond.code ⟨"BeatBoundsModel", "isTaken", "([II)Z"⟩ prog_9_method_34_code 2 (some .boolean) ∈ zTab := mg4 (List.mem_of_getElem? (i := 209) rfl) rfl
theorem mw_5_28 : Cond.code ⟨"BeatBoundsModel", "says", "([III)I"⟩ prog_9_method_35_code 8 (some .int) ∈ zTab := mg5 (List.mem_of_getElem? (i := 28) rfl) rfl
theorem mw_5_45 : Cond.code ⟨"BeatBoundsModel", "whoSwears", "([II)I"⟩ prog_9_method_36_code 4 (some .int) ∈ zTab := mg5 (List.mem_of_getElem? (i := 45) rfl) rfl
theorem mw_4_203 : Cond.code ⟨"BeatBoundsModel", "bump", "([IIII)I"⟩ prog_9_method_37_code 7 (some .int) ∈ zTab := mg4 (List.mem_of_getElem? (i := 203) rfl) rfl
theorem mw_5_6 : Cond.code ⟨"BeatBoundsModel", "age", "([II)V"⟩ prog_9_method_38_code 3 none ∈ zTab := mg5 (List.mem_of_getElem? (i := 6) rfl) rfl
theorem mw_5_70 : Cond.code ⟨"BeatBoundsModel", "layThen", "()V"⟩ prog_9_method_39_code 2 none ∈ zTab := mg5 (List.mem_of_getElem? (i := 70) rfl) rfl
theorem mw_4_200 : Cond.code ⟨"BeatBoundsModel", "keep", "()V"⟩ prog_9_method_40_code 2 none ∈ zTab := mg4 (List.mem_of_getElem? (i := 200) rfl) rfl
theorem mw_4_187 : Cond.code ⟨"BeatBoundsModel", "walk", "(III)I"⟩ prog_9_method_41_code 4 (some .int) ∈ zTab := mg4 (List.mem_of_getElem? (i := 187) rfl) rfl
theorem mw_4_222 : Cond.code ⟨"BeatBoundsModel", "move", "(II)I"⟩ prog_9_method_42_code 4 (some .int) ∈ zTab := mg4 (List.mem_of_getElem? (i := 222) rfl) rfl
theorem mw_4_227 : Cond.code ⟨"BeatBoundsModel", "bribe", "(II)I"⟩ prog_9_method_43_code 4 (some .int) ∈ zTab := mg4 (List.mem_of_getElem? (i := 227) rfl) rfl
theorem mw_5_10 : Cond.code ⟨"BeatBoundsModel", "alive", "()I"⟩ prog_9_method_44_code 3 (some .int) ∈ zTab := mg5 (List.mem_of_getElem? (i := 10) rfl) rfl
theorem mw_4_238 : Cond.code ⟨"BeatBoundsModel", "years", "(I)I"⟩ prog_9_method_45_code 3 (some .int) ∈ zTab := mg4 (List.mem_of_getElem? (i := 238) rfl) rfl
theorem mw_5_17 : Cond.code ⟨"BeatBoundsModel", "undo", "()I"⟩ prog_9_method_46_code 2 (some .int) ∈ zTab := mg5 (List.mem_of_getElem? (i := 17) rfl) rfl
theorem mw_5_25 : Cond.code ⟨"BeatBoundsModel", "stonesOf", "(I)I"⟩ prog_9_method_47_code 4 (some .int) ∈ zTab := mg5 (List.mem_of_getElem? (i := 25) rfl) rfl
theorem mw_5_21 : Cond.code ⟨"BeatBoundsModel", "witness", "(II)I"⟩ prog_9_method_48_code 3 (some .int) ∈ zTab := mg5 (List.mem_of_getElem? (i := 21) rfl) rfl
theorem mw_5_32 : Cond.code ⟨"BeatBoundsModel", "memory", "(III)I"⟩ prog_9_method_49_code 4 (some .int) ∈ zTab := mg5 (List.mem_of_getElem? (i := 32) rfl) rfl
theorem mw_5_37 : Cond.code ⟨"BeatBoundsModel", "stone", "(I)I"⟩ prog_9_method_50_code 2 (some .int) ∈ zTab := mg5 (List.mem_of_getElem? (i := 37) rfl) rfl
theorem mw_5_49 : Cond.code ⟨"BeatBoundsModel", "laySaid", "(II)I"⟩ prog_9_method_51_code 7 (some .int) ∈ zTab := mg5 (List.mem_of_getElem? (i := 49) rfl) rfl
theorem mw_5_41 : Cond.code ⟨"BeatBoundsModel", "sworn", "(II)I"⟩ prog_9_method_52_code 7 (some .int) ∈ zTab := mg5 (List.mem_of_getElem? (i := 41) rfl) rfl
theorem mw_5_57 : Cond.code ⟨"BeatBoundsModel", "sayYard", "(II)I"⟩ prog_9_method_53_code 5 (some .int) ∈ zTab := mg5 (List.mem_of_getElem? (i := 57) rfl) rfl
theorem mw_5_53 : Cond.code ⟨"BeatBoundsModel", "belief", "(III)I"⟩ prog_9_method_54_code 9 (some .int) ∈ zTab := mg5 (List.mem_of_getElem? (i := 53) rfl) rfl
theorem mw_5_61 : Cond.code ⟨"BeatBoundsModel", "likeliest", "(I)I"⟩ prog_9_method_55_code 6 (some .int) ∈ zTab := mg5 (List.mem_of_getElem? (i := 61) rfl) rfl
theorem mw_5_65 : Cond.code ⟨"BeatBoundsModel", "till", "(II)I"⟩ prog_9_method_56_code 4 (some .int) ∈ zTab := mg5 (List.mem_of_getElem? (i := 65) rfl) rfl
theorem mw_5_83 : Cond.code ⟨"BeatBoundsModel", "sworeLater", "(IIII)I"⟩ prog_9_method_57_code 6 (some .int) ∈ zTab := mg5 (List.mem_of_getElem? (i := 83) rfl) rfl
theorem mw_5_79 : Cond.code ⟨"BeatBoundsModel", "takeable", "()I"⟩ prog_9_method_58_code 3 (some .int) ∈ zTab := mg5 (List.mem_of_getElem? (i := 79) rfl) rfl
theorem mw_5_74 : Cond.code ⟨"BeatBoundsModel", "take", "(IIIII)I"⟩ prog_9_method_59_code 9 (some .int) ∈ zTab := mg5 (List.mem_of_getElem? (i := 74) rfl) rfl
theorem mw_5_87 : Cond.code ⟨"BeatBoundsModel", "pain", "(III)I"⟩ prog_9_method_60_code 5 (some .int) ∈ zTab := mg5 (List.mem_of_getElem? (i := 87) rfl) rfl
theorem mw_5_100 : Cond.code ⟨"BeatBoundsModel", "isNear", "(III)Z"⟩ prog_9_method_61_code 5 (some .boolean) ∈ zTab := mg5 (List.mem_of_getElem? (i := 100) rfl) rfl
theorem mw_5_96 : Cond.code ⟨"BeatBoundsModel", "follow", "(IIII)I"⟩ prog_9_method_62_code 7 (some .int) ∈ zTab := mg5 (List.mem_of_getElem? (i := 96) rfl) rfl
theorem mw_5_91 : Cond.code ⟨"BeatBoundsModel", "order", "(II)I"⟩ prog_9_method_63_code 9 (some .int) ∈ zTab := mg5 (List.mem_of_getElem? (i := 91) rfl) rfl
theorem mw_5_104 : Cond.code ⟨"BeatBoundsModel", "stood", "(III)I"⟩ prog_9_method_64_code 10 (some .int) ∈ zTab := mg5 (List.mem_of_getElem? (i := 104) rfl) rfl
theorem mw_5_110 : Cond.code ⟨"BeatBoundsModel", "shift", "(II)I"⟩ prog_9_method_65_code 10 (some .int) ∈ zTab := mg5 (List.mem_of_getElem? (i := 110) rfl) rfl
theorem mw_5_114 : Cond.code ⟨"BeatBoundsModel", "map", "(II)I"⟩ prog_9_method_66_code 3 (some .int) ∈ zTab := mg5 (List.mem_of_getElem? (i := 114) rfl) rfl
theorem mw_5_118 : Cond.code ⟨"BeatBoundsModel", "agree", "(I)I"⟩ prog_9_method_67_code 5 (some .int) ∈ zTab := mg5 (List.mem_of_getElem? (i := 118) rfl) rfl
theorem mw_5_122 : Cond.code ⟨"BeatBoundsModel", "drawn", "(III)I"⟩ prog_9_method_68_code 11 (some .int) ∈ zTab := mg5 (List.mem_of_getElem? (i := 122) rfl) rfl
theorem mw_5_129 : Cond.code ⟨"BeatBoundsModel", "image", "(I)I"⟩ prog_9_method_69_code 3 (some .int) ∈ zTab := mg5 (List.mem_of_getElem? (i := 129) rfl) rfl
theorem mw_5_133 : Cond.code ⟨"BeatBoundsModel", "restore", "(I)I"⟩ prog_9_method_70_code 3 (some .int) ∈ zTab := mg5 (List.mem_of_getElem? (i := 133) rfl) rfl
theorem mw_5_144 : Cond.code ⟨"BeatBoundsModel", "isOf", "(II)Z"⟩ prog_9_method_71_code 2 (some .boolean) ∈ zTab := mg5 (List.mem_of_getElem? (i := 144) rfl) rfl
theorem mw_5_137 : Cond.code ⟨"BeatBoundsModel", "kind", "(I)I"⟩ prog_9_method_72_code 2 (some .int) ∈ zTab := mg5 (List.mem_of_getElem? (i := 137) rfl) rfl
theorem mw_5_141 : Cond.code ⟨"BeatBoundsModel", "as", "(II)I"⟩ prog_9_method_73_code 3 (some .int) ∈ zTab := mg5 (List.mem_of_getElem? (i := 141) rfl) rfl
theorem mw_5_160 : Cond.code ⟨"BeatBoundsModel", "began", "(I)V"⟩ prog_9_method_74_code 2 none ∈ zTab := mg5 (List.mem_of_getElem? (i := 160) rfl) rfl
theorem mw_5_164 : Cond.code ⟨"BeatBoundsModel", "plainSize", "(I)I"⟩ prog_9_method_75_code 2 (some .int) ∈ zTab := mg5 (List.mem_of_getElem? (i := 164) rfl) rfl
theorem mw_5_156 : Cond.code ⟨"BeatBoundsModel", "twinSize", "(I)I"⟩ prog_9_method_76_code 4 (some .int) ∈ zTab := mg5 (List.mem_of_getElem? (i := 156) rfl) rfl
theorem mw_5_168 : Cond.code ⟨"BeatBoundsModel", "markOf", "(I)I"⟩ prog_9_method_77_code 4 (some .int) ∈ zTab := mg5 (List.mem_of_getElem? (i := 168) rfl) rfl
theorem mw_5_152 : Cond.code ⟨"BeatBoundsModel", "sizeOf", "(I)I"⟩ prog_9_method_78_code 4 (some .int) ∈ zTab := mg5 (List.mem_of_getElem? (i := 152) rfl) rfl
theorem mw_5_148 : Cond.code ⟨"BeatBoundsModel", "ask", "(II)I"⟩ prog_9_method_79_code 3 (some .int) ∈ zTab := mg5 (List.mem_of_getElem? (i := 148) rfl) rfl
theorem mw_5_172 : Cond.code ⟨"BeatBoundsModel", "trace", "(I)I"⟩ prog_9_method_80_code 2 (some .int) ∈ zTab := mg5 (List.mem_of_getElem? (i := 172) rfl) rfl
theorem mw_5_176 : Cond.code ⟨"BeatBoundsModel", "count", "(I)I"⟩ prog_9_method_81_code 4 (some .int) ∈ zTab := mg5 (List.mem_of_getElem? (i := 176) rfl) rfl
theorem mw_5_180 : Cond.code ⟨"BeatBoundsModel", "status", "()I"⟩ prog_9_method_82_code 1 (some .int) ∈ zTab := mg5 (List.mem_of_getElem? (i := 180) rfl) rfl
theorem mw_2_211 : Cond.code ⟨"java/lang/Integer", "bitCount", "(I)I"⟩ prog_10_method_49_code 1 (some .int) ∈ zTab := mg2 (List.mem_of_getElem? (i := 211) rfl) rfl
theorem mw_1_11 : Cond.initialized "java/lang/Integer" ∈ zTab := mg1 (List.mem_of_getElem? (i := 11) rfl) rfl
theorem mw_2_4 : Cond.methodLink "BeatBoundsLaw" 13 ⟨"BeatBounds", "row", "(III)I"⟩ ∈ zTab := mg2 (List.mem_of_getElem? (i := 4) rfl) rfl
theorem mw_2_5 : Cond.instanceMethod ⟨"BeatBounds", "row", "(III)I"⟩ ∈ zTab := mg2 (List.mem_of_getElem? (i := 5) rfl) rfl
theorem mw_2_6 : Cond.selects "BeatBounds" ⟨"BeatBounds", "row", "(III)I"⟩ ⟨"BeatBounds", "row", "(III)I"⟩ ∈ zTab := mg2 (List.mem_of_getElem? (i := 6) rfl) rfl
theorem mw_4_87 : Cond.methodLink "BeatBoundsLaw" 17 ⟨"BeatBoundsModel", "row", "(III)I"⟩ ∈ zTab := mg4 (List.mem_of_getElem? (i := 87) rfl) rfl
theorem mw_4_88 : Cond.instanceMethod ⟨"BeatBoundsModel", "row", "(III)I"⟩ ∈ zTab := mg4 (List.mem_of_getElem? (i := 88) rfl) rfl
theorem mw_4_89 : Cond.selects "BeatBoundsModel" ⟨"BeatBoundsModel", "row", "(III)I"⟩ ⟨"BeatBoundsModel", "row", "(III)I"⟩ ∈ zTab := mg4 (List.mem_of_getElem? (i := 89) rfl) rfl
theorem mw_2_25 : Cond.methodLink "BeatBoundsLaw" 18 ⟨"BeatBounds", "set", "(III)I"⟩ ∈ zTab := mg2 (List.mem_of_getElem? (i := 25) rfl) rfl
theorem mw_2_26 : Cond.instanceMethod ⟨"BeatBounds", "set", "(III)I"⟩ ∈ zTab := mg2 (List.mem_of_getElem? (i := 26) rfl) rfl
theorem mw_2_27 : Cond.selects "BeatBounds" ⟨"BeatBounds", "set", "(III)I"⟩ ⟨"BeatBounds", "set", "(III)I"⟩ ∈ zTab := mg2 (List.mem_of_getElem? (i := 27) rfl) rfl
theorem mw_4_105 : Cond.methodLink "BeatBoundsLaw" 21 ⟨"BeatBoundsModel", "set", "(III)I"⟩ ∈ zTab := mg4 (List.mem_of_getElem? (i := 105) rfl) rfl
theorem mw_4_106 : Cond.instanceMethod ⟨"BeatBoundsModel", "set", "(III)I"⟩ ∈ zTab := mg4 (List.mem_of_getElem? (i := 106) rfl) rfl
theorem mw_4_107 : Cond.selects "BeatBoundsModel" ⟨"BeatBoundsModel", "set", "(III)I"⟩ ⟨"BeatBoundsModel", "set", "(III)I"⟩ ∈ zTab := mg4 (List.mem_of_getElem? (i := 107) rfl) rfl
theorem mw_2_37 : Cond.methodLink "BeatBoundsLaw" 22 ⟨"BeatBounds", "copy", "(IIIII)I"⟩ ∈ zTab := mg2 (List.mem_of_getElem? (i := 37) rfl) rfl
theorem mw_2_38 : Cond.instanceMethod ⟨"BeatBounds", "copy", "(IIIII)I"⟩ ∈ zTab := mg2 (List.mem_of_getElem? (i := 38) rfl) rfl
theorem mw_2_39 : Cond.selects "BeatBounds" ⟨"BeatBounds", "copy", "(IIIII)I"⟩ ⟨"BeatBounds", "copy", "(IIIII)I"⟩ ∈ zTab := mg2 (List.mem_of_getElem? (i := 39) rfl) rfl
theorem mw_4_109 : Cond.methodLink "BeatBoundsLaw" 26 ⟨"BeatBoundsModel", "copy", "(IIIII)I"⟩ ∈ zTab := mg4 (List.mem_of_getElem? (i := 109) rfl) rfl
theorem mw_4_110 : Cond.instanceMethod ⟨"BeatBoundsModel", "copy", "(IIIII)I"⟩ ∈ zTab := mg4 (List.mem_of_getElem? (i := 110) rfl) rfl
theorem mw_4_111 : Cond.selects "BeatBoundsModel" ⟨"BeatBoundsModel", "copy", "(IIIII)I"⟩ ⟨"BeatBoundsModel", "copy", "(IIIII)I"⟩ ∈ zTab := mg4 (List.mem_of_getElem? (i := 111) rfl) rfl
theorem mw_2_44 : Cond.methodLink "BeatBoundsLaw" 27 ⟨"BeatBounds", "drop", "(I)I"⟩ ∈ zTab := mg2 (List.mem_of_getElem? (i := 44) rfl) rfl
theorem mw_2_45 : Cond.instanceMethod ⟨"BeatBounds", "drop", "(I)I"⟩ ∈ zTab := mg2 (List.mem_of_getElem? (i := 45) rfl) rfl
theorem mw_2_46 : Cond.selects "BeatBounds" ⟨"BeatBounds", "drop", "(I)I"⟩ ⟨"BeatBounds", "drop", "(I)I"⟩ ∈ zTab := mg2 (List.mem_of_getElem? (i := 46) rfl) rfl
theorem mw_4_113 : Cond.methodLink "BeatBoundsLaw" 31 ⟨"BeatBoundsModel", "drop", "(I)I"⟩ ∈ zTab := mg4 (List.mem_of_getElem? (i := 113) rfl) rfl
theorem mw_4_114 : Cond.instanceMethod ⟨"BeatBoundsModel", "drop", "(I)I"⟩ ∈ zTab := mg4 (List.mem_of_getElem? (i := 114) rfl) rfl
theorem mw_4_115 : Cond.selects "BeatBoundsModel" ⟨"BeatBoundsModel", "drop", "(I)I"⟩ ⟨"BeatBoundsModel", "drop", "(I)I"⟩ ∈ zTab := mg4 (List.mem_of_getElem? (i := 115) rfl) rfl
theorem mw_2_48 : Cond.methodLink "BeatBoundsLaw" 32 ⟨"BeatBounds", "feed", "(I)I"⟩ ∈ zTab := mg2 (List.mem_of_getElem? (i := 48) rfl) rfl
theorem mw_2_49 : Cond.instanceMethod ⟨"BeatBounds", "feed", "(I)I"⟩ ∈ zTab := mg2 (List.mem_of_getElem? (i := 49) rfl) rfl
theorem mw_2_50 : Cond.selects "BeatBounds" ⟨"BeatBounds", "feed", "(I)I"⟩ ⟨"BeatBounds", "feed", "(I)I"⟩ ∈ zTab := mg2 (List.mem_of_getElem? (i := 50) rfl) rfl
theorem mw_4_117 : Cond.methodLink "BeatBoundsLaw" 35 ⟨"BeatBoundsModel", "feed", "(I)I"⟩ ∈ zTab := mg4 (List.mem_of_getElem? (i := 117) rfl) rfl
theorem mw_4_118 : Cond.instanceMethod ⟨"BeatBoundsModel", "feed", "(I)I"⟩ ∈ zTab := mg4 (List.mem_of_getElem? (i := 118) rfl) rfl
theorem mw_4_119 : Cond.selects "BeatBoundsModel" ⟨"BeatBoundsModel", "feed", "(I)I"⟩ ⟨"BeatBoundsModel", "feed", "(I)I"⟩ ∈ zTab := mg4 (List.mem_of_getElem? (i := 119) rfl) rfl
theorem mw_2_62 : Cond.methodLink "BeatBoundsLaw" 36 ⟨"BeatBounds", "parish", "()I"⟩ ∈ zTab := mg2 (List.mem_of_getElem? (i := 62) rfl) rfl
theorem mw_2_63 : Cond.instanceMethod ⟨"BeatBounds", "parish", "()I"⟩ ∈ zTab := mg2 (List.mem_of_getElem? (i := 63) rfl) rfl
theorem mw_2_64 : Cond.selects "BeatBounds" ⟨"BeatBounds", "parish", "()I"⟩ ⟨"BeatBounds", "parish", "()I"⟩ ∈ zTab := mg2 (List.mem_of_getElem? (i := 64) rfl) rfl
theorem mw_4_127 : Cond.methodLink "BeatBoundsLaw" 40 ⟨"BeatBoundsModel", "parish", "()I"⟩ ∈ zTab := mg4 (List.mem_of_getElem? (i := 127) rfl) rfl
theorem mw_4_128 : Cond.instanceMethod ⟨"BeatBoundsModel", "parish", "()I"⟩ ∈ zTab := mg4 (List.mem_of_getElem? (i := 128) rfl) rfl
theorem mw_4_129 : Cond.selects "BeatBoundsModel" ⟨"BeatBoundsModel", "parish", "()I"⟩ ⟨"BeatBoundsModel", "parish", "()I"⟩ ∈ zTab := mg4 (List.mem_of_getElem? (i := 129) rfl) rfl
theorem mw_2_122 : Cond.methodLink "BeatBoundsLaw" 41 ⟨"BeatBounds", "fault", "()I"⟩ ∈ zTab := mg2 (List.mem_of_getElem? (i := 122) rfl) rfl
theorem mw_2_123 : Cond.instanceMethod ⟨"BeatBounds", "fault", "()I"⟩ ∈ zTab := mg2 (List.mem_of_getElem? (i := 123) rfl) rfl
theorem mw_2_124 : Cond.selects "BeatBounds" ⟨"BeatBounds", "fault", "()I"⟩ ⟨"BeatBounds", "fault", "()I"⟩ ∈ zTab := mg2 (List.mem_of_getElem? (i := 124) rfl) rfl
theorem mw_4_123 : Cond.methodLink "BeatBoundsLaw" 44 ⟨"BeatBoundsModel", "fault", "()I"⟩ ∈ zTab := mg4 (List.mem_of_getElem? (i := 123) rfl) rfl
theorem mw_4_124 : Cond.instanceMethod ⟨"BeatBoundsModel", "fault", "()I"⟩ ∈ zTab := mg4 (List.mem_of_getElem? (i := 124) rfl) rfl
theorem mw_4_125 : Cond.selects "BeatBoundsModel" ⟨"BeatBoundsModel", "fault", "()I"⟩ ⟨"BeatBoundsModel", "fault", "()I"⟩ ∈ zTab := mg4 (List.mem_of_getElem? (i := 125) rfl) rfl
theorem mw_2_126 : Cond.methodLink "BeatBoundsLaw" 45 ⟨"BeatBounds", "undo", "()I"⟩ ∈ zTab := mg2 (List.mem_of_getElem? (i := 126) rfl) rfl
theorem mw_2_127 : Cond.instanceMethod ⟨"BeatBounds", "undo", "()I"⟩ ∈ zTab := mg2 (List.mem_of_getElem? (i := 127) rfl) rfl
theorem mw_2_128 : Cond.selects "BeatBounds" ⟨"BeatBounds", "undo", "()I"⟩ ⟨"BeatBounds", "undo", "()I"⟩ ∈ zTab := mg2 (List.mem_of_getElem? (i := 128) rfl) rfl
theorem mw_5_14 : Cond.methodLink "BeatBoundsLaw" 48 ⟨"BeatBoundsModel", "undo", "()I"⟩ ∈ zTab := mg5 (List.mem_of_getElem? (i := 14) rfl) rfl
theorem mw_5_15 : Cond.instanceMethod ⟨"BeatBoundsModel", "undo", "()I"⟩ ∈ zTab := mg5 (List.mem_of_getElem? (i := 15) rfl) rfl
theorem mw_5_16 : Cond.selects "BeatBoundsModel" ⟨"BeatBoundsModel", "undo", "()I"⟩ ⟨"BeatBoundsModel", "undo", "()I"⟩ ∈ zTab := mg5 (List.mem_of_getElem? (i := 16) rfl) rfl
theorem mw_2_143 : Cond.methodLink "BeatBoundsLaw" 49 ⟨"BeatBounds", "walk", "(III)I"⟩ ∈ zTab := mg2 (List.mem_of_getElem? (i := 143) rfl) rfl
theorem mw_2_144 : Cond.instanceMethod ⟨"BeatBounds", "walk", "(III)I"⟩ ∈ zTab := mg2 (List.mem_of_getElem? (i := 144) rfl) rfl
theorem mw_2_145 : Cond.selects "BeatBounds" ⟨"BeatBounds", "walk", "(III)I"⟩ ⟨"BeatBounds", "walk", "(III)I"⟩ ∈ zTab := mg2 (List.mem_of_getElem? (i := 145) rfl) rfl
theorem mw_4_184 : Cond.methodLink "BeatBoundsLaw" 52 ⟨"BeatBoundsModel", "walk", "(III)I"⟩ ∈ zTab := mg4 (List.mem_of_getElem? (i := 184) rfl) rfl
theorem mw_4_185 : Cond.instanceMethod ⟨"BeatBoundsModel", "walk", "(III)I"⟩ ∈ zTab := mg4 (List.mem_of_getElem? (i := 185) rfl) rfl
theorem mw_4_186 : Cond.selects "BeatBoundsModel" ⟨"BeatBoundsModel", "walk", "(III)I"⟩ ⟨"BeatBoundsModel", "walk", "(III)I"⟩ ∈ zTab := mg4 (List.mem_of_getElem? (i := 186) rfl) rfl
theorem mw_2_186 : Cond.methodLink "BeatBoundsLaw" 53 ⟨"BeatBounds", "move", "(II)I"⟩ ∈ zTab := mg2 (List.mem_of_getElem? (i := 186) rfl) rfl
theorem mw_2_187 : Cond.instanceMethod ⟨"BeatBounds", "move", "(II)I"⟩ ∈ zTab := mg2 (List.mem_of_getElem? (i := 187) rfl) rfl
theorem mw_2_188 : Cond.selects "BeatBounds" ⟨"BeatBounds", "move", "(II)I"⟩ ⟨"BeatBounds", "move", "(II)I"⟩ ∈ zTab := mg2 (List.mem_of_getElem? (i := 188) rfl) rfl
theorem mw_4_219 : Cond.methodLink "BeatBoundsLaw" 57 ⟨"BeatBoundsModel", "move", "(II)I"⟩ ∈ zTab := mg4 (List.mem_of_getElem? (i := 219) rfl) rfl
theorem mw_4_220 : Cond.instanceMethod ⟨"BeatBoundsModel", "move", "(II)I"⟩ ∈ zTab := mg4 (List.mem_of_getElem? (i := 220) rfl) rfl
theorem mw_4_221 : Cond.selects "BeatBoundsModel" ⟨"BeatBoundsModel", "move", "(II)I"⟩ ⟨"BeatBoundsModel", "move", "(II)I"⟩ ∈ zTab := mg4 (List.mem_of_getElem? (i := 221) rfl) rfl
theorem mw_2_193 : Cond.methodLink "BeatBoundsLaw" 58 ⟨"BeatBounds", "bribe", "(II)I"⟩ ∈ zTab := mg2 (List.mem_of_getElem? (i := 193) rfl) rfl
theorem mw_2_194 : Cond.instanceMethod ⟨"BeatBounds", "bribe", "(II)I"⟩ ∈ zTab := mg2 (List.mem_of_getElem? (i := 194) rfl) rfl
theorem mw_2_195 : Cond.selects "BeatBounds" ⟨"BeatBounds", "bribe", "(II)I"⟩ ⟨"BeatBounds", "bribe", "(II)I"⟩ ∈ zTab := mg2 (List.mem_of_getElem? (i := 195) rfl) rfl
theorem mw_4_224 : Cond.methodLink "BeatBoundsLaw" 61 ⟨"BeatBoundsModel", "bribe", "(II)I"⟩ ∈ zTab := mg4 (List.mem_of_getElem? (i := 224) rfl) rfl
theorem mw_4_225 : Cond.instanceMethod ⟨"BeatBoundsModel", "bribe", "(II)I"⟩ ∈ zTab := mg4 (List.mem_of_getElem? (i := 225) rfl) rfl
theorem mw_4_226 : Cond.selects "BeatBoundsModel" ⟨"BeatBoundsModel", "bribe", "(II)I"⟩ ⟨"BeatBoundsModel", "bribe", "(II)I"⟩ ∈ zTab := mg4 (List.mem_of_getElem? (i := 226) rfl) rfl
theorem mw_2_201 : Cond.methodLink "BeatBoundsLaw" 62 ⟨"BeatBounds", "years", "(I)I"⟩ ∈ zTab := mg2 (List.mem_of_getElem? (i := 201) rfl) rfl
theorem mw_2_202 : Cond.instanceMethod ⟨"BeatBounds", "years", "(I)I"⟩ ∈ zTab := mg2 (List.mem_of_getElem? (i := 202) rfl) rfl
theorem mw_2_203 : Cond.selects "BeatBounds" ⟨"BeatBounds", "years", "(I)I"⟩ ⟨"BeatBounds", "years", "(I)I"⟩ ∈ zTab := mg2 (List.mem_of_getElem? (i := 203) rfl) rfl
theorem mw_4_235 : Cond.methodLink "BeatBoundsLaw" 65 ⟨"BeatBoundsModel", "years", "(I)I"⟩ ∈ zTab := mg4 (List.mem_of_getElem? (i := 235) rfl) rfl
theorem mw_4_236 : Cond.instanceMethod ⟨"BeatBoundsModel", "years", "(I)I"⟩ ∈ zTab := mg4 (List.mem_of_getElem? (i := 236) rfl) rfl
theorem mw_4_237 : Cond.selects "BeatBoundsModel" ⟨"BeatBoundsModel", "years", "(I)I"⟩ ⟨"BeatBoundsModel", "years", "(I)I"⟩ ∈ zTab := mg4 (List.mem_of_getElem? (i := 237) rfl) rfl
theorem mw_2_215 : Cond.methodLink "BeatBoundsLaw" 66 ⟨"BeatBounds", "witness", "(II)I"⟩ ∈ zTab := mg2 (List.mem_of_getElem? (i := 215) rfl) rfl
theorem mw_2_216 : Cond.instanceMethod ⟨"BeatBounds", "witness", "(II)I"⟩ ∈ zTab := mg2 (List.mem_of_getElem? (i := 216) rfl) rfl
theorem mw_2_217 : Cond.selects "BeatBounds" ⟨"BeatBounds", "witness", "(II)I"⟩ ⟨"BeatBounds", "witness", "(II)I"⟩ ∈ zTab := mg2 (List.mem_of_getElem? (i := 217) rfl) rfl
theorem mw_5_18 : Cond.methodLink "BeatBoundsLaw" 69 ⟨"BeatBoundsModel", "witness", "(II)I"⟩ ∈ zTab := mg5 (List.mem_of_getElem? (i := 18) rfl) rfl
theorem mw_5_19 : Cond.instanceMethod ⟨"BeatBoundsModel", "witness", "(II)I"⟩ ∈ zTab := mg5 (List.mem_of_getElem? (i := 19) rfl) rfl
theorem mw_5_20 : Cond.selects "BeatBoundsModel" ⟨"BeatBoundsModel", "witness", "(II)I"⟩ ⟨"BeatBoundsModel", "witness", "(II)I"⟩ ∈ zTab := mg5 (List.mem_of_getElem? (i := 20) rfl) rfl
theorem mw_2_234 : Cond.methodLink "BeatBoundsLaw" 70 ⟨"BeatBounds", "memory", "(III)I"⟩ ∈ zTab := mg2 (List.mem_of_getElem? (i := 234) rfl) rfl
theorem mw_2_235 : Cond.instanceMethod ⟨"BeatBounds", "memory", "(III)I"⟩ ∈ zTab := mg2 (List.mem_of_getElem? (i := 235) rfl) rfl
theorem mw_2_236 : Cond.selects "BeatBounds" ⟨"BeatBounds", "memory", "(III)I"⟩ ⟨"BeatBounds", "memory", "(III)I"⟩ ∈ zTab := mg2 (List.mem_of_getElem? (i := 236) rfl) rfl
theorem mw_5_29 : Cond.methodLink "BeatBoundsLaw" 73 ⟨"BeatBoundsModel", "memory", "(III)I"⟩ ∈ zTab := mg5 (List.mem_of_getElem? (i := 29) rfl) rfl
theorem mw_5_30 : Cond.instanceMethod ⟨"BeatBoundsModel", "memory", "(III)I"⟩ ∈ zTab := mg5 (List.mem_of_getElem? (i := 30) rfl) rfl
theorem mw_5_31 : Cond.selects "BeatBoundsModel" ⟨"BeatBoundsModel", "memory", "(III)I"⟩ ⟨"BeatBoundsModel", "memory", "(III)I"⟩ ∈ zTab := mg5 (List.mem_of_getElem? (i := 31) rfl) rfl
theorem mw_3_1 : Cond.methodLink "BeatBoundsLaw" 74 ⟨"BeatBounds", "stone", "(I)I"⟩ ∈ zTab := mg3 (List.mem_of_getElem? (i := 1) rfl) rfl
theorem mw_3_2 : Cond.instanceMethod ⟨"BeatBounds", "stone", "(I)I"⟩ ∈ zTab := mg3 (List.mem_of_getElem? (i := 2) rfl) rfl
theorem mw_3_3 : Cond.selects "BeatBounds" ⟨"BeatBounds", "stone", "(I)I"⟩ ⟨"BeatBounds", "stone", "(I)I"⟩ ∈ zTab := mg3 (List.mem_of_getElem? (i := 3) rfl) rfl
theorem mw_5_34 : Cond.methodLink "BeatBoundsLaw" 77 ⟨"BeatBoundsModel", "stone", "(I)I"⟩ ∈ zTab := mg5 (List.mem_of_getElem? (i := 34) rfl) rfl
theorem mw_5_35 : Cond.instanceMethod ⟨"BeatBoundsModel", "stone", "(I)I"⟩ ∈ zTab := mg5 (List.mem_of_getElem? (i := 35) rfl) rfl
theorem mw_5_36 : Cond.selects "BeatBoundsModel" ⟨"BeatBoundsModel", "stone", "(I)I"⟩ ⟨"BeatBoundsModel", "stone", "(I)I"⟩ ∈ zTab := mg5 (List.mem_of_getElem? (i := 36) rfl) rfl
theorem mw_3_5 : Cond.methodLink "BeatBoundsLaw" 78 ⟨"BeatBounds", "sworn", "(II)I"⟩ ∈ zTab := mg3 (List.mem_of_getElem? (i := 5) rfl) rfl
theorem mw_3_6 : Cond.instanceMethod ⟨"BeatBounds", "sworn", "(II)I"⟩ ∈ zTab := mg3 (List.mem_of_getElem? (i := 6) rfl) rfl
theorem mw_3_7 : Cond.selects "BeatBounds" ⟨"BeatBounds", "sworn", "(II)I"⟩ ⟨"BeatBounds", "sworn", "(II)I"⟩ ∈ zTab := mg3 (List.mem_of_getElem? (i := 7) rfl) rfl
theorem mw_5_38 : Cond.methodLink "BeatBoundsLaw" 81 ⟨"BeatBoundsModel", "sworn", "(II)I"⟩ ∈ zTab := mg5 (List.mem_of_getElem? (i := 38) rfl) rfl
theorem mw_5_39 : Cond.instanceMethod ⟨"BeatBoundsModel", "sworn", "(II)I"⟩ ∈ zTab := mg5 (List.mem_of_getElem? (i := 39) rfl) rfl
theorem mw_5_40 : Cond.selects "BeatBoundsModel" ⟨"BeatBoundsModel", "sworn", "(II)I"⟩ ⟨"BeatBoundsModel", "sworn", "(II)I"⟩ ∈ zTab := mg5 (List.mem_of_getElem? (i := 40) rfl) rfl
theorem mw_3_46 : Cond.methodLink "BeatBoundsLaw" 82 ⟨"BeatBounds", "belief", "(III)I"⟩ ∈ zTab := mg3 (List.mem_of_getElem? (i := 46) rfl) rfl
theorem mw_3_47 : Cond.instanceMethod ⟨"BeatBounds", "belief", "(III)I"⟩ ∈ zTab := mg3 (List.mem_of_getElem? (i := 47) rfl) rfl
theorem mw_3_48 : Cond.selects "BeatBounds" ⟨"BeatBounds", "belief", "(III)I"⟩ ⟨"BeatBounds", "belief", "(III)I"⟩ ∈ zTab := mg3 (List.mem_of_getElem? (i := 48) rfl) rfl
theorem mw_5_50 : Cond.methodLink "BeatBoundsLaw" 85 ⟨"BeatBoundsModel", "belief", "(III)I"⟩ ∈ zTab := mg5 (List.mem_of_getElem? (i := 50) rfl) rfl
theorem mw_5_51 : Cond.instanceMethod ⟨"BeatBoundsModel", "belief", "(III)I"⟩ ∈ zTab := mg5 (List.mem_of_getElem? (i := 51) rfl) rfl
theorem mw_5_52 : Cond.selects "BeatBoundsModel" ⟨"BeatBoundsModel", "belief", "(III)I"⟩ ⟨"BeatBoundsModel", "belief", "(III)I"⟩ ∈ zTab := mg5 (List.mem_of_getElem? (i := 52) rfl) rfl
theorem mw_3_57 : Cond.methodLink "BeatBoundsLaw" 86 ⟨"BeatBounds", "likeliest", "(I)I"⟩ ∈ zTab := mg3 (List.mem_of_getElem? (i := 57) rfl) rfl
theorem mw_3_58 : Cond.instanceMethod ⟨"BeatBounds", "likeliest", "(I)I"⟩ ∈ zTab := mg3 (List.mem_of_getElem? (i := 58) rfl) rfl
theorem mw_3_59 : Cond.selects "BeatBounds" ⟨"BeatBounds", "likeliest", "(I)I"⟩ ⟨"BeatBounds", "likeliest", "(I)I"⟩ ∈ zTab := mg3 (List.mem_of_getElem? (i := 59) rfl) rfl
theorem mw_5_58 : Cond.methodLink "BeatBoundsLaw" 89 ⟨"BeatBoundsModel", "likeliest", "(I)I"⟩ ∈ zTab := mg5 (List.mem_of_getElem? (i := 58) rfl) rfl
theorem mw_5_59 : Cond.instanceMethod ⟨"BeatBoundsModel", "likeliest", "(I)I"⟩ ∈ zTab := mg5 (List.mem_of_getElem? (i := 59) rfl) rfl
theorem mw_5_60 : Cond.selects "BeatBoundsModel" ⟨"BeatBoundsModel", "likeliest", "(I)I"⟩ ⟨"BeatBoundsModel", "likeliest", "(I)I"⟩ ∈ zTab := mg5 (List.mem_of_getElem? (i := 60) rfl) rfl
theorem mw_3_65 : Cond.methodLink "BeatBoundsLaw" 90 ⟨"BeatBounds", "till", "(II)I"⟩ ∈ zTab := mg3 (List.mem_of_getElem? (i := 65) rfl) rfl
theorem mw_3_66 : Cond.instanceMethod ⟨"BeatBounds", "till", "(II)I"⟩ ∈ zTab := mg3 (List.mem_of_getElem? (i := 66) rfl) rfl
theorem mw_3_67 : Cond.selects "BeatBounds" ⟨"BeatBounds", "till", "(II)I"⟩ ⟨"BeatBounds", "till", "(II)I"⟩ ∈ zTab := mg3 (List.mem_of_getElem? (i := 67) rfl) rfl
theorem mw_5_62 : Cond.methodLink "BeatBoundsLaw" 93 ⟨"BeatBoundsModel", "till", "(II)I"⟩ ∈ zTab := mg5 (List.mem_of_getElem? (i := 62) rfl) rfl
theorem mw_5_63 : Cond.instanceMethod ⟨"BeatBoundsModel", "till", "(II)I"⟩ ∈ zTab := mg5 (List.mem_of_getElem? (i := 63) rfl) rfl
theorem mw_5_64 : Cond.selects "BeatBoundsModel" ⟨"BeatBoundsModel", "till", "(II)I"⟩ ⟨"BeatBoundsModel", "till", "(II)I"⟩ ∈ zTab := mg5 (List.mem_of_getElem? (i := 64) rfl) rfl
theorem mw_3_72 : Cond.methodLink "BeatBoundsLaw" 94 ⟨"BeatBounds", "take", "(IIIII)I"⟩ ∈ zTab := mg3 (List.mem_of_getElem? (i := 72) rfl) rfl
theorem mw_3_73 : Cond.instanceMethod ⟨"BeatBounds", "take", "(IIIII)I"⟩ ∈ zTab := mg3 (List.mem_of_getElem? (i := 73) rfl) rfl
theorem mw_3_74 : Cond.selects "BeatBounds" ⟨"BeatBounds", "take", "(IIIII)I"⟩ ⟨"BeatBounds", "take", "(IIIII)I"⟩ ∈ zTab := mg3 (List.mem_of_getElem? (i := 74) rfl) rfl
theorem mw_5_71 : Cond.methodLink "BeatBoundsLaw" 97 ⟨"BeatBoundsModel", "take", "(IIIII)I"⟩ ∈ zTab := mg5 (List.mem_of_getElem? (i := 71) rfl) rfl
theorem mw_5_72 : Cond.instanceMethod ⟨"BeatBoundsModel", "take", "(IIIII)I"⟩ ∈ zTab := mg5 (List.mem_of_getElem? (i := 72) rfl) rfl
theorem mw_5_73 : Cond.selects "BeatBoundsModel" ⟨"BeatBoundsModel", "take", "(IIIII)I"⟩ ⟨"BeatBoundsModel", "take", "(IIIII)I"⟩ ∈ zTab := mg5 (List.mem_of_getElem? (i := 73) rfl) rfl
theorem mw_3_87 : Cond.methodLink "BeatBoundsLaw" 98 ⟨"BeatBounds", "pain", "(III)I"⟩ ∈ zTab := mg3 (List.mem_of_getElem? (i := 87) rfl) rfl
theorem mw_3_88 : Cond.instanceMethod ⟨"BeatBounds", "pain", "(III)I"⟩ ∈ zTab := mg3 (List.mem_of_getElem? (i := 88) rfl) rfl
theorem mw_3_89 : Cond.selects "BeatBounds" ⟨"BeatBounds", "pain", "(III)I"⟩ ⟨"BeatBounds", "pain", "(III)I"⟩ ∈ zTab := mg3 (List.mem_of_getElem? (i := 89) rfl) rfl
theorem mw_5_84 : Cond.methodLink "BeatBoundsLaw" 101 ⟨"BeatBoundsModel", "pain", "(III)I"⟩ ∈ zTab := mg5 (List.mem_of_getElem? (i := 84) rfl) rfl
theorem mw_5_85 : Cond.instanceMethod ⟨"BeatBoundsModel", "pain", "(III)I"⟩ ∈ zTab := mg5 (List.mem_of_getElem? (i := 85) rfl) rfl
theorem mw_5_86 : Cond.selects "BeatBoundsModel" ⟨"BeatBoundsModel", "pain", "(III)I"⟩ ⟨"BeatBoundsModel", "pain", "(III)I"⟩ ∈ zTab := mg5 (List.mem_of_getElem? (i := 86) rfl) rfl
theorem mw_3_91 : Cond.methodLink "BeatBoundsLaw" 102 ⟨"BeatBounds", "order", "(II)I"⟩ ∈ zTab := mg3 (List.mem_of_getElem? (i := 91) rfl) rfl
theorem mw_3_92 : Cond.instanceMethod ⟨"BeatBounds", "order", "(II)I"⟩ ∈ zTab := mg3 (List.mem_of_getElem? (i := 92) rfl) rfl
theorem mw_3_93 : Cond.selects "BeatBounds" ⟨"BeatBounds", "order", "(II)I"⟩ ⟨"BeatBounds", "order", "(II)I"⟩ ∈ zTab := mg3 (List.mem_of_getElem? (i := 93) rfl) rfl
theorem mw_5_88 : Cond.methodLink "BeatBoundsLaw" 105 ⟨"BeatBoundsModel", "order", "(II)I"⟩ ∈ zTab := mg5 (List.mem_of_getElem? (i := 88) rfl) rfl
theorem mw_5_89 : Cond.instanceMethod ⟨"BeatBoundsModel", "order", "(II)I"⟩ ∈ zTab := mg5 (List.mem_of_getElem? (i := 89) rfl) rfl
theorem mw_5_90 : Cond.selects "BeatBoundsModel" ⟨"BeatBoundsModel", "order", "(II)I"⟩ ⟨"BeatBoundsModel", "order", "(II)I"⟩ ∈ zTab := mg5 (List.mem_of_getElem? (i := 90) rfl) rfl
theorem mw_3_122 : Cond.methodLink "BeatBoundsLaw" 106 ⟨"BeatBounds", "stood", "(III)I"⟩ ∈ zTab := mg3 (List.mem_of_getElem? (i := 122) rfl) rfl
theorem mw_3_123 : Cond.instanceMethod ⟨"BeatBounds", "stood", "(III)I"⟩ ∈ zTab := mg3 (List.mem_of_getElem? (i := 123) rfl) rfl
theorem mw_3_124 : Cond.selects "BeatBounds" ⟨"BeatBounds", "stood", "(III)I"⟩ ⟨"BeatBounds", "stood", "(III)I"⟩ ∈ zTab := mg3 (List.mem_of_getElem? (i := 124) rfl) rfl
theorem mw_5_101 : Cond.methodLink "BeatBoundsLaw" 109 ⟨"BeatBoundsModel", "stood", "(III)I"⟩ ∈ zTab := mg5 (List.mem_of_getElem? (i := 101) rfl) rfl
theorem mw_5_102 : Cond.instanceMethod ⟨"BeatBoundsModel", "stood", "(III)I"⟩ ∈ zTab := mg5 (List.mem_of_getElem? (i := 102) rfl) rfl
theorem mw_5_103 : Cond.selects "BeatBoundsModel" ⟨"BeatBoundsModel", "stood", "(III)I"⟩ ⟨"BeatBoundsModel", "stood", "(III)I"⟩ ∈ zTab := mg5 (List.mem_of_getElem? (i := 103) rfl) rfl
theorem mw_3_135 : Cond.methodLink "BeatBoundsLaw" 110 ⟨"BeatBounds", "shift", "(II)I"⟩ ∈ zTab := mg3 (List.mem_of_getElem? (i := 135) rfl) rfl
theorem mw_3_136 : Cond.instanceMethod ⟨"BeatBounds", "shift", "(II)I"⟩ ∈ zTab := mg3 (List.mem_of_getElem? (i := 136) rfl) rfl
theorem mw_3_137 : Cond.selects "BeatBounds" ⟨"BeatBounds", "shift", "(II)I"⟩ ⟨"BeatBounds", "shift", "(II)I"⟩ ∈ zTab := mg3 (List.mem_of_getElem? (i := 137) rfl) rfl
theorem mw_5_107 : Cond.methodLink "BeatBoundsLaw" 113 ⟨"BeatBoundsModel", "shift", "(II)I"⟩ ∈ zTab := mg5 (List.mem_of_getElem? (i := 107) rfl) rfl
theorem mw_5_108 : Cond.instanceMethod ⟨"BeatBoundsModel", "shift", "(II)I"⟩ ∈ zTab := mg5 (List.mem_of_getElem? (i := 108) rfl) rfl
theorem mw_5_109 : Cond.selects "BeatBoundsModel" ⟨"BeatBoundsModel", "shift", "(II)I"⟩ ⟨"BeatBoundsModel", "shift", "(II)I"⟩ ∈ zTab := mg5 (List.mem_of_getElem? (i := 109) rfl) rfl
theorem mw_3_143 : Cond.methodLink "BeatBoundsLaw" 114 ⟨"BeatBounds", "map", "(II)I"⟩ ∈ zTab := mg3 (List.mem_of_getElem? (i := 143) rfl) rfl
theorem mw_3_144 : Cond.instanceMethod ⟨"BeatBounds", "map", "(II)I"⟩ ∈ zTab := mg3 (List.mem_of_getElem? (i := 144) rfl) rfl
theorem mw_3_145 : Cond.selects "BeatBounds" ⟨"BeatBounds", "map", "(II)I"⟩ ⟨"BeatBounds", "map", "(II)I"⟩ ∈ zTab := mg3 (List.mem_of_getElem? (i := 145) rfl) rfl
theorem mw_5_111 : Cond.methodLink "BeatBoundsLaw" 117 ⟨"BeatBoundsModel", "map", "(II)I"⟩ ∈ zTab := mg5 (List.mem_of_getElem? (i := 111) rfl) rfl
theorem mw_5_112 : Cond.instanceMethod ⟨"BeatBoundsModel", "map", "(II)I"⟩ ∈ zTab := mg5 (List.mem_of_getElem? (i := 112) rfl) rfl
theorem mw_5_113 : Cond.selects "BeatBoundsModel" ⟨"BeatBoundsModel", "map", "(II)I"⟩ ⟨"BeatBoundsModel", "map", "(II)I"⟩ ∈ zTab := mg5 (List.mem_of_getElem? (i := 113) rfl) rfl
theorem mw_3_147 : Cond.methodLink "BeatBoundsLaw" 118 ⟨"BeatBounds", "agree", "(I)I"⟩ ∈ zTab := mg3 (List.mem_of_getElem? (i := 147) rfl) rfl
theorem mw_3_148 : Cond.instanceMethod ⟨"BeatBounds", "agree", "(I)I"⟩ ∈ zTab := mg3 (List.mem_of_getElem? (i := 148) rfl) rfl
theorem mw_3_149 : Cond.selects "BeatBounds" ⟨"BeatBounds", "agree", "(I)I"⟩ ⟨"BeatBounds", "agree", "(I)I"⟩ ∈ zTab := mg3 (List.mem_of_getElem? (i := 149) rfl) rfl
theorem mw_5_115 : Cond.methodLink "BeatBoundsLaw" 121 ⟨"BeatBoundsModel", "agree", "(I)I"⟩ ∈ zTab := mg5 (List.mem_of_getElem? (i := 115) rfl) rfl
theorem mw_5_116 : Cond.instanceMethod ⟨"BeatBoundsModel", "agree", "(I)I"⟩ ∈ zTab := mg5 (List.mem_of_getElem? (i := 116) rfl) rfl
theorem mw_5_117 : Cond.selects "BeatBoundsModel" ⟨"BeatBoundsModel", "agree", "(I)I"⟩ ⟨"BeatBoundsModel", "agree", "(I)I"⟩ ∈ zTab := mg5 (List.mem_of_getElem? (i := 117) rfl) rfl
theorem mw_3_151 : Cond.methodLink "BeatBoundsLaw" 122 ⟨"BeatBounds", "drawn", "(III)I"⟩ ∈ zTab := mg3 (List.mem_of_getElem? (i := 151) rfl) rfl
theorem mw_3_152 : Cond.instanceMethod ⟨"BeatBounds", "drawn", "(III)I"⟩ ∈ zTab := mg3 (List.mem_of_getElem? (i := 152) rfl) rfl
theorem mw_3_153 : Cond.selects "BeatBounds" ⟨"BeatBounds", "drawn", "(III)I"⟩ ⟨"BeatBounds", "drawn", "(III)I"⟩ ∈ zTab := mg3 (List.mem_of_getElem? (i := 153) rfl) rfl
theorem mw_5_119 : Cond.methodLink "BeatBoundsLaw" 125 ⟨"BeatBoundsModel", "drawn", "(III)I"⟩ ∈ zTab := mg5 (List.mem_of_getElem? (i := 119) rfl) rfl
theorem mw_5_120 : Cond.instanceMethod ⟨"BeatBoundsModel", "drawn", "(III)I"⟩ ∈ zTab := mg5 (List.mem_of_getElem? (i := 120) rfl) rfl
theorem mw_5_121 : Cond.selects "BeatBoundsModel" ⟨"BeatBoundsModel", "drawn", "(III)I"⟩ ⟨"BeatBoundsModel", "drawn", "(III)I"⟩ ∈ zTab := mg5 (List.mem_of_getElem? (i := 121) rfl) rfl
theorem mw_3_176 : Cond.methodLink "BeatBoundsLaw" 126 ⟨"BeatBounds", "image", "(I)I"⟩ ∈ zTab := mg3 (List.mem_of_getElem? (i := 176) rfl) rfl
theorem mw_3_177 : Cond.instanceMethod ⟨"BeatBounds", "image", "(I)I"⟩ ∈ zTab := mg3 (List.mem_of_getElem? (i := 177) rfl) rfl
theorem mw_3_178 : Cond.selects "BeatBounds" ⟨"BeatBounds", "image", "(I)I"⟩ ⟨"BeatBounds", "image", "(I)I"⟩ ∈ zTab := mg3 (List.mem_of_getElem? (i := 178) rfl) rfl
theorem mw_5_126 : Cond.methodLink "BeatBoundsLaw" 129 ⟨"BeatBoundsModel", "image", "(I)I"⟩ ∈ zTab := mg5 (List.mem_of_getElem? (i := 126) rfl) rfl
theorem mw_5_127 : Cond.instanceMethod ⟨"BeatBoundsModel", "image", "(I)I"⟩ ∈ zTab := mg5 (List.mem_of_getElem? (i := 127) rfl) rfl
theorem mw_5_128 : Cond.selects "BeatBoundsModel" ⟨"BeatBoundsModel", "image", "(I)I"⟩ ⟨"BeatBoundsModel", "image", "(I)I"⟩ ∈ zTab := mg5 (List.mem_of_getElem? (i := 128) rfl) rfl
theorem mw_3_180 : Cond.methodLink "BeatBoundsLaw" 130 ⟨"BeatBounds", "restore", "(I)I"⟩ ∈ zTab := mg3 (List.mem_of_getElem? (i := 180) rfl) rfl
theorem mw_3_181 : Cond.instanceMethod ⟨"BeatBounds", "restore", "(I)I"⟩ ∈ zTab := mg3 (List.mem_of_getElem? (i := 181) rfl) rfl
theorem mw_3_182 : Cond.selects "BeatBounds" ⟨"BeatBounds", "restore", "(I)I"⟩ ⟨"BeatBounds", "restore", "(I)I"⟩ ∈ zTab := mg3 (List.mem_of_getElem? (i := 182) rfl) rfl
theorem mw_5_130 : Cond.methodLink "BeatBoundsLaw" 133 ⟨"BeatBoundsModel", "restore", "(I)I"⟩ ∈ zTab := mg5 (List.mem_of_getElem? (i := 130) rfl) rfl
theorem mw_5_131 : Cond.instanceMethod ⟨"BeatBoundsModel", "restore", "(I)I"⟩ ∈ zTab := mg5 (List.mem_of_getElem? (i := 131) rfl) rfl
theorem mw_5_132 : Cond.selects "BeatBoundsModel" ⟨"BeatBoundsModel", "restore", "(I)I"⟩ ⟨"BeatBoundsModel", "restore", "(I)I"⟩ ∈ zTab := mg5 (List.mem_of_getElem? (i := 132) rfl) rfl
theorem mw_3_184 : Cond.methodLink "BeatBoundsLaw" 134 ⟨"BeatBounds", "kind", "(I)I"⟩ ∈ zTab := mg3 (List.mem_of_getElem? (i := 184) rfl) rfl
theorem mw_3_185 : Cond.instanceMethod ⟨"BeatBounds", "kind", "(I)I"⟩ ∈ zTab := mg3 (List.mem_of_getElem? (i := 185) rfl) rfl
theorem mw_3_186 : Cond.selects "BeatBounds" ⟨"BeatBounds", "kind", "(I)I"⟩ ⟨"BeatBounds", "kind", "(I)I"⟩ ∈ zTab := mg3 (List.mem_of_getElem? (i := 186) rfl) rfl
theorem mw_5_134 : Cond.methodLink "BeatBoundsLaw" 137 ⟨"BeatBoundsModel", "kind", "(I)I"⟩ ∈ zTab := mg5 (List.mem_of_getElem? (i := 134) rfl) rfl
theorem mw_5_135 : Cond.instanceMethod ⟨"BeatBoundsModel", "kind", "(I)I"⟩ ∈ zTab := mg5 (List.mem_of_getElem? (i := 135) rfl) rfl
theorem mw_5_136 : Cond.selects "BeatBoundsModel" ⟨"BeatBoundsModel", "kind", "(I)I"⟩ ⟨"BeatBoundsModel", "kind", "(I)I"⟩ ∈ zTab := mg5 (List.mem_of_getElem? (i := 136) rfl) rfl
theorem mw_3_188 : Cond.methodLink "BeatBoundsLaw" 138 ⟨"BeatBounds", "as", "(II)I"⟩ ∈ zTab := mg3 (List.mem_of_getElem? (i := 188) rfl) rfl
theorem mw_3_189 : Cond.instanceMethod ⟨"BeatBounds", "as", "(II)I"⟩ ∈ zTab := mg3 (List.mem_of_getElem? (i := 189) rfl) rfl
theorem mw_3_190 : Cond.selects "BeatBounds" ⟨"BeatBounds", "as", "(II)I"⟩ ⟨"BeatBounds", "as", "(II)I"⟩ ∈ zTab := mg3 (List.mem_of_getElem? (i := 190) rfl) rfl
theorem mw_5_138 : Cond.methodLink "BeatBoundsLaw" 141 ⟨"BeatBoundsModel", "as", "(II)I"⟩ ∈ zTab := mg5 (List.mem_of_getElem? (i := 138) rfl) rfl
theorem mw_5_139 : Cond.instanceMethod ⟨"BeatBoundsModel", "as", "(II)I"⟩ ∈ zTab := mg5 (List.mem_of_getElem? (i := 139) rfl) rfl
theorem mw_5_140 : Cond.selects "BeatBoundsModel" ⟨"BeatBoundsModel", "as", "(II)I"⟩ ⟨"BeatBoundsModel", "as", "(II)I"⟩ ∈ zTab := mg5 (List.mem_of_getElem? (i := 140) rfl) rfl
theorem mw_3_197 : Cond.methodLink "BeatBoundsLaw" 142 ⟨"BeatBounds", "ask", "(II)I"⟩ ∈ zTab := mg3 (List.mem_of_getElem? (i := 197) rfl) rfl
theorem mw_3_198 : Cond.instanceMethod ⟨"BeatBounds", "ask", "(II)I"⟩ ∈ zTab := mg3 (List.mem_of_getElem? (i := 198) rfl) rfl
theorem mw_3_199 : Cond.selects "BeatBounds" ⟨"BeatBounds", "ask", "(II)I"⟩ ⟨"BeatBounds", "ask", "(II)I"⟩ ∈ zTab := mg3 (List.mem_of_getElem? (i := 199) rfl) rfl
theorem mw_5_145 : Cond.methodLink "BeatBoundsLaw" 145 ⟨"BeatBoundsModel", "ask", "(II)I"⟩ ∈ zTab := mg5 (List.mem_of_getElem? (i := 145) rfl) rfl
theorem mw_5_146 : Cond.instanceMethod ⟨"BeatBoundsModel", "ask", "(II)I"⟩ ∈ zTab := mg5 (List.mem_of_getElem? (i := 146) rfl) rfl
theorem mw_5_147 : Cond.selects "BeatBoundsModel" ⟨"BeatBoundsModel", "ask", "(II)I"⟩ ⟨"BeatBoundsModel", "ask", "(II)I"⟩ ∈ zTab := mg5 (List.mem_of_getElem? (i := 147) rfl) rfl
theorem mw_3_228 : Cond.methodLink "BeatBoundsLaw" 146 ⟨"BeatBounds", "trace", "(I)I"⟩ ∈ zTab := mg3 (List.mem_of_getElem? (i := 228) rfl) rfl
theorem mw_3_229 : Cond.instanceMethod ⟨"BeatBounds", "trace", "(I)I"⟩ ∈ zTab := mg3 (List.mem_of_getElem? (i := 229) rfl) rfl
theorem mw_3_230 : Cond.selects "BeatBounds" ⟨"BeatBounds", "trace", "(I)I"⟩ ⟨"BeatBounds", "trace", "(I)I"⟩ ∈ zTab := mg3 (List.mem_of_getElem? (i := 230) rfl) rfl
theorem mw_5_169 : Cond.methodLink "BeatBoundsLaw" 149 ⟨"BeatBoundsModel", "trace", "(I)I"⟩ ∈ zTab := mg5 (List.mem_of_getElem? (i := 169) rfl) rfl
theorem mw_5_170 : Cond.instanceMethod ⟨"BeatBoundsModel", "trace", "(I)I"⟩ ∈ zTab := mg5 (List.mem_of_getElem? (i := 170) rfl) rfl
theorem mw_5_171 : Cond.selects "BeatBoundsModel" ⟨"BeatBoundsModel", "trace", "(I)I"⟩ ⟨"BeatBoundsModel", "trace", "(I)I"⟩ ∈ zTab := mg5 (List.mem_of_getElem? (i := 171) rfl) rfl
theorem mw_3_232 : Cond.methodLink "BeatBoundsLaw" 150 ⟨"BeatBounds", "count", "(I)I"⟩ ∈ zTab := mg3 (List.mem_of_getElem? (i := 232) rfl) rfl
theorem mw_3_233 : Cond.instanceMethod ⟨"BeatBounds", "count", "(I)I"⟩ ∈ zTab := mg3 (List.mem_of_getElem? (i := 233) rfl) rfl
theorem mw_3_234 : Cond.selects "BeatBounds" ⟨"BeatBounds", "count", "(I)I"⟩ ⟨"BeatBounds", "count", "(I)I"⟩ ∈ zTab := mg3 (List.mem_of_getElem? (i := 234) rfl) rfl
theorem mw_5_173 : Cond.methodLink "BeatBoundsLaw" 153 ⟨"BeatBoundsModel", "count", "(I)I"⟩ ∈ zTab := mg5 (List.mem_of_getElem? (i := 173) rfl) rfl
theorem mw_5_174 : Cond.instanceMethod ⟨"BeatBoundsModel", "count", "(I)I"⟩ ∈ zTab := mg5 (List.mem_of_getElem? (i := 174) rfl) rfl
theorem mw_5_175 : Cond.selects "BeatBoundsModel" ⟨"BeatBoundsModel", "count", "(I)I"⟩ ⟨"BeatBoundsModel", "count", "(I)I"⟩ ∈ zTab := mg5 (List.mem_of_getElem? (i := 175) rfl) rfl
theorem mw_4_0 : Cond.methodLink "BeatBoundsLaw" 154 ⟨"BeatBounds", "status", "()I"⟩ ∈ zTab := mg4 (List.mem_of_getElem? (i := 0) rfl) rfl
theorem mw_4_1 : Cond.instanceMethod ⟨"BeatBounds", "status", "()I"⟩ ∈ zTab := mg4 (List.mem_of_getElem? (i := 1) rfl) rfl
theorem mw_4_2 : Cond.selects "BeatBounds" ⟨"BeatBounds", "status", "()I"⟩ ⟨"BeatBounds", "status", "()I"⟩ ∈ zTab := mg4 (List.mem_of_getElem? (i := 2) rfl) rfl
theorem mw_5_177 : Cond.methodLink "BeatBoundsLaw" 157 ⟨"BeatBoundsModel", "status", "()I"⟩ ∈ zTab := mg5 (List.mem_of_getElem? (i := 177) rfl) rfl
theorem mw_5_178 : Cond.instanceMethod ⟨"BeatBoundsModel", "status", "()I"⟩ ∈ zTab := mg5 (List.mem_of_getElem? (i := 178) rfl) rfl
theorem mw_5_179 : Cond.selects "BeatBoundsModel" ⟨"BeatBoundsModel", "status", "()I"⟩ ⟨"BeatBoundsModel", "status", "()I"⟩ ∈ zTab := mg5 (List.mem_of_getElem? (i := 179) rfl) rfl
theorem mw_1_133 : Cond.fieldLink "BeatBounds$Acts" 9 "BeatBounds$Acts" "size" "I" ∈ zTab := mg1 (List.mem_of_getElem? (i := 133) rfl) rfl
theorem mw_1_136 : Cond.fieldLink "BeatBounds$Acts" 18 "BeatBounds$Acts" "sorts" "[I" ∈ zTab := mg1 (List.mem_of_getElem? (i := 136) rfl) rfl
theorem mw_1_135 : Cond.fieldLink "BeatBounds$Acts" 15 "BeatBounds$Acts" "next" "I" ∈ zTab := mg1 (List.mem_of_getElem? (i := 135) rfl) rfl
theorem mw_1_137 : Cond.fieldLink "BeatBounds$Acts" 22 "BeatBounds$Acts" "whose" "[I" ∈ zTab := mg1 (List.mem_of_getElem? (i := 137) rfl) rfl
theorem mw_1_138 : Cond.fieldLink "BeatBounds$Acts" 25 "BeatBounds$Acts" "was" "[I" ∈ zTab := mg1 (List.mem_of_getElem? (i := 138) rfl) rfl
theorem mw_1_72 : Cond.fieldLink "BeatBounds$Acts" 37 "BeatBounds$Parish" "yards" "[I" ∈ zTab := mg1 (List.mem_of_getElem? (i := 72) rfl) rfl
theorem mw_1_86 : Cond.fieldLink "BeatBounds$Acts" 42 "BeatBounds$Parish" "bribes" "[I" ∈ zTab := mg1 (List.mem_of_getElem? (i := 86) rfl) rfl
theorem mw_2_162 : Cond.methodLink "BeatBounds$Acts" 45 ⟨"BeatBounds$Acts", "keepBumps", "(ILBeatBounds$Parish;)V"⟩ ∈ zTab := mg2 (List.mem_of_getElem? (i := 162) rfl) rfl
theorem mw_2_164 : Cond.instanceMethod ⟨"BeatBounds$Acts", "keepBumps", "(ILBeatBounds$Parish;)V"⟩ ∈ zTab := mg2 (List.mem_of_getElem? (i := 164) rfl) rfl
theorem mv_1_12 : Cond.selects "BeatBounds$Acts" ⟨"BeatBounds$Acts", "keepBumps", "(ILBeatBounds$Parish;)V"⟩ ⟨"BeatBounds$Acts", "keepBumps", "(ILBeatBounds$Parish;)V"⟩ ∈ zTab := mp1 (q := (⟨"BeatBounds$Acts", "keepBumps", "(ILBeatBounds$Parish;)V"⟩, 8)) (List.mem_of_getElem? (i := 12) rfl)
theorem mw_2_166 : Cond.methodLink "BeatBounds$Acts" 49 ⟨"java/lang/Math", "min", "(II)I"⟩ ∈ zTab := mg2 (List.mem_of_getElem? (i := 166) rfl) rfl
theorem mw_2_167 : Cond.static ⟨"java/lang/Math", "min", "(II)I"⟩ ∈ zTab := mg2 (List.mem_of_getElem? (i := 167) rfl) rfl
theorem mw_1_10 : Cond.initialized "java/lang/Math" ∈ zTab := mg1 (List.mem_of_getElem? (i := 10) rfl) rfl
theorem mc_mmin : Cond.code Lib.Math.min.name Lib.Math.min.code 2 (some .int) ∈ zTab := mg2 (List.mem_of_getElem? (i := 168) (by decide +kernel)) rfl
theorem mw_2_135 : Cond.methodLink "BeatBounds$Acts" 55 ⟨"BeatBounds$Acts", "takeBumpsBack", "(ILBeatBounds$Parish;)V"⟩ ∈ zTab := mg2 (List.mem_of_getElem? (i := 135) rfl) rfl
theorem mw_2_137 : Cond.instanceMethod ⟨"BeatBounds$Acts", "takeBumpsBack", "(ILBeatBounds$Parish;)V"⟩ ∈ zTab := mg2 (List.mem_of_getElem? (i := 137) rfl) rfl
theorem mv_1_10 : Cond.selects "BeatBounds$Acts" ⟨"BeatBounds$Acts", "takeBumpsBack", "(ILBeatBounds$Parish;)V"⟩ ⟨"BeatBounds$Acts", "takeBumpsBack", "(ILBeatBounds$Parish;)V"⟩ ∈ zTab := mp1 (q := (⟨"BeatBounds$Acts", "takeBumpsBack", "(ILBeatBounds$Parish;)V"⟩, 8)) (List.mem_of_getElem? (i := 10) rfl)
theorem mw_1_62 : Cond.fieldLink "BeatBounds$Acts" 58 "BeatBounds$Parish" "year" "I" ∈ zTab := mg1 (List.mem_of_getElem? (i := 62) rfl) rfl
theorem mw_2_139 : Cond.methodLink "BeatBounds$Acts" 61 ⟨"BeatBounds$Parish", "placeOf", "(II)I"⟩ ∈ zTab := mg2 (List.mem_of_getElem? (i := 139) rfl) rfl
theorem mw_2_140 : Cond.instanceMethod ⟨"BeatBounds$Parish", "placeOf", "(II)I"⟩ ∈ zTab := mg2 (List.mem_of_getElem? (i := 140) rfl) rfl
theorem mw_2_141 : Cond.selects "BeatBounds$Parish" ⟨"BeatBounds$Parish", "placeOf", "(II)I"⟩ ⟨"BeatBounds$Parish", "placeOf", "(II)I"⟩ ∈ zTab := mg2 (List.mem_of_getElem? (i := 141) rfl) rfl
theorem mw_1_139 : Cond.fieldLink "BeatBounds$Acts" 28 "BeatBounds$Acts" "wasYard" "[I" ∈ zTab := mg1 (List.mem_of_getElem? (i := 139) rfl) rfl
theorem mw_1_89 : Cond.fieldLink "BeatBounds$Acts" 64 "BeatBounds$Parish" "bumpYard" "[I" ∈ zTab := mg1 (List.mem_of_getElem? (i := 89) rfl) rfl
theorem mw_1_140 : Cond.fieldLink "BeatBounds$Acts" 31 "BeatBounds$Acts" "wasPain" "[I" ∈ zTab := mg1 (List.mem_of_getElem? (i := 140) rfl) rfl
theorem mw_1_92 : Cond.fieldLink "BeatBounds$Acts" 67 "BeatBounds$Parish" "bumpPain" "[I" ∈ zTab := mg1 (List.mem_of_getElem? (i := 92) rfl) rfl
theorem mw_1_141 : Cond.fieldLink "BeatBounds$Acts" 34 "BeatBounds$Acts" "wasYear" "[I" ∈ zTab := mg1 (List.mem_of_getElem? (i := 141) rfl) rfl
theorem mw_1_95 : Cond.fieldLink "BeatBounds$Acts" 70 "BeatBounds$Parish" "bumpYear" "[I" ∈ zTab := mg1 (List.mem_of_getElem? (i := 95) rfl) rfl
theorem mw_1_187 : Cond.fieldLink "BeatBounds$Asks" 15 "BeatBounds$Asks" "traced" "I" ∈ zTab := mg1 (List.mem_of_getElem? (i := 187) rfl) rfl
theorem mw_1_76 : Cond.fieldLink "BeatBounds$Asks" 19 "BeatBounds$Parish" "kinds" "[I" ∈ zTab := mg1 (List.mem_of_getElem? (i := 76) rfl) rfl
theorem mw_3_205 : Cond.methodLink "BeatBounds$Asks" 24 ⟨"BeatBounds$Asks", "bodyOf", "(II)I"⟩ ∈ zTab := mg3 (List.mem_of_getElem? (i := 205) rfl) rfl
theorem mw_3_206 : Cond.static ⟨"BeatBounds$Asks", "bodyOf", "(II)I"⟩ ∈ zTab := mg3 (List.mem_of_getElem? (i := 206) rfl) rfl
theorem mw_3_213 : Cond.methodLink "BeatBounds$Asks" 28 ⟨"BeatBounds$Asks", "begin", "(ILBeatBounds$Parish;II)I"⟩ ∈ zTab := mg3 (List.mem_of_getElem? (i := 213) rfl) rfl
theorem mw_3_215 : Cond.instanceMethod ⟨"BeatBounds$Asks", "begin", "(ILBeatBounds$Parish;II)I"⟩ ∈ zTab := mg3 (List.mem_of_getElem? (i := 215) rfl) rfl
theorem mv_2_2 : Cond.selects "BeatBounds$Asks" ⟨"BeatBounds$Asks", "begin", "(ILBeatBounds$Parish;II)I"⟩ ⟨"BeatBounds$Asks", "begin", "(ILBeatBounds$Parish;II)I"⟩ ∈ zTab := mp2 (q := (⟨"BeatBounds$Asks", "begin", "(ILBeatBounds$Parish;II)I"⟩, 2)) (List.mem_of_getElem? (i := 2) rfl)
theorem mw_3_217 : Cond.methodLink "BeatBounds$Asks" 41 ⟨"BeatBounds$Asks", "leave", "(I)V"⟩ ∈ zTab := mg3 (List.mem_of_getElem? (i := 217) rfl) rfl
theorem mw_3_219 : Cond.instanceMethod ⟨"BeatBounds$Asks", "leave", "(I)V"⟩ ∈ zTab := mg3 (List.mem_of_getElem? (i := 219) rfl) rfl
theorem mv_2_3 : Cond.selects "BeatBounds$Asks" ⟨"BeatBounds$Asks", "leave", "(I)V"⟩ ⟨"BeatBounds$Asks", "leave", "(I)V"⟩ ∈ zTab := mp2 (q := (⟨"BeatBounds$Asks", "leave", "(I)V"⟩, 2)) (List.mem_of_getElem? (i := 3) rfl)
theorem mw_3_221 : Cond.methodLink "BeatBounds$Asks" 45 ⟨"BeatBounds$Parish", "stonesSwornBy", "(I)I"⟩ ∈ zTab := mg3 (List.mem_of_getElem? (i := 221) rfl) rfl
theorem mw_2_222 : Cond.instanceMethod ⟨"BeatBounds$Parish", "stonesSwornBy", "(I)I"⟩ ∈ zTab := mg2 (List.mem_of_getElem? (i := 222) rfl) rfl
theorem mw_2_223 : Cond.selects "BeatBounds$Parish" ⟨"BeatBounds$Parish", "stonesSwornBy", "(I)I"⟩ ⟨"BeatBounds$Parish", "stonesSwornBy", "(I)I"⟩ ∈ zTab := mg2 (List.mem_of_getElem? (i := 223) rfl) rfl
theorem mw_3_222 : Cond.methodLink "BeatBounds$Asks" 49 ⟨"java/lang/Integer", "bitCount", "(I)I"⟩ ∈ zTab := mg3 (List.mem_of_getElem? (i := 222) rfl) rfl
theorem mw_2_210 : Cond.static ⟨"java/lang/Integer", "bitCount", "(I)I"⟩ ∈ zTab := mg2 (List.mem_of_getElem? (i := 210) rfl) rfl
theorem mw_3_223 : Cond.methodLink "BeatBounds$Asks" 54 ⟨"BeatBounds$Asks", "anew", "(ILBeatBounds$Parish;II)I"⟩ ∈ zTab := mg3 (List.mem_of_getElem? (i := 223) rfl) rfl
theorem mw_3_225 : Cond.instanceMethod ⟨"BeatBounds$Asks", "anew", "(ILBeatBounds$Parish;II)I"⟩ ∈ zTab := mg3 (List.mem_of_getElem? (i := 225) rfl) rfl
theorem mv_2_4 : Cond.selects "BeatBounds$Asks" ⟨"BeatBounds$Asks", "anew", "(ILBeatBounds$Parish;II)I"⟩ ⟨"BeatBounds$Asks", "anew", "(ILBeatBounds$Parish;II)I"⟩ ∈ zTab := mp2 (q := (⟨"BeatBounds$Asks", "anew", "(ILBeatBounds$Parish;II)I"⟩, 2)) (List.mem_of_getElem? (i := 4) rfl)
theorem mw_3_227 : Cond.methodLink "BeatBounds$Asks" 57 ⟨"BeatBounds$Parish", "age", "(I)I"⟩ ∈ zTab := mg3 (List.mem_of_getElem? (i := 227) rfl) rfl
theorem mw_2_182 : Cond.instanceMethod ⟨"BeatBounds$Parish", "age", "(I)I"⟩ ∈ zTab := mg2 (List.mem_of_getElem? (i := 182) rfl) rfl
theorem mw_2_183 : Cond.selects "BeatBounds$Parish" ⟨"BeatBounds$Parish", "age", "(I)I"⟩ ⟨"BeatBounds$Parish", "age", "(I)I"⟩ ∈ zTab := mg2 (List.mem_of_getElem? (i := 183) rfl) rfl
theorem mw_1_185 : Cond.fieldLink "BeatBounds$Asks" 9 "BeatBounds$Asks" "traces" "[I" ∈ zTab := mg1 (List.mem_of_getElem? (i := 185) rfl) rfl
theorem mw_1_165 : Cond.fieldLink "BeatBounds$Oaths" 9 "BeatBounds$Oaths" "many" "I" ∈ zTab := mg1 (List.mem_of_getElem? (i := 165) rfl) rfl
theorem mw_1_68 : Cond.fieldLink "BeatBounds$Oaths" 25 "BeatBounds$Parish" "witnesses" "I" ∈ zTab := mg1 (List.mem_of_getElem? (i := 68) rfl) rfl
theorem mw_3_13 : Cond.methodLink "BeatBounds$Oaths" 30 ⟨"BeatBounds$Parish", "oath", "(II)I"⟩ ∈ zTab := mg3 (List.mem_of_getElem? (i := 13) rfl) rfl
theorem mw_2_226 : Cond.instanceMethod ⟨"BeatBounds$Parish", "oath", "(II)I"⟩ ∈ zTab := mg2 (List.mem_of_getElem? (i := 226) rfl) rfl
theorem mw_2_227 : Cond.selects "BeatBounds$Parish" ⟨"BeatBounds$Parish", "oath", "(II)I"⟩ ⟨"BeatBounds$Parish", "oath", "(II)I"⟩ ∈ zTab := mg2 (List.mem_of_getElem? (i := 227) rfl) rfl
theorem mw_3_14 : Cond.constant "BeatBounds$Oaths" 34 (-1000000) ∈ zTab := mg3 (List.mem_of_getElem? (i := 14) rfl) rfl
theorem mw_1_167 : Cond.fieldLink "BeatBounds$Oaths" 15 "BeatBounds$Oaths" "who" "[I" ∈ zTab := mg1 (List.mem_of_getElem? (i := 167) rfl) rfl
theorem mw_1_168 : Cond.fieldLink "BeatBounds$Oaths" 19 "BeatBounds$Oaths" "says" "[I" ∈ zTab := mg1 (List.mem_of_getElem? (i := 168) rfl) rfl
theorem mw_3_23 : Cond.methodLink "BeatBounds$Oaths" 35 ⟨"java/lang/Math", "min", "(II)I"⟩ ∈ zTab := mg3 (List.mem_of_getElem? (i := 23) rfl) rfl
theorem mw_3_28 : Cond.methodLink "BeatBounds$Oaths" 40 ⟨"java/lang/Math", "max", "(II)I"⟩ ∈ zTab := mg3 (List.mem_of_getElem? (i := 28) rfl) rfl
theorem mw_2_232 : Cond.static ⟨"java/lang/Math", "max", "(II)I"⟩ ∈ zTab := mg2 (List.mem_of_getElem? (i := 232) rfl) rfl
theorem mc_mmax : Cond.code Lib.Math.max.name Lib.Math.max.code 2 (some .int) ∈ zTab := mg2 (List.mem_of_getElem? (i := 233) (by decide +kernel)) rfl
theorem mw_3_33 : Cond.methodLink "BeatBounds$Oaths" 43 ⟨"BeatBounds$Oaths", "below", "(I)I"⟩ ∈ zTab := mg3 (List.mem_of_getElem? (i := 33) rfl) rfl
theorem mw_3_34 : Cond.instanceMethod ⟨"BeatBounds$Oaths", "below", "(I)I"⟩ ∈ zTab := mg3 (List.mem_of_getElem? (i := 34) rfl) rfl
theorem mw_3_35 : Cond.selects "BeatBounds$Oaths" ⟨"BeatBounds$Oaths", "below", "(I)I"⟩ ⟨"BeatBounds$Oaths", "below", "(I)I"⟩ ∈ zTab := mg3 (List.mem_of_getElem? (i := 35) rfl) rfl
theorem mw_3_37 : Cond.methodLink "BeatBounds$Oaths" 47 ⟨"BeatBounds$Oaths", "alike", "(I)I"⟩ ∈ zTab := mg3 (List.mem_of_getElem? (i := 37) rfl) rfl
theorem mw_3_38 : Cond.instanceMethod ⟨"BeatBounds$Oaths", "alike", "(I)I"⟩ ∈ zTab := mg3 (List.mem_of_getElem? (i := 38) rfl) rfl
theorem mw_3_39 : Cond.selects "BeatBounds$Oaths" ⟨"BeatBounds$Oaths", "alike", "(I)I"⟩ ⟨"BeatBounds$Oaths", "alike", "(I)I"⟩ ∈ zTab := mg3 (List.mem_of_getElem? (i := 39) rfl) rfl
theorem mw_3_45 : Cond.methodLink "BeatBounds$Oaths" 50 ⟨"BeatBounds$Parish", "age", "(I)I"⟩ ∈ zTab := mg3 (List.mem_of_getElem? (i := 45) rfl) rfl
theorem mw_1_78 : Cond.fieldLink "BeatBounds$Oaths" 53 "BeatBounds$Parish" "kinds" "[I" ∈ zTab := mg1 (List.mem_of_getElem? (i := 78) rfl) rfl
theorem mw_1_169 : Cond.fieldLink "BeatBounds$Oaths" 22 "BeatBounds$Oaths" "ways" "[I" ∈ zTab := mg1 (List.mem_of_getElem? (i := 169) rfl) rfl
theorem mw_3_99 : Cond.methodLink "BeatBounds$Oaths" 56 ⟨"BeatBounds$Oaths", "waysOn", "(II)I"⟩ ∈ zTab := mg3 (List.mem_of_getElem? (i := 99) rfl) rfl
theorem mw_3_101 : Cond.instanceMethod ⟨"BeatBounds$Oaths", "waysOn", "(II)I"⟩ ∈ zTab := mg3 (List.mem_of_getElem? (i := 101) rfl) rfl
theorem mv_1_15 : Cond.selects "BeatBounds$Oaths" ⟨"BeatBounds$Oaths", "waysOn", "(II)I"⟩ ⟨"BeatBounds$Oaths", "waysOn", "(II)I"⟩ ∈ zTab := mp1 (q := (⟨"BeatBounds$Oaths", "waysOn", "(II)I"⟩, 4)) (List.mem_of_getElem? (i := 15) rfl)
theorem mw_3_103 : Cond.methodLink "BeatBounds$Oaths" 59 ⟨"BeatBounds$Oaths", "areNear", "(II)Z"⟩ ∈ zTab := mg3 (List.mem_of_getElem? (i := 103) rfl) rfl
theorem mw_3_105 : Cond.instanceMethod ⟨"BeatBounds$Oaths", "areNear", "(II)Z"⟩ ∈ zTab := mg3 (List.mem_of_getElem? (i := 105) rfl) rfl
theorem mv_2_0 : Cond.selects "BeatBounds$Oaths" ⟨"BeatBounds$Oaths", "areNear", "(II)Z"⟩ ⟨"BeatBounds$Oaths", "areNear", "(II)Z"⟩ ∈ zTab := mp2 (q := (⟨"BeatBounds$Oaths", "areNear", "(II)Z"⟩, 4)) (List.mem_of_getElem? (i := 0) rfl)
theorem mw_3_107 : Cond.methodLink "BeatBounds$Oaths" 63 ⟨"java/lang/Math", "abs", "(I)I"⟩ ∈ zTab := mg3 (List.mem_of_getElem? (i := 107) rfl) rfl
theorem mw_3_108 : Cond.static ⟨"java/lang/Math", "abs", "(I)I"⟩ ∈ zTab := mg3 (List.mem_of_getElem? (i := 108) rfl) rfl
theorem mc_mabs : Cond.code Lib.Math.abs.name Lib.Math.abs.code 1 (some .int) ∈ zTab := mg3 (List.mem_of_getElem? (i := 109) (by decide +kernel)) rfl
theorem mw_3_118 : Cond.methodLink "BeatBounds$Oaths" 66 ⟨"BeatBounds$Oaths", "firstNext", "(II)I"⟩ ∈ zTab := mg3 (List.mem_of_getElem? (i := 118) rfl) rfl
theorem mw_3_120 : Cond.instanceMethod ⟨"BeatBounds$Oaths", "firstNext", "(II)I"⟩ ∈ zTab := mg3 (List.mem_of_getElem? (i := 120) rfl) rfl
theorem mv_2_1 : Cond.selects "BeatBounds$Oaths" ⟨"BeatBounds$Oaths", "firstNext", "(II)I"⟩ ⟨"BeatBounds$Oaths", "firstNext", "(II)I"⟩ ∈ zTab := mp2 (q := (⟨"BeatBounds$Oaths", "firstNext", "(II)I"⟩, 4)) (List.mem_of_getElem? (i := 1) rfl)
theorem mw_1_54 : Cond.fieldLink "BeatBounds$Parish" 9 "BeatBounds$Parish" "told" "Z" ∈ zTab := mg1 (List.mem_of_getElem? (i := 54) rfl) rfl
theorem mw_1_57 : Cond.fieldLink "BeatBounds$Parish" 15 "BeatBounds$Parish" "lasts" "I" ∈ zTab := mg1 (List.mem_of_getElem? (i := 57) rfl) rfl
theorem mw_1_59 : Cond.fieldLink "BeatBounds$Parish" 19 "BeatBounds$Parish" "drift" "I" ∈ zTab := mg1 (List.mem_of_getElem? (i := 59) rfl) rfl
theorem mw_1_61 : Cond.fieldLink "BeatBounds$Parish" 22 "BeatBounds$Parish" "year" "I" ∈ zTab := mg1 (List.mem_of_getElem? (i := 61) rfl) rfl
theorem mw_1_64 : Cond.fieldLink "BeatBounds$Parish" 25 "BeatBounds$Parish" "stones" "I" ∈ zTab := mg1 (List.mem_of_getElem? (i := 64) rfl) rfl
theorem mw_1_67 : Cond.fieldLink "BeatBounds$Parish" 28 "BeatBounds$Parish" "witnesses" "I" ∈ zTab := mg1 (List.mem_of_getElem? (i := 67) rfl) rfl
theorem mw_1_85 : Cond.fieldLink "BeatBounds$Parish" 44 "BeatBounds$Parish" "bribes" "[I" ∈ zTab := mg1 (List.mem_of_getElem? (i := 85) rfl) rfl
theorem mw_1_91 : Cond.fieldLink "BeatBounds$Parish" 50 "BeatBounds$Parish" "bumpPain" "[I" ∈ zTab := mg1 (List.mem_of_getElem? (i := 91) rfl) rfl
theorem mw_1_71 : Cond.fieldLink "BeatBounds$Parish" 31 "BeatBounds$Parish" "yards" "[I" ∈ zTab := mg1 (List.mem_of_getElem? (i := 71) rfl) rfl
theorem mw_2_117 : Cond.methodLink "BeatBounds$Parish" 56 ⟨"java/lang/System", "arraycopy", "(Ljava/lang/Object;ILjava/lang/Object;II)V"⟩ ∈ zTab := mg2 (List.mem_of_getElem? (i := 117) rfl) rfl
theorem mw_2_43 : Cond.native ⟨"java/lang/System", "arraycopy", "(Ljava/lang/Object;ILjava/lang/Object;II)V"⟩ ∈ zTab := mg2 (List.mem_of_getElem? (i := 43) rfl) rfl
theorem mw_2_42 : Cond.static ⟨"java/lang/System", "arraycopy", "(Ljava/lang/Object;ILjava/lang/Object;II)V"⟩ ∈ zTab := mg2 (List.mem_of_getElem? (i := 42) rfl) rfl
theorem mw_1_9 : Cond.initialized "java/lang/System" ∈ zTab := mg1 (List.mem_of_getElem? (i := 9) rfl) rfl
theorem mw_1_75 : Cond.fieldLink "BeatBounds$Parish" 35 "BeatBounds$Parish" "kinds" "[I" ∈ zTab := mg1 (List.mem_of_getElem? (i := 75) rfl) rfl
theorem mw_1_80 : Cond.fieldLink "BeatBounds$Parish" 38 "BeatBounds$Parish" "firstAges" "[I" ∈ zTab := mg1 (List.mem_of_getElem? (i := 80) rfl) rfl
theorem mw_1_82 : Cond.fieldLink "BeatBounds$Parish" 41 "BeatBounds$Parish" "ends" "[I" ∈ zTab := mg1 (List.mem_of_getElem? (i := 82) rfl) rfl
theorem mw_1_88 : Cond.fieldLink "BeatBounds$Parish" 47 "BeatBounds$Parish" "bumpYard" "[I" ∈ zTab := mg1 (List.mem_of_getElem? (i := 88) rfl) rfl
theorem mw_1_94 : Cond.fieldLink "BeatBounds$Parish" 53 "BeatBounds$Parish" "bumpYear" "[I" ∈ zTab := mg1 (List.mem_of_getElem? (i := 94) rfl) rfl
theorem mw_2_181 : Cond.methodLink "BeatBounds$Parish" 62 ⟨"BeatBounds$Parish", "age", "(I)I"⟩ ∈ zTab := mg2 (List.mem_of_getElem? (i := 181) rfl) rfl
theorem mw_2_177 : Cond.methodLink "BeatBounds$Parish" 66 ⟨"BeatBounds$Parish", "isAlive", "(I)Z"⟩ ∈ zTab := mg2 (List.mem_of_getElem? (i := 177) rfl) rfl
theorem mw_2_178 : Cond.instanceMethod ⟨"BeatBounds$Parish", "isAlive", "(I)Z"⟩ ∈ zTab := mg2 (List.mem_of_getElem? (i := 178) rfl) rfl
theorem mw_2_179 : Cond.selects "BeatBounds$Parish" ⟨"BeatBounds$Parish", "isAlive", "(I)Z"⟩ ⟨"BeatBounds$Parish", "isAlive", "(I)Z"⟩ ∈ zTab := mg2 (List.mem_of_getElem? (i := 179) rfl) rfl
theorem mw_2_173 : Cond.methodLink "BeatBounds$Parish" 70 ⟨"BeatBounds$Parish", "isTakable", "(I)Z"⟩ ∈ zTab := mg2 (List.mem_of_getElem? (i := 173) rfl) rfl
theorem mw_2_174 : Cond.instanceMethod ⟨"BeatBounds$Parish", "isTakable", "(I)Z"⟩ ∈ zTab := mg2 (List.mem_of_getElem? (i := 174) rfl) rfl
theorem mw_2_175 : Cond.selects "BeatBounds$Parish" ⟨"BeatBounds$Parish", "isTakable", "(I)Z"⟩ ⟨"BeatBounds$Parish", "isTakable", "(I)Z"⟩ ∈ zTab := mg2 (List.mem_of_getElem? (i := 175) rfl) rfl
theorem mw_2_185 : Cond.methodLink "BeatBounds$Parish" 73 ⟨"BeatBounds$Parish", "placeOf", "(II)I"⟩ ∈ zTab := mg2 (List.mem_of_getElem? (i := 185) rfl) rfl
theorem mw_2_229 : Cond.constant "BeatBounds$Parish" 77 (-1000000) ∈ zTab := mg2 (List.mem_of_getElem? (i := 229) rfl) rfl
theorem mw_2_230 : Cond.methodLink "BeatBounds$Parish" 78 ⟨"java/lang/Math", "min", "(II)I"⟩ ∈ zTab := mg2 (List.mem_of_getElem? (i := 230) rfl) rfl
theorem mw_2_231 : Cond.methodLink "BeatBounds$Parish" 83 ⟨"java/lang/Math", "max", "(II)I"⟩ ∈ zTab := mg2 (List.mem_of_getElem? (i := 231) rfl) rfl
theorem mw_2_225 : Cond.methodLink "BeatBounds$Parish" 86 ⟨"BeatBounds$Parish", "oath", "(II)I"⟩ ∈ zTab := mg2 (List.mem_of_getElem? (i := 225) rfl) rfl
theorem mw_3_171 : Cond.methodLink "BeatBounds$Parish" 89 ⟨"BeatBounds$Parish", "stonesSwornBy", "(I)I"⟩ ∈ zTab := mg3 (List.mem_of_getElem? (i := 171) rfl) rfl
theorem mw_3_162 : Cond.constantLong "BeatBounds$Parish" 92 (7) ∈ zTab := mg3 (List.mem_of_getElem? (i := 162) rfl) rfl
theorem mw_3_163 : Cond.methodLink "BeatBounds$Parish" 94 ⟨"BeatBounds$Parish", "everybody", "()I"⟩ ∈ zTab := mg3 (List.mem_of_getElem? (i := 163) rfl) rfl
theorem mw_2_155 : Cond.instanceMethod ⟨"BeatBounds$Parish", "everybody", "()I"⟩ ∈ zTab := mg2 (List.mem_of_getElem? (i := 155) rfl) rfl
theorem mw_2_156 : Cond.selects "BeatBounds$Parish" ⟨"BeatBounds$Parish", "everybody", "()I"⟩ ⟨"BeatBounds$Parish", "everybody", "()I"⟩ ∈ zTab := mg2 (List.mem_of_getElem? (i := 156) rfl) rfl
theorem mw_3_164 : Cond.constantLong "BeatBounds$Parish" 98 (9) ∈ zTab := mg3 (List.mem_of_getElem? (i := 164) rfl) rfl
theorem mw_3_165 : Cond.methodLink "BeatBounds$Parish" 100 ⟨"BeatBounds$Parish", "bump", "(III)I"⟩ ∈ zTab := mg3 (List.mem_of_getElem? (i := 165) rfl) rfl
theorem mw_2_170 : Cond.instanceMethod ⟨"BeatBounds$Parish", "bump", "(III)I"⟩ ∈ zTab := mg2 (List.mem_of_getElem? (i := 170) rfl) rfl
theorem mw_2_171 : Cond.selects "BeatBounds$Parish" ⟨"BeatBounds$Parish", "bump", "(III)I"⟩ ⟨"BeatBounds$Parish", "bump", "(III)I"⟩ ∈ zTab := mg2 (List.mem_of_getElem? (i := 171) rfl) rfl
theorem mw_3_166 : Cond.constantLong "BeatBounds$Parish" 104 (5) ∈ zTab := mg3 (List.mem_of_getElem? (i := 166) rfl) rfl
theorem mw_1_201 : Cond.fieldLink "BeatBounds$Row" 15 "BeatBounds$Row" "there" "Z" ∈ zTab := mg1 (List.mem_of_getElem? (i := 201) rfl) rfl
theorem mw_1_203 : Cond.fieldLink "BeatBounds$Row" 19 "BeatBounds$Row" "lane" "I" ∈ zTab := mg1 (List.mem_of_getElem? (i := 203) rfl) rfl
theorem mw_1_205 : Cond.fieldLink "BeatBounds$Row" 23 "BeatBounds$Row" "size" "I" ∈ zTab := mg1 (List.mem_of_getElem? (i := 205) rfl) rfl
theorem mw_1_199 : Cond.fieldLink "BeatBounds$Row" 9 "BeatBounds$Row" "items" "[I" ∈ zTab := mg1 (List.mem_of_getElem? (i := 199) rfl) rfl
theorem mw_1_29 : Cond.fieldLink "BeatBounds$Tape" 15 "BeatBounds$Tape" "length" "I" ∈ zTab := mg1 (List.mem_of_getElem? (i := 29) rfl) rfl
theorem mw_2_61 : Cond.methodLink "BeatBounds$Tape" 28 ⟨"BeatBounds$Tape", "hasRoom", "()Z"⟩ ∈ zTab := mg2 (List.mem_of_getElem? (i := 61) rfl) rfl
theorem mw_2_53 : Cond.instanceMethod ⟨"BeatBounds$Tape", "hasRoom", "()Z"⟩ ∈ zTab := mg2 (List.mem_of_getElem? (i := 53) rfl) rfl
theorem mw_2_54 : Cond.selects "BeatBounds$Tape" ⟨"BeatBounds$Tape", "hasRoom", "()Z"⟩ ⟨"BeatBounds$Tape", "hasRoom", "()Z"⟩ ∈ zTab := mg2 (List.mem_of_getElem? (i := 54) rfl) rfl
theorem mw_1_28 : Cond.fieldLink "BeatBounds$Tape" 9 "BeatBounds$Tape" "bytes" "[I" ∈ zTab := mg1 (List.mem_of_getElem? (i := 28) rfl) rfl
theorem mw_1_31 : Cond.fieldLink "BeatBounds$Tape" 19 "BeatBounds$Tape" "place" "I" ∈ zTab := mg1 (List.mem_of_getElem? (i := 31) rfl) rfl
theorem mw_2_74 : Cond.methodLink "BeatBounds$Tape" 32 ⟨"BeatBounds$Tape", "readLaw", "(LBeatBounds$Parish;)Z"⟩ ∈ zTab := mg2 (List.mem_of_getElem? (i := 74) rfl) rfl
theorem mw_2_76 : Cond.instanceMethod ⟨"BeatBounds$Tape", "readLaw", "(LBeatBounds$Parish;)Z"⟩ ∈ zTab := mg2 (List.mem_of_getElem? (i := 76) rfl) rfl
theorem mv_1_2 : Cond.selects "BeatBounds$Tape" ⟨"BeatBounds$Tape", "readLaw", "(LBeatBounds$Parish;)Z"⟩ ⟨"BeatBounds$Tape", "readLaw", "(LBeatBounds$Parish;)Z"⟩ ∈ zTab := mp1 (q := (⟨"BeatBounds$Tape", "readLaw", "(LBeatBounds$Parish;)Z"⟩, 5)) (List.mem_of_getElem? (i := 2) rfl)
theorem mw_2_97 : Cond.methodLink "BeatBounds$Tape" 36 ⟨"BeatBounds$Tape", "readStones", "(LBeatBounds$Parish;)Z"⟩ ∈ zTab := mg2 (List.mem_of_getElem? (i := 97) rfl) rfl
theorem mw_2_99 : Cond.instanceMethod ⟨"BeatBounds$Tape", "readStones", "(LBeatBounds$Parish;)Z"⟩ ∈ zTab := mg2 (List.mem_of_getElem? (i := 99) rfl) rfl
theorem mv_1_7 : Cond.selects "BeatBounds$Tape" ⟨"BeatBounds$Tape", "readStones", "(LBeatBounds$Parish;)Z"⟩ ⟨"BeatBounds$Tape", "readStones", "(LBeatBounds$Parish;)Z"⟩ ∈ zTab := mp1 (q := (⟨"BeatBounds$Tape", "readStones", "(LBeatBounds$Parish;)Z"⟩, 5)) (List.mem_of_getElem? (i := 7) rfl)
theorem mw_2_101 : Cond.methodLink "BeatBounds$Tape" 39 ⟨"BeatBounds$Tape", "readWitnesses", "(LBeatBounds$Parish;)Z"⟩ ∈ zTab := mg2 (List.mem_of_getElem? (i := 101) rfl) rfl
theorem mw_2_103 : Cond.instanceMethod ⟨"BeatBounds$Tape", "readWitnesses", "(LBeatBounds$Parish;)Z"⟩ ∈ zTab := mg2 (List.mem_of_getElem? (i := 103) rfl) rfl
theorem mv_1_8 : Cond.selects "BeatBounds$Tape" ⟨"BeatBounds$Tape", "readWitnesses", "(LBeatBounds$Parish;)Z"⟩ ⟨"BeatBounds$Tape", "readWitnesses", "(LBeatBounds$Parish;)Z"⟩ ∈ zTab := mp1 (q := (⟨"BeatBounds$Tape", "readWitnesses", "(LBeatBounds$Parish;)Z"⟩, 5)) (List.mem_of_getElem? (i := 8) rfl)
theorem mw_1_55 : Cond.fieldLink "BeatBounds$Tape" 42 "BeatBounds$Parish" "told" "Z" ∈ zTab := mg1 (List.mem_of_getElem? (i := 55) rfl) rfl
theorem mw_2_78 : Cond.methodLink "BeatBounds$Tape" 48 ⟨"BeatBounds$Tape", "passes", "(I)Z"⟩ ∈ zTab := mg2 (List.mem_of_getElem? (i := 78) rfl) rfl
theorem mw_2_80 : Cond.instanceMethod ⟨"BeatBounds$Tape", "passes", "(I)Z"⟩ ∈ zTab := mg2 (List.mem_of_getElem? (i := 80) rfl) rfl
theorem mv_1_3 : Cond.selects "BeatBounds$Tape" ⟨"BeatBounds$Tape", "passes", "(I)Z"⟩ ⟨"BeatBounds$Tape", "passes", "(I)Z"⟩ ∈ zTab := mp1 (q := (⟨"BeatBounds$Tape", "passes", "(I)Z"⟩, 5)) (List.mem_of_getElem? (i := 3) rfl)
theorem mw_2_90 : Cond.methodLink "BeatBounds$Tape" 52 ⟨"BeatBounds$Tape", "number", "(II)I"⟩ ∈ zTab := mg2 (List.mem_of_getElem? (i := 90) rfl) rfl
theorem mw_2_92 : Cond.instanceMethod ⟨"BeatBounds$Tape", "number", "(II)I"⟩ ∈ zTab := mg2 (List.mem_of_getElem? (i := 92) rfl) rfl
theorem mv_1_6 : Cond.selects "BeatBounds$Tape" ⟨"BeatBounds$Tape", "number", "(II)I"⟩ ⟨"BeatBounds$Tape", "number", "(II)I"⟩ ∈ zTab := mp1 (q := (⟨"BeatBounds$Tape", "number", "(II)I"⟩, 5)) (List.mem_of_getElem? (i := 6) rfl)
theorem mw_1_58 : Cond.fieldLink "BeatBounds$Tape" 56 "BeatBounds$Parish" "lasts" "I" ∈ zTab := mg1 (List.mem_of_getElem? (i := 58) rfl) rfl
theorem mw_1_60 : Cond.fieldLink "BeatBounds$Tape" 59 "BeatBounds$Parish" "drift" "I" ∈ zTab := mg1 (List.mem_of_getElem? (i := 60) rfl) rfl
theorem mw_2_82 : Cond.methodLink "BeatBounds$Tape" 62 ⟨"BeatBounds$Tape", "letterAt", "(I)I"⟩ ∈ zTab := mg2 (List.mem_of_getElem? (i := 82) rfl) rfl
theorem mw_2_84 : Cond.instanceMethod ⟨"BeatBounds$Tape", "letterAt", "(I)I"⟩ ∈ zTab := mg2 (List.mem_of_getElem? (i := 84) rfl) rfl
theorem mv_1_4 : Cond.selects "BeatBounds$Tape" ⟨"BeatBounds$Tape", "letterAt", "(I)I"⟩ ⟨"BeatBounds$Tape", "letterAt", "(I)I"⟩ ∈ zTab := mp1 (q := (⟨"BeatBounds$Tape", "letterAt", "(I)I"⟩, 5)) (List.mem_of_getElem? (i := 4) rfl)
theorem mw_2_86 : Cond.methodLink "BeatBounds$Tape" 66 ⟨"BeatBounds$Tape", "fails", "(I)Z"⟩ ∈ zTab := mg2 (List.mem_of_getElem? (i := 86) rfl) rfl
theorem mw_2_88 : Cond.instanceMethod ⟨"BeatBounds$Tape", "fails", "(I)Z"⟩ ∈ zTab := mg2 (List.mem_of_getElem? (i := 88) rfl) rfl
theorem mv_1_5 : Cond.selects "BeatBounds$Tape" ⟨"BeatBounds$Tape", "fails", "(I)Z"⟩ ⟨"BeatBounds$Tape", "fails", "(I)Z"⟩ ∈ zTab := mp1 (q := (⟨"BeatBounds$Tape", "fails", "(I)Z"⟩, 5)) (List.mem_of_getElem? (i := 5) rfl)
theorem mw_1_73 : Cond.fieldLink "BeatBounds$Tape" 69 "BeatBounds$Parish" "yards" "[I" ∈ zTab := mg1 (List.mem_of_getElem? (i := 73) rfl) rfl
theorem mw_1_65 : Cond.fieldLink "BeatBounds$Tape" 72 "BeatBounds$Parish" "stones" "I" ∈ zTab := mg1 (List.mem_of_getElem? (i := 65) rfl) rfl
theorem mw_2_105 : Cond.methodLink "BeatBounds$Tape" 75 ⟨"BeatBounds$Tape", "kindTold", "(I)I"⟩ ∈ zTab := mg2 (List.mem_of_getElem? (i := 105) rfl) rfl
theorem mw_2_106 : Cond.static ⟨"BeatBounds$Tape", "kindTold", "(I)I"⟩ ∈ zTab := mg2 (List.mem_of_getElem? (i := 106) rfl) rfl
theorem mw_1_77 : Cond.fieldLink "BeatBounds$Tape" 78 "BeatBounds$Parish" "kinds" "[I" ∈ zTab := mg1 (List.mem_of_getElem? (i := 77) rfl) rfl
theorem mw_2_108 : Cond.methodLink "BeatBounds$Tape" 81 ⟨"BeatBounds$Tape", "readLife", "(LBeatBounds$Parish;I)Z"⟩ ∈ zTab := mg2 (List.mem_of_getElem? (i := 108) rfl) rfl
theorem mw_2_110 : Cond.instanceMethod ⟨"BeatBounds$Tape", "readLife", "(LBeatBounds$Parish;I)Z"⟩ ∈ zTab := mg2 (List.mem_of_getElem? (i := 110) rfl) rfl
theorem mv_1_9 : Cond.selects "BeatBounds$Tape" ⟨"BeatBounds$Tape", "readLife", "(LBeatBounds$Parish;I)Z"⟩ ⟨"BeatBounds$Tape", "readLife", "(LBeatBounds$Parish;I)Z"⟩ ∈ zTab := mp1 (q := (⟨"BeatBounds$Tape", "readLife", "(LBeatBounds$Parish;I)Z"⟩, 5)) (List.mem_of_getElem? (i := 9) rfl)
theorem mw_1_70 : Cond.fieldLink "BeatBounds$Tape" 85 "BeatBounds$Parish" "witnesses" "I" ∈ zTab := mg1 (List.mem_of_getElem? (i := 70) rfl) rfl
theorem mw_1_81 : Cond.fieldLink "BeatBounds$Tape" 88 "BeatBounds$Parish" "firstAges" "[I" ∈ zTab := mg1 (List.mem_of_getElem? (i := 81) rfl) rfl
theorem mw_1_83 : Cond.fieldLink "BeatBounds$Tape" 91 "BeatBounds$Parish" "ends" "[I" ∈ zTab := mg1 (List.mem_of_getElem? (i := 83) rfl) rfl
theorem mw_1_32 : Cond.fieldLink "BeatBounds$Tape" 22 "BeatBounds$Tape" "fault" "I" ∈ zTab := mg1 (List.mem_of_getElem? (i := 32) rfl) rfl
theorem mw_1_34 : Cond.fieldLink "BeatBounds$Tape" 25 "BeatBounds$Tape" "faultPlace" "I" ∈ zTab := mg1 (List.mem_of_getElem? (i := 34) rfl) rfl
theorem mw_2_94 : Cond.methodLink "BeatBounds$Tape" 94 ⟨"BeatBounds$Tape", "isFigure", "(I)Z"⟩ ∈ zTab := mg2 (List.mem_of_getElem? (i := 94) rfl) rfl
theorem mw_2_95 : Cond.static ⟨"BeatBounds$Tape", "isFigure", "(I)Z"⟩ ∈ zTab := mg2 (List.mem_of_getElem? (i := 95) rfl) rfl
theorem mw_2_8 : Cond.methodLink "BeatBounds" 62 ⟨"BeatBounds", "isRow", "(I)Z"⟩ ∈ zTab := mg2 (List.mem_of_getElem? (i := 8) rfl) rfl
theorem mw_2_9 : Cond.static ⟨"BeatBounds", "isRow", "(I)Z"⟩ ∈ zTab := mg2 (List.mem_of_getElem? (i := 9) rfl) rfl
theorem mw_2_11 : Cond.constant "BeatBounds" 66 (-1000001) ∈ zTab := mg2 (List.mem_of_getElem? (i := 11) rfl) rfl
theorem mw_2_12 : Cond.methodLink "BeatBounds" 67 ⟨"BeatBounds", "finding", "(I)I"⟩ ∈ zTab := mg2 (List.mem_of_getElem? (i := 12) rfl) rfl
theorem mw_2_14 : Cond.instanceMethod ⟨"BeatBounds", "finding", "(I)I"⟩ ∈ zTab := mg2 (List.mem_of_getElem? (i := 14) rfl) rfl
theorem mv_1_0 : Cond.selects "BeatBounds" ⟨"BeatBounds", "finding", "(I)I"⟩ ⟨"BeatBounds", "finding", "(I)I"⟩ ∈ zTab := mp1 (q := (⟨"BeatBounds", "finding", "(I)I"⟩, 9)) (List.mem_of_getElem? (i := 0) rfl)
theorem mw_1_216 : Cond.fieldLink "BeatBounds" 11 "BeatBounds" "rows" "[LBeatBounds$Row;" ∈ zTab := mg1 (List.mem_of_getElem? (i := 216) rfl) rfl
theorem mw_2_17 : Cond.methodLink "BeatBounds" 71 ⟨"BeatBounds$Row", "begin", "(II)V"⟩ ∈ zTab := mg2 (List.mem_of_getElem? (i := 17) rfl) rfl
theorem mw_2_18 : Cond.instanceMethod ⟨"BeatBounds$Row", "begin", "(II)V"⟩ ∈ zTab := mg2 (List.mem_of_getElem? (i := 18) rfl) rfl
theorem mw_2_19 : Cond.selects "BeatBounds$Row" ⟨"BeatBounds$Row", "begin", "(II)V"⟩ ⟨"BeatBounds$Row", "begin", "(II)V"⟩ ∈ zTab := mg2 (List.mem_of_getElem? (i := 19) rfl) rfl
theorem mw_2_21 : Cond.methodLink "BeatBounds" 75 ⟨"BeatBounds", "fine", "(I)I"⟩ ∈ zTab := mg2 (List.mem_of_getElem? (i := 21) rfl) rfl
theorem mw_2_23 : Cond.instanceMethod ⟨"BeatBounds", "fine", "(I)I"⟩ ∈ zTab := mg2 (List.mem_of_getElem? (i := 23) rfl) rfl
theorem mv_1_1 : Cond.selects "BeatBounds" ⟨"BeatBounds", "fine", "(I)I"⟩ ⟨"BeatBounds", "fine", "(I)I"⟩ ∈ zTab := mp1 (q := (⟨"BeatBounds", "fine", "(I)I"⟩, 9)) (List.mem_of_getElem? (i := 1) rfl)
theorem mw_1_202 : Cond.fieldLink "BeatBounds" 78 "BeatBounds$Row" "there" "Z" ∈ zTab := mg1 (List.mem_of_getElem? (i := 202) rfl) rfl
theorem mw_2_29 : Cond.methodLink "BeatBounds" 82 ⟨"BeatBounds$Row", "holds", "(II)Z"⟩ ∈ zTab := mg2 (List.mem_of_getElem? (i := 29) rfl) rfl
theorem mw_2_30 : Cond.instanceMethod ⟨"BeatBounds$Row", "holds", "(II)Z"⟩ ∈ zTab := mg2 (List.mem_of_getElem? (i := 30) rfl) rfl
theorem mw_2_31 : Cond.selects "BeatBounds$Row" ⟨"BeatBounds$Row", "holds", "(II)Z"⟩ ⟨"BeatBounds$Row", "holds", "(II)Z"⟩ ∈ zTab := mg2 (List.mem_of_getElem? (i := 31) rfl) rfl
theorem mw_1_200 : Cond.fieldLink "BeatBounds" 86 "BeatBounds$Row" "items" "[I" ∈ zTab := mg1 (List.mem_of_getElem? (i := 200) rfl) rfl
theorem mw_2_33 : Cond.methodLink "BeatBounds" 90 ⟨"BeatBounds$Row", "cut", "(I)I"⟩ ∈ zTab := mg2 (List.mem_of_getElem? (i := 33) rfl) rfl
theorem mw_2_34 : Cond.instanceMethod ⟨"BeatBounds$Row", "cut", "(I)I"⟩ ∈ zTab := mg2 (List.mem_of_getElem? (i := 34) rfl) rfl
theorem mw_2_35 : Cond.selects "BeatBounds$Row" ⟨"BeatBounds$Row", "cut", "(I)I"⟩ ⟨"BeatBounds$Row", "cut", "(I)I"⟩ ∈ zTab := mg2 (List.mem_of_getElem? (i := 35) rfl) rfl
theorem mw_1_204 : Cond.fieldLink "BeatBounds" 93 "BeatBounds$Row" "lane" "I" ∈ zTab := mg1 (List.mem_of_getElem? (i := 204) rfl) rfl
theorem mw_2_41 : Cond.methodLink "BeatBounds" 96 ⟨"java/lang/System", "arraycopy", "(Ljava/lang/Object;ILjava/lang/Object;II)V"⟩ ∈ zTab := mg2 (List.mem_of_getElem? (i := 41) rfl) rfl
theorem mw_1_206 : Cond.fieldLink "BeatBounds" 102 "BeatBounds$Row" "size" "I" ∈ zTab := mg1 (List.mem_of_getElem? (i := 206) rfl) rfl
theorem mw_1_217 : Cond.fieldLink "BeatBounds" 18 "BeatBounds" "tape" "LBeatBounds$Tape;" ∈ zTab := mg1 (List.mem_of_getElem? (i := 217) rfl) rfl
theorem mw_2_52 : Cond.methodLink "BeatBounds" 105 ⟨"BeatBounds$Tape", "hasRoom", "()Z"⟩ ∈ zTab := mg2 (List.mem_of_getElem? (i := 52) rfl) rfl
theorem mw_2_56 : Cond.constant "BeatBounds" 109 (-1000003) ∈ zTab := mg2 (List.mem_of_getElem? (i := 56) rfl) rfl
theorem mw_2_57 : Cond.methodLink "BeatBounds" 110 ⟨"BeatBounds$Tape", "append", "(I)I"⟩ ∈ zTab := mg2 (List.mem_of_getElem? (i := 57) rfl) rfl
theorem mw_2_58 : Cond.instanceMethod ⟨"BeatBounds$Tape", "append", "(I)I"⟩ ∈ zTab := mg2 (List.mem_of_getElem? (i := 58) rfl) rfl
theorem mw_2_59 : Cond.selects "BeatBounds$Tape" ⟨"BeatBounds$Tape", "append", "(I)I"⟩ ⟨"BeatBounds$Tape", "append", "(I)I"⟩ ∈ zTab := mg2 (List.mem_of_getElem? (i := 59) rfl) rfl
theorem mw_1_219 : Cond.fieldLink "BeatBounds" 29 "BeatBounds" "trial" "LBeatBounds$Parish;" ∈ zTab := mg1 (List.mem_of_getElem? (i := 219) rfl) rfl
theorem mw_2_66 : Cond.methodLink "BeatBounds" 113 ⟨"BeatBounds$Parish", "clear", "()V"⟩ ∈ zTab := mg2 (List.mem_of_getElem? (i := 66) rfl) rfl
theorem mw_2_67 : Cond.instanceMethod ⟨"BeatBounds$Parish", "clear", "()V"⟩ ∈ zTab := mg2 (List.mem_of_getElem? (i := 67) rfl) rfl
theorem mw_2_68 : Cond.selects "BeatBounds$Parish" ⟨"BeatBounds$Parish", "clear", "()V"⟩ ⟨"BeatBounds$Parish", "clear", "()V"⟩ ∈ zTab := mg2 (List.mem_of_getElem? (i := 68) rfl) rfl
theorem mw_2_70 : Cond.methodLink "BeatBounds" 116 ⟨"BeatBounds$Tape", "readInto", "(LBeatBounds$Parish;)Z"⟩ ∈ zTab := mg2 (List.mem_of_getElem? (i := 70) rfl) rfl
theorem mw_2_71 : Cond.instanceMethod ⟨"BeatBounds$Tape", "readInto", "(LBeatBounds$Parish;)Z"⟩ ∈ zTab := mg2 (List.mem_of_getElem? (i := 71) rfl) rfl
theorem mw_2_72 : Cond.selects "BeatBounds$Tape" ⟨"BeatBounds$Tape", "readInto", "(LBeatBounds$Parish;)Z"⟩ ⟨"BeatBounds$Tape", "readInto", "(LBeatBounds$Parish;)Z"⟩ ∈ zTab := mg2 (List.mem_of_getElem? (i := 72) rfl) rfl
theorem mw_2_112 : Cond.constant "BeatBounds" 120 (-1000100) ∈ zTab := mg2 (List.mem_of_getElem? (i := 112) rfl) rfl
theorem mw_1_35 : Cond.fieldLink "BeatBounds" 121 "BeatBounds$Tape" "faultPlace" "I" ∈ zTab := mg1 (List.mem_of_getElem? (i := 35) rfl) rfl
theorem mw_1_218 : Cond.fieldLink "BeatBounds" 25 "BeatBounds" "now" "LBeatBounds$Parish;" ∈ zTab := mg1 (List.mem_of_getElem? (i := 218) rfl) rfl
theorem mw_2_113 : Cond.methodLink "BeatBounds" 124 ⟨"BeatBounds$Parish", "become", "(LBeatBounds$Parish;)V"⟩ ∈ zTab := mg2 (List.mem_of_getElem? (i := 113) rfl) rfl
theorem mw_2_114 : Cond.instanceMethod ⟨"BeatBounds$Parish", "become", "(LBeatBounds$Parish;)V"⟩ ∈ zTab := mg2 (List.mem_of_getElem? (i := 114) rfl) rfl
theorem mw_2_115 : Cond.selects "BeatBounds$Parish" ⟨"BeatBounds$Parish", "become", "(LBeatBounds$Parish;)V"⟩ ⟨"BeatBounds$Parish", "become", "(LBeatBounds$Parish;)V"⟩ ∈ zTab := mg2 (List.mem_of_getElem? (i := 115) rfl) rfl
theorem mw_1_221 : Cond.fieldLink "BeatBounds" 39 "BeatBounds" "acts" "LBeatBounds$Acts;" ∈ zTab := mg1 (List.mem_of_getElem? (i := 221) rfl) rfl
theorem mw_2_118 : Cond.methodLink "BeatBounds" 128 ⟨"BeatBounds$Acts", "forgetAll", "()V"⟩ ∈ zTab := mg2 (List.mem_of_getElem? (i := 118) rfl) rfl
theorem mw_2_119 : Cond.instanceMethod ⟨"BeatBounds$Acts", "forgetAll", "()V"⟩ ∈ zTab := mg2 (List.mem_of_getElem? (i := 119) rfl) rfl
theorem mw_2_120 : Cond.selects "BeatBounds$Acts" ⟨"BeatBounds$Acts", "forgetAll", "()V"⟩ ⟨"BeatBounds$Acts", "forgetAll", "()V"⟩ ∈ zTab := mg2 (List.mem_of_getElem? (i := 120) rfl) rfl
theorem mw_1_69 : Cond.fieldLink "BeatBounds" 131 "BeatBounds$Parish" "witnesses" "I" ∈ zTab := mg1 (List.mem_of_getElem? (i := 69) rfl) rfl
theorem mw_1_33 : Cond.fieldLink "BeatBounds" 134 "BeatBounds$Tape" "fault" "I" ∈ zTab := mg1 (List.mem_of_getElem? (i := 33) rfl) rfl
theorem mw_1_134 : Cond.fieldLink "BeatBounds" 137 "BeatBounds$Acts" "size" "I" ∈ zTab := mg1 (List.mem_of_getElem? (i := 134) rfl) rfl
theorem mw_2_130 : Cond.constant "BeatBounds" 138 (-1000002) ∈ zTab := mg2 (List.mem_of_getElem? (i := 130) rfl) rfl
theorem mw_2_131 : Cond.methodLink "BeatBounds" 139 ⟨"BeatBounds$Acts", "takeBack", "(LBeatBounds$Parish;)V"⟩ ∈ zTab := mg2 (List.mem_of_getElem? (i := 131) rfl) rfl
theorem mw_2_132 : Cond.instanceMethod ⟨"BeatBounds$Acts", "takeBack", "(LBeatBounds$Parish;)V"⟩ ∈ zTab := mg2 (List.mem_of_getElem? (i := 132) rfl) rfl
theorem mw_2_133 : Cond.selects "BeatBounds$Acts" ⟨"BeatBounds$Acts", "takeBack", "(LBeatBounds$Parish;)V"⟩ ⟨"BeatBounds$Acts", "takeBack", "(LBeatBounds$Parish;)V"⟩ ∈ zTab := mg2 (List.mem_of_getElem? (i := 133) rfl) rfl
theorem mw_2_147 : Cond.methodLink "BeatBounds" 142 ⟨"BeatBounds", "isStone", "(I)Z"⟩ ∈ zTab := mg2 (List.mem_of_getElem? (i := 147) rfl) rfl
theorem mw_2_149 : Cond.instanceMethod ⟨"BeatBounds", "isStone", "(I)Z"⟩ ∈ zTab := mg2 (List.mem_of_getElem? (i := 149) rfl) rfl
theorem mv_1_11 : Cond.selects "BeatBounds" ⟨"BeatBounds", "isStone", "(I)Z"⟩ ⟨"BeatBounds", "isStone", "(I)Z"⟩ ∈ zTab := mp1 (q := (⟨"BeatBounds", "isStone", "(I)Z"⟩, 9)) (List.mem_of_getElem? (i := 11) rfl)
theorem mw_2_151 : Cond.methodLink "BeatBounds" 145 ⟨"BeatBounds", "isPain", "(I)Z"⟩ ∈ zTab := mg2 (List.mem_of_getElem? (i := 151) rfl) rfl
theorem mw_2_152 : Cond.static ⟨"BeatBounds", "isPain", "(I)Z"⟩ ∈ zTab := mg2 (List.mem_of_getElem? (i := 152) rfl) rfl
theorem mw_2_154 : Cond.methodLink "BeatBounds" 148 ⟨"BeatBounds$Parish", "everybody", "()I"⟩ ∈ zTab := mg2 (List.mem_of_getElem? (i := 154) rfl) rfl
theorem mw_2_158 : Cond.methodLink "BeatBounds" 152 ⟨"BeatBounds$Acts", "keep", "(IILBeatBounds$Parish;)V"⟩ ∈ zTab := mg2 (List.mem_of_getElem? (i := 158) rfl) rfl
theorem mw_2_159 : Cond.instanceMethod ⟨"BeatBounds$Acts", "keep", "(IILBeatBounds$Parish;)V"⟩ ∈ zTab := mg2 (List.mem_of_getElem? (i := 159) rfl) rfl
theorem mw_2_160 : Cond.selects "BeatBounds$Acts" ⟨"BeatBounds$Acts", "keep", "(IILBeatBounds$Parish;)V"⟩ ⟨"BeatBounds$Acts", "keep", "(IILBeatBounds$Parish;)V"⟩ ∈ zTab := mg2 (List.mem_of_getElem? (i := 160) rfl) rfl
theorem mw_2_169 : Cond.methodLink "BeatBounds" 156 ⟨"BeatBounds$Parish", "bump", "(III)I"⟩ ∈ zTab := mg2 (List.mem_of_getElem? (i := 169) rfl) rfl
theorem mw_2_190 : Cond.methodLink "BeatBounds" 160 ⟨"BeatBounds", "isYard", "(I)Z"⟩ ∈ zTab := mg2 (List.mem_of_getElem? (i := 190) rfl) rfl
theorem mw_2_191 : Cond.static ⟨"BeatBounds", "isYard", "(I)Z"⟩ ∈ zTab := mg2 (List.mem_of_getElem? (i := 191) rfl) rfl
theorem mw_1_74 : Cond.fieldLink "BeatBounds" 163 "BeatBounds$Parish" "yards" "[I" ∈ zTab := mg1 (List.mem_of_getElem? (i := 74) rfl) rfl
theorem mw_2_197 : Cond.methodLink "BeatBounds" 166 ⟨"BeatBounds", "isWitness", "(I)Z"⟩ ∈ zTab := mg2 (List.mem_of_getElem? (i := 197) rfl) rfl
theorem mw_2_199 : Cond.instanceMethod ⟨"BeatBounds", "isWitness", "(I)Z"⟩ ∈ zTab := mg2 (List.mem_of_getElem? (i := 199) rfl) rfl
theorem mv_1_13 : Cond.selects "BeatBounds" ⟨"BeatBounds", "isWitness", "(I)Z"⟩ ⟨"BeatBounds", "isWitness", "(I)Z"⟩ ∈ zTab := mp1 (q := (⟨"BeatBounds", "isWitness", "(I)Z"⟩, 9)) (List.mem_of_getElem? (i := 13) rfl)
theorem mw_1_79 : Cond.fieldLink "BeatBounds" 169 "BeatBounds$Parish" "kinds" "[I" ∈ zTab := mg1 (List.mem_of_getElem? (i := 79) rfl) rfl
theorem mw_1_87 : Cond.fieldLink "BeatBounds" 172 "BeatBounds$Parish" "bribes" "[I" ∈ zTab := mg1 (List.mem_of_getElem? (i := 87) rfl) rfl
theorem mw_1_56 : Cond.fieldLink "BeatBounds" 175 "BeatBounds$Parish" "told" "Z" ∈ zTab := mg1 (List.mem_of_getElem? (i := 56) rfl) rfl
theorem mw_1_63 : Cond.fieldLink "BeatBounds" 178 "BeatBounds$Parish" "year" "I" ∈ zTab := mg1 (List.mem_of_getElem? (i := 63) rfl) rfl
theorem mw_2_205 : Cond.methodLink "BeatBounds" 181 ⟨"BeatBounds$Parish", "living", "()I"⟩ ∈ zTab := mg2 (List.mem_of_getElem? (i := 205) rfl) rfl
theorem mw_2_206 : Cond.instanceMethod ⟨"BeatBounds$Parish", "living", "()I"⟩ ∈ zTab := mg2 (List.mem_of_getElem? (i := 206) rfl) rfl
theorem mw_2_207 : Cond.selects "BeatBounds$Parish" ⟨"BeatBounds$Parish", "living", "()I"⟩ ⟨"BeatBounds$Parish", "living", "()I"⟩ ∈ zTab := mg2 (List.mem_of_getElem? (i := 207) rfl) rfl
theorem mw_2_209 : Cond.methodLink "BeatBounds" 184 ⟨"java/lang/Integer", "bitCount", "(I)I"⟩ ∈ zTab := mg2 (List.mem_of_getElem? (i := 209) rfl) rfl
theorem mw_2_219 : Cond.methodLink "BeatBounds" 189 ⟨"BeatBounds$Parish", "age", "(I)I"⟩ ∈ zTab := mg2 (List.mem_of_getElem? (i := 219) rfl) rfl
theorem mw_1_84 : Cond.fieldLink "BeatBounds" 192 "BeatBounds$Parish" "ends" "[I" ∈ zTab := mg1 (List.mem_of_getElem? (i := 84) rfl) rfl
theorem mw_2_220 : Cond.methodLink "BeatBounds" 195 ⟨"BeatBounds$Parish", "isAlive", "(I)Z"⟩ ∈ zTab := mg2 (List.mem_of_getElem? (i := 220) rfl) rfl
theorem mw_2_221 : Cond.methodLink "BeatBounds" 198 ⟨"BeatBounds$Parish", "stonesSwornBy", "(I)I"⟩ ∈ zTab := mg2 (List.mem_of_getElem? (i := 221) rfl) rfl
theorem mw_2_238 : Cond.methodLink "BeatBounds" 201 ⟨"BeatBounds$Parish", "oath", "(II)I"⟩ ∈ zTab := mg2 (List.mem_of_getElem? (i := 238) rfl) rfl
theorem mw_2_239 : Cond.methodLink "BeatBounds" 205 ⟨"BeatBounds$Parish", "placeOf", "(II)I"⟩ ∈ zTab := mg2 (List.mem_of_getElem? (i := 239) rfl) rfl
theorem mw_1_93 : Cond.fieldLink "BeatBounds" 208 "BeatBounds$Parish" "bumpPain" "[I" ∈ zTab := mg1 (List.mem_of_getElem? (i := 93) rfl) rfl
theorem mw_3_0 : Cond.constant "BeatBounds" 211 (-1000000) ∈ zTab := mg3 (List.mem_of_getElem? (i := 0) rfl) rfl
theorem mw_1_90 : Cond.fieldLink "BeatBounds" 212 "BeatBounds$Parish" "bumpYard" "[I" ∈ zTab := mg1 (List.mem_of_getElem? (i := 90) rfl) rfl
theorem mw_1_96 : Cond.fieldLink "BeatBounds" 215 "BeatBounds$Parish" "bumpYear" "[I" ∈ zTab := mg1 (List.mem_of_getElem? (i := 96) rfl) rfl
theorem mw_1_222 : Cond.fieldLink "BeatBounds" 46 "BeatBounds" "oaths" "LBeatBounds$Oaths;" ∈ zTab := mg1 (List.mem_of_getElem? (i := 222) rfl) rfl
theorem mw_3_9 : Cond.methodLink "BeatBounds" 218 ⟨"BeatBounds$Oaths", "gather", "(LBeatBounds$Parish;I)V"⟩ ∈ zTab := mg3 (List.mem_of_getElem? (i := 9) rfl) rfl
theorem mw_3_10 : Cond.instanceMethod ⟨"BeatBounds$Oaths", "gather", "(LBeatBounds$Parish;I)V"⟩ ∈ zTab := mg3 (List.mem_of_getElem? (i := 10) rfl) rfl
theorem mw_3_11 : Cond.selects "BeatBounds$Oaths" ⟨"BeatBounds$Oaths", "gather", "(LBeatBounds$Parish;I)V"⟩ ⟨"BeatBounds$Oaths", "gather", "(LBeatBounds$Parish;I)V"⟩ ∈ zTab := mg3 (List.mem_of_getElem? (i := 11) rfl) rfl
theorem mw_1_166 : Cond.fieldLink "BeatBounds" 222 "BeatBounds$Oaths" "many" "I" ∈ zTab := mg1 (List.mem_of_getElem? (i := 166) rfl) rfl
theorem mw_3_15 : Cond.methodLink "BeatBounds" 225 ⟨"BeatBounds$Parish", "swearersTo", "(I)I"⟩ ∈ zTab := mg3 (List.mem_of_getElem? (i := 15) rfl) rfl
theorem mw_3_16 : Cond.instanceMethod ⟨"BeatBounds$Parish", "swearersTo", "(I)I"⟩ ∈ zTab := mg3 (List.mem_of_getElem? (i := 16) rfl) rfl
theorem mw_3_17 : Cond.selects "BeatBounds$Parish" ⟨"BeatBounds$Parish", "swearersTo", "(I)I"⟩ ⟨"BeatBounds$Parish", "swearersTo", "(I)I"⟩ ∈ zTab := mg3 (List.mem_of_getElem? (i := 17) rfl) rfl
theorem mw_3_19 : Cond.methodLink "BeatBounds" 228 ⟨"BeatBounds$Oaths", "least", "()I"⟩ ∈ zTab := mg3 (List.mem_of_getElem? (i := 19) rfl) rfl
theorem mw_3_20 : Cond.instanceMethod ⟨"BeatBounds$Oaths", "least", "()I"⟩ ∈ zTab := mg3 (List.mem_of_getElem? (i := 20) rfl) rfl
theorem mw_3_21 : Cond.selects "BeatBounds$Oaths" ⟨"BeatBounds$Oaths", "least", "()I"⟩ ⟨"BeatBounds$Oaths", "least", "()I"⟩ ∈ zTab := mg3 (List.mem_of_getElem? (i := 21) rfl) rfl
theorem mw_3_24 : Cond.methodLink "BeatBounds" 231 ⟨"BeatBounds$Oaths", "greatest", "()I"⟩ ∈ zTab := mg3 (List.mem_of_getElem? (i := 24) rfl) rfl
theorem mw_3_25 : Cond.instanceMethod ⟨"BeatBounds$Oaths", "greatest", "()I"⟩ ∈ zTab := mg3 (List.mem_of_getElem? (i := 25) rfl) rfl
theorem mw_3_26 : Cond.selects "BeatBounds$Oaths" ⟨"BeatBounds$Oaths", "greatest", "()I"⟩ ⟨"BeatBounds$Oaths", "greatest", "()I"⟩ ∈ zTab := mg3 (List.mem_of_getElem? (i := 26) rfl) rfl
theorem mw_3_29 : Cond.methodLink "BeatBounds" 234 ⟨"BeatBounds$Oaths", "middle", "()I"⟩ ∈ zTab := mg3 (List.mem_of_getElem? (i := 29) rfl) rfl
theorem mw_3_30 : Cond.instanceMethod ⟨"BeatBounds$Oaths", "middle", "()I"⟩ ∈ zTab := mg3 (List.mem_of_getElem? (i := 30) rfl) rfl
theorem mw_3_31 : Cond.selects "BeatBounds$Oaths" ⟨"BeatBounds$Oaths", "middle", "()I"⟩ ⟨"BeatBounds$Oaths", "middle", "()I"⟩ ∈ zTab := mg3 (List.mem_of_getElem? (i := 31) rfl) rfl
theorem mw_3_41 : Cond.methodLink "BeatBounds" 237 ⟨"BeatBounds$Oaths", "ofOldest", "(LBeatBounds$Parish;)I"⟩ ∈ zTab := mg3 (List.mem_of_getElem? (i := 41) rfl) rfl
theorem mw_3_42 : Cond.instanceMethod ⟨"BeatBounds$Oaths", "ofOldest", "(LBeatBounds$Parish;)I"⟩ ∈ zTab := mg3 (List.mem_of_getElem? (i := 42) rfl) rfl
theorem mw_3_43 : Cond.selects "BeatBounds$Oaths" ⟨"BeatBounds$Oaths", "ofOldest", "(LBeatBounds$Parish;)I"⟩ ⟨"BeatBounds$Oaths", "ofOldest", "(LBeatBounds$Parish;)I"⟩ ∈ zTab := mg3 (List.mem_of_getElem? (i := 43) rfl) rfl
theorem mw_3_50 : Cond.methodLink "BeatBounds" 241 ⟨"BeatBounds", "isEither", "(I)Z"⟩ ∈ zTab := mg3 (List.mem_of_getElem? (i := 50) rfl) rfl
theorem mw_3_51 : Cond.static ⟨"BeatBounds", "isEither", "(I)Z"⟩ ∈ zTab := mg3 (List.mem_of_getElem? (i := 51) rfl) rfl
theorem mw_3_53 : Cond.methodLink "BeatBounds" 244 ⟨"BeatBounds$Oaths", "alike", "(I)I"⟩ ∈ zTab := mg3 (List.mem_of_getElem? (i := 53) rfl) rfl
theorem mw_3_54 : Cond.methodLink "BeatBounds" 247 ⟨"BeatBounds", "inLowestTerms", "(III)I"⟩ ∈ zTab := mg3 (List.mem_of_getElem? (i := 54) rfl) rfl
theorem mw_3_55 : Cond.static ⟨"BeatBounds", "inLowestTerms", "(III)I"⟩ ∈ zTab := mg3 (List.mem_of_getElem? (i := 55) rfl) rfl
theorem mw_3_61 : Cond.methodLink "BeatBounds" 250 ⟨"BeatBounds$Oaths", "likeliestYard", "()I"⟩ ∈ zTab := mg3 (List.mem_of_getElem? (i := 61) rfl) rfl
theorem mw_3_62 : Cond.instanceMethod ⟨"BeatBounds$Oaths", "likeliestYard", "()I"⟩ ∈ zTab := mg3 (List.mem_of_getElem? (i := 62) rfl) rfl
theorem mw_3_63 : Cond.selects "BeatBounds$Oaths" ⟨"BeatBounds$Oaths", "likeliestYard", "()I"⟩ ⟨"BeatBounds$Oaths", "likeliestYard", "()I"⟩ ∈ zTab := mg3 (List.mem_of_getElem? (i := 63) rfl) rfl
theorem mw_3_69 : Cond.methodLink "BeatBounds" 253 ⟨"BeatBounds", "isMany", "(I)Z"⟩ ∈ zTab := mg3 (List.mem_of_getElem? (i := 69) rfl) rfl
theorem mw_3_70 : Cond.static ⟨"BeatBounds", "isMany", "(I)Z"⟩ ∈ zTab := mg3 (List.mem_of_getElem? (i := 70) rfl) rfl
theorem mw_3_76 : Cond.methodLink "BeatBounds" 256 ⟨"BeatBounds", "isLater", "(I)Z"⟩ ∈ zTab := mg3 (List.mem_of_getElem? (i := 76) rfl) rfl
theorem mw_3_77 : Cond.static ⟨"BeatBounds", "isLater", "(I)Z"⟩ ∈ zTab := mg3 (List.mem_of_getElem? (i := 77) rfl) rfl
theorem mw_3_79 : Cond.methodLink "BeatBounds" 259 ⟨"BeatBounds$Parish", "takable", "()I"⟩ ∈ zTab := mg3 (List.mem_of_getElem? (i := 79) rfl) rfl
theorem mw_3_80 : Cond.instanceMethod ⟨"BeatBounds$Parish", "takable", "()I"⟩ ∈ zTab := mg3 (List.mem_of_getElem? (i := 80) rfl) rfl
theorem mw_3_81 : Cond.selects "BeatBounds$Parish" ⟨"BeatBounds$Parish", "takable", "()I"⟩ ⟨"BeatBounds$Parish", "takable", "()I"⟩ ∈ zTab := mg3 (List.mem_of_getElem? (i := 81) rfl) rfl
theorem mw_3_83 : Cond.methodLink "BeatBounds" 262 ⟨"BeatBounds", "swearersIfTaken", "(III)I"⟩ ∈ zTab := mg3 (List.mem_of_getElem? (i := 83) rfl) rfl
theorem mw_3_85 : Cond.instanceMethod ⟨"BeatBounds", "swearersIfTaken", "(III)I"⟩ ∈ zTab := mg3 (List.mem_of_getElem? (i := 85) rfl) rfl
theorem mv_1_14 : Cond.selects "BeatBounds" ⟨"BeatBounds", "swearersIfTaken", "(III)I"⟩ ⟨"BeatBounds", "swearersIfTaken", "(III)I"⟩ ∈ zTab := mp1 (q := (⟨"BeatBounds", "swearersIfTaken", "(III)I"⟩, 9)) (List.mem_of_getElem? (i := 14) rfl)
theorem mw_3_95 : Cond.methodLink "BeatBounds" 265 ⟨"BeatBounds$Oaths", "countOrders", "()V"⟩ ∈ zTab := mg3 (List.mem_of_getElem? (i := 95) rfl) rfl
theorem mw_3_96 : Cond.instanceMethod ⟨"BeatBounds$Oaths", "countOrders", "()V"⟩ ∈ zTab := mg3 (List.mem_of_getElem? (i := 96) rfl) rfl
theorem mw_3_97 : Cond.selects "BeatBounds$Oaths" ⟨"BeatBounds$Oaths", "countOrders", "()V"⟩ ⟨"BeatBounds$Oaths", "countOrders", "()V"⟩ ∈ zTab := mg3 (List.mem_of_getElem? (i := 97) rfl) rfl
theorem mw_3_110 : Cond.methodLink "BeatBounds" 268 ⟨"BeatBounds$Oaths", "orders", "()I"⟩ ∈ zTab := mg3 (List.mem_of_getElem? (i := 110) rfl) rfl
theorem mw_3_111 : Cond.instanceMethod ⟨"BeatBounds$Oaths", "orders", "()I"⟩ ∈ zTab := mg3 (List.mem_of_getElem? (i := 111) rfl) rfl
theorem mw_3_112 : Cond.selects "BeatBounds$Oaths" ⟨"BeatBounds$Oaths", "orders", "()I"⟩ ⟨"BeatBounds$Oaths", "orders", "()I"⟩ ∈ zTab := mg3 (List.mem_of_getElem? (i := 112) rfl) rfl
theorem mw_3_114 : Cond.methodLink "BeatBounds" 271 ⟨"BeatBounds$Oaths", "inFirstOrder", "(I)I"⟩ ∈ zTab := mg3 (List.mem_of_getElem? (i := 114) rfl) rfl
theorem mw_3_115 : Cond.instanceMethod ⟨"BeatBounds$Oaths", "inFirstOrder", "(I)I"⟩ ∈ zTab := mg3 (List.mem_of_getElem? (i := 115) rfl) rfl
theorem mw_3_116 : Cond.selects "BeatBounds$Oaths" ⟨"BeatBounds$Oaths", "inFirstOrder", "(I)I"⟩ ⟨"BeatBounds$Oaths", "inFirstOrder", "(I)I"⟩ ∈ zTab := mg3 (List.mem_of_getElem? (i := 116) rfl) rfl
theorem mw_3_126 : Cond.constantLong "BeatBounds" 274 (99) ∈ zTab := mg3 (List.mem_of_getElem? (i := 126) rfl) rfl
theorem mw_3_127 : Cond.constantLong "BeatBounds" 276 (-1) ∈ zTab := mg3 (List.mem_of_getElem? (i := 127) rfl) rfl
theorem mw_3_128 : Cond.methodLink "BeatBounds" 278 ⟨"java/lang/Math", "max", "(JJ)J"⟩ ∈ zTab := mg3 (List.mem_of_getElem? (i := 128) rfl) rfl
theorem mw_3_129 : Cond.static ⟨"java/lang/Math", "max", "(JJ)J"⟩ ∈ zTab := mg3 (List.mem_of_getElem? (i := 129) rfl) rfl
theorem mc_lmax : Cond.code Lib.MathLoose.max_long.x Lib.MathLoose.max_long.code 4 (some .long) ∈ zTab := mg3 (List.mem_of_getElem? (i := 130) (by decide +kernel)) rfl
theorem mw_3_131 : Cond.constantLong "BeatBounds" 284 (3) ∈ zTab := mg3 (List.mem_of_getElem? (i := 131) rfl) rfl
theorem mw_3_132 : Cond.methodLink "BeatBounds" 286 ⟨"java/lang/Math", "min", "(JJ)J"⟩ ∈ zTab := mg3 (List.mem_of_getElem? (i := 132) rfl) rfl
theorem mw_3_133 : Cond.static ⟨"java/lang/Math", "min", "(JJ)J"⟩ ∈ zTab := mg3 (List.mem_of_getElem? (i := 133) rfl) rfl
theorem mc_lmin : Cond.code Lib.MathLoose.min_long.x Lib.MathLoose.min_long.code 4 (some .long) ∈ zTab := mg3 (List.mem_of_getElem? (i := 134) (by decide +kernel)) rfl
theorem mw_3_139 : Cond.methodLink "BeatBounds" 289 ⟨"BeatBounds$Oaths", "raiseBribed", "(LBeatBounds$Parish;I)V"⟩ ∈ zTab := mg3 (List.mem_of_getElem? (i := 139) rfl) rfl
theorem mw_3_140 : Cond.instanceMethod ⟨"BeatBounds$Oaths", "raiseBribed", "(LBeatBounds$Parish;I)V"⟩ ∈ zTab := mg3 (List.mem_of_getElem? (i := 140) rfl) rfl
theorem mw_3_141 : Cond.selects "BeatBounds$Oaths" ⟨"BeatBounds$Oaths", "raiseBribed", "(LBeatBounds$Parish;I)V"⟩ ⟨"BeatBounds$Oaths", "raiseBribed", "(LBeatBounds$Parish;I)V"⟩ ∈ zTab := mg3 (List.mem_of_getElem? (i := 141) rfl) rfl
theorem mw_1_66 : Cond.fieldLink "BeatBounds" 292 "BeatBounds$Parish" "stones" "I" ∈ zTab := mg1 (List.mem_of_getElem? (i := 66) rfl) rfl
theorem mw_3_155 : Cond.constant "BeatBounds" 295 (999999) ∈ zTab := mg3 (List.mem_of_getElem? (i := 155) rfl) rfl
theorem mw_3_156 : Cond.constantLong "BeatBounds" 296 (16807) ∈ zTab := mg3 (List.mem_of_getElem? (i := 156) rfl) rfl
theorem mw_3_157 : Cond.constantLong "BeatBounds" 298 (2147483647) ∈ zTab := mg3 (List.mem_of_getElem? (i := 157) rfl) rfl
theorem mw_3_158 : Cond.methodLink "BeatBounds" 300 ⟨"BeatBounds$Parish", "passYearBy", "(J)V"⟩ ∈ zTab := mg3 (List.mem_of_getElem? (i := 158) rfl) rfl
theorem mw_3_159 : Cond.instanceMethod ⟨"BeatBounds$Parish", "passYearBy", "(J)V"⟩ ∈ zTab := mg3 (List.mem_of_getElem? (i := 159) rfl) rfl
theorem mw_3_160 : Cond.selects "BeatBounds$Parish" ⟨"BeatBounds$Parish", "passYearBy", "(J)V"⟩ ⟨"BeatBounds$Parish", "passYearBy", "(J)V"⟩ ∈ zTab := mg3 (List.mem_of_getElem? (i := 160) rfl) rfl
theorem mw_3_167 : Cond.methodLink "BeatBounds" 304 ⟨"BeatBounds$Parish", "stonesSworn", "()I"⟩ ∈ zTab := mg3 (List.mem_of_getElem? (i := 167) rfl) rfl
theorem mw_3_168 : Cond.instanceMethod ⟨"BeatBounds$Parish", "stonesSworn", "()I"⟩ ∈ zTab := mg3 (List.mem_of_getElem? (i := 168) rfl) rfl
theorem mw_3_169 : Cond.selects "BeatBounds$Parish" ⟨"BeatBounds$Parish", "stonesSworn", "()I"⟩ ⟨"BeatBounds$Parish", "stonesSworn", "()I"⟩ ∈ zTab := mg3 (List.mem_of_getElem? (i := 169) rfl) rfl
theorem mw_3_172 : Cond.methodLink "BeatBounds" 307 ⟨"BeatBounds$Parish", "yardsSworn", "()I"⟩ ∈ zTab := mg3 (List.mem_of_getElem? (i := 172) rfl) rfl
theorem mw_3_173 : Cond.instanceMethod ⟨"BeatBounds$Parish", "yardsSworn", "()I"⟩ ∈ zTab := mg3 (List.mem_of_getElem? (i := 173) rfl) rfl
theorem mw_3_174 : Cond.selects "BeatBounds$Parish" ⟨"BeatBounds$Parish", "yardsSworn", "()I"⟩ ⟨"BeatBounds$Parish", "yardsSworn", "()I"⟩ ∈ zTab := mg3 (List.mem_of_getElem? (i := 174) rfl) rfl
theorem mw_1_220 : Cond.fieldLink "BeatBounds" 32 "BeatBounds" "images" "[LBeatBounds$Parish;" ∈ zTab := mg1 (List.mem_of_getElem? (i := 220) rfl) rfl
theorem mw_3_192 : Cond.methodLink "BeatBounds" 310 ⟨"BeatBounds", "isOf", "(II)Z"⟩ ∈ zTab := mg3 (List.mem_of_getElem? (i := 192) rfl) rfl
theorem mw_3_193 : Cond.static ⟨"BeatBounds", "isOf", "(II)Z"⟩ ∈ zTab := mg3 (List.mem_of_getElem? (i := 193) rfl) rfl
theorem mw_1_223 : Cond.fieldLink "BeatBounds" 53 "BeatBounds" "asks" "LBeatBounds$Asks;" ∈ zTab := mg1 (List.mem_of_getElem? (i := 223) rfl) rfl
theorem mw_3_201 : Cond.methodLink "BeatBounds" 313 ⟨"BeatBounds$Asks", "answer", "(LBeatBounds$Parish;II)I"⟩ ∈ zTab := mg3 (List.mem_of_getElem? (i := 201) rfl) rfl
theorem mw_3_202 : Cond.instanceMethod ⟨"BeatBounds$Asks", "answer", "(LBeatBounds$Parish;II)I"⟩ ∈ zTab := mg3 (List.mem_of_getElem? (i := 202) rfl) rfl
theorem mw_3_203 : Cond.selects "BeatBounds$Asks" ⟨"BeatBounds$Asks", "answer", "(LBeatBounds$Parish;II)I"⟩ ⟨"BeatBounds$Asks", "answer", "(LBeatBounds$Parish;II)I"⟩ ∈ zTab := mg3 (List.mem_of_getElem? (i := 203) rfl) rfl
theorem mw_1_188 : Cond.fieldLink "BeatBounds" 317 "BeatBounds$Asks" "traced" "I" ∈ zTab := mg1 (List.mem_of_getElem? (i := 188) rfl) rfl
theorem mw_1_186 : Cond.fieldLink "BeatBounds" 320 "BeatBounds$Asks" "traces" "[I" ∈ zTab := mg1 (List.mem_of_getElem? (i := 186) rfl) rfl
theorem mw_3_236 : Cond.methodLink "BeatBounds" 323 ⟨"BeatBounds", "rowsThere", "()I"⟩ ∈ zTab := mg3 (List.mem_of_getElem? (i := 236) rfl) rfl
theorem mw_3_238 : Cond.instanceMethod ⟨"BeatBounds", "rowsThere", "()I"⟩ ∈ zTab := mg3 (List.mem_of_getElem? (i := 238) rfl) rfl
theorem mv_2_5 : Cond.selects "BeatBounds" ⟨"BeatBounds", "rowsThere", "()I"⟩ ⟨"BeatBounds", "rowsThere", "()I"⟩ ∈ zTab := mp2 (q := (⟨"BeatBounds", "rowsThere", "()I"⟩, 9)) (List.mem_of_getElem? (i := 5) rfl)
theorem mw_1_30 : Cond.fieldLink "BeatBounds" 326 "BeatBounds$Tape" "length" "I" ∈ zTab := mg1 (List.mem_of_getElem? (i := 30) rfl) rfl
theorem mw_1_224 : Cond.fieldLink "BeatBounds" 57 "BeatBounds" "status" "I" ∈ zTab := mg1 (List.mem_of_getElem? (i := 224) rfl) rfl
theorem mw_2_16 : Cond.constant "BeatBounds" 329 (-1000010) ∈ zTab := mg2 (List.mem_of_getElem? (i := 16) rfl) rfl
theorem mw_3_195 : Cond.fieldLink "BeatBounds" 330 "BeatBounds" "ABOVE" "[I" ∈ zTab := mg3 (List.mem_of_getElem? (i := 195) rfl) rfl
theorem mw_4_11 : Cond.fieldLink "BeatBoundsModel" 54 "BeatBoundsModel" "status" "I" ∈ zTab := mg4 (List.mem_of_getElem? (i := 11) rfl) rfl
theorem mw_4_104 : Cond.constant "BeatBoundsModel" 57 (-1000010) ∈ zTab := mg4 (List.mem_of_getElem? (i := 104) rfl) rfl
theorem mw_4_94 : Cond.constantLong "BeatBoundsModel" 58 (7) ∈ zTab := mg4 (List.mem_of_getElem? (i := 94) rfl) rfl
theorem mw_4_95 : Cond.methodLink "BeatBoundsModel" 60 ⟨"BeatBoundsModel", "in", "(JJJ)Z"⟩ ∈ zTab := mg4 (List.mem_of_getElem? (i := 95) rfl) rfl
theorem mw_4_96 : Cond.static ⟨"BeatBoundsModel", "in", "(JJJ)Z"⟩ ∈ zTab := mg4 (List.mem_of_getElem? (i := 96) rfl) rfl
theorem mw_4_10 : Cond.fieldLink "BeatBoundsModel" 50 "BeatBoundsModel" "thrown" "I" ∈ zTab := mg4 (List.mem_of_getElem? (i := 10) rfl) rfl
theorem mw_4_91 : Cond.methodLink "BeatBoundsModel" 64 ⟨"BeatBoundsModel", "isRow", "(I)Z"⟩ ∈ zTab := mg4 (List.mem_of_getElem? (i := 91) rfl) rfl
theorem mw_4_92 : Cond.static ⟨"BeatBoundsModel", "isRow", "(I)Z"⟩ ∈ zTab := mg4 (List.mem_of_getElem? (i := 92) rfl) rfl
theorem mw_4_98 : Cond.constantLong "BeatBoundsModel" 68 (2) ∈ zTab := mg4 (List.mem_of_getElem? (i := 98) rfl) rfl
theorem mw_4_99 : Cond.constant "BeatBoundsModel" 70 (-1000001) ∈ zTab := mg4 (List.mem_of_getElem? (i := 99) rfl) rfl
theorem mw_4_100 : Cond.methodLink "BeatBoundsModel" 71 ⟨"BeatBoundsModel", "finding", "(I)I"⟩ ∈ zTab := mg4 (List.mem_of_getElem? (i := 100) rfl) rfl
theorem mw_4_102 : Cond.instanceMethod ⟨"BeatBoundsModel", "finding", "(I)I"⟩ ∈ zTab := mg4 (List.mem_of_getElem? (i := 102) rfl) rfl
theorem mv_2_6 : Cond.selects "BeatBoundsModel" ⟨"BeatBoundsModel", "finding", "(I)I"⟩ ⟨"BeatBoundsModel", "finding", "(I)I"⟩ ∈ zTab := mp2 (q := (⟨"BeatBoundsModel", "finding", "(I)I"⟩, 25)) (List.mem_of_getElem? (i := 6) rfl)
theorem mw_4_12 : Cond.fieldLink "BeatBoundsModel" 7 "BeatBoundsModel" "lane" "[I" ∈ zTab := mg4 (List.mem_of_getElem? (i := 12) rfl) rfl
theorem mw_4_13 : Cond.fieldLink "BeatBoundsModel" 13 "BeatBoundsModel" "many" "[I" ∈ zTab := mg4 (List.mem_of_getElem? (i := 13) rfl) rfl
theorem mw_4_14 : Cond.fieldLink "BeatBoundsModel" 16 "BeatBoundsModel" "item" "[I" ∈ zTab := mg4 (List.mem_of_getElem? (i := 14) rfl) rfl
theorem mw_4_121 : Cond.constantLong "BeatBoundsModel" 75 (255) ∈ zTab := mg4 (List.mem_of_getElem? (i := 121) rfl) rfl
theorem mw_4_21 : Cond.fieldLink "BeatBoundsModel" 77 "BeatBoundsModel" "taped" "I" ∈ zTab := mg4 (List.mem_of_getElem? (i := 21) rfl) rfl
theorem mw_4_122 : Cond.constant "BeatBoundsModel" 80 (-1000003) ∈ zTab := mg4 (List.mem_of_getElem? (i := 122) rfl) rfl
theorem mw_4_20 : Cond.fieldLink "BeatBoundsModel" 31 "BeatBoundsModel" "tape" "[I" ∈ zTab := mg4 (List.mem_of_getElem? (i := 20) rfl) rfl
theorem mw_4_26 : Cond.fieldLink "BeatBoundsModel" 81 "BeatBoundsModel" "fault" "I" ∈ zTab := mg4 (List.mem_of_getElem? (i := 26) rfl) rfl
theorem mw_4_23 : Cond.fieldLink "BeatBoundsModel" 84 "BeatBoundsModel" "start" "I" ∈ zTab := mg4 (List.mem_of_getElem? (i := 23) rfl) rfl
theorem mw_4_27 : Cond.fieldLink "BeatBoundsModel" 87 "BeatBoundsModel" "faultAt" "I" ∈ zTab := mg4 (List.mem_of_getElem? (i := 27) rfl) rfl
theorem mw_4_22 : Cond.fieldLink "BeatBoundsModel" 90 "BeatBoundsModel" "cursor" "I" ∈ zTab := mg4 (List.mem_of_getElem? (i := 22) rfl) rfl
theorem mw_4_139 : Cond.constant "BeatBoundsModel" 93 (-1000000) ∈ zTab := mg4 (List.mem_of_getElem? (i := 139) rfl) rfl
theorem mw_4_25 : Cond.fieldLink "BeatBoundsModel" 94 "BeatBoundsModel" "value" "I" ∈ zTab := mg4 (List.mem_of_getElem? (i := 25) rfl) rfl
theorem mw_4_140 : Cond.constantLong "BeatBoundsModel" 97 (97) ∈ zTab := mg4 (List.mem_of_getElem? (i := 140) rfl) rfl
theorem mw_4_141 : Cond.constantLong "BeatBoundsModel" 99 (122) ∈ zTab := mg4 (List.mem_of_getElem? (i := 141) rfl) rfl
theorem mw_4_142 : Cond.constantLong "BeatBoundsModel" 101 (48) ∈ zTab := mg4 (List.mem_of_getElem? (i := 142) rfl) rfl
theorem mw_4_143 : Cond.constantLong "BeatBoundsModel" 103 (57) ∈ zTab := mg4 (List.mem_of_getElem? (i := 143) rfl) rfl
theorem mw_4_24 : Cond.fieldLink "BeatBoundsModel" 105 "BeatBoundsModel" "token" "I" ∈ zTab := mg4 (List.mem_of_getElem? (i := 24) rfl) rfl
theorem mw_4_152 : Cond.methodLink "BeatBoundsModel" 108 ⟨"BeatBoundsModel", "bad", "(I)V"⟩ ∈ zTab := mg4 (List.mem_of_getElem? (i := 152) rfl) rfl
theorem mw_4_154 : Cond.instanceMethod ⟨"BeatBoundsModel", "bad", "(I)V"⟩ ∈ zTab := mg4 (List.mem_of_getElem? (i := 154) rfl) rfl
theorem mv_2_11 : Cond.selects "BeatBoundsModel" ⟨"BeatBoundsModel", "bad", "(I)V"⟩ ⟨"BeatBoundsModel", "bad", "(I)V"⟩ ∈ zTab := mp2 (q := (⟨"BeatBoundsModel", "bad", "(I)V"⟩, 25)) (List.mem_of_getElem? (i := 11) rfl)
theorem mw_4_135 : Cond.methodLink "BeatBoundsModel" 112 ⟨"BeatBoundsModel", "nextToken", "()V"⟩ ∈ zTab := mg4 (List.mem_of_getElem? (i := 135) rfl) rfl
theorem mw_4_137 : Cond.instanceMethod ⟨"BeatBoundsModel", "nextToken", "()V"⟩ ∈ zTab := mg4 (List.mem_of_getElem? (i := 137) rfl) rfl
theorem mv_2_8 : Cond.selects "BeatBoundsModel" ⟨"BeatBoundsModel", "nextToken", "()V"⟩ ⟨"BeatBoundsModel", "nextToken", "()V"⟩ ∈ zTab := mp2 (q := (⟨"BeatBoundsModel", "nextToken", "()V"⟩, 25)) (List.mem_of_getElem? (i := 8) rfl)
theorem mw_4_148 : Cond.methodLink "BeatBoundsModel" 115 ⟨"BeatBoundsModel", "must", "(Z)V"⟩ ∈ zTab := mg4 (List.mem_of_getElem? (i := 148) rfl) rfl
theorem mw_4_150 : Cond.instanceMethod ⟨"BeatBoundsModel", "must", "(Z)V"⟩ ∈ zTab := mg4 (List.mem_of_getElem? (i := 150) rfl) rfl
theorem mv_2_10 : Cond.selects "BeatBoundsModel" ⟨"BeatBoundsModel", "must", "(Z)V"⟩ ⟨"BeatBoundsModel", "must", "(Z)V"⟩ ∈ zTab := mp2 (q := (⟨"BeatBoundsModel", "must", "(Z)V"⟩, 25)) (List.mem_of_getElem? (i := 10) rfl)
theorem mw_4_28 : Cond.fieldLink "BeatBoundsModel" 119 "BeatBoundsModel" "latest" "I" ∈ zTab := mg4 (List.mem_of_getElem? (i := 28) rfl) rfl
theorem mw_4_172 : Cond.methodLink "BeatBoundsModel" 122 ⟨"BeatBoundsModel", "kindBy", "(I)I"⟩ ∈ zTab := mg4 (List.mem_of_getElem? (i := 172) rfl) rfl
theorem mw_4_173 : Cond.static ⟨"BeatBoundsModel", "kindBy", "(I)I"⟩ ∈ zTab := mg4 (List.mem_of_getElem? (i := 173) rfl) rfl
theorem mw_4_16 : Cond.fieldLink "BeatBoundsModel" 22 "BeatBoundsModel" "fresh" "[I" ∈ zTab := mg4 (List.mem_of_getElem? (i := 16) rfl) rfl
theorem mw_4_156 : Cond.methodLink "BeatBoundsModel" 125 ⟨"BeatBoundsModel", "number", "(II)I"⟩ ∈ zTab := mg4 (List.mem_of_getElem? (i := 156) rfl) rfl
theorem mw_4_158 : Cond.instanceMethod ⟨"BeatBoundsModel", "number", "(II)I"⟩ ∈ zTab := mg4 (List.mem_of_getElem? (i := 158) rfl) rfl
theorem mv_2_12 : Cond.selects "BeatBoundsModel" ⟨"BeatBoundsModel", "number", "(II)I"⟩ ⟨"BeatBoundsModel", "number", "(II)I"⟩ ∈ zTab := mp2 (q := (⟨"BeatBoundsModel", "number", "(II)I"⟩, 25)) (List.mem_of_getElem? (i := 12) rfl)
theorem mw_4_160 : Cond.methodLink "BeatBoundsModel" 129 ⟨"BeatBoundsModel", "mustSign", "(I)V"⟩ ∈ zTab := mg4 (List.mem_of_getElem? (i := 160) rfl) rfl
theorem mw_4_162 : Cond.instanceMethod ⟨"BeatBoundsModel", "mustSign", "(I)V"⟩ ∈ zTab := mg4 (List.mem_of_getElem? (i := 162) rfl) rfl
theorem mv_2_13 : Cond.selects "BeatBoundsModel" ⟨"BeatBoundsModel", "mustSign", "(I)V"⟩ ⟨"BeatBoundsModel", "mustSign", "(I)V"⟩ ∈ zTab := mp2 (q := (⟨"BeatBoundsModel", "mustSign", "(I)V"⟩, 25)) (List.mem_of_getElem? (i := 13) rfl)
theorem mw_4_131 : Cond.methodLink "BeatBoundsModel" 132 ⟨"BeatBoundsModel", "begin", "()V"⟩ ∈ zTab := mg4 (List.mem_of_getElem? (i := 131) rfl) rfl
theorem mw_4_133 : Cond.instanceMethod ⟨"BeatBoundsModel", "begin", "()V"⟩ ∈ zTab := mg4 (List.mem_of_getElem? (i := 133) rfl) rfl
theorem mv_2_7 : Cond.selects "BeatBoundsModel" ⟨"BeatBoundsModel", "begin", "()V"⟩ ⟨"BeatBoundsModel", "begin", "()V"⟩ ∈ zTab := mp2 (q := (⟨"BeatBoundsModel", "begin", "()V"⟩, 25)) (List.mem_of_getElem? (i := 7) rfl)
theorem mw_4_144 : Cond.methodLink "BeatBoundsModel" 135 ⟨"BeatBoundsModel", "isLetter", "(I)Z"⟩ ∈ zTab := mg4 (List.mem_of_getElem? (i := 144) rfl) rfl
theorem mw_4_146 : Cond.instanceMethod ⟨"BeatBoundsModel", "isLetter", "(I)Z"⟩ ∈ zTab := mg4 (List.mem_of_getElem? (i := 146) rfl) rfl
theorem mv_2_9 : Cond.selects "BeatBoundsModel" ⟨"BeatBoundsModel", "isLetter", "(I)Z"⟩ ⟨"BeatBoundsModel", "isLetter", "(I)Z"⟩ ∈ zTab := mp2 (q := (⟨"BeatBoundsModel", "isLetter", "(I)Z"⟩, 25)) (List.mem_of_getElem? (i := 9) rfl)
theorem mw_4_164 : Cond.methodLink "BeatBoundsModel" 138 ⟨"BeatBoundsModel", "readStone", "()V"⟩ ∈ zTab := mg4 (List.mem_of_getElem? (i := 164) rfl) rfl
theorem mw_4_166 : Cond.instanceMethod ⟨"BeatBoundsModel", "readStone", "()V"⟩ ∈ zTab := mg4 (List.mem_of_getElem? (i := 166) rfl) rfl
theorem mv_2_14 : Cond.selects "BeatBoundsModel" ⟨"BeatBoundsModel", "readStone", "()V"⟩ ⟨"BeatBoundsModel", "readStone", "()V"⟩ ∈ zTab := mp2 (q := (⟨"BeatBoundsModel", "readStone", "()V"⟩, 25)) (List.mem_of_getElem? (i := 14) rfl)
theorem mw_4_168 : Cond.methodLink "BeatBoundsModel" 141 ⟨"BeatBoundsModel", "isSort", "()Z"⟩ ∈ zTab := mg4 (List.mem_of_getElem? (i := 168) rfl) rfl
theorem mw_4_170 : Cond.instanceMethod ⟨"BeatBoundsModel", "isSort", "()Z"⟩ ∈ zTab := mg4 (List.mem_of_getElem? (i := 170) rfl) rfl
theorem mv_2_15 : Cond.selects "BeatBoundsModel" ⟨"BeatBoundsModel", "isSort", "()Z"⟩ ⟨"BeatBoundsModel", "isSort", "()Z"⟩ ∈ zTab := mp2 (q := (⟨"BeatBoundsModel", "isSort", "()Z"⟩, 25)) (List.mem_of_getElem? (i := 15) rfl)
theorem mw_4_175 : Cond.methodLink "BeatBoundsModel" 145 ⟨"BeatBoundsModel", "readWitness", "()V"⟩ ∈ zTab := mg4 (List.mem_of_getElem? (i := 175) rfl) rfl
theorem mw_4_177 : Cond.instanceMethod ⟨"BeatBoundsModel", "readWitness", "()V"⟩ ∈ zTab := mg4 (List.mem_of_getElem? (i := 177) rfl) rfl
theorem mv_3_0 : Cond.selects "BeatBoundsModel" ⟨"BeatBoundsModel", "readWitness", "()V"⟩ ⟨"BeatBoundsModel", "readWitness", "()V"⟩ ∈ zTab := mp3 (q := (⟨"BeatBoundsModel", "readWitness", "()V"⟩, 25)) (List.mem_of_getElem? (i := 0) rfl)
theorem mw_4_179 : Cond.methodLink "BeatBoundsModel" 148 ⟨"BeatBoundsModel", "failed", "()Z"⟩ ∈ zTab := mg4 (List.mem_of_getElem? (i := 179) rfl) rfl
theorem mw_4_181 : Cond.instanceMethod ⟨"BeatBoundsModel", "failed", "()Z"⟩ ∈ zTab := mg4 (List.mem_of_getElem? (i := 181) rfl) rfl
theorem mv_3_1 : Cond.selects "BeatBoundsModel" ⟨"BeatBoundsModel", "failed", "()Z"⟩ ⟨"BeatBoundsModel", "failed", "()Z"⟩ ∈ zTab := mp3 (q := (⟨"BeatBoundsModel", "failed", "()Z"⟩, 25)) (List.mem_of_getElem? (i := 1) rfl)
theorem mw_4_183 : Cond.constant "BeatBoundsModel" 151 (-1000100) ∈ zTab := mg4 (List.mem_of_getElem? (i := 183) rfl) rfl
theorem mw_4_19 : Cond.fieldLink "BeatBoundsModel" 152 "BeatBoundsModel" "acts" "I" ∈ zTab := mg4 (List.mem_of_getElem? (i := 19) rfl) rfl
theorem mw_4_15 : Cond.fieldLink "BeatBoundsModel" 19 "BeatBoundsModel" "parish" "[I" ∈ zTab := mg4 (List.mem_of_getElem? (i := 15) rfl) rfl
theorem mw_4_213 : Cond.methodLink "BeatBoundsModel" 155 ⟨"BeatBoundsModel", "of", "([III)I"⟩ ∈ zTab := mg4 (List.mem_of_getElem? (i := 213) rfl) rfl
theorem mw_4_214 : Cond.static ⟨"BeatBoundsModel", "of", "([III)I"⟩ ∈ zTab := mg4 (List.mem_of_getElem? (i := 214) rfl) rfl
theorem mw_4_210 : Cond.methodLink "BeatBoundsModel" 159 ⟨"BeatBoundsModel", "isAlive", "([II)Z"⟩ ∈ zTab := mg4 (List.mem_of_getElem? (i := 210) rfl) rfl
theorem mw_4_211 : Cond.static ⟨"BeatBoundsModel", "isAlive", "([II)Z"⟩ ∈ zTab := mg4 (List.mem_of_getElem? (i := 211) rfl) rfl
theorem mw_4_216 : Cond.methodLink "BeatBoundsModel" 163 ⟨"BeatBoundsModel", "known", "(II)I"⟩ ∈ zTab := mg4 (List.mem_of_getElem? (i := 216) rfl) rfl
theorem mw_4_217 : Cond.static ⟨"BeatBoundsModel", "known", "(II)I"⟩ ∈ zTab := mg4 (List.mem_of_getElem? (i := 217) rfl) rfl
theorem mw_5_26 : Cond.methodLink "BeatBoundsModel" 166 ⟨"BeatBoundsModel", "says", "([III)I"⟩ ∈ zTab := mg5 (List.mem_of_getElem? (i := 26) rfl) rfl
theorem mw_5_27 : Cond.static ⟨"BeatBoundsModel", "says", "([III)I"⟩ ∈ zTab := mg5 (List.mem_of_getElem? (i := 27) rfl) rfl
theorem mw_4_204 : Cond.methodLink "BeatBoundsModel" 169 ⟨"BeatBoundsModel", "has", "(II)Z"⟩ ∈ zTab := mg4 (List.mem_of_getElem? (i := 204) rfl) rfl
theorem mw_4_205 : Cond.static ⟨"BeatBoundsModel", "has", "(II)Z"⟩ ∈ zTab := mg4 (List.mem_of_getElem? (i := 205) rfl) rfl
theorem mw_4_207 : Cond.methodLink "BeatBoundsModel" 173 ⟨"BeatBoundsModel", "isTaken", "([II)Z"⟩ ∈ zTab := mg4 (List.mem_of_getElem? (i := 207) rfl) rfl
theorem mw_4_208 : Cond.static ⟨"BeatBoundsModel", "isTaken", "([II)Z"⟩ ∈ zTab := mg4 (List.mem_of_getElem? (i := 208) rfl) rfl
theorem mw_4_17 : Cond.fieldLink "BeatBoundsModel" 25 "BeatBoundsModel" "then" "[I" ∈ zTab := mg4 (List.mem_of_getElem? (i := 17) rfl) rfl
theorem mw_4_18 : Cond.fieldLink "BeatBoundsModel" 28 "BeatBoundsModel" "was" "[I" ∈ zTab := mg4 (List.mem_of_getElem? (i := 18) rfl) rfl
theorem mw_4_188 : Cond.methodLink "BeatBoundsModel" 176 ⟨"BeatBoundsModel", "isStone", "(I)Z"⟩ ∈ zTab := mg4 (List.mem_of_getElem? (i := 188) rfl) rfl
theorem mw_4_190 : Cond.instanceMethod ⟨"BeatBoundsModel", "isStone", "(I)Z"⟩ ∈ zTab := mg4 (List.mem_of_getElem? (i := 190) rfl) rfl
theorem mv_3_2 : Cond.selects "BeatBoundsModel" ⟨"BeatBoundsModel", "isStone", "(I)Z"⟩ ⟨"BeatBoundsModel", "isStone", "(I)Z"⟩ ∈ zTab := mp3 (q := (⟨"BeatBoundsModel", "isStone", "(I)Z"⟩, 25)) (List.mem_of_getElem? (i := 2) rfl)
theorem mw_4_192 : Cond.methodLink "BeatBoundsModel" 179 ⟨"BeatBoundsModel", "everybody", "()I"⟩ ∈ zTab := mg4 (List.mem_of_getElem? (i := 192) rfl) rfl
theorem mw_4_194 : Cond.instanceMethod ⟨"BeatBoundsModel", "everybody", "()I"⟩ ∈ zTab := mg4 (List.mem_of_getElem? (i := 194) rfl) rfl
theorem mv_3_3 : Cond.selects "BeatBoundsModel" ⟨"BeatBoundsModel", "everybody", "()I"⟩ ⟨"BeatBoundsModel", "everybody", "()I"⟩ ∈ zTab := mp3 (q := (⟨"BeatBoundsModel", "everybody", "()I"⟩, 25)) (List.mem_of_getElem? (i := 3) rfl)
theorem mw_4_196 : Cond.constantLong "BeatBoundsModel" 183 (9) ∈ zTab := mg4 (List.mem_of_getElem? (i := 196) rfl) rfl
theorem mw_4_197 : Cond.methodLink "BeatBoundsModel" 185 ⟨"BeatBoundsModel", "keep", "()V"⟩ ∈ zTab := mg4 (List.mem_of_getElem? (i := 197) rfl) rfl
theorem mw_4_199 : Cond.instanceMethod ⟨"BeatBoundsModel", "keep", "()V"⟩ ∈ zTab := mg4 (List.mem_of_getElem? (i := 199) rfl) rfl
theorem mv_3_4 : Cond.selects "BeatBoundsModel" ⟨"BeatBoundsModel", "keep", "()V"⟩ ⟨"BeatBoundsModel", "keep", "()V"⟩ ∈ zTab := mp3 (q := (⟨"BeatBoundsModel", "keep", "()V"⟩, 25)) (List.mem_of_getElem? (i := 4) rfl)
theorem mw_4_201 : Cond.methodLink "BeatBoundsModel" 188 ⟨"BeatBoundsModel", "bump", "([IIII)I"⟩ ∈ zTab := mg4 (List.mem_of_getElem? (i := 201) rfl) rfl
theorem mw_4_202 : Cond.static ⟨"BeatBoundsModel", "bump", "([IIII)I"⟩ ∈ zTab := mg4 (List.mem_of_getElem? (i := 202) rfl) rfl
theorem mw_4_223 : Cond.constantLong "BeatBoundsModel" 192 (99) ∈ zTab := mg4 (List.mem_of_getElem? (i := 223) rfl) rfl
theorem mw_4_228 : Cond.methodLink "BeatBoundsModel" 194 ⟨"BeatBoundsModel", "isWitness", "(I)Z"⟩ ∈ zTab := mg4 (List.mem_of_getElem? (i := 228) rfl) rfl
theorem mw_4_230 : Cond.instanceMethod ⟨"BeatBoundsModel", "isWitness", "(I)Z"⟩ ∈ zTab := mg4 (List.mem_of_getElem? (i := 230) rfl) rfl
theorem mv_3_5 : Cond.selects "BeatBoundsModel" ⟨"BeatBoundsModel", "isWitness", "(I)Z"⟩ ⟨"BeatBoundsModel", "isWitness", "(I)Z"⟩ ∈ zTab := mp3 (q := (⟨"BeatBoundsModel", "isWitness", "(I)Z"⟩, 25)) (List.mem_of_getElem? (i := 5) rfl)
theorem mw_4_232 : Cond.constantLong "BeatBoundsModel" 197 (-20) ∈ zTab := mg4 (List.mem_of_getElem? (i := 232) rfl) rfl
theorem mw_4_233 : Cond.constantLong "BeatBoundsModel" 199 (20) ∈ zTab := mg4 (List.mem_of_getElem? (i := 233) rfl) rfl
theorem mw_4_234 : Cond.constant "BeatBoundsModel" 201 (-1000002) ∈ zTab := mg4 (List.mem_of_getElem? (i := 234) rfl) rfl
theorem mw_4_239 : Cond.methodLink "BeatBoundsModel" 202 ⟨"BeatBoundsModel", "isThere", "()Z"⟩ ∈ zTab := mg4 (List.mem_of_getElem? (i := 239) rfl) rfl
theorem mw_5_1 : Cond.instanceMethod ⟨"BeatBoundsModel", "isThere", "()Z"⟩ ∈ zTab := mg5 (List.mem_of_getElem? (i := 1) rfl) rfl
theorem mv_3_6 : Cond.selects "BeatBoundsModel" ⟨"BeatBoundsModel", "isThere", "()Z"⟩ ⟨"BeatBoundsModel", "isThere", "()Z"⟩ ∈ zTab := mp3 (q := (⟨"BeatBoundsModel", "isThere", "()Z"⟩, 25)) (List.mem_of_getElem? (i := 6) rfl)
theorem mw_5_3 : Cond.constantLong "BeatBoundsModel" 205 (24) ∈ zTab := mg5 (List.mem_of_getElem? (i := 3) rfl) rfl
theorem mw_5_4 : Cond.methodLink "BeatBoundsModel" 207 ⟨"BeatBoundsModel", "age", "([II)V"⟩ ∈ zTab := mg5 (List.mem_of_getElem? (i := 4) rfl) rfl
theorem mw_5_5 : Cond.static ⟨"BeatBoundsModel", "age", "([II)V"⟩ ∈ zTab := mg5 (List.mem_of_getElem? (i := 5) rfl) rfl
theorem mw_5_7 : Cond.methodLink "BeatBoundsModel" 211 ⟨"BeatBoundsModel", "alive", "()I"⟩ ∈ zTab := mg5 (List.mem_of_getElem? (i := 7) rfl) rfl
theorem mw_5_9 : Cond.instanceMethod ⟨"BeatBoundsModel", "alive", "()I"⟩ ∈ zTab := mg5 (List.mem_of_getElem? (i := 9) rfl) rfl
theorem mv_3_7 : Cond.selects "BeatBoundsModel" ⟨"BeatBoundsModel", "alive", "()I"⟩ ⟨"BeatBoundsModel", "alive", "()I"⟩ ∈ zTab := mp3 (q := (⟨"BeatBoundsModel", "alive", "()I"⟩, 25)) (List.mem_of_getElem? (i := 7) rfl)
theorem mw_5_11 : Cond.methodLink "BeatBoundsModel" 214 ⟨"BeatBoundsModel", "bits", "(I)I"⟩ ∈ zTab := mg5 (List.mem_of_getElem? (i := 11) rfl) rfl
theorem mw_5_12 : Cond.static ⟨"BeatBoundsModel", "bits", "(I)I"⟩ ∈ zTab := mg5 (List.mem_of_getElem? (i := 12) rfl) rfl
theorem mw_5_22 : Cond.methodLink "BeatBoundsModel" 217 ⟨"BeatBoundsModel", "stonesOf", "(I)I"⟩ ∈ zTab := mg5 (List.mem_of_getElem? (i := 22) rfl) rfl
theorem mw_5_24 : Cond.instanceMethod ⟨"BeatBoundsModel", "stonesOf", "(I)I"⟩ ∈ zTab := mg5 (List.mem_of_getElem? (i := 24) rfl) rfl
theorem mv_3_8 : Cond.selects "BeatBoundsModel" ⟨"BeatBoundsModel", "stonesOf", "(I)I"⟩ ⟨"BeatBoundsModel", "stonesOf", "(I)I"⟩ ∈ zTab := mp3 (q := (⟨"BeatBoundsModel", "stonesOf", "(I)I"⟩, 25)) (List.mem_of_getElem? (i := 8) rfl)
theorem mw_5_33 : Cond.constantLong "BeatBoundsModel" 220 (3) ∈ zTab := mg5 (List.mem_of_getElem? (i := 33) rfl) rfl
theorem mw_4_29 : Cond.fieldLink "BeatBoundsModel" 34 "BeatBoundsModel" "said" "[I" ∈ zTab := mg4 (List.mem_of_getElem? (i := 29) rfl) rfl
theorem mw_5_42 : Cond.constantLong "BeatBoundsModel" 222 (5) ∈ zTab := mg5 (List.mem_of_getElem? (i := 42) rfl) rfl
theorem mw_5_43 : Cond.methodLink "BeatBoundsModel" 224 ⟨"BeatBoundsModel", "whoSwears", "([II)I"⟩ ∈ zTab := mg5 (List.mem_of_getElem? (i := 43) rfl) rfl
theorem mw_5_44 : Cond.static ⟨"BeatBoundsModel", "whoSwears", "([II)I"⟩ ∈ zTab := mg5 (List.mem_of_getElem? (i := 44) rfl) rfl
theorem mw_5_46 : Cond.methodLink "BeatBoundsModel" 228 ⟨"BeatBoundsModel", "laySaid", "(II)I"⟩ ∈ zTab := mg5 (List.mem_of_getElem? (i := 46) rfl) rfl
theorem mw_5_48 : Cond.instanceMethod ⟨"BeatBoundsModel", "laySaid", "(II)I"⟩ ∈ zTab := mg5 (List.mem_of_getElem? (i := 48) rfl) rfl
theorem mv_3_9 : Cond.selects "BeatBoundsModel" ⟨"BeatBoundsModel", "laySaid", "(II)I"⟩ ⟨"BeatBoundsModel", "laySaid", "(II)I"⟩ ∈ zTab := mp3 (q := (⟨"BeatBoundsModel", "laySaid", "(II)I"⟩, 25)) (List.mem_of_getElem? (i := 9) rfl)
theorem mw_5_54 : Cond.methodLink "BeatBoundsModel" 231 ⟨"BeatBoundsModel", "sayYard", "(II)I"⟩ ∈ zTab := mg5 (List.mem_of_getElem? (i := 54) rfl) rfl
theorem mw_5_56 : Cond.instanceMethod ⟨"BeatBoundsModel", "sayYard", "(II)I"⟩ ∈ zTab := mg5 (List.mem_of_getElem? (i := 56) rfl) rfl
theorem mv_3_10 : Cond.selects "BeatBoundsModel" ⟨"BeatBoundsModel", "sayYard", "(II)I"⟩ ⟨"BeatBoundsModel", "sayYard", "(II)I"⟩ ∈ zTab := mp3 (q := (⟨"BeatBoundsModel", "sayYard", "(II)I"⟩, 25)) (List.mem_of_getElem? (i := 10) rfl)
theorem mw_5_66 : Cond.constantLong "BeatBoundsModel" 234 (6) ∈ zTab := mg5 (List.mem_of_getElem? (i := 66) rfl) rfl
theorem mw_5_67 : Cond.methodLink "BeatBoundsModel" 236 ⟨"BeatBoundsModel", "layThen", "()V"⟩ ∈ zTab := mg5 (List.mem_of_getElem? (i := 67) rfl) rfl
theorem mw_5_69 : Cond.instanceMethod ⟨"BeatBoundsModel", "layThen", "()V"⟩ ∈ zTab := mg5 (List.mem_of_getElem? (i := 69) rfl) rfl
theorem mv_3_11 : Cond.selects "BeatBoundsModel" ⟨"BeatBoundsModel", "layThen", "()V"⟩ ⟨"BeatBoundsModel", "layThen", "()V"⟩ ∈ zTab := mp3 (q := (⟨"BeatBoundsModel", "layThen", "()V"⟩, 25)) (List.mem_of_getElem? (i := 11) rfl)
theorem mw_5_75 : Cond.constantLong "BeatBoundsModel" 239 (60) ∈ zTab := mg5 (List.mem_of_getElem? (i := 75) rfl) rfl
theorem mw_5_76 : Cond.methodLink "BeatBoundsModel" 241 ⟨"BeatBoundsModel", "takeable", "()I"⟩ ∈ zTab := mg5 (List.mem_of_getElem? (i := 76) rfl) rfl
theorem mw_5_78 : Cond.instanceMethod ⟨"BeatBoundsModel", "takeable", "()I"⟩ ∈ zTab := mg5 (List.mem_of_getElem? (i := 78) rfl) rfl
theorem mv_3_12 : Cond.selects "BeatBoundsModel" ⟨"BeatBoundsModel", "takeable", "()I"⟩ ⟨"BeatBoundsModel", "takeable", "()I"⟩ ∈ zTab := mp3 (q := (⟨"BeatBoundsModel", "takeable", "()I"⟩, 25)) (List.mem_of_getElem? (i := 12) rfl)
theorem mw_5_80 : Cond.methodLink "BeatBoundsModel" 244 ⟨"BeatBoundsModel", "sworeLater", "(IIII)I"⟩ ∈ zTab := mg5 (List.mem_of_getElem? (i := 80) rfl) rfl
theorem mw_5_82 : Cond.instanceMethod ⟨"BeatBoundsModel", "sworeLater", "(IIII)I"⟩ ∈ zTab := mg5 (List.mem_of_getElem? (i := 82) rfl) rfl
theorem mv_3_13 : Cond.selects "BeatBoundsModel" ⟨"BeatBoundsModel", "sworeLater", "(IIII)I"⟩ ⟨"BeatBoundsModel", "sworeLater", "(IIII)I"⟩ ∈ zTab := mp3 (q := (⟨"BeatBoundsModel", "sworeLater", "(IIII)I"⟩, 25)) (List.mem_of_getElem? (i := 13) rfl)
theorem mw_5_97 : Cond.methodLink "BeatBoundsModel" 248 ⟨"BeatBoundsModel", "isNear", "(III)Z"⟩ ∈ zTab := mg5 (List.mem_of_getElem? (i := 97) rfl) rfl
theorem mw_5_99 : Cond.instanceMethod ⟨"BeatBoundsModel", "isNear", "(III)Z"⟩ ∈ zTab := mg5 (List.mem_of_getElem? (i := 99) rfl) rfl
theorem mv_3_15 : Cond.selects "BeatBoundsModel" ⟨"BeatBoundsModel", "isNear", "(III)Z"⟩ ⟨"BeatBoundsModel", "isNear", "(III)Z"⟩ ∈ zTab := mp3 (q := (⟨"BeatBoundsModel", "isNear", "(III)Z"⟩, 25)) (List.mem_of_getElem? (i := 15) rfl)
theorem mw_4_30 : Cond.fieldLink "BeatBoundsModel" 37 "BeatBoundsModel" "orders" "[I" ∈ zTab := mg4 (List.mem_of_getElem? (i := 30) rfl) rfl
theorem mw_5_92 : Cond.constantLong "BeatBoundsModel" 252 (-1) ∈ zTab := mg5 (List.mem_of_getElem? (i := 92) rfl) rfl
theorem mw_5_93 : Cond.methodLink "BeatBoundsModel" 254 ⟨"BeatBoundsModel", "follow", "(IIII)I"⟩ ∈ zTab := mg5 (List.mem_of_getElem? (i := 93) rfl) rfl
theorem mw_5_95 : Cond.instanceMethod ⟨"BeatBoundsModel", "follow", "(IIII)I"⟩ ∈ zTab := mg5 (List.mem_of_getElem? (i := 95) rfl) rfl
theorem mv_3_14 : Cond.selects "BeatBoundsModel" ⟨"BeatBoundsModel", "follow", "(IIII)I"⟩ ⟨"BeatBoundsModel", "follow", "(IIII)I"⟩ ∈ zTab := mp3 (q := (⟨"BeatBoundsModel", "follow", "(IIII)I"⟩, 25)) (List.mem_of_getElem? (i := 14) rfl)
theorem mw_5_105 : Cond.constantLong "BeatBoundsModel" 257 (-3) ∈ zTab := mg5 (List.mem_of_getElem? (i := 105) rfl) rfl
theorem mw_5_106 : Cond.constantLong "BeatBoundsModel" 259 (12) ∈ zTab := mg5 (List.mem_of_getElem? (i := 106) rfl) rfl
theorem mw_5_123 : Cond.constantLong "BeatBoundsModel" 261 (999999) ∈ zTab := mg5 (List.mem_of_getElem? (i := 123) rfl) rfl
theorem mw_5_124 : Cond.constantLong "BeatBoundsModel" 263 (16807) ∈ zTab := mg5 (List.mem_of_getElem? (i := 124) rfl) rfl
theorem mw_5_125 : Cond.constantLong "BeatBoundsModel" 265 (2147483647) ∈ zTab := mg5 (List.mem_of_getElem? (i := 125) rfl) rfl
theorem mw_4_32 : Cond.fieldLink "BeatBoundsModel" 44 "BeatBoundsModel" "kept" "[I" ∈ zTab := mg4 (List.mem_of_getElem? (i := 32) rfl) rfl
theorem mw_4_31 : Cond.fieldLink "BeatBoundsModel" 40 "BeatBoundsModel" "isKept" "[Z" ∈ zTab := mg4 (List.mem_of_getElem? (i := 31) rfl) rfl
theorem mw_5_142 : Cond.methodLink "BeatBoundsModel" 267 ⟨"BeatBoundsModel", "isOf", "(II)Z"⟩ ∈ zTab := mg5 (List.mem_of_getElem? (i := 142) rfl) rfl
theorem mw_5_143 : Cond.static ⟨"BeatBoundsModel", "isOf", "(II)Z"⟩ ∈ zTab := mg5 (List.mem_of_getElem? (i := 143) rfl) rfl
theorem mw_4_34 : Cond.fieldLink "BeatBoundsModel" 270 "BeatBoundsModel" "traced" "I" ∈ zTab := mg4 (List.mem_of_getElem? (i := 34) rfl) rfl
theorem mw_4_33 : Cond.fieldLink "BeatBoundsModel" 47 "BeatBoundsModel" "trace" "[I" ∈ zTab := mg4 (List.mem_of_getElem? (i := 33) rfl) rfl
theorem mw_5_157 : Cond.methodLink "BeatBoundsModel" 273 ⟨"BeatBoundsModel", "began", "(I)V"⟩ ∈ zTab := mg5 (List.mem_of_getElem? (i := 157) rfl) rfl
theorem mw_5_159 : Cond.instanceMethod ⟨"BeatBoundsModel", "began", "(I)V"⟩ ∈ zTab := mg5 (List.mem_of_getElem? (i := 159) rfl) rfl
theorem mv_4_2 : Cond.selects "BeatBoundsModel" ⟨"BeatBoundsModel", "began", "(I)V"⟩ ⟨"BeatBoundsModel", "began", "(I)V"⟩ ∈ zTab := mp4 (q := (⟨"BeatBoundsModel", "began", "(I)V"⟩, 25)) (List.mem_of_getElem? (i := 2) rfl)
theorem mw_5_161 : Cond.methodLink "BeatBoundsModel" 276 ⟨"BeatBoundsModel", "plainSize", "(I)I"⟩ ∈ zTab := mg5 (List.mem_of_getElem? (i := 161) rfl) rfl
theorem mw_5_163 : Cond.instanceMethod ⟨"BeatBoundsModel", "plainSize", "(I)I"⟩ ∈ zTab := mg5 (List.mem_of_getElem? (i := 163) rfl) rfl
theorem mv_4_3 : Cond.selects "BeatBoundsModel" ⟨"BeatBoundsModel", "plainSize", "(I)I"⟩ ⟨"BeatBoundsModel", "plainSize", "(I)I"⟩ ∈ zTab := mp4 (q := (⟨"BeatBoundsModel", "plainSize", "(I)I"⟩, 25)) (List.mem_of_getElem? (i := 3) rfl)
theorem mw_5_153 : Cond.methodLink "BeatBoundsModel" 279 ⟨"BeatBoundsModel", "twinSize", "(I)I"⟩ ∈ zTab := mg5 (List.mem_of_getElem? (i := 153) rfl) rfl
theorem mw_5_155 : Cond.instanceMethod ⟨"BeatBoundsModel", "twinSize", "(I)I"⟩ ∈ zTab := mg5 (List.mem_of_getElem? (i := 155) rfl) rfl
theorem mv_4_1 : Cond.selects "BeatBoundsModel" ⟨"BeatBoundsModel", "twinSize", "(I)I"⟩ ⟨"BeatBoundsModel", "twinSize", "(I)I"⟩ ∈ zTab := mp4 (q := (⟨"BeatBoundsModel", "twinSize", "(I)I"⟩, 25)) (List.mem_of_getElem? (i := 1) rfl)
theorem mw_5_165 : Cond.methodLink "BeatBoundsModel" 282 ⟨"BeatBoundsModel", "markOf", "(I)I"⟩ ∈ zTab := mg5 (List.mem_of_getElem? (i := 165) rfl) rfl
theorem mw_5_167 : Cond.instanceMethod ⟨"BeatBoundsModel", "markOf", "(I)I"⟩ ∈ zTab := mg5 (List.mem_of_getElem? (i := 167) rfl) rfl
theorem mv_4_4 : Cond.selects "BeatBoundsModel" ⟨"BeatBoundsModel", "markOf", "(I)I"⟩ ⟨"BeatBoundsModel", "markOf", "(I)I"⟩ ∈ zTab := mp4 (q := (⟨"BeatBoundsModel", "markOf", "(I)I"⟩, 25)) (List.mem_of_getElem? (i := 4) rfl)
theorem mw_5_149 : Cond.methodLink "BeatBoundsModel" 285 ⟨"BeatBoundsModel", "sizeOf", "(I)I"⟩ ∈ zTab := mg5 (List.mem_of_getElem? (i := 149) rfl) rfl
theorem mw_5_151 : Cond.instanceMethod ⟨"BeatBoundsModel", "sizeOf", "(I)I"⟩ ∈ zTab := mg5 (List.mem_of_getElem? (i := 151) rfl) rfl
theorem mv_4_0 : Cond.selects "BeatBoundsModel" ⟨"BeatBoundsModel", "sizeOf", "(I)I"⟩ ⟨"BeatBoundsModel", "sizeOf", "(I)I"⟩ ∈ zTab := mp4 (q := (⟨"BeatBoundsModel", "sizeOf", "(I)I"⟩, 25)) (List.mem_of_getElem? (i := 0) rfl)
theorem mw_2_212 : Cond.constant "java/lang/Integer" 265 (1431655765) ∈ zTab := mg2 (List.mem_of_getElem? (i := 212) rfl) rfl
theorem mw_2_213 : Cond.constant "java/lang/Integer" 266 (858993459) ∈ zTab := mg2 (List.mem_of_getElem? (i := 213) rfl) rfl
theorem mw_2_214 : Cond.constant "java/lang/Integer" 267 (252645135) ∈ zTab := mg2 (List.mem_of_getElem? (i := 214) rfl) rfl
def zMD : List zM := [
  (yL_law, cL_law, 4, (some .boolean)),
  (yX0_forgetAll, cX0_forgetAll, 1, none),
  (yX0_keep, cX0_keep, 4, none),
  (yX0_takeBack, cX0_takeBack, 3, none),
  (yX0_keepBumps, cX0_keepBumps, 5, none),
  (yX0_takeBumpsBack, cX0_takeBumpsBack, 5, none),
  (yX1_answer, cX1_answer, 4, (some .int)),
  (yX1_bodyOf, cX1_bodyOf, 5, (some .int)),
  (yX1_anew, cX1_anew, 5, (some .int)),
  (yX1_begin, cX1_begin, 6, (some .int)),
  (yX1_leave, cX1_leave, 2, none),
  (yX2_gather, cX2_gather, 5, none),
  (yX2_least, cX2_least, 3, (some .int)),
  (yX2_greatest, cX2_greatest, 3, (some .int)),
  (yX2_middle, cX2_middle, 4, (some .int)),
  (yX2_ofOldest, cX2_ofOldest, 5, (some .int)),
  (yX2_below, cX2_below, 4, (some .int)),
  (yX2_alike, cX2_alike, 4, (some .int)),
  (yX2_likeliestYard, cX2_likeliestYard, 5, (some .int)),
  (yX2_raiseBribed, cX2_raiseBribed, 7, none),
  (yX2_countOrders, cX2_countOrders, 4, none),
  (yX2_waysOn, cX2_waysOn, 5, (some .int)),
  (yX2_areNear, cX2_areNear, 3, (some .boolean)),
  (yX2_orders, cX2_orders, 3, (some .int)),
  (yX2_inFirstOrder, cX2_inFirstOrder, 5, (some .int)),
  (yX2_firstNext, cX2_firstNext, 5, (some .int)),
  (yX3_clear, cX3_clear, 2, none),
  (yX3_become, cX3_become, 2, none),
  (yX3_placeOf, cX3_placeOf, 3, (some .int)),
  (yX3_everybody, cX3_everybody, 1, (some .int)),
  (yX3_age, cX3_age, 2, (some .int)),
  (yX3_isAlive, cX3_isAlive, 2, (some .boolean)),
  (yX3_isTakable, cX3_isTakable, 2, (some .boolean)),
  (yX3_living, cX3_living, 3, (some .int)),
  (yX3_takable, cX3_takable, 3, (some .int)),
  (yX3_bump, cX3_bump, 7, (some .int)),
  (yX3_oath, cX3_oath, 8, (some .int)),
  (yX3_stonesSwornBy, cX3_stonesSwornBy, 4, (some .int)),
  (yX3_swearersTo, cX3_swearersTo, 4, (some .int)),
  (yX3_stonesSworn, cX3_stonesSworn, 3, (some .int)),
  (yX3_yardsSworn, cX3_yardsSworn, 5, (some .int)),
  (yX3_passYearBy, cX3_passYearBy, 4, none),
  (yX4_begin, cX4_begin, 4, none),
  (yX4_holds, cX4_holds, 3, (some .boolean)),
  (yX4_cut, cX4_cut, 2, (some .int)),
  (yX5_hasRoom, cX5_hasRoom, 1, (some .boolean)),
  (yX5_append, cX5_append, 2, (some .int)),
  (yX5_readInto, cX5_readInto, 3, (some .boolean)),
  (yX5_readLaw, cX5_readLaw, 2, (some .boolean)),
  (yX5_readStones, cX5_readStones, 4, (some .boolean)),
  (yX5_readWitnesses, cX5_readWitnesses, 4, (some .boolean)),
  (yX5_readLife, cX5_readLife, 5, (some .boolean)),
  (yX5_fails, cX5_fails, 2, (some .boolean)),
  (yX5_letterAt, cX5_letterAt, 2, (some .int)),
  (yX5_passes, cX5_passes, 2, (some .boolean)),
  (yX5_number, cX5_number, 5, (some .int)),
  (yX5_isFigure, cX5_isFigure, 1, (some .boolean)),
  (yX5_kindTold, cX5_kindTold, 1, (some .int)),
  (yX6_row, cX6_row, 4, (some .int)),
  (yX6_set, cX6_set, 5, (some .int)),
  (yX6_copy, cX6_copy, 8, (some .int)),
  (yX6_drop, cX6_drop, 3, (some .int)),
  (yX6_feed, cX6_feed, 2, (some .int)),
  (yX6_parish, cX6_parish, 1, (some .int)),
  (yX6_fault, cX6_fault, 1, (some .int)),
  (yX6_undo, cX6_undo, 1, (some .int)),
  (yX6_walk, cX6_walk, 4, (some .int)),
  (yX6_move, cX6_move, 4, (some .int)),
  (yX6_bribe, cX6_bribe, 4, (some .int)),
  (yX6_years, cX6_years, 3, (some .int)),
  (yX6_witness, cX6_witness, 3, (some .int)),
  (yX6_memory, cX6_memory, 5, (some .int)),
  (yX6_stone, cX6_stone, 2, (some .int)),
  (yX6_sworn, cX6_sworn, 3, (some .int)),
  (yX6_belief, cX6_belief, 5, (some .int)),
  (yX6_likeliest, cX6_likeliest, 2, (some .int)),
  (yX6_till, cX6_till, 4, (some .int)),
  (yX6_take, cX6_take, 13, (some .int)),
  (yX6_pain, cX6_pain, 5, (some .int)),
  (yX6_order, cX6_order, 3, (some .int)),
  (yX6_stood, cX6_stood, 13, (some .int)),
  (yX6_shift, cX6_shift, 4, (some .int)),
  (yX6_map, cX6_map, 3, (some .int)),
  (yX6_agree, cX6_agree, 4, (some .int)),
  (yX6_drawn, cX6_drawn, 7, (some .int)),
  (yX6_image, cX6_image, 2, (some .int)),
  (yX6_restore, cX6_restore, 2, (some .int)),
  (yX6_kind, cX6_kind, 2, (some .int)),
  (yX6_as, cX6_as, 3, (some .int)),
  (yX6_ask, cX6_ask, 3, (some .int)),
  (yX6_trace, cX6_trace, 2, (some .int)),
  (yX6_count, cX6_count, 2, (some .int)),
  (yX6_status, cX6_status, 1, (some .int)),
  (yX6_finding, cX6_finding, 2, (some .int)),
  (yX6_fine, cX6_fine, 2, (some .int)),
  (yX6_rowsThere, cX6_rowsThere, 3, (some .int)),
  (yX6_swearersIfTaken, cX6_swearersIfTaken, 4, (some .int)),
  (yX6_isStone, cX6_isStone, 2, (some .boolean)),
  (yX6_isWitness, cX6_isWitness, 2, (some .boolean)),
  (yX6_isRow, cX6_isRow, 1, (some .boolean)),
  (yX6_isYard, cX6_isYard, 1, (some .boolean)),
  (yX6_isPain, cX6_isPain, 1, (some .boolean)),
  (yX6_isMany, cX6_isMany, 1, (some .boolean)),
  (yX6_isLater, cX6_isLater, 1, (some .boolean)),
  (yX6_isEither, cX6_isEither, 1, (some .boolean)),
  (yX6_inLowestTerms, cX6_inLowestTerms, 4, (some .int)),
  (yX6_isOf, cX6_isOf, 4, (some .boolean)),
  (yX7_in, cX7_in, 6, (some .boolean)),
  (yX7_finding, cX7_finding, 2, (some .int)),
  (yX7_isRow, cX7_isRow, 1, (some .boolean)),
  (yX7_row, cX7_row, 5, (some .int)),
  (yX7_set, cX7_set, 4, (some .int)),
  (yX7_copy, cX7_copy, 9, (some .int)),
  (yX7_drop, cX7_drop, 2, (some .int)),
  (yX7_feed, cX7_feed, 2, (some .int)),
  (yX7_bad, cX7_bad, 2, none),
  (yX7_nextToken, cX7_nextToken, 1, none),
  (yX7_must, cX7_must, 2, none),
  (yX7_isLetter, cX7_isLetter, 2, (some .boolean)),
  (yX7_number, cX7_number, 4, (some .int)),
  (yX7_mustSign, cX7_mustSign, 2, none),
  (yX7_begin, cX7_begin, 1, none),
  (yX7_failed, cX7_failed, 1, (some .boolean)),
  (yX7_fault, cX7_fault, 1, (some .int)),
  (yX7_kindBy, cX7_kindBy, 1, (some .int)),
  (yX7_isSort, cX7_isSort, 1, (some .boolean)),
  (yX7_readStone, cX7_readStone, 2, none),
  (yX7_readWitness, cX7_readWitness, 5, none),
  (yX7_parish, cX7_parish, 2, (some .int)),
  (yX7_isThere, cX7_isThere, 1, (some .boolean)),
  (yX7_isStone, cX7_isStone, 2, (some .boolean)),
  (yX7_isWitness, cX7_isWitness, 2, (some .boolean)),
  (yX7_everybody, cX7_everybody, 1, (some .int)),
  (yX7_bits, cX7_bits, 3, (some .int)),
  (yX7_has, cX7_has, 2, (some .boolean)),
  (yX7_of, cX7_of, 3, (some .int)),
  (yX7_known, cX7_known, 2, (some .int)),
  (yX7_isAlive, cX7_isAlive, 2, (some .boolean)),
  (yX7_isTaken, cX7_isTaken, 2, (some .boolean)),
  (yX7_says, cX7_says, 8, (some .int)),
  (yX7_whoSwears, cX7_whoSwears, 4, (some .int)),
  (yX7_bump, cX7_bump, 7, (some .int)),
  (yX7_age, cX7_age, 3, none),
  (yX7_layThen, cX7_layThen, 2, none),
  (yX7_keep, cX7_keep, 2, none),
  (yX7_walk, cX7_walk, 4, (some .int)),
  (yX7_move, cX7_move, 4, (some .int)),
  (yX7_bribe, cX7_bribe, 4, (some .int)),
  (yX7_alive, cX7_alive, 3, (some .int)),
  (yX7_years, cX7_years, 3, (some .int)),
  (yX7_undo, cX7_undo, 2, (some .int)),
  (yX7_stonesOf, cX7_stonesOf, 4, (some .int)),
  (yX7_witness, cX7_witness, 3, (some .int)),
  (yX7_memory, cX7_memory, 4, (some .int)),
  (yX7_stone, cX7_stone, 2, (some .int)),
  (yX7_laySaid, cX7_laySaid, 7, (some .int)),
  (yX7_sworn, cX7_sworn, 7, (some .int)),
  (yX7_sayYard, cX7_sayYard, 5, (some .int)),
  (yX7_belief, cX7_belief, 9, (some .int)),
  (yX7_likeliest, cX7_likeliest, 6, (some .int)),
  (yX7_till, cX7_till, 4, (some .int)),
  (yX7_sworeLater, cX7_sworeLater, 6, (some .int)),
  (yX7_takeable, cX7_takeable, 3, (some .int)),
  (yX7_take, cX7_take, 9, (some .int)),
  (yX7_pain, cX7_pain, 5, (some .int)),
  (yX7_isNear, cX7_isNear, 5, (some .boolean)),
  (yX7_follow, cX7_follow, 7, (some .int)),
  (yX7_order, cX7_order, 9, (some .int)),
  (yX7_stood, cX7_stood, 10, (some .int)),
  (yX7_shift, cX7_shift, 10, (some .int)),
  (yX7_map, cX7_map, 3, (some .int)),
  (yX7_agree, cX7_agree, 5, (some .int)),
  (yX7_drawn, cX7_drawn, 11, (some .int)),
  (yX7_image, cX7_image, 3, (some .int)),
  (yX7_restore, cX7_restore, 3, (some .int)),
  (yX7_isOf, cX7_isOf, 2, (some .boolean)),
  (yX7_kind, cX7_kind, 2, (some .int)),
  (yX7_as, cX7_as, 3, (some .int)),
  (yX7_began, cX7_began, 2, none),
  (yX7_plainSize, cX7_plainSize, 2, (some .int)),
  (yX7_twinSize, cX7_twinSize, 4, (some .int)),
  (yX7_markOf, cX7_markOf, 4, (some .int)),
  (yX7_sizeOf, cX7_sizeOf, 4, (some .int)),
  (yX7_ask, cX7_ask, 3, (some .int)),
  (yX7_trace, cX7_trace, 2, (some .int)),
  (yX7_count, cX7_count, 4, (some .int)),
  (yX7_status, cX7_status, 1, (some .int)),
  (yJ6_bitCount_0f7a4, cJ6_bitCount_0f7a4, 1, (some .int))]
theorem md_L_law : zMD[0]? = some (yL_law, cL_law, 4, (some .boolean)) := rfl
theorem md_X0_forgetAll : zMD[1]? = some (yX0_forgetAll, cX0_forgetAll, 1, none) := rfl
theorem mok_X0_forgetAll : zMok (yX0_forgetAll, cX0_forgetAll, 1, none) 0 := ⟨mw_2_121, mw_1_4, by decide +kernel, by decide +kernel, by decide +kernel, by decide⟩
theorem md_X0_keep : zMD[2]? = some (yX0_keep, cX0_keep, 4, none) := rfl
theorem mok_X0_keep : zMok (yX0_keep, cX0_keep, 4, none) 3 := ⟨mw_2_161, mw_1_4, by decide +kernel, by decide +kernel, by decide +kernel, by decide⟩
theorem md_X0_takeBack : zMD[3]? = some (yX0_takeBack, cX0_takeBack, 3, none) := rfl
theorem mok_X0_takeBack : zMok (yX0_takeBack, cX0_takeBack, 3, none) 1 := ⟨mw_2_134, mw_1_4, by decide +kernel, by decide +kernel, by decide +kernel, by decide⟩
theorem md_X0_keepBumps : zMD[4]? = some (yX0_keepBumps, cX0_keepBumps, 5, none) := rfl
theorem mok_X0_keepBumps : zMok (yX0_keepBumps, cX0_keepBumps, 5, none) 2 := ⟨mw_2_165, mw_1_4, by decide +kernel, by decide +kernel, by decide +kernel, by decide⟩
theorem md_X0_takeBumpsBack : zMD[5]? = some (yX0_takeBumpsBack, cX0_takeBumpsBack, 5, none) := rfl
theorem mok_X0_takeBumpsBack : zMok (yX0_takeBumpsBack, cX0_takeBumpsBack, 5, none) 2 := ⟨mw_2_138, mw_1_4, by decide +kernel, by decide +kernel, by decide +kernel, by decide⟩
theorem md_X1_answer : zMD[6]? = some (yX1_answer, cX1_answer, 4, (some .int)) := rfl
theorem mok_X1_answer : zMok (yX1_answer, cX1_answer, 4, (some .int)) 3 := ⟨mw_3_204, mw_1_6, by decide +kernel, by decide +kernel, by decide +kernel, by decide⟩
theorem md_X1_bodyOf : zMD[7]? = some (yX1_bodyOf, cX1_bodyOf, 5, (some .int)) := rfl
theorem mok_X1_bodyOf : zMok (yX1_bodyOf, cX1_bodyOf, 5, (some .int)) 2 := ⟨mw_3_207, mw_1_6, by decide +kernel, by decide +kernel, by decide +kernel, by decide⟩
theorem md_X1_anew : zMD[8]? = some (yX1_anew, cX1_anew, 5, (some .int)) := rfl
theorem mok_X1_anew : zMok (yX1_anew, cX1_anew, 5, (some .int)) 4 := ⟨mw_3_226, mw_1_6, by decide +kernel, by decide +kernel, by decide +kernel, by decide⟩
theorem md_X1_begin : zMD[9]? = some (yX1_begin, cX1_begin, 6, (some .int)) := rfl
theorem mok_X1_begin : zMok (yX1_begin, cX1_begin, 6, (some .int)) 4 := ⟨mw_3_216, mw_1_6, by decide +kernel, by decide +kernel, by decide +kernel, by decide⟩
theorem md_X1_leave : zMD[10]? = some (yX1_leave, cX1_leave, 2, none) := rfl
theorem mok_X1_leave : zMok (yX1_leave, cX1_leave, 2, none) 1 := ⟨mw_3_220, mw_1_6, by decide +kernel, by decide +kernel, by decide +kernel, by decide⟩
theorem md_X2_gather : zMD[11]? = some (yX2_gather, cX2_gather, 5, none) := rfl
theorem mok_X2_gather : zMok (yX2_gather, cX2_gather, 5, none) 2 := ⟨mw_3_12, mw_1_5, by decide +kernel, by decide +kernel, by decide +kernel, by decide⟩
theorem md_X2_least : zMD[12]? = some (yX2_least, cX2_least, 3, (some .int)) := rfl
theorem mok_X2_least : zMok (yX2_least, cX2_least, 3, (some .int)) 0 := ⟨mw_3_22, mw_1_5, by decide +kernel, by decide +kernel, by decide +kernel, by decide⟩
theorem md_X2_greatest : zMD[13]? = some (yX2_greatest, cX2_greatest, 3, (some .int)) := rfl
theorem mok_X2_greatest : zMok (yX2_greatest, cX2_greatest, 3, (some .int)) 0 := ⟨mw_3_27, mw_1_5, by decide +kernel, by decide +kernel, by decide +kernel, by decide⟩
theorem md_X2_middle : zMD[14]? = some (yX2_middle, cX2_middle, 4, (some .int)) := rfl
theorem mok_X2_middle : zMok (yX2_middle, cX2_middle, 4, (some .int)) 0 := ⟨mw_3_32, mw_1_5, by decide +kernel, by decide +kernel, by decide +kernel, by decide⟩
theorem md_X2_ofOldest : zMD[15]? = some (yX2_ofOldest, cX2_ofOldest, 5, (some .int)) := rfl
theorem mok_X2_ofOldest : zMok (yX2_ofOldest, cX2_ofOldest, 5, (some .int)) 1 := ⟨mw_3_44, mw_1_5, by decide +kernel, by decide +kernel, by decide +kernel, by decide⟩
theorem md_X2_below : zMD[16]? = some (yX2_below, cX2_below, 4, (some .int)) := rfl
theorem mok_X2_below : zMok (yX2_below, cX2_below, 4, (some .int)) 1 := ⟨mw_3_36, mw_1_5, by decide +kernel, by decide +kernel, by decide +kernel, by decide⟩
theorem md_X2_alike : zMD[17]? = some (yX2_alike, cX2_alike, 4, (some .int)) := rfl
theorem mok_X2_alike : zMok (yX2_alike, cX2_alike, 4, (some .int)) 1 := ⟨mw_3_40, mw_1_5, by decide +kernel, by decide +kernel, by decide +kernel, by decide⟩
theorem md_X2_likeliestYard : zMD[18]? = some (yX2_likeliestYard, cX2_likeliestYard, 5, (some .int)) := rfl
theorem mok_X2_likeliestYard : zMok (yX2_likeliestYard, cX2_likeliestYard, 5, (some .int)) 0 := ⟨mw_3_64, mw_1_5, by decide +kernel, by decide +kernel, by decide +kernel, by decide⟩
theorem md_X2_raiseBribed : zMD[19]? = some (yX2_raiseBribed, cX2_raiseBribed, 7, none) := rfl
theorem mok_X2_raiseBribed : zMok (yX2_raiseBribed, cX2_raiseBribed, 7, none) 2 := ⟨mw_3_142, mw_1_5, by decide +kernel, by decide +kernel, by decide +kernel, by decide⟩
theorem md_X2_countOrders : zMD[20]? = some (yX2_countOrders, cX2_countOrders, 4, none) := rfl
theorem mok_X2_countOrders : zMok (yX2_countOrders, cX2_countOrders, 4, none) 0 := ⟨mw_3_98, mw_1_5, by decide +kernel, by decide +kernel, by decide +kernel, by decide⟩
theorem md_X2_waysOn : zMD[21]? = some (yX2_waysOn, cX2_waysOn, 5, (some .int)) := rfl
theorem mok_X2_waysOn : zMok (yX2_waysOn, cX2_waysOn, 5, (some .int)) 2 := ⟨mw_3_102, mw_1_5, by decide +kernel, by decide +kernel, by decide +kernel, by decide⟩
theorem md_X2_areNear : zMD[22]? = some (yX2_areNear, cX2_areNear, 3, (some .boolean)) := rfl
theorem mok_X2_areNear : zMok (yX2_areNear, cX2_areNear, 3, (some .boolean)) 2 := ⟨mw_3_106, mw_1_5, by decide +kernel, by decide +kernel, by decide +kernel, by decide⟩
theorem md_X2_orders : zMD[23]? = some (yX2_orders, cX2_orders, 3, (some .int)) := rfl
theorem mok_X2_orders : zMok (yX2_orders, cX2_orders, 3, (some .int)) 0 := ⟨mw_3_113, mw_1_5, by decide +kernel, by decide +kernel, by decide +kernel, by decide⟩
theorem md_X2_inFirstOrder : zMD[24]? = some (yX2_inFirstOrder, cX2_inFirstOrder, 5, (some .int)) := rfl
theorem mok_X2_inFirstOrder : zMok (yX2_inFirstOrder, cX2_inFirstOrder, 5, (some .int)) 1 := ⟨mw_3_117, mw_1_5, by decide +kernel, by decide +kernel, by decide +kernel, by decide⟩
theorem md_X2_firstNext : zMD[25]? = some (yX2_firstNext, cX2_firstNext, 5, (some .int)) := rfl
theorem mok_X2_firstNext : zMok (yX2_firstNext, cX2_firstNext, 5, (some .int)) 2 := ⟨mw_3_121, mw_1_5, by decide +kernel, by decide +kernel, by decide +kernel, by decide⟩
theorem md_X3_clear : zMD[26]? = some (yX3_clear, cX3_clear, 2, none) := rfl
theorem mok_X3_clear : zMok (yX3_clear, cX3_clear, 2, none) 0 := ⟨mw_2_69, mw_1_3, by decide +kernel, by decide +kernel, by decide +kernel, by decide⟩
theorem md_X3_become : zMD[27]? = some (yX3_become, cX3_become, 2, none) := rfl
theorem mok_X3_become : zMok (yX3_become, cX3_become, 2, none) 1 := ⟨mw_2_116, mw_1_3, by decide +kernel, by decide +kernel, by decide +kernel, by decide⟩
theorem md_X3_placeOf : zMD[28]? = some (yX3_placeOf, cX3_placeOf, 3, (some .int)) := rfl
theorem mok_X3_placeOf : zMok (yX3_placeOf, cX3_placeOf, 3, (some .int)) 2 := ⟨mw_2_142, mw_1_3, by decide +kernel, by decide +kernel, by decide +kernel, by decide⟩
theorem md_X3_everybody : zMD[29]? = some (yX3_everybody, cX3_everybody, 1, (some .int)) := rfl
theorem mok_X3_everybody : zMok (yX3_everybody, cX3_everybody, 1, (some .int)) 0 := ⟨mw_2_157, mw_1_3, by decide +kernel, by decide +kernel, by decide +kernel, by decide⟩
theorem md_X3_age : zMD[30]? = some (yX3_age, cX3_age, 2, (some .int)) := rfl
theorem mok_X3_age : zMok (yX3_age, cX3_age, 2, (some .int)) 1 := ⟨mw_2_184, mw_1_3, by decide +kernel, by decide +kernel, by decide +kernel, by decide⟩
theorem md_X3_isAlive : zMD[31]? = some (yX3_isAlive, cX3_isAlive, 2, (some .boolean)) := rfl
theorem mok_X3_isAlive : zMok (yX3_isAlive, cX3_isAlive, 2, (some .boolean)) 1 := ⟨mw_2_180, mw_1_3, by decide +kernel, by decide +kernel, by decide +kernel, by decide⟩
theorem md_X3_isTakable : zMD[32]? = some (yX3_isTakable, cX3_isTakable, 2, (some .boolean)) := rfl
theorem mok_X3_isTakable : zMok (yX3_isTakable, cX3_isTakable, 2, (some .boolean)) 1 := ⟨mw_2_176, mw_1_3, by decide +kernel, by decide +kernel, by decide +kernel, by decide⟩
theorem md_X3_living : zMD[33]? = some (yX3_living, cX3_living, 3, (some .int)) := rfl
theorem mok_X3_living : zMok (yX3_living, cX3_living, 3, (some .int)) 0 := ⟨mw_2_208, mw_1_3, by decide +kernel, by decide +kernel, by decide +kernel, by decide⟩
theorem md_X3_takable : zMD[34]? = some (yX3_takable, cX3_takable, 3, (some .int)) := rfl
theorem mok_X3_takable : zMok (yX3_takable, cX3_takable, 3, (some .int)) 0 := ⟨mw_3_82, mw_1_3, by decide +kernel, by decide +kernel, by decide +kernel, by decide⟩
theorem md_X3_bump : zMD[35]? = some (yX3_bump, cX3_bump, 7, (some .int)) := rfl
theorem mok_X3_bump : zMok (yX3_bump, cX3_bump, 7, (some .int)) 3 := ⟨mw_2_172, mw_1_3, by decide +kernel, by decide +kernel, by decide +kernel, by decide⟩
theorem md_X3_oath : zMD[36]? = some (yX3_oath, cX3_oath, 8, (some .int)) := rfl
theorem mok_X3_oath : zMok (yX3_oath, cX3_oath, 8, (some .int)) 2 := ⟨mw_2_228, mw_1_3, by decide +kernel, by decide +kernel, by decide +kernel, by decide⟩
theorem md_X3_stonesSwornBy : zMD[37]? = some (yX3_stonesSwornBy, cX3_stonesSwornBy, 4, (some .int)) := rfl
theorem mok_X3_stonesSwornBy : zMok (yX3_stonesSwornBy, cX3_stonesSwornBy, 4, (some .int)) 1 := ⟨mw_2_224, mw_1_3, by decide +kernel, by decide +kernel, by decide +kernel, by decide⟩
theorem md_X3_swearersTo : zMD[38]? = some (yX3_swearersTo, cX3_swearersTo, 4, (some .int)) := rfl
theorem mok_X3_swearersTo : zMok (yX3_swearersTo, cX3_swearersTo, 4, (some .int)) 1 := ⟨mw_3_18, mw_1_3, by decide +kernel, by decide +kernel, by decide +kernel, by decide⟩
theorem md_X3_stonesSworn : zMD[39]? = some (yX3_stonesSworn, cX3_stonesSworn, 3, (some .int)) := rfl
theorem mok_X3_stonesSworn : zMok (yX3_stonesSworn, cX3_stonesSworn, 3, (some .int)) 0 := ⟨mw_3_170, mw_1_3, by decide +kernel, by decide +kernel, by decide +kernel, by decide⟩
theorem md_X3_yardsSworn : zMD[40]? = some (yX3_yardsSworn, cX3_yardsSworn, 5, (some .int)) := rfl
theorem mok_X3_yardsSworn : zMok (yX3_yardsSworn, cX3_yardsSworn, 5, (some .int)) 0 := ⟨mw_3_175, mw_1_3, by decide +kernel, by decide +kernel, by decide +kernel, by decide⟩
theorem md_X3_passYearBy : zMD[41]? = some (yX3_passYearBy, cX3_passYearBy, 4, none) := rfl
theorem mok_X3_passYearBy : zMok (yX3_passYearBy, cX3_passYearBy, 4, none) 1 := ⟨mw_3_161, mw_1_3, by decide +kernel, by decide +kernel, by decide +kernel, by decide⟩
theorem md_X4_begin : zMD[42]? = some (yX4_begin, cX4_begin, 4, none) := rfl
theorem mok_X4_begin : zMok (yX4_begin, cX4_begin, 4, none) 2 := ⟨mw_2_20, mw_1_7, by decide +kernel, by decide +kernel, by decide +kernel, by decide⟩
theorem md_X4_holds : zMD[43]? = some (yX4_holds, cX4_holds, 3, (some .boolean)) := rfl
theorem mok_X4_holds : zMok (yX4_holds, cX4_holds, 3, (some .boolean)) 2 := ⟨mw_2_32, mw_1_7, by decide +kernel, by decide +kernel, by decide +kernel, by decide⟩
theorem md_X4_cut : zMD[44]? = some (yX4_cut, cX4_cut, 2, (some .int)) := rfl
theorem mok_X4_cut : zMok (yX4_cut, cX4_cut, 2, (some .int)) 1 := ⟨mw_2_36, mw_1_7, by decide +kernel, by decide +kernel, by decide +kernel, by decide⟩
theorem md_X5_hasRoom : zMD[45]? = some (yX5_hasRoom, cX5_hasRoom, 1, (some .boolean)) := rfl
theorem mok_X5_hasRoom : zMok (yX5_hasRoom, cX5_hasRoom, 1, (some .boolean)) 0 := ⟨mw_2_55, mw_1_2, by decide +kernel, by decide +kernel, by decide +kernel, by decide⟩
theorem md_X5_append : zMD[46]? = some (yX5_append, cX5_append, 2, (some .int)) := rfl
theorem mok_X5_append : zMok (yX5_append, cX5_append, 2, (some .int)) 1 := ⟨mw_2_60, mw_1_2, by decide +kernel, by decide +kernel, by decide +kernel, by decide⟩
theorem md_X5_readInto : zMD[47]? = some (yX5_readInto, cX5_readInto, 3, (some .boolean)) := rfl
theorem mok_X5_readInto : zMok (yX5_readInto, cX5_readInto, 3, (some .boolean)) 1 := ⟨mw_2_73, mw_1_2, by decide +kernel, by decide +kernel, by decide +kernel, by decide⟩
theorem md_X5_readLaw : zMD[48]? = some (yX5_readLaw, cX5_readLaw, 2, (some .boolean)) := rfl
theorem mok_X5_readLaw : zMok (yX5_readLaw, cX5_readLaw, 2, (some .boolean)) 1 := ⟨mw_2_77, mw_1_2, by decide +kernel, by decide +kernel, by decide +kernel, by decide⟩
theorem md_X5_readStones : zMD[49]? = some (yX5_readStones, cX5_readStones, 4, (some .boolean)) := rfl
theorem mok_X5_readStones : zMok (yX5_readStones, cX5_readStones, 4, (some .boolean)) 1 := ⟨mw_2_100, mw_1_2, by decide +kernel, by decide +kernel, by decide +kernel, by decide⟩
theorem md_X5_readWitnesses : zMD[50]? = some (yX5_readWitnesses, cX5_readWitnesses, 4, (some .boolean)) := rfl
theorem mok_X5_readWitnesses : zMok (yX5_readWitnesses, cX5_readWitnesses, 4, (some .boolean)) 1 := ⟨mw_2_104, mw_1_2, by decide +kernel, by decide +kernel, by decide +kernel, by decide⟩
theorem md_X5_readLife : zMD[51]? = some (yX5_readLife, cX5_readLife, 5, (some .boolean)) := rfl
theorem mok_X5_readLife : zMok (yX5_readLife, cX5_readLife, 5, (some .boolean)) 2 := ⟨mw_2_111, mw_1_2, by decide +kernel, by decide +kernel, by decide +kernel, by decide⟩
theorem md_X5_fails : zMD[52]? = some (yX5_fails, cX5_fails, 2, (some .boolean)) := rfl
theorem mok_X5_fails : zMok (yX5_fails, cX5_fails, 2, (some .boolean)) 1 := ⟨mw_2_89, mw_1_2, by decide +kernel, by decide +kernel, by decide +kernel, by decide⟩
theorem md_X5_letterAt : zMD[53]? = some (yX5_letterAt, cX5_letterAt, 2, (some .int)) := rfl
theorem mok_X5_letterAt : zMok (yX5_letterAt, cX5_letterAt, 2, (some .int)) 1 := ⟨mw_2_85, mw_1_2, by decide +kernel, by decide +kernel, by decide +kernel, by decide⟩
theorem md_X5_passes : zMD[54]? = some (yX5_passes, cX5_passes, 2, (some .boolean)) := rfl
theorem mok_X5_passes : zMok (yX5_passes, cX5_passes, 2, (some .boolean)) 1 := ⟨mw_2_81, mw_1_2, by decide +kernel, by decide +kernel, by decide +kernel, by decide⟩
theorem md_X5_number : zMD[55]? = some (yX5_number, cX5_number, 5, (some .int)) := rfl
theorem mok_X5_number : zMok (yX5_number, cX5_number, 5, (some .int)) 2 := ⟨mw_2_93, mw_1_2, by decide +kernel, by decide +kernel, by decide +kernel, by decide⟩
theorem md_X5_isFigure : zMD[56]? = some (yX5_isFigure, cX5_isFigure, 1, (some .boolean)) := rfl
theorem mok_X5_isFigure : zMok (yX5_isFigure, cX5_isFigure, 1, (some .boolean)) 1 := ⟨mw_2_96, mw_1_2, by decide +kernel, by decide +kernel, by decide +kernel, by decide⟩
theorem md_X5_kindTold : zMD[57]? = some (yX5_kindTold, cX5_kindTold, 1, (some .int)) := rfl
theorem mok_X5_kindTold : zMok (yX5_kindTold, cX5_kindTold, 1, (some .int)) 1 := ⟨mw_2_107, mw_1_2, by decide +kernel, by decide +kernel, by decide +kernel, by decide⟩
theorem md_X6_row : zMD[58]? = some (yX6_row, cX6_row, 4, (some .int)) := rfl
theorem mok_X6_row : zMok (yX6_row, cX6_row, 4, (some .int)) 3 := ⟨mw_2_7, mw_1_1, by decide +kernel, by decide +kernel, by decide +kernel, by decide⟩
theorem md_X6_set : zMD[59]? = some (yX6_set, cX6_set, 5, (some .int)) := rfl
theorem mok_X6_set : zMok (yX6_set, cX6_set, 5, (some .int)) 3 := ⟨mw_2_28, mw_1_1, by decide +kernel, by decide +kernel, by decide +kernel, by decide⟩
theorem md_X6_copy : zMD[60]? = some (yX6_copy, cX6_copy, 8, (some .int)) := rfl
theorem mok_X6_copy : zMok (yX6_copy, cX6_copy, 8, (some .int)) 5 := ⟨mw_2_40, mw_1_1, by decide +kernel, by decide +kernel, by decide +kernel, by decide⟩
theorem md_X6_drop : zMD[61]? = some (yX6_drop, cX6_drop, 3, (some .int)) := rfl
theorem mok_X6_drop : zMok (yX6_drop, cX6_drop, 3, (some .int)) 1 := ⟨mw_2_47, mw_1_1, by decide +kernel, by decide +kernel, by decide +kernel, by decide⟩
theorem md_X6_feed : zMD[62]? = some (yX6_feed, cX6_feed, 2, (some .int)) := rfl
theorem mok_X6_feed : zMok (yX6_feed, cX6_feed, 2, (some .int)) 1 := ⟨mw_2_51, mw_1_1, by decide +kernel, by decide +kernel, by decide +kernel, by decide⟩
theorem md_X6_parish : zMD[63]? = some (yX6_parish, cX6_parish, 1, (some .int)) := rfl
theorem mok_X6_parish : zMok (yX6_parish, cX6_parish, 1, (some .int)) 0 := ⟨mw_2_65, mw_1_1, by decide +kernel, by decide +kernel, by decide +kernel, by decide⟩
theorem md_X6_fault : zMD[64]? = some (yX6_fault, cX6_fault, 1, (some .int)) := rfl
theorem mok_X6_fault : zMok (yX6_fault, cX6_fault, 1, (some .int)) 0 := ⟨mw_2_125, mw_1_1, by decide +kernel, by decide +kernel, by decide +kernel, by decide⟩
theorem md_X6_undo : zMD[65]? = some (yX6_undo, cX6_undo, 1, (some .int)) := rfl
theorem mok_X6_undo : zMok (yX6_undo, cX6_undo, 1, (some .int)) 0 := ⟨mw_2_129, mw_1_1, by decide +kernel, by decide +kernel, by decide +kernel, by decide⟩
theorem md_X6_walk : zMD[66]? = some (yX6_walk, cX6_walk, 4, (some .int)) := rfl
theorem mok_X6_walk : zMok (yX6_walk, cX6_walk, 4, (some .int)) 3 := ⟨mw_2_146, mw_1_1, by decide +kernel, by decide +kernel, by decide +kernel, by decide⟩
theorem md_X6_move : zMD[67]? = some (yX6_move, cX6_move, 4, (some .int)) := rfl
theorem mok_X6_move : zMok (yX6_move, cX6_move, 4, (some .int)) 2 := ⟨mw_2_189, mw_1_1, by decide +kernel, by decide +kernel, by decide +kernel, by decide⟩
theorem md_X6_bribe : zMD[68]? = some (yX6_bribe, cX6_bribe, 4, (some .int)) := rfl
theorem mok_X6_bribe : zMok (yX6_bribe, cX6_bribe, 4, (some .int)) 2 := ⟨mw_2_196, mw_1_1, by decide +kernel, by decide +kernel, by decide +kernel, by decide⟩
theorem md_X6_years : zMD[69]? = some (yX6_years, cX6_years, 3, (some .int)) := rfl
theorem mok_X6_years : zMok (yX6_years, cX6_years, 3, (some .int)) 1 := ⟨mw_2_204, mw_1_1, by decide +kernel, by decide +kernel, by decide +kernel, by decide⟩
theorem md_X6_witness : zMD[70]? = some (yX6_witness, cX6_witness, 3, (some .int)) := rfl
theorem mok_X6_witness : zMok (yX6_witness, cX6_witness, 3, (some .int)) 2 := ⟨mw_2_218, mw_1_1, by decide +kernel, by decide +kernel, by decide +kernel, by decide⟩
theorem md_X6_memory : zMD[71]? = some (yX6_memory, cX6_memory, 5, (some .int)) := rfl
theorem mok_X6_memory : zMok (yX6_memory, cX6_memory, 5, (some .int)) 3 := ⟨mw_2_237, mw_1_1, by decide +kernel, by decide +kernel, by decide +kernel, by decide⟩
theorem md_X6_stone : zMD[72]? = some (yX6_stone, cX6_stone, 2, (some .int)) := rfl
theorem mok_X6_stone : zMok (yX6_stone, cX6_stone, 2, (some .int)) 1 := ⟨mw_3_4, mw_1_1, by decide +kernel, by decide +kernel, by decide +kernel, by decide⟩
theorem md_X6_sworn : zMD[73]? = some (yX6_sworn, cX6_sworn, 3, (some .int)) := rfl
theorem mok_X6_sworn : zMok (yX6_sworn, cX6_sworn, 3, (some .int)) 2 := ⟨mw_3_8, mw_1_1, by decide +kernel, by decide +kernel, by decide +kernel, by decide⟩
theorem md_X6_belief : zMD[74]? = some (yX6_belief, cX6_belief, 5, (some .int)) := rfl
theorem mok_X6_belief : zMok (yX6_belief, cX6_belief, 5, (some .int)) 3 := ⟨mw_3_49, mw_1_1, by decide +kernel, by decide +kernel, by decide +kernel, by decide⟩
theorem md_X6_likeliest : zMD[75]? = some (yX6_likeliest, cX6_likeliest, 2, (some .int)) := rfl
theorem mok_X6_likeliest : zMok (yX6_likeliest, cX6_likeliest, 2, (some .int)) 1 := ⟨mw_3_60, mw_1_1, by decide +kernel, by decide +kernel, by decide +kernel, by decide⟩
theorem md_X6_till : zMD[76]? = some (yX6_till, cX6_till, 4, (some .int)) := rfl
theorem mok_X6_till : zMok (yX6_till, cX6_till, 4, (some .int)) 2 := ⟨mw_3_68, mw_1_1, by decide +kernel, by decide +kernel, by decide +kernel, by decide⟩
theorem md_X6_take : zMD[77]? = some (yX6_take, cX6_take, 13, (some .int)) := rfl
theorem mok_X6_take : zMok (yX6_take, cX6_take, 13, (some .int)) 5 := ⟨mw_3_75, mw_1_1, by decide +kernel, by decide +kernel, by decide +kernel, by decide⟩
theorem md_X6_pain : zMD[78]? = some (yX6_pain, cX6_pain, 5, (some .int)) := rfl
theorem mok_X6_pain : zMok (yX6_pain, cX6_pain, 5, (some .int)) 3 := ⟨mw_3_90, mw_1_1, by decide +kernel, by decide +kernel, by decide +kernel, by decide⟩
theorem md_X6_order : zMD[79]? = some (yX6_order, cX6_order, 3, (some .int)) := rfl
theorem mok_X6_order : zMok (yX6_order, cX6_order, 3, (some .int)) 2 := ⟨mw_3_94, mw_1_1, by decide +kernel, by decide +kernel, by decide +kernel, by decide⟩
theorem md_X6_stood : zMD[80]? = some (yX6_stood, cX6_stood, 13, (some .int)) := rfl
theorem mok_X6_stood : zMok (yX6_stood, cX6_stood, 13, (some .int)) 3 := ⟨mw_3_125, mw_1_1, by decide +kernel, by decide +kernel, by decide +kernel, by decide⟩
theorem md_X6_shift : zMD[81]? = some (yX6_shift, cX6_shift, 4, (some .int)) := rfl
theorem mok_X6_shift : zMok (yX6_shift, cX6_shift, 4, (some .int)) 2 := ⟨mw_3_138, mw_1_1, by decide +kernel, by decide +kernel, by decide +kernel, by decide⟩
theorem md_X6_map : zMD[82]? = some (yX6_map, cX6_map, 3, (some .int)) := rfl
theorem mok_X6_map : zMok (yX6_map, cX6_map, 3, (some .int)) 2 := ⟨mw_3_146, mw_1_1, by decide +kernel, by decide +kernel, by decide +kernel, by decide⟩
theorem md_X6_agree : zMD[83]? = some (yX6_agree, cX6_agree, 4, (some .int)) := rfl
theorem mok_X6_agree : zMok (yX6_agree, cX6_agree, 4, (some .int)) 1 := ⟨mw_3_150, mw_1_1, by decide +kernel, by decide +kernel, by decide +kernel, by decide⟩
theorem md_X6_drawn : zMD[84]? = some (yX6_drawn, cX6_drawn, 7, (some .int)) := rfl
theorem mok_X6_drawn : zMok (yX6_drawn, cX6_drawn, 7, (some .int)) 3 := ⟨mw_3_154, mw_1_1, by decide +kernel, by decide +kernel, by decide +kernel, by decide⟩
theorem md_X6_image : zMD[85]? = some (yX6_image, cX6_image, 2, (some .int)) := rfl
theorem mok_X6_image : zMok (yX6_image, cX6_image, 2, (some .int)) 1 := ⟨mw_3_179, mw_1_1, by decide +kernel, by decide +kernel, by decide +kernel, by decide⟩
theorem md_X6_restore : zMD[86]? = some (yX6_restore, cX6_restore, 2, (some .int)) := rfl
theorem mok_X6_restore : zMok (yX6_restore, cX6_restore, 2, (some .int)) 1 := ⟨mw_3_183, mw_1_1, by decide +kernel, by decide +kernel, by decide +kernel, by decide⟩
theorem md_X6_kind : zMD[87]? = some (yX6_kind, cX6_kind, 2, (some .int)) := rfl
theorem mok_X6_kind : zMok (yX6_kind, cX6_kind, 2, (some .int)) 1 := ⟨mw_3_187, mw_1_1, by decide +kernel, by decide +kernel, by decide +kernel, by decide⟩
theorem md_X6_as : zMD[88]? = some (yX6_as, cX6_as, 3, (some .int)) := rfl
theorem mok_X6_as : zMok (yX6_as, cX6_as, 3, (some .int)) 2 := ⟨mw_3_191, mw_1_1, by decide +kernel, by decide +kernel, by decide +kernel, by decide⟩
theorem md_X6_ask : zMD[89]? = some (yX6_ask, cX6_ask, 3, (some .int)) := rfl
theorem mok_X6_ask : zMok (yX6_ask, cX6_ask, 3, (some .int)) 2 := ⟨mw_3_200, mw_1_1, by decide +kernel, by decide +kernel, by decide +kernel, by decide⟩
theorem md_X6_trace : zMD[90]? = some (yX6_trace, cX6_trace, 2, (some .int)) := rfl
theorem mok_X6_trace : zMok (yX6_trace, cX6_trace, 2, (some .int)) 1 := ⟨mw_3_231, mw_1_1, by decide +kernel, by decide +kernel, by decide +kernel, by decide⟩
theorem md_X6_count : zMD[91]? = some (yX6_count, cX6_count, 2, (some .int)) := rfl
theorem mok_X6_count : zMok (yX6_count, cX6_count, 2, (some .int)) 1 := ⟨mw_3_235, mw_1_1, by decide +kernel, by decide +kernel, by decide +kernel, by decide⟩
theorem md_X6_status : zMD[92]? = some (yX6_status, cX6_status, 1, (some .int)) := rfl
theorem mok_X6_status : zMok (yX6_status, cX6_status, 1, (some .int)) 0 := ⟨mw_4_3, mw_1_1, by decide +kernel, by decide +kernel, by decide +kernel, by decide⟩
theorem md_X6_finding : zMD[93]? = some (yX6_finding, cX6_finding, 2, (some .int)) := rfl
theorem mok_X6_finding : zMok (yX6_finding, cX6_finding, 2, (some .int)) 1 := ⟨mw_2_15, mw_1_1, by decide +kernel, by decide +kernel, by decide +kernel, by decide⟩
theorem md_X6_fine : zMD[94]? = some (yX6_fine, cX6_fine, 2, (some .int)) := rfl
theorem mok_X6_fine : zMok (yX6_fine, cX6_fine, 2, (some .int)) 1 := ⟨mw_2_24, mw_1_1, by decide +kernel, by decide +kernel, by decide +kernel, by decide⟩
theorem md_X6_rowsThere : zMD[95]? = some (yX6_rowsThere, cX6_rowsThere, 3, (some .int)) := rfl
theorem mok_X6_rowsThere : zMok (yX6_rowsThere, cX6_rowsThere, 3, (some .int)) 0 := ⟨mw_3_239, mw_1_1, by decide +kernel, by decide +kernel, by decide +kernel, by decide⟩
theorem md_X6_swearersIfTaken : zMD[96]? = some (yX6_swearersIfTaken, cX6_swearersIfTaken, 4, (some .int)) := rfl
theorem mok_X6_swearersIfTaken : zMok (yX6_swearersIfTaken, cX6_swearersIfTaken, 4, (some .int)) 3 := ⟨mw_3_86, mw_1_1, by decide +kernel, by decide +kernel, by decide +kernel, by decide⟩
theorem md_X6_isStone : zMD[97]? = some (yX6_isStone, cX6_isStone, 2, (some .boolean)) := rfl
theorem mok_X6_isStone : zMok (yX6_isStone, cX6_isStone, 2, (some .boolean)) 1 := ⟨mw_2_150, mw_1_1, by decide +kernel, by decide +kernel, by decide +kernel, by decide⟩
theorem md_X6_isWitness : zMD[98]? = some (yX6_isWitness, cX6_isWitness, 2, (some .boolean)) := rfl
theorem mok_X6_isWitness : zMok (yX6_isWitness, cX6_isWitness, 2, (some .boolean)) 1 := ⟨mw_2_200, mw_1_1, by decide +kernel, by decide +kernel, by decide +kernel, by decide⟩
theorem md_X6_isRow : zMD[99]? = some (yX6_isRow, cX6_isRow, 1, (some .boolean)) := rfl
theorem mok_X6_isRow : zMok (yX6_isRow, cX6_isRow, 1, (some .boolean)) 1 := ⟨mw_2_10, mw_1_1, by decide +kernel, by decide +kernel, by decide +kernel, by decide⟩
theorem md_X6_isYard : zMD[100]? = some (yX6_isYard, cX6_isYard, 1, (some .boolean)) := rfl
theorem mok_X6_isYard : zMok (yX6_isYard, cX6_isYard, 1, (some .boolean)) 1 := ⟨mw_2_192, mw_1_1, by decide +kernel, by decide +kernel, by decide +kernel, by decide⟩
theorem md_X6_isPain : zMD[101]? = some (yX6_isPain, cX6_isPain, 1, (some .boolean)) := rfl
theorem mok_X6_isPain : zMok (yX6_isPain, cX6_isPain, 1, (some .boolean)) 1 := ⟨mw_2_153, mw_1_1, by decide +kernel, by decide +kernel, by decide +kernel, by decide⟩
theorem md_X6_isMany : zMD[102]? = some (yX6_isMany, cX6_isMany, 1, (some .boolean)) := rfl
theorem mok_X6_isMany : zMok (yX6_isMany, cX6_isMany, 1, (some .boolean)) 1 := ⟨mw_3_71, mw_1_1, by decide +kernel, by decide +kernel, by decide +kernel, by decide⟩
theorem md_X6_isLater : zMD[103]? = some (yX6_isLater, cX6_isLater, 1, (some .boolean)) := rfl
theorem mok_X6_isLater : zMok (yX6_isLater, cX6_isLater, 1, (some .boolean)) 1 := ⟨mw_3_78, mw_1_1, by decide +kernel, by decide +kernel, by decide +kernel, by decide⟩
theorem md_X6_isEither : zMD[104]? = some (yX6_isEither, cX6_isEither, 1, (some .boolean)) := rfl
theorem mok_X6_isEither : zMok (yX6_isEither, cX6_isEither, 1, (some .boolean)) 1 := ⟨mw_3_52, mw_1_1, by decide +kernel, by decide +kernel, by decide +kernel, by decide⟩
theorem md_X6_inLowestTerms : zMD[105]? = some (yX6_inLowestTerms, cX6_inLowestTerms, 4, (some .int)) := rfl
theorem mok_X6_inLowestTerms : zMok (yX6_inLowestTerms, cX6_inLowestTerms, 4, (some .int)) 3 := ⟨mw_3_56, mw_1_1, by decide +kernel, by decide +kernel, by decide +kernel, by decide⟩
theorem md_X6_isOf : zMD[106]? = some (yX6_isOf, cX6_isOf, 4, (some .boolean)) := rfl
theorem mok_X6_isOf : zMok (yX6_isOf, cX6_isOf, 4, (some .boolean)) 2 := ⟨mw_3_194, mw_1_1, by decide +kernel, by decide +kernel, by decide +kernel, by decide⟩
theorem md_X7_in : zMD[107]? = some (yX7_in, cX7_in, 6, (some .boolean)) := rfl
theorem mok_X7_in : zMok (yX7_in, cX7_in, 6, (some .boolean)) 3 := ⟨mw_4_97, mw_1_8, by decide +kernel, by decide +kernel, by decide +kernel, by decide⟩
theorem md_X7_finding : zMD[108]? = some (yX7_finding, cX7_finding, 2, (some .int)) := rfl
theorem mok_X7_finding : zMok (yX7_finding, cX7_finding, 2, (some .int)) 1 := ⟨mw_4_103, mw_1_8, by decide +kernel, by decide +kernel, by decide +kernel, by decide⟩
theorem md_X7_isRow : zMD[109]? = some (yX7_isRow, cX7_isRow, 1, (some .boolean)) := rfl
theorem mok_X7_isRow : zMok (yX7_isRow, cX7_isRow, 1, (some .boolean)) 1 := ⟨mw_4_93, mw_1_8, by decide +kernel, by decide +kernel, by decide +kernel, by decide⟩
theorem md_X7_row : zMD[110]? = some (yX7_row, cX7_row, 5, (some .int)) := rfl
theorem mok_X7_row : zMok (yX7_row, cX7_row, 5, (some .int)) 3 := ⟨mw_4_90, mw_1_8, by decide +kernel, by decide +kernel, by decide +kernel, by decide⟩
theorem md_X7_set : zMD[111]? = some (yX7_set, cX7_set, 4, (some .int)) := rfl
theorem mok_X7_set : zMok (yX7_set, cX7_set, 4, (some .int)) 3 := ⟨mw_4_108, mw_1_8, by decide +kernel, by decide +kernel, by decide +kernel, by decide⟩
theorem md_X7_copy : zMD[112]? = some (yX7_copy, cX7_copy, 9, (some .int)) := rfl
theorem mok_X7_copy : zMok (yX7_copy, cX7_copy, 9, (some .int)) 5 := ⟨mw_4_112, mw_1_8, by decide +kernel, by decide +kernel, by decide +kernel, by decide⟩
theorem md_X7_drop : zMD[113]? = some (yX7_drop, cX7_drop, 2, (some .int)) := rfl
theorem mok_X7_drop : zMok (yX7_drop, cX7_drop, 2, (some .int)) 1 := ⟨mw_4_116, mw_1_8, by decide +kernel, by decide +kernel, by decide +kernel, by decide⟩
theorem md_X7_feed : zMD[114]? = some (yX7_feed, cX7_feed, 2, (some .int)) := rfl
theorem mok_X7_feed : zMok (yX7_feed, cX7_feed, 2, (some .int)) 1 := ⟨mw_4_120, mw_1_8, by decide +kernel, by decide +kernel, by decide +kernel, by decide⟩
theorem md_X7_bad : zMD[115]? = some (yX7_bad, cX7_bad, 2, none) := rfl
theorem mok_X7_bad : zMok (yX7_bad, cX7_bad, 2, none) 1 := ⟨mw_4_155, mw_1_8, by decide +kernel, by decide +kernel, by decide +kernel, by decide⟩
theorem md_X7_nextToken : zMD[116]? = some (yX7_nextToken, cX7_nextToken, 1, none) := rfl
theorem mok_X7_nextToken : zMok (yX7_nextToken, cX7_nextToken, 1, none) 0 := ⟨mw_4_138, mw_1_8, by decide +kernel, by decide +kernel, by decide +kernel, by decide⟩
theorem md_X7_must : zMD[117]? = some (yX7_must, cX7_must, 2, none) := rfl
theorem mok_X7_must : zMok (yX7_must, cX7_must, 2, none) 1 := ⟨mw_4_151, mw_1_8, by decide +kernel, by decide +kernel, by decide +kernel, by decide⟩
theorem md_X7_isLetter : zMD[118]? = some (yX7_isLetter, cX7_isLetter, 2, (some .boolean)) := rfl
theorem mok_X7_isLetter : zMok (yX7_isLetter, cX7_isLetter, 2, (some .boolean)) 1 := ⟨mw_4_147, mw_1_8, by decide +kernel, by decide +kernel, by decide +kernel, by decide⟩
theorem md_X7_number : zMD[119]? = some (yX7_number, cX7_number, 4, (some .int)) := rfl
theorem mok_X7_number : zMok (yX7_number, cX7_number, 4, (some .int)) 2 := ⟨mw_4_159, mw_1_8, by decide +kernel, by decide +kernel, by decide +kernel, by decide⟩
theorem md_X7_mustSign : zMD[120]? = some (yX7_mustSign, cX7_mustSign, 2, none) := rfl
theorem mok_X7_mustSign : zMok (yX7_mustSign, cX7_mustSign, 2, none) 1 := ⟨mw_4_163, mw_1_8, by decide +kernel, by decide +kernel, by decide +kernel, by decide⟩
theorem md_X7_begin : zMD[121]? = some (yX7_begin, cX7_begin, 1, none) := rfl
theorem mok_X7_begin : zMok (yX7_begin, cX7_begin, 1, none) 0 := ⟨mw_4_134, mw_1_8, by decide +kernel, by decide +kernel, by decide +kernel, by decide⟩
theorem md_X7_failed : zMD[122]? = some (yX7_failed, cX7_failed, 1, (some .boolean)) := rfl
theorem mok_X7_failed : zMok (yX7_failed, cX7_failed, 1, (some .boolean)) 0 := ⟨mw_4_182, mw_1_8, by decide +kernel, by decide +kernel, by decide +kernel, by decide⟩
theorem md_X7_fault : zMD[123]? = some (yX7_fault, cX7_fault, 1, (some .int)) := rfl
theorem mok_X7_fault : zMok (yX7_fault, cX7_fault, 1, (some .int)) 0 := ⟨mw_4_126, mw_1_8, by decide +kernel, by decide +kernel, by decide +kernel, by decide⟩
theorem md_X7_kindBy : zMD[124]? = some (yX7_kindBy, cX7_kindBy, 1, (some .int)) := rfl
theorem mok_X7_kindBy : zMok (yX7_kindBy, cX7_kindBy, 1, (some .int)) 1 := ⟨mw_4_174, mw_1_8, by decide +kernel, by decide +kernel, by decide +kernel, by decide⟩
theorem md_X7_isSort : zMD[125]? = some (yX7_isSort, cX7_isSort, 1, (some .boolean)) := rfl
theorem mok_X7_isSort : zMok (yX7_isSort, cX7_isSort, 1, (some .boolean)) 0 := ⟨mw_4_171, mw_1_8, by decide +kernel, by decide +kernel, by decide +kernel, by decide⟩
theorem md_X7_readStone : zMD[126]? = some (yX7_readStone, cX7_readStone, 2, none) := rfl
theorem mok_X7_readStone : zMok (yX7_readStone, cX7_readStone, 2, none) 0 := ⟨mw_4_167, mw_1_8, by decide +kernel, by decide +kernel, by decide +kernel, by decide⟩
theorem md_X7_readWitness : zMD[127]? = some (yX7_readWitness, cX7_readWitness, 5, none) := rfl
theorem mok_X7_readWitness : zMok (yX7_readWitness, cX7_readWitness, 5, none) 0 := ⟨mw_4_178, mw_1_8, by decide +kernel, by decide +kernel, by decide +kernel, by decide⟩
theorem md_X7_parish : zMD[128]? = some (yX7_parish, cX7_parish, 2, (some .int)) := rfl
theorem mok_X7_parish : zMok (yX7_parish, cX7_parish, 2, (some .int)) 0 := ⟨mw_4_130, mw_1_8, by decide +kernel, by decide +kernel, by decide +kernel, by decide⟩
theorem md_X7_isThere : zMD[129]? = some (yX7_isThere, cX7_isThere, 1, (some .boolean)) := rfl
theorem mok_X7_isThere : zMok (yX7_isThere, cX7_isThere, 1, (some .boolean)) 0 := ⟨mw_5_2, mw_1_8, by decide +kernel, by decide +kernel, by decide +kernel, by decide⟩
theorem md_X7_isStone : zMD[130]? = some (yX7_isStone, cX7_isStone, 2, (some .boolean)) := rfl
theorem mok_X7_isStone : zMok (yX7_isStone, cX7_isStone, 2, (some .boolean)) 1 := ⟨mw_4_191, mw_1_8, by decide +kernel, by decide +kernel, by decide +kernel, by decide⟩
theorem md_X7_isWitness : zMD[131]? = some (yX7_isWitness, cX7_isWitness, 2, (some .boolean)) := rfl
theorem mok_X7_isWitness : zMok (yX7_isWitness, cX7_isWitness, 2, (some .boolean)) 1 := ⟨mw_4_231, mw_1_8, by decide +kernel, by decide +kernel, by decide +kernel, by decide⟩
theorem md_X7_everybody : zMD[132]? = some (yX7_everybody, cX7_everybody, 1, (some .int)) := rfl
theorem mok_X7_everybody : zMok (yX7_everybody, cX7_everybody, 1, (some .int)) 0 := ⟨mw_4_195, mw_1_8, by decide +kernel, by decide +kernel, by decide +kernel, by decide⟩
theorem md_X7_bits : zMD[133]? = some (yX7_bits, cX7_bits, 3, (some .int)) := rfl
theorem mok_X7_bits : zMok (yX7_bits, cX7_bits, 3, (some .int)) 1 := ⟨mw_5_13, mw_1_8, by decide +kernel, by decide +kernel, by decide +kernel, by decide⟩
theorem md_X7_has : zMD[134]? = some (yX7_has, cX7_has, 2, (some .boolean)) := rfl
theorem mok_X7_has : zMok (yX7_has, cX7_has, 2, (some .boolean)) 2 := ⟨mw_4_206, mw_1_8, by decide +kernel, by decide +kernel, by decide +kernel, by decide⟩
theorem md_X7_of : zMD[135]? = some (yX7_of, cX7_of, 3, (some .int)) := rfl
theorem mok_X7_of : zMok (yX7_of, cX7_of, 3, (some .int)) 3 := ⟨mw_4_215, mw_1_8, by decide +kernel, by decide +kernel, by decide +kernel, by decide⟩
theorem md_X7_known : zMD[136]? = some (yX7_known, cX7_known, 2, (some .int)) := rfl
theorem mok_X7_known : zMok (yX7_known, cX7_known, 2, (some .int)) 2 := ⟨mw_4_218, mw_1_8, by decide +kernel, by decide +kernel, by decide +kernel, by decide⟩
theorem md_X7_isAlive : zMD[137]? = some (yX7_isAlive, cX7_isAlive, 2, (some .boolean)) := rfl
theorem mok_X7_isAlive : zMok (yX7_isAlive, cX7_isAlive, 2, (some .boolean)) 2 := ⟨mw_4_212, mw_1_8, by decide +kernel, by decide +kernel, by decide +kernel, by decide⟩
theorem md_X7_isTaken : zMD[138]? = some (yX7_isTaken, cX7_isTaken, 2, (some .boolean)) := rfl
theorem mok_X7_isTaken : zMok (yX7_isTaken, cX7_isTaken, 2, (some .boolean)) 2 := ⟨mw_4_209, mw_1_8, by decide +kernel, by decide +kernel, by decide +kernel, by decide⟩
theorem md_X7_says : zMD[139]? = some (yX7_says, cX7_says, 8, (some .int)) := rfl
theorem mok_X7_says : zMok (yX7_says, cX7_says, 8, (some .int)) 3 := ⟨mw_5_28, mw_1_8, by decide +kernel, by decide +kernel, by decide +kernel, by decide⟩
theorem md_X7_whoSwears : zMD[140]? = some (yX7_whoSwears, cX7_whoSwears, 4, (some .int)) := rfl
theorem mok_X7_whoSwears : zMok (yX7_whoSwears, cX7_whoSwears, 4, (some .int)) 2 := ⟨mw_5_45, mw_1_8, by decide +kernel, by decide +kernel, by decide +kernel, by decide⟩
theorem md_X7_bump : zMD[141]? = some (yX7_bump, cX7_bump, 7, (some .int)) := rfl
theorem mok_X7_bump : zMok (yX7_bump, cX7_bump, 7, (some .int)) 4 := ⟨mw_4_203, mw_1_8, by decide +kernel, by decide +kernel, by decide +kernel, by decide⟩
theorem md_X7_age : zMD[142]? = some (yX7_age, cX7_age, 3, none) := rfl
theorem mok_X7_age : zMok (yX7_age, cX7_age, 3, none) 2 := ⟨mw_5_6, mw_1_8, by decide +kernel, by decide +kernel, by decide +kernel, by decide⟩
theorem md_X7_layThen : zMD[143]? = some (yX7_layThen, cX7_layThen, 2, none) := rfl
theorem mok_X7_layThen : zMok (yX7_layThen, cX7_layThen, 2, none) 0 := ⟨mw_5_70, mw_1_8, by decide +kernel, by decide +kernel, by decide +kernel, by decide⟩
theorem md_X7_keep : zMD[144]? = some (yX7_keep, cX7_keep, 2, none) := rfl
theorem mok_X7_keep : zMok (yX7_keep, cX7_keep, 2, none) 0 := ⟨mw_4_200, mw_1_8, by decide +kernel, by decide +kernel, by decide +kernel, by decide⟩
theorem md_X7_walk : zMD[145]? = some (yX7_walk, cX7_walk, 4, (some .int)) := rfl
theorem mok_X7_walk : zMok (yX7_walk, cX7_walk, 4, (some .int)) 3 := ⟨mw_4_187, mw_1_8, by decide +kernel, by decide +kernel, by decide +kernel, by decide⟩
theorem md_X7_move : zMD[146]? = some (yX7_move, cX7_move, 4, (some .int)) := rfl
theorem mok_X7_move : zMok (yX7_move, cX7_move, 4, (some .int)) 2 := ⟨mw_4_222, mw_1_8, by decide +kernel, by decide +kernel, by decide +kernel, by decide⟩
theorem md_X7_bribe : zMD[147]? = some (yX7_bribe, cX7_bribe, 4, (some .int)) := rfl
theorem mok_X7_bribe : zMok (yX7_bribe, cX7_bribe, 4, (some .int)) 2 := ⟨mw_4_227, mw_1_8, by decide +kernel, by decide +kernel, by decide +kernel, by decide⟩
theorem md_X7_alive : zMD[148]? = some (yX7_alive, cX7_alive, 3, (some .int)) := rfl
theorem mok_X7_alive : zMok (yX7_alive, cX7_alive, 3, (some .int)) 0 := ⟨mw_5_10, mw_1_8, by decide +kernel, by decide +kernel, by decide +kernel, by decide⟩
theorem md_X7_years : zMD[149]? = some (yX7_years, cX7_years, 3, (some .int)) := rfl
theorem mok_X7_years : zMok (yX7_years, cX7_years, 3, (some .int)) 1 := ⟨mw_4_238, mw_1_8, by decide +kernel, by decide +kernel, by decide +kernel, by decide⟩
theorem md_X7_undo : zMD[150]? = some (yX7_undo, cX7_undo, 2, (some .int)) := rfl
theorem mok_X7_undo : zMok (yX7_undo, cX7_undo, 2, (some .int)) 0 := ⟨mw_5_17, mw_1_8, by decide +kernel, by decide +kernel, by decide +kernel, by decide⟩
theorem md_X7_stonesOf : zMD[151]? = some (yX7_stonesOf, cX7_stonesOf, 4, (some .int)) := rfl
theorem mok_X7_stonesOf : zMok (yX7_stonesOf, cX7_stonesOf, 4, (some .int)) 1 := ⟨mw_5_25, mw_1_8, by decide +kernel, by decide +kernel, by decide +kernel, by decide⟩
theorem md_X7_witness : zMD[152]? = some (yX7_witness, cX7_witness, 3, (some .int)) := rfl
theorem mok_X7_witness : zMok (yX7_witness, cX7_witness, 3, (some .int)) 2 := ⟨mw_5_21, mw_1_8, by decide +kernel, by decide +kernel, by decide +kernel, by decide⟩
theorem md_X7_memory : zMD[153]? = some (yX7_memory, cX7_memory, 4, (some .int)) := rfl
theorem mok_X7_memory : zMok (yX7_memory, cX7_memory, 4, (some .int)) 3 := ⟨mw_5_32, mw_1_8, by decide +kernel, by decide +kernel, by decide +kernel, by decide⟩
theorem md_X7_stone : zMD[154]? = some (yX7_stone, cX7_stone, 2, (some .int)) := rfl
theorem mok_X7_stone : zMok (yX7_stone, cX7_stone, 2, (some .int)) 1 := ⟨mw_5_37, mw_1_8, by decide +kernel, by decide +kernel, by decide +kernel, by decide⟩
theorem md_X7_laySaid : zMD[155]? = some (yX7_laySaid, cX7_laySaid, 7, (some .int)) := rfl
theorem mok_X7_laySaid : zMok (yX7_laySaid, cX7_laySaid, 7, (some .int)) 2 := ⟨mw_5_49, mw_1_8, by decide +kernel, by decide +kernel, by decide +kernel, by decide⟩
theorem md_X7_sworn : zMD[156]? = some (yX7_sworn, cX7_sworn, 7, (some .int)) := rfl
theorem mok_X7_sworn : zMok (yX7_sworn, cX7_sworn, 7, (some .int)) 2 := ⟨mw_5_41, mw_1_8, by decide +kernel, by decide +kernel, by decide +kernel, by decide⟩
theorem md_X7_sayYard : zMD[157]? = some (yX7_sayYard, cX7_sayYard, 5, (some .int)) := rfl
theorem mok_X7_sayYard : zMok (yX7_sayYard, cX7_sayYard, 5, (some .int)) 2 := ⟨mw_5_57, mw_1_8, by decide +kernel, by decide +kernel, by decide +kernel, by decide⟩
theorem md_X7_belief : zMD[158]? = some (yX7_belief, cX7_belief, 9, (some .int)) := rfl
theorem mok_X7_belief : zMok (yX7_belief, cX7_belief, 9, (some .int)) 3 := ⟨mw_5_53, mw_1_8, by decide +kernel, by decide +kernel, by decide +kernel, by decide⟩
theorem md_X7_likeliest : zMD[159]? = some (yX7_likeliest, cX7_likeliest, 6, (some .int)) := rfl
theorem mok_X7_likeliest : zMok (yX7_likeliest, cX7_likeliest, 6, (some .int)) 1 := ⟨mw_5_61, mw_1_8, by decide +kernel, by decide +kernel, by decide +kernel, by decide⟩
theorem md_X7_till : zMD[160]? = some (yX7_till, cX7_till, 4, (some .int)) := rfl
theorem mok_X7_till : zMok (yX7_till, cX7_till, 4, (some .int)) 2 := ⟨mw_5_65, mw_1_8, by decide +kernel, by decide +kernel, by decide +kernel, by decide⟩
theorem md_X7_sworeLater : zMD[161]? = some (yX7_sworeLater, cX7_sworeLater, 6, (some .int)) := rfl
theorem mok_X7_sworeLater : zMok (yX7_sworeLater, cX7_sworeLater, 6, (some .int)) 4 := ⟨mw_5_83, mw_1_8, by decide +kernel, by decide +kernel, by decide +kernel, by decide⟩
theorem md_X7_takeable : zMD[162]? = some (yX7_takeable, cX7_takeable, 3, (some .int)) := rfl
theorem mok_X7_takeable : zMok (yX7_takeable, cX7_takeable, 3, (some .int)) 0 := ⟨mw_5_79, mw_1_8, by decide +kernel, by decide +kernel, by decide +kernel, by decide⟩
theorem md_X7_take : zMD[163]? = some (yX7_take, cX7_take, 9, (some .int)) := rfl
theorem mok_X7_take : zMok (yX7_take, cX7_take, 9, (some .int)) 5 := ⟨mw_5_74, mw_1_8, by decide +kernel, by decide +kernel, by decide +kernel, by decide⟩
theorem md_X7_pain : zMD[164]? = some (yX7_pain, cX7_pain, 5, (some .int)) := rfl
theorem mok_X7_pain : zMok (yX7_pain, cX7_pain, 5, (some .int)) 3 := ⟨mw_5_87, mw_1_8, by decide +kernel, by decide +kernel, by decide +kernel, by decide⟩
theorem md_X7_isNear : zMD[165]? = some (yX7_isNear, cX7_isNear, 5, (some .boolean)) := rfl
theorem mok_X7_isNear : zMok (yX7_isNear, cX7_isNear, 5, (some .boolean)) 3 := ⟨mw_5_100, mw_1_8, by decide +kernel, by decide +kernel, by decide +kernel, by decide⟩
theorem md_X7_follow : zMD[166]? = some (yX7_follow, cX7_follow, 7, (some .int)) := rfl
theorem mok_X7_follow : zMok (yX7_follow, cX7_follow, 7, (some .int)) 4 := ⟨mw_5_96, mw_1_8, by decide +kernel, by decide +kernel, by decide +kernel, by decide⟩
theorem md_X7_order : zMD[167]? = some (yX7_order, cX7_order, 9, (some .int)) := rfl
theorem mok_X7_order : zMok (yX7_order, cX7_order, 9, (some .int)) 2 := ⟨mw_5_91, mw_1_8, by decide +kernel, by decide +kernel, by decide +kernel, by decide⟩
theorem md_X7_stood : zMD[168]? = some (yX7_stood, cX7_stood, 10, (some .int)) := rfl
theorem mok_X7_stood : zMok (yX7_stood, cX7_stood, 10, (some .int)) 3 := ⟨mw_5_104, mw_1_8, by decide +kernel, by decide +kernel, by decide +kernel, by decide⟩
theorem md_X7_shift : zMD[169]? = some (yX7_shift, cX7_shift, 10, (some .int)) := rfl
theorem mok_X7_shift : zMok (yX7_shift, cX7_shift, 10, (some .int)) 2 := ⟨mw_5_110, mw_1_8, by decide +kernel, by decide +kernel, by decide +kernel, by decide⟩
theorem md_X7_map : zMD[170]? = some (yX7_map, cX7_map, 3, (some .int)) := rfl
theorem mok_X7_map : zMok (yX7_map, cX7_map, 3, (some .int)) 2 := ⟨mw_5_114, mw_1_8, by decide +kernel, by decide +kernel, by decide +kernel, by decide⟩
theorem md_X7_agree : zMD[171]? = some (yX7_agree, cX7_agree, 5, (some .int)) := rfl
theorem mok_X7_agree : zMok (yX7_agree, cX7_agree, 5, (some .int)) 1 := ⟨mw_5_118, mw_1_8, by decide +kernel, by decide +kernel, by decide +kernel, by decide⟩
theorem md_X7_drawn : zMD[172]? = some (yX7_drawn, cX7_drawn, 11, (some .int)) := rfl
theorem mok_X7_drawn : zMok (yX7_drawn, cX7_drawn, 11, (some .int)) 3 := ⟨mw_5_122, mw_1_8, by decide +kernel, by decide +kernel, by decide +kernel, by decide⟩
theorem md_X7_image : zMD[173]? = some (yX7_image, cX7_image, 3, (some .int)) := rfl
theorem mok_X7_image : zMok (yX7_image, cX7_image, 3, (some .int)) 1 := ⟨mw_5_129, mw_1_8, by decide +kernel, by decide +kernel, by decide +kernel, by decide⟩
theorem md_X7_restore : zMD[174]? = some (yX7_restore, cX7_restore, 3, (some .int)) := rfl
theorem mok_X7_restore : zMok (yX7_restore, cX7_restore, 3, (some .int)) 1 := ⟨mw_5_133, mw_1_8, by decide +kernel, by decide +kernel, by decide +kernel, by decide⟩
theorem md_X7_isOf : zMD[175]? = some (yX7_isOf, cX7_isOf, 2, (some .boolean)) := rfl
theorem mok_X7_isOf : zMok (yX7_isOf, cX7_isOf, 2, (some .boolean)) 2 := ⟨mw_5_144, mw_1_8, by decide +kernel, by decide +kernel, by decide +kernel, by decide⟩
theorem md_X7_kind : zMD[176]? = some (yX7_kind, cX7_kind, 2, (some .int)) := rfl
theorem mok_X7_kind : zMok (yX7_kind, cX7_kind, 2, (some .int)) 1 := ⟨mw_5_137, mw_1_8, by decide +kernel, by decide +kernel, by decide +kernel, by decide⟩
theorem md_X7_as : zMD[177]? = some (yX7_as, cX7_as, 3, (some .int)) := rfl
theorem mok_X7_as : zMok (yX7_as, cX7_as, 3, (some .int)) 2 := ⟨mw_5_141, mw_1_8, by decide +kernel, by decide +kernel, by decide +kernel, by decide⟩
theorem md_X7_began : zMD[178]? = some (yX7_began, cX7_began, 2, none) := rfl
theorem mok_X7_began : zMok (yX7_began, cX7_began, 2, none) 1 := ⟨mw_5_160, mw_1_8, by decide +kernel, by decide +kernel, by decide +kernel, by decide⟩
theorem md_X7_plainSize : zMD[179]? = some (yX7_plainSize, cX7_plainSize, 2, (some .int)) := rfl
theorem mok_X7_plainSize : zMok (yX7_plainSize, cX7_plainSize, 2, (some .int)) 1 := ⟨mw_5_164, mw_1_8, by decide +kernel, by decide +kernel, by decide +kernel, by decide⟩
theorem md_X7_twinSize : zMD[180]? = some (yX7_twinSize, cX7_twinSize, 4, (some .int)) := rfl
theorem mok_X7_twinSize : zMok (yX7_twinSize, cX7_twinSize, 4, (some .int)) 1 := ⟨mw_5_156, mw_1_8, by decide +kernel, by decide +kernel, by decide +kernel, by decide⟩
theorem md_X7_markOf : zMD[181]? = some (yX7_markOf, cX7_markOf, 4, (some .int)) := rfl
theorem mok_X7_markOf : zMok (yX7_markOf, cX7_markOf, 4, (some .int)) 1 := ⟨mw_5_168, mw_1_8, by decide +kernel, by decide +kernel, by decide +kernel, by decide⟩
theorem md_X7_sizeOf : zMD[182]? = some (yX7_sizeOf, cX7_sizeOf, 4, (some .int)) := rfl
theorem mok_X7_sizeOf : zMok (yX7_sizeOf, cX7_sizeOf, 4, (some .int)) 1 := ⟨mw_5_152, mw_1_8, by decide +kernel, by decide +kernel, by decide +kernel, by decide⟩
theorem md_X7_ask : zMD[183]? = some (yX7_ask, cX7_ask, 3, (some .int)) := rfl
theorem mok_X7_ask : zMok (yX7_ask, cX7_ask, 3, (some .int)) 2 := ⟨mw_5_148, mw_1_8, by decide +kernel, by decide +kernel, by decide +kernel, by decide⟩
theorem md_X7_trace : zMD[184]? = some (yX7_trace, cX7_trace, 2, (some .int)) := rfl
theorem mok_X7_trace : zMok (yX7_trace, cX7_trace, 2, (some .int)) 1 := ⟨mw_5_172, mw_1_8, by decide +kernel, by decide +kernel, by decide +kernel, by decide⟩
theorem md_X7_count : zMD[185]? = some (yX7_count, cX7_count, 4, (some .int)) := rfl
theorem mok_X7_count : zMok (yX7_count, cX7_count, 4, (some .int)) 1 := ⟨mw_5_176, mw_1_8, by decide +kernel, by decide +kernel, by decide +kernel, by decide⟩
theorem md_X7_status : zMD[186]? = some (yX7_status, cX7_status, 1, (some .int)) := rfl
theorem mok_X7_status : zMok (yX7_status, cX7_status, 1, (some .int)) 0 := ⟨mw_5_180, mw_1_8, by decide +kernel, by decide +kernel, by decide +kernel, by decide⟩
theorem md_J6_bitCount_0f7a4 : zMD[187]? = some (yJ6_bitCount_0f7a4, cJ6_bitCount_0f7a4, 1, (some .int)) := rfl
theorem mok_J6_bitCount_0f7a4 : zMok (yJ6_bitCount_0f7a4, cJ6_bitCount_0f7a4, 1, (some .int)) 1 := ⟨mw_2_211, mw_1_11, by decide +kernel, by decide +kernel, by decide +kernel, by decide⟩
