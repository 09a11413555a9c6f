/-! the text of a parish: the reference's tokens -/
def mk (σ : zSo) (c s t v f a : Int32) : zSo := fun k i => if k = 70 then (if i = 12 then c else if i = 13 then s else if i = 14 then t else if i = 15 then v else if i = 16 then f else if i = 17 then a else σ k i) else σ k i
theorem mk_o {σ : zSo} {c s t v f a : Int32} {k : Nat} (h : k ≠ 70) : mk σ c s t v f a k = σ k := by
  funext i
  simp [mk, h]
theorem mk_c {σ : zSo} {c s t v f a : Int32} : mk σ c s t v f a 70 12 = c := rfl
theorem mk_s {σ : zSo} {c s t v f a : Int32} : mk σ c s t v f a 70 13 = s := rfl
theorem mk_t {σ : zSo} {c s t v f a : Int32} : mk σ c s t v f a 70 14 = t := rfl
theorem mk_v {σ : zSo} {c s t v f a : Int32} : mk σ c s t v f a 70 15 = v := rfl
theorem mk_f {σ : zSo} {c s t v f a : Int32} : mk σ c s t v f a 70 16 = f := rfl
theorem mk_a {σ : zSo} {c s t v f a : Int32} : mk σ c s t v f a 70 17 = a := rfl
theorem mk_n {σ : zSo} {c s t v f a : Int32} : mk σ c s t v f a 70 11 = σ 70 11 := rfl
theorem mk_l {σ : zSo} {c s t v f a : Int32} : mk σ c s t v f a 70 18 = σ 70 18 := rfl
theorem mk_tp {σ : zSo} {c s t v f a : Int32} : mk σ c s t v f a 78 = σ 78 := rfl
theorem mk_z {σ : zSo} {c s t v f a x : Int32} {i : Nat} {τ : zSo} (h : ∀ k, τ 70 k = if k = i then x else mk σ c s t v f a 70 k) (ho : ∀ k, k ≠ 70 → τ k = σ k) : zup (mk σ c s t v f a) 70 i x = τ := by
  funext k
  by_cases e : k = 70
  · subst e
    rw [zup_k]
    funext q
    rw [h q]
    rfl
  · rw [zup_o _ _ _ e, ho k e, mk_o e]
theorem mk_ext {τ σ : zSo} {c s t v f a : Int32} (hk : ∀ k, k ≠ 70 → τ k = σ k) (h0 : ∀ i, i < 12 ∨ 17 < i → τ 70 i = σ 70 i) (h1 : τ 70 12 = c) (h2 : τ 70 13 = s) (h3 : τ 70 14 = t) (h4 : τ 70 15 = v) (h5 : τ 70 16 = f) (h6 : τ 70 17 = a) : τ = mk σ c s t v f a := by
  funext k
  by_cases e : k = 70
  · subst e
    funext i
    by_cases c0 : i < 12 ∨ 17 < i
    · rw [h0 i c0]
      unfold mk
      rw [if_pos rfl, if_neg (by omega), if_neg (by omega), if_neg (by omega), if_neg (by omega), if_neg (by omega), if_neg (by omega)]
    · rcases (show i = 12 ∨ i = 13 ∨ i = 14 ∨ i = 15 ∨ i = 16 ∨ i = 17 by omega) with rfl | rfl | rfl | rfl | rfl | rfl
      · exact h1
      · exact h2
      · exact h3
      · exact h4
      · exact h5
      · exact h6
  · rw [hk k e, mk_o e]
theorem mk_zc {σ : zSo} {c s t v f a x : Int32} : zup (mk σ c s t v f a) 70 12 x = mk σ x s t v f a := mk_ext (fun k h => by rw [zup_o _ _ _ h, mk_o h]) (fun i h => by simp only [zup, upd, if_true]; rw [if_neg (by omega)]; simp only [mk, if_true]; rw [if_neg (by omega), if_neg (by omega), if_neg (by omega), if_neg (by omega), if_neg (by omega), if_neg (by omega)]) rfl rfl rfl rfl rfl rfl
theorem mk_zs {σ : zSo} {c s t v f a x : Int32} : zup (mk σ c s t v f a) 70 13 x = mk σ c x t v f a := mk_ext (fun k h => by rw [zup_o _ _ _ h, mk_o h]) (fun i h => by simp only [zup, upd, if_true]; rw [if_neg (by omega)]; simp only [mk, if_true]; rw [if_neg (by omega), if_neg (by omega), if_neg (by omega), if_neg (by omega), if_neg (by omega), if_neg (by omega)]) rfl rfl rfl rfl rfl rfl
theorem mk_zt {σ : zSo} {c s t v f a x : Int32} : zup (mk σ c s t v f a) 70 14 x = mk σ c s x v f a := mk_ext (fun k h => by rw [zup_o _ _ _ h, mk_o h]) (fun i h => by simp only [zup, upd, if_true]; rw [if_neg (by omega)]; simp only [mk, if_true]; rw [if_neg (by omega), if_neg (by omega), if_neg (by omega), if_neg (by omega), if_neg (by omega), if_neg (by omega)]) rfl rfl rfl rfl rfl rfl
theorem mk_zv {σ : zSo} {c s t v f a x : Int32} : zup (mk σ c s t v f a) 70 15 x = mk σ c s t x f a := mk_ext (fun k h => by rw [zup_o _ _ _ h, mk_o h]) (fun i h => by simp only [zup, upd, if_true]; rw [if_neg (by omega)]; simp only [mk, if_true]; rw [if_neg (by omega), if_neg (by omega), if_neg (by omega), if_neg (by omega), if_neg (by omega), if_neg (by omega)]) rfl rfl rfl rfl rfl rfl
theorem mk_zf {σ : zSo} {c s t v f a x : Int32} : zup (mk σ c s t v f a) 70 16 x = mk σ c s t v x a := mk_ext (fun k h => by rw [zup_o _ _ _ h, mk_o h]) (fun i h => by simp only [zup, upd, if_true]; rw [if_neg (by omega)]; simp only [mk, if_true]; rw [if_neg (by omega), if_neg (by omega), if_neg (by omega), if_neg (by omega), if_neg (by omega), if_neg (by omega)]) rfl rfl rfl rfl rfl rfl
theorem mk_za {σ : zSo} {c s t v f a x : Int32} : zup (mk σ c s t v f a) 70 17 x = mk σ c s t v f x := mk_ext (fun k h => by rw [zup_o _ _ _ h, mk_o h]) (fun i h => by simp only [zup, upd, if_true]; rw [if_neg (by omega)]; simp only [mk, if_true]; rw [if_neg (by omega), if_neg (by omega), if_neg (by omega), if_neg (by omega), if_neg (by omega), if_neg (by omega)]) rfl rfl rfl rfl rfl rfl
theorem mk_zo {σ : zSo} {c s t v f a x : Int32} {k i : Nat} (h : k ≠ 70) : zup (mk σ c s t v f a) k i x = mk (zup σ k i x) c s t v f a := mk_ext (fun q hq => by
  by_cases e : q = k
  · subst e
    rw [zup_k, zup_k, mk_o h]
  · rw [zup_o _ _ _ e, zup_o _ _ _ e, mk_o hq]) (fun i' hi => by rw [zup_o _ _ _ (Ne.symm h), zup_o _ _ _ (Ne.symm h)]; simp only [mk, if_true]; rw [if_neg (by omega), if_neg (by omega), if_neg (by omega), if_neg (by omega), if_neg (by omega), if_neg (by omega)]) (by rw [zup_o _ _ _ (Ne.symm h)]; rfl) (by rw [zup_o _ _ _ (Ne.symm h)]; rfl) (by rw [zup_o _ _ _ (Ne.symm h)]; rfl) (by rw [zup_o _ _ _ (Ne.symm h)]; rfl) (by rw [zup_o _ _ _ (Ne.symm h)]; rfl) (by rw [zup_o _ _ _ (Ne.symm h)]; rfl)
theorem mk_eta (σ : zSo) : σ = mk σ (σ 70 12) (σ 70 13) (σ 70 14) (σ 70 15) (σ 70 16) (σ 70 17) := mk_ext (fun _ _ => rfl) (fun _ _ => rfl) rfl rfl rfl rfl rfl rfl
def TMm (σ : zSo) (b : Nat → Nat) (n : Nat) : Prop := n ≤ 120 ∧ σ 70 11 = nI n ∧ ∀ j, j < n → σ 78 j = nI (b j) ∧ b j < 256
/-- what stands at j, as a token -/
def TK (b : Nat → Nat) (n j : Nat) (c t v : Int32) : Prop :=
  (n = j ∧ t = 1) ∨ (j < n ∧ (97 ≤ b j ∧ b j ≤ 122) ∧ t = 2 ∧ v = nI (b j) ∧ c = nI (j + 1)) ∨ (j < n ∧ (b j = 44 ∨ b j = 59) ∧ t = 4 ∧ v = nI (b j) ∧ c = nI (j + 1)) ∨
  (isd b n j = true ∧ isd b n (j + 1) = false ∧ t = 3 ∧ v = nI (b j - 48) ∧ c = nI (j + 1)) ∨
  (isd b n j = true ∧ isd b n (j + 1) = true ∧ isd b n (j + 2) = false ∧ t = 3 ∧ v = nI (10 * (b j - 48) + (b (j + 1) - 48)) ∧ c = nI (j + 2)) ∨
  (isd b n j = true ∧ isd b n (j + 1) = true ∧ isd b n (j + 2) = true ∧ t = 0) ∨ (j < n ∧ ¬ (97 ≤ b j ∧ b j ≤ 122) ∧ ¬ (b j = 44 ∨ b j = 59) ∧ isd b n j = false ∧ t = 0)
