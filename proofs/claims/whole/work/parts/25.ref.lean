/-! the reference, row by row -/
abbrev isY (B : zM) : Prop := zac B 144 9 58 = true ∧ mR B 144 0 = 145 ∧ mR B 144 1 = 146 ∧ mR B 144 2 = 147 ∧ mR B 144 9 = 148 ∧ mR B 144 10 = 149 ∧ mR B 144 11 = 150 ∧ mR B 144 12 = 151 ∧ mR B 144 13 = 152 ∧ mR B 144 14 = 153 ∧ mR B 144 15 = 154 ∧ mR B 144 26 = 155 ∧ mR B 144 27 = 156 ∧ mR B 144 28 = 157 ∧ mR B 144 29 = 158 ∧ mR B 144 30 = 159 ∧ mR B 144 31 = 160 ∧ mR B 144 32 = 161 ∧ mR B 144 34 = 162 ∧ mR B 144 36 = 163 ∧ mR B 144 37 = 164 ∧ mR B 144 38 = 165 ∧ mR B 144 39 = 166 ∧ mR B 144 40 = 167 ∧ mR B 144 43 = 168 ∧ mR B 144 46 = 169 ∧ mR B 144 47 = 170 ∧ mR B 144 49 = 171 ∧ mR B 144 50 = 172 ∧ mR B 144 51 = 173 ∧ mR B 144 53 = 174 ∧ mR B 144 54 = 175 ∧ mR B 144 55 = 176 ∧ mR B 144 56 = 177 ∧ mR B 144 57 = 178 ∧ zlI B 145 = 69 ∧ zln B 10 145 = 69 ∧ zlI B 146 = 69 ∧ zln B 10 146 = 69 ∧ zlI B 147 = 1104 ∧ zln B 10 147 = 1104 ∧ zlI B 148 = 8 ∧ zln B 10 148 = 8 ∧ zlI B 149 = 8 ∧ zln B 10 149 = 8 ∧ zlI B 150 = 16 ∧ zln B 10 150 = 16 ∧ zln B 11 151 = 8 ∧ zln B 11 152 = 5 ∧ zlI B 153 = 32 ∧ zln B 10 153 = 32 ∧ zlI B 154 = 240 ∧ zln B 10 154 = 240 ∧ zlI B 155 = 8 ∧ zln B 10 155 = 8 ∧ zlI B 156 = 8 ∧ zln B 10 156 = 8 ∧ zlI B 157 = 8 ∧ zln B 10 157 = 8 ∧ zlI B 158 = 16 ∧ zln B 10 158 = 16 ∧ zln B 11 159 = 8 ∧ zln B 11 160 = 5 ∧ zlI B 161 = 32 ∧ zln B 10 161 = 32 ∧ zlI B 162 = 8 ∧ zln B 10 162 = 8 ∧ zlI B 163 = 8 ∧ zln B 10 163 = 8 ∧ zlI B 164 = 9 ∧ zln B 10 164 = 9 ∧ zlI B 165 = 9 ∧ zln B 10 165 = 9 ∧ zlI B 166 = 8 ∧ zln B 10 166 = 8 ∧ zlI B 167 = 8 ∧ zln B 10 167 = 8 ∧ zlI B 168 = 8 ∧ zln B 10 168 = 8 ∧ zlI B 169 = 10 ∧ zln B 10 169 = 10 ∧ zlI B 170 = 10 ∧ zln B 10 170 = 10 ∧ zlI B 171 = 6 ∧ zln B 10 171 = 6 ∧ zlI B 172 = 6 ∧ zln B 10 172 = 6 ∧ zln B 11 173 = 6 ∧ zlI B 174 = 15 ∧ zln B 10 174 = 15 ∧ zlI B 175 = 15 ∧ zln B 10 175 = 15 ∧ zln B 11 176 = 2 ∧ zlI B 177 = 138 ∧ zln B 10 177 = 138 ∧ zlI B 178 = 2 ∧ zln B 10 178 = 2 ∧ B.1 = 178
abbrev isX (B : zM) : Prop := zac B 1 8 13 = true ∧ mR B 1 0 = 2 ∧ mR B 1 5 = 32 ∧ mR B 1 6 = 114 ∧ mR B 1 7 = 115 ∧ mR B 1 8 = 123 ∧ mR B 1 9 = 127 ∧ mR B 1 10 = 130 ∧ mR B 1 11 = 131 ∧ zac B 2 6 6 = true ∧ mR B 2 0 = 3 ∧ zlI B 3 = 240 ∧ zln B 10 3 = 240 ∧ zac B 32 3 3 = true ∧ mR B 32 0 = 33 ∧ zac B 33 13 16 = true ∧ zac B 114 12 2 = true ∧ zac B 115 4 10 = true ∧ mR B 115 0 = 116 ∧ mR B 115 1 = 117 ∧ mR B 115 2 = 118 ∧ mR B 115 3 = 119 ∧ mR B 115 4 = 120 ∧ mR B 115 5 = 121 ∧ mR B 115 6 = 122 ∧ zlI B 116 = 8 ∧ zln B 10 116 = 8 ∧ zlI B 117 = 8 ∧ zln B 10 117 = 8 ∧ zlI B 118 = 8 ∧ zln B 10 118 = 8 ∧ zlI B 119 = 40 ∧ zln B 10 119 = 40 ∧ zlI B 120 = 9 ∧ zln B 10 120 = 9 ∧ zlI B 121 = 8 ∧ zln B 10 121 = 8 ∧ zlI B 122 = 8 ∧ zln B 10 122 = 8 ∧ zac B 123 2 4 = true ∧ mR B 123 0 = 124 ∧ mR B 123 1 = 125 ∧ mR B 123 2 = 126 ∧ zlI B 124 = 6 ∧ zln B 10 124 = 6 ∧ zlI B 125 = 6 ∧ zln B 10 125 = 6 ∧ zln B 11 126 = 6 ∧ zac B 127 0 3 = true ∧ mR B 127 0 = 128 ∧ mR B 127 1 = 129 ∧ zlI B 128 = 15 ∧ zln B 10 128 = 15 ∧ zlI B 129 = 15 ∧ zln B 10 129 = 15 ∧ zlI B 130 = 8 ∧ zln B 10 130 = 8 ∧ zlI B 131 = 10 ∧ zln B 10 131 = 10 ∧ zac B 132 1 3 = true ∧ mR B 132 0 = 133 ∧ zac B 138 1 3 = true ∧ mR B 138 0 = 139 ∧ B.1 = 178
abbrev isRow (B : zM) (a : Nat) : Prop := Nat.ble 1 a = true ∧ zlI B a = 69 ∧ zln B 10 a = 69
def YT (T : Nat → Nat → Nat) (I : Nat → Nat → Int32) : Prop :=
  (I 144 5 = nI (T 0 0) ∧ I 144 6 = nI (T 0 1) ∧ I 144 7 = nI (T 0 2) ∧ I 144 8 = nI (T 0 3)) ∧
  (∀ w, w < T 0 1 → I 148 w = nI (T 1 w) ∧ I 149 w = nI (T 2 w)) ∧ (∀ k, k < 16 → I 150 k = nI (T 3 k)) ∧ (∀ w, w < 8 → I 151 w = nI (T 4 w)) ∧ (∀ p, p < T 0 2 → I 152 p = nI (T 5 p)) ∧
  (∀ n, n < T 0 3 → I 153 (4 * n) = nI (T 6 (4 * n)) ∧ I 153 (4 * n + 1) = nI (T 6 (4 * n + 1)) ∧ I 153 (4 * n + 2) = nI (T 6 (4 * n + 2)) ∧ I 153 (4 * n + 3) = nI (T 6 (4 * n + 3)))
/-- the same numbers at the reference's town -/
def YTs (I I' : Nat → Nat → Int32) : Prop := I' 144 5 = I 144 5 ∧ I' 144 6 = I 144 6 ∧ I' 144 7 = I 144 7 ∧ I' 144 8 = I 144 8 ∧ I' 148 = I 148 ∧ I' 149 = I 149 ∧ I' 150 = I 150 ∧ I' 151 = I 151 ∧ I' 152 = I 152 ∧ I' 153 = I 153
theorem YT.same {T : Nat → Nat → Nat} {I I' : Nat → Nat → Int32} (h : YT T I) (hs : YTs I I') : YT T I' := by
  obtain ⟨a1, a2, a3, a4, a5, a6, a7, a8, a9, a10⟩ := hs
  unfold YT
  rw [a1, a2, a3, a4, a5, a6, a7, a8, a9, a10]
  exact h
theorem YTs.fr {a b : Nat} {I I' : Nat → Nat → Int32} (h : Fr a b I I') (hs : b < 144 ∨ 153 < a ∨ (145 ≤ a ∧ b ≤ 147)) : YTs I I' := by
  unfold YTs
  rw [h 144 (by omega), h 148 (by omega), h 149 (by omega), h 150 (by omega), h 151 (by omega), h 152 (by omega), h 153 (by omega)]
  exact ⟨rfl, rfl, rfl, rfl, rfl, rfl, rfl, rfl, rfl, rfl⟩
theorem ySays_t {s p w : Nat} {r : Nat → Nat} {J : Nat → Nat → Int32} (c : 0 < r (29 + (8 * p + w))) (h : YS s (va_up (va_up r (29 + (8 * p + w)) (r (29 + (8 * p + w)) - 1)) (21 + w) (cnt (r (21 + w)) 1)) J) : YS s (rSays r p w) J := by
  unfold rSays; rw [if_pos c]; exact h
theorem ySays_f {s p w : Nat} {r : Nat → Nat} {J : Nat → Nat → Int32} (c : ¬ 0 < r (29 + (8 * p + w))) (h : YS s (va_up (va_up r (13 + w) (r (13 + w) - 1)) (21 + w) (cnt (r (21 + w)) 1)) J) : YS s (rSays r p w) J := by
  unfold rSays; rw [if_neg c]; exact h
theorem cnt0 {a : Nat} (h : a ≤ 999999) : cnt a 0 = a := by unfold cnt; split <;> omega
section YST
variable {B : zM} {a p w S n : Nat} {r : Nat → Nat} {T : Nat → Nat → Nat} {I : Nat → Nat → Int32}
theorem Y_up {x v : Nat} {M : zM} (ha : x < 2000000) (hb : v < 2000000) : f_X9_up (nI x) (nI v) M = some (nI (cnt x v)) := by
  unfold f_X9_up
  rw [show (999999 : Int32) = nI 999999 from rfl, nI_add, cnt]
  by_cases h : x + v ≤ 999999
  · rw [if_pos ((nI_leI (by omega) (by omega)).mpr h)]
    by_cases h2 : x + v < 999999
    · rw [if_pos h2]
    · rw [if_neg h2, show x + v = 999999 by omega]
  · rw [if_neg (fun q => h ((nI_leI (by omega) (by omega)).mp q)), if_neg (by omega)]
theorem Y_up1 {x : Nat} {M : zM} (ha : x < 2000000) : f_X9_up (nI x) 1 M = some (nI (cnt x 1)) := Y_up (v := 1) ha (by omega)
theorem Y_has {M : zM} (hS : S < 1024) (hw : w < 8) : f_X9_has (nI S) (nI w) M = some (if hasB S w then 1 else 0) := by
  unfold f_X9_has
  rw [nI_bit hS hw]
  rcases Bool.eq_false_or_eq_true (hasB S w) with hb | hb
  · rw [hasB_t hb, if_pos (by decide), if_pos hb]
  · rw [hasB_f hb, if_neg (by decide), if_neg (by rw [hb]; decide)]
theorem Y_canSay (ha : isRow B a) (h : YS a r I) (hr : rI r) (hp : p < 5) (hw : w < 8) : f_X9_canSay a (nI p) (nI w) (zI B I) = some (if rCan r p w then 1 else 0) := by
  have b := hr.b hp hw
  have e1 := h (29 + (8 * p + w)) (by omega)
  have e2 := h (13 + w) (by omega)
  simp (disch := omega) only [f_X9_canSay, ha, cond_true, nl29, nl8, nl13, pk_mul, nI_add, Nat.add_assoc, aI_eq, if_pos, e1, e2, Option.bind_some]
  rw [nl0]
  by_cases c1 : 0 < r (29 + (8 * p + w))
  · rw [if_pos ((nI_ltI (by omega) (by omega)).mpr c1), if_pos (by simp [rCan]; omega)]
  · rw [if_neg (fun q => c1 ((nI_ltI (by omega) (by omega)).mp q))]
    by_cases c2 : 0 < r (13 + w)
    · rw [if_neg (fun q => absurd ((nI_leI (by omega) (by omega)).mp q) (by omega)), if_pos (by simp [rCan]; omega)]
    · rw [if_pos ((nI_leI (by omega) (by omega)).mpr (by omega)), if_neg (by simp [rCan]; omega)]
theorem Y_says (ha : isRow B a) (h : YS a r I) (hr : rI r) (hp : p < 5) (hw : w < 8) (hc : rCan r p w = true) : ∃ I', f_X9_says a (nI p) (nI w) (zI B I) = some (zI B I') ∧ YS a (rSays r p w) I' ∧ Fr a a I I' := by
  have b := hr.b hp hw
  have b2 := hr.2.1 w hw
  have e1 := h (29 + (8 * p + w)) (by omega)
  have e2 := h (13 + w) (by omega)
  simp only [rCan, decide_eq_true_eq] at hc
  simp (disch := omega) only [f_X9_says, ha, cond_true, nl29, nl8, nl13, nl21, pk_mul, nI_add, Nat.add_assoc, aI_eq, if_pos, e1, e2, Option.bind_some]
  rw [nl0]
  by_cases c1 : 0 < r (29 + (8 * p + w))
  · rw [if_neg (fun q => absurd ((nI_leI (by omega) (by omega)).mp q) (by omega))]
    have h1 := h.put (j := 29 + (8 * p + w)) (v := r (29 + (8 * p + w)) - 1)
    have e3 := h1 (21 + w) (by omega)
    rw [show va_up r (29 + (8 * p + w)) (r (29 + (8 * p + w)) - 1) (21 + w) = r (21 + w) by rw [va_up, if_neg (by omega)]] at e3
    have h2 := h1.put (j := 21 + w) (v := cnt (r (21 + w)) 1)
    have h3 := ySays_t c1 h2
    refine ⟨_, ?_, h3, (Fr.up (i := a) (Nat.le_refl _) (Nat.le_refl _)).tr (Fr.up (i := a) (Nat.le_refl _) (Nat.le_refl _))⟩
    simp (disch := omega) only [nl1, pk_sub, sI_eq, ha, if_pos, Option.bind_some, aI_eq, e3, Y_up]
  · rw [if_pos ((nI_leI (by omega) (by omega)).mpr (by omega))]
    have h1 := h.put (j := 13 + w) (v := r (13 + w) - 1)
    have e3 := h1 (21 + w) (by omega)
    rw [show va_up r (13 + w) (r (13 + w) - 1) (21 + w) = r (21 + w) by rw [va_up, if_neg (by omega)]] at e3
    have h2 := h1.put (j := 21 + w) (v := cnt (r (21 + w)) 1)
    have h3 := ySays_f c1 h2
    refine ⟨_, ?_, h3, (Fr.up (i := a) (Nat.le_refl _) (Nat.le_refl _)).tr (Fr.up (i := a) (Nat.le_refl _) (Nat.le_refl _))⟩
    simp (disch := omega) only [nl1, pk_sub, sI_eq, ha, if_pos, Option.bind_some, aI_eq, e3, Y_up]
theorem Y_canGo_lp (ha : isRow B a) (h : YS a r I) (hr : rI r) (hp : p < 5) (hS : S < 1024) : ∀ m i n (b : Bool), i + m = 8 → m < n → L_X9_canGo_13 n a (nI p) (nI S) (if b then 1 else 0) (nI i) (zI B I) = some (if b && gAll r p S m i then 1 else 0) := by
  intro m
  induction m with
  | zero =>
    intro i n b hi hn
    obtain ⟨n, rfl⟩ := Nat.exists_eq_succ_of_ne_zero (show n ≠ 0 by omega)
    have hi : i = 8 := by omega
    subst hi
    simp only [Nat.succ_eq_add_one, L_X9_canGo_13, gAll, Bool.and_true]
    rw [if_pos (by decide)]
  | succ m ih =>
    intro i n b hi hn
    obtain ⟨n, rfl⟩ := Nat.exists_eq_succ_of_ne_zero (show n ≠ 0 by omega)
    have h8 : ¬ (8 : Int32) ≤ nI i := by rw [nl8]; exact fun q => absurd ((nI_leI (by omega) (by omega)).mp q) (by omega)
    have j0 := ih (i + 1) n false (by omega) (by omega)
    have j1 := ih (i + 1) n true (by omega) (by omega)
    simp only [Bool.false_eq_true, if_false, if_true, Bool.false_and, Bool.true_and] at j0 j1
    simp only [Nat.succ_eq_add_one, L_X9_canGo_13, if_neg h8, gAll, Y_has hS (show i < 8 by omega), Y_canSay ha h hr hp (show i < 8 by omega), Option.bind_some]
    rw [show nI i + 1 = nI (i + 1) from nI_1 i, j0, j1]
    cases b
    · simp
    · rcases Bool.eq_false_or_eq_true (hasB S i) with hb | hb <;> rcases Bool.eq_false_or_eq_true (rCan r p i) with hc | hc <;> simp [hb, hc]
theorem Y_canGo (ha : isRow B a) (h : YS a r I) (hr : rI r) (hp : p < 5) (hS : S < 1024) : f_X9_canGo a (nI p) (nI S) (zI B I) = some (if rGoB r p S then 1 else 0) := by
  have j0 := Y_canGo_lp ha h hr hp hS 8 0 zN false (by omega) (by decide)
  have j1 := Y_canGo_lp ha h hr hp hS 8 0 zN true (by omega) (by decide)
  simp only [Bool.false_eq_true, if_false, if_true, Bool.false_and, Bool.true_and] at j0 j1
  have hz : (nI S = 0) ↔ S = 0 := by rw [nl0]; exact nI_eq (by omega) (by omega)
  simp only [f_X9_canGo, ha, cond_true]
  rw [show L_X9_canGo_13 zN a (nI p) (nI S) 0 0 (zI B I) = some 0 from j0, show L_X9_canGo_13 zN a (nI p) (nI S) 1 0 (zI B I) = _ from j1]
  unfold rGoB
  by_cases hS0 : S = 0
  · rw [if_pos (hz.mpr hS0)]
    simp [hS0, zb]
  · simp only [hz, hS0, if_false, ne_eq, not_false_eq_true, decide_true, Bool.true_and]
    cases hg : gAll r p S 8 0 <;> simp [zb]
theorem Y_goes_lp (ha : isRow B a) (hp : p < 5) (hS : S < 1024) : ∀ m i n r I, i + m = 8 → m < n → YS a r I → rI r → gAll r p S m i = true → ∃ I', L_X9_goes_2 n a (nI p) (nI S) (nI i) (zI B I) = some (zI B I') ∧ YS a (itr (goS p S) m i r) I' ∧ Fr a a I I' := by
  intro m
  induction m with
  | zero =>
    intro i n r I hi hn h hr hg
    obtain ⟨n, rfl⟩ := Nat.exists_eq_succ_of_ne_zero (show n ≠ 0 by omega)
    have hi : i = 8 := by omega
    subst hi
    refine ⟨I, ?_, h, Fr.rf⟩
    simp only [Nat.succ_eq_add_one, L_X9_goes_2]
    rw [if_pos (show (8 : Int32) ≤ nI 8 by decide)]
  | succ m ih =>
    intro i n r I hi hn h hr hg
    obtain ⟨n, rfl⟩ := Nat.exists_eq_succ_of_ne_zero (show n ≠ 0 by omega)
    have h8 : ¬ (8 : Int32) ≤ nI i := by rw [nl8]; exact fun q => absurd ((nI_leI (by omega) (by omega)).mp q) (by omega)
    simp only [Nat.succ_eq_add_one, L_X9_goes_2, if_neg h8, Y_has hS (show i < 8 by omega), Option.bind_some, itr]
    unfold gAll at hg
    rw [show nI i + 1 = nI (i + 1) from nI_1 i]
    rcases Bool.eq_false_or_eq_true (hasB S i) with hb | hb
    · simp only [hb, Bool.not_true, Bool.false_or, Bool.and_eq_true] at hg
      obtain ⟨I1, e1, h1, f1⟩ := Y_says ha h hr hp (show i < 8 by omega) hg.1
      have e : goS p S i r = rSays r p i := by simp [goS, hb]
      rw [e]
      obtain ⟨I2, e2, h2, f2⟩ := ih (i + 1) n (rSays r p i) I1 (by omega) (by omega) h1 (hr.says hp (by omega)) (by rw [gAll_says _ _ (by omega) (by omega)]; exact hg.2)
      refine ⟨I2, ?_, h2, f1.tr f2⟩
      rw [if_pos hb, if_neg (by decide), e1, Option.bind_some, e2]
    · have e : goS p S i r = r := by simp [goS, hb]
      rw [e, hb]
      simp only [Bool.false_eq_true, if_false, if_true]
      exact ih (i + 1) n r I (by omega) (by omega) h hr (by simpa [hb] using hg)
theorem Y_goes (ha : isRow B a) (h : YS a r I) (hr : rI r) (hp : p < 5) (hS : S < 1024) (hg : rGoB r p S = true) : ∃ I', f_X9_goes a (nI p) (nI S) (zI B I) = some (zI B I') ∧ YS a (rGo r p S) I' ∧ Fr a a I I' := by
  simp only [rGoB, Bool.and_eq_true] at hg
  obtain ⟨I1, e1, h1, f1⟩ := Y_goes_lp ha hp hS 8 0 zN r I (by omega) (by decide) h hr hg.2
  refine ⟨I1, ?_, h1, f1⟩
  simp only [f_X9_goes, ha, cond_true]
  rw [nl0, e1]
  rfl
end YST
