/-! calls that only read -/
abbrev R2 (a b : Option Int32) : Prop := ∃ v, a = some v ∧ b = some v
theorem R_if {c : Prop} [Decidable c] {a a' b b' : Option Int32} (h1 : c → R2 a b) (h2 : ¬ c → R2 a' b') : R2 (if c then a else a') (if c then b else b') := by
  by_cases h : c
  · rw [if_pos h, if_pos h]; exact h1 h
  · rw [if_neg h, if_neg h]; exact h2 h
theorem R_of {a b : Option Int32} {v : Int32} (h1 : a = some v) (h2 : b = some v) : R2 a b := ⟨v, h1, h2⟩
theorem nJ0 {x : Int32} (h : x = 0) : x = nI 0 := h
theorem nb1 : Nat.ble 1 1 = true := rfl
theorem nb144 : Nat.ble 1 144 = true := rfl
section RD
variable {B : zM} {tw s u c np w p n tl kn en pa pn : Nat} {T : Nat → Nat → Nat} {r X kw kd kb ew el : Nat → Nat} {P : Nat → Nat → Nat} {I : Nat → Nat → Int32} {x y z : Int32}
theorem GB.hw (h : GB B tw s u) : tw = 4 ∨ tw = 13 := h.2.2.2.2.1
theorem GB.hs (h : GB B tw s u) : s = 22 := h.2.2.2.2.2.2.2.1
theorem X_isWord (hB : GB B tw s u) (hT : gT tw T I) : f_X8_isWord 1 x (zI B I) = some (if wd x (T 0 1) then 1 else 0) := by
  obtain ⟨hx, hy, ht, m1, -⟩ := hB
  have e := hT.2.2.1.1.2.1
  have b := hT.1.2.1
  simp only [f_X8_isWord, nb1, hx, m1, ht, cond_true, oR_eq, oI_eq, Option.bind_some, e]
  exact x_wd (by omega)
theorem X_isPerson (hB : GB B tw s u) (hT : gT tw T I) : f_X8_isPerson 1 x (zI B I) = some (if wd x (T 0 2) then 1 else 0) := by
  obtain ⟨hx, hy, ht, m1, -⟩ := hB
  have e := hT.2.2.1.1.2.2.2.1
  have b := hT.1.2.2.1
  simp only [f_X8_isPerson, nb1, hx, m1, ht, cond_true, oR_eq, oI_eq, Option.bind_some, e]
  exact x_wd (by omega)
theorem X_isNeed (hB : GB B tw s u) (hT : gT tw T I) : f_X8_isNeed 1 x (zI B I) = some (if wd x (T 0 3) then 1 else 0) := by
  obtain ⟨hx, hy, ht, m1, -⟩ := hB
  have e := hT.2.2.1.1.2.2.2.2.1
  have b := hT.1.2.2.2.1
  simp only [f_X8_isNeed, nb1, hx, m1, ht, cond_true, oR_eq, oI_eq, Option.bind_some, e]
  exact x_wd (by omega)
theorem zb01 {b : Bool} : zb (if b then (1 : Int32) else 0) = some (if b then 1 else 0) := by cases b <;> rfl
theorem Y_isWord (hB : GB B tw s u) (hT : gT tw T I) : f_X9_isWord 144 x (zI B I) = some (if wd x (T 0 1) then 1 else 0) := by
  have hy := hB.2.1
  have e := hT.2.2.2.1.2.1
  have b := hT.1.2.1
  simp (disch := omega) only [f_X9_isWord, nb144, hy, cond_true, oI_eq, Option.bind_some, e, Y_wd, zb01]
theorem Y_isPerson (hB : GB B tw s u) (hT : gT tw T I) : f_X9_isPerson 144 x (zI B I) = some (if wd x (T 0 2) then 1 else 0) := by
  have hy := hB.2.1
  have e := hT.2.2.2.1.2.2.1
  have b := hT.1.2.2.1
  simp (disch := omega) only [f_X9_isPerson, nb144, hy, cond_true, oI_eq, Option.bind_some, e, Y_wd, zb01]
theorem Y_isNeed (hB : GB B tw s u) (hT : gT tw T I) : f_X9_isNeed 144 x (zI B I) = some (if wd x (T 0 3) then 1 else 0) := by
  have hy := hB.2.1
  have e := hT.2.2.2.1.2.2.2
  have b := hT.1.2.2.2.1
  simp (disch := omega) only [f_X9_isNeed, nb144, hy, cond_true, oI_eq, Option.bind_some, e, Y_wd, zb01]
end RD
