/-! the invariant at the loop's start -/
def aNb (B : zM) (i : Nat) : Bool := Nat.ble 1 i && Nat.ble i B.1 && decide ((zsh i).1 = 10) && Nat.blt B.1 1000
theorem aN_of {B : zM} {I : Nat → Nat → Int32} {i n : Nat} (h : aNb B i = true) (e : zlI B i = n) : aN (zI B I) i = some (nI n) := by
  unfold aNb at h
  rw [Bool.and_eq_true, Bool.and_eq_true, Bool.and_eq_true] at h
  obtain ⟨⟨⟨h1, h2⟩, h3⟩, h4⟩ := h
  unfold aN
  rw [zlI_zI, e]
  show (bif (Nat.ble 1 i && Nat.ble i B.1 && decide ((zsh i).1 = 10) || decide (i = 1000 ∨ i = 1001 ∨ i = 1002)) && Nat.blt B.1 1000 then some (nI n) else none) = some (nI n)
  rw [h1, h2, h3, h4]
  rfl
theorem zlI_ph {A : Nat → Nat → Int32} {C : Nat → Nat → Nat} {M : zM} {i : Nat} (h : i < 1000) : zlI (ph A C M) i = zlI M i := by
  have c : ¬ 1000 ≤ i := by omega
  unfold zlI
  rw [if_neg c, if_neg c]
  rfl
abbrev isStb (B : zM) (s : Nat) : Prop := Nat.ble 1 s = true ∧ s + 4 < 1000 ∧ zac B s 5 9 = true ∧ mR B s 0 = s + 1 ∧ mR B s 1 = s + 2 ∧ mR B s 2 = s + 3 ∧ mR B s 3 = s + 4 ∧ zlI B (s + 1) = 8 ∧ zlI B (s + 2) = 8 ∧ zlI B (s + 3) = 8 ∧ zlI B (s + 4) = 40 ∧ zln B 10 (s + 1) = 8 ∧ zln B 10 (s + 2) = 8 ∧ zln B 10 (s + 3) = 8 ∧ zln B 10 (s + 4) = 40 ∧ aNb B (s + 4) = true
abbrev isTwb (B : zM) (t : Nat) : Prop := Nat.ble 1 t = true ∧ t + 8 < 1000 ∧ zac B t 7 15 = true ∧ mR B t 7 = t + 1 ∧ mR B t 8 = t + 2 ∧ mR B t 9 = t + 3 ∧ mR B t 10 = t + 4 ∧ mR B t 11 = t + 5 ∧ mR B t 12 = t + 6 ∧ mR B t 13 = t + 7 ∧ mR B t 14 = t + 8 ∧ zlI B (t + 1) = 8 ∧ zlI B (t + 2) = 8 ∧ zlI B (t + 3) = 8 ∧ zlI B (t + 4) = 16 ∧ zlI B (t + 5) = 8 ∧ zlI B (t + 6) = 8 ∧ zlI B (t + 7) = 8 ∧ zlI B (t + 8) = 8 ∧ zln B 10 (t + 1) = 8 ∧ zln B 10 (t + 2) = 8 ∧ zln B 10 (t + 3) = 8 ∧ zln B 10 (t + 4) = 16 ∧ zln B 10 (t + 5) = 8 ∧ zln B 10 (t + 6) = 8 ∧ zln B 10 (t + 7) = 8 ∧ zln B 10 (t + 8) = 8 ∧ aNb B (t + 4) = true
theorem isSt_ph {A : Nat → Nat → Int32} {C : Nat → Nat → Nat} {M : zM} {s : Nat} (h : isStb M s) : isSt (ph A C M) s := by
  obtain ⟨a1, a2, a3, a4, a5, a6, a7, a8, a9, a10, a11, a12, a13, a14, a15, a16⟩ := h
  exact ⟨a1, a2, a3, by rw [mR_ph (by omega)]; exact a4, by rw [mR_ph (by omega)]; exact a5, by rw [mR_ph (by omega)]; exact a6, by rw [mR_ph (by omega)]; exact a7, by rw [zlI_ph (by omega)]; exact a8, by rw [zlI_ph (by omega)]; exact a9, by rw [zlI_ph (by omega)]; exact a10, by rw [zlI_ph (by omega)]; exact a11, a12, a13, a14, a15, fun I => aN_of a16 (by rw [zlI_ph (by omega)]; exact a11)⟩
theorem isTw_ph {A : Nat → Nat → Int32} {C : Nat → Nat → Nat} {M : zM} {t : Nat} (h : isTwb M t) : isTw (ph A C M) t := by
  obtain ⟨a1, a2, a3, b0, b1, b2, b3, b4, b5, b6, b7, c1, c2, c3, c4, c5, c6, c7, c8, d1, d2, d3, d4, d5, d6, d7, d8, e⟩ := h
  exact ⟨a1, a2, a3, by rw [mR_ph (by omega)]; exact b0, by rw [mR_ph (by omega)]; exact b1, by rw [mR_ph (by omega)]; exact b2, by rw [mR_ph (by omega)]; exact b3, by rw [mR_ph (by omega)]; exact b4, by rw [mR_ph (by omega)]; exact b5, by rw [mR_ph (by omega)]; exact b6, by rw [mR_ph (by omega)]; exact b7, by rw [zlI_ph (by omega)]; exact c1, by rw [zlI_ph (by omega)]; exact c2, by rw [zlI_ph (by omega)]; exact c3, by rw [zlI_ph (by omega)]; exact c4, by rw [zlI_ph (by omega)]; exact c5, by rw [zlI_ph (by omega)]; exact c6, by rw [zlI_ph (by omega)]; exact c7, by rw [zlI_ph (by omega)]; exact c8, d1, d2, d3, d4, d5, d6, d7, d8, fun I => aN_of e (by rw [zlI_ph (by omega)]; exact c4)⟩
theorem aQ_ph {A : Nat → Nat → Int32} {C : Nat → Nat → Nat} {M : zM} {I : Nat → Nat → Int32} {i k : Nat} {x : Int32} (h : i < 1000) : aQ (zI (ph A C M) I) i k x = aQ M i k x := by
  unfold aQ
  rw [mR_zI, mR_ph h]
  rfl
theorem C_x : isX zC := by decide +kernel
theorem C_y : isY zC := by
  repeat' apply And.intro
  all_goals decide +kernel
theorem C_s1 : isStb zC 22 := by decide +kernel
theorem C_s2 : isStb zC 27 := by decide +kernel
theorem C_s3 : isStb zC 133 := by decide +kernel
theorem C_s4 : isStb zC 139 := by decide +kernel
theorem C_t1 : isTwb zC 4 := by decide +kernel
theorem C_t2 : isTwb zC 13 := by decide +kernel
theorem C_st : isStb zC 22 ∧ isStb zC 27 ∧ isStb zC 133 ∧ isStb zC 139 ∧ isTwb zC 4 ∧ isTwb zC 13 := ⟨C_s1, C_s2, C_s3, C_s4, C_t1, C_t2⟩
theorem C_ps : ∀ j, j < 16 → isStb zC (34 + 5 * j) := by decide +kernel
theorem C_pq : (∀ j, j < 16 → aQ zC 33 13 (nI j) = some (34 + 5 * j)) ∧ aQ zC 114 12 (nI 0) = some 132 ∧ aQ zC 114 12 (nI 1) = some 138 ∧ mR zC 132 0 = 133 ∧ mR zC 138 0 = 139 ∧ mR zC 1 1 = 4 ∧ mR zC 1 2 = 13 ∧ mR zC 1 3 = 22 ∧ mR zC 1 4 = 27 ∧ zC.1 = 178 ∧ zC.2.1 = 4062 := by decide +kernel
theorem C_c1 : ∀ k, k < 69 → mI zC (zxi 22 k) (zxk k) = 0 := by decide +kernel
theorem C_c2 : ∀ k, k < 69 → mI zC 145 k = 0 := by decide +kernel
theorem C_c3 : ∀ k, k < 16 → mI zC 8 k = 0 ∧ mI zC 150 k = 0 ∧ mI zC 151 k = 0 ∧ mI zC 160 k = 0 ∧ mI zC 176 k = 0 := by decide +kernel
theorem C_c4 : ∀ k, k < 9 → mI zC 4 k = 0 ∧ mI zC 144 k = 0 := by decide +kernel
theorem C_c5 : mI zC 32 1 = 0 ∧ mI zC 32 2 = 0 ∧ mI zC 132 2 = 0 ∧ mI zC 138 2 = 0 ∧ mI zC 2 1 = 0 ∧ mI zC 144 16 = 0 ∧ mI zC 2 3 = mI zC 144 20 ∧ mI zC 123 3 = 0 ∧ mI zC 144 48 = 0 ∧ mI zC 127 2 = 0 ∧ mI zC 144 52 = 0 ∧ mI zC 1 12 = 0 := by decide +kernel
def cF (M : zM) : Prop := isX M ∧ isY M ∧ (isStb M 22 ∧ isStb M 27 ∧ isStb M 133 ∧ isStb M 139 ∧ isTwb M 4 ∧ isTwb M 13) ∧ (∀ j, j < 16 → isStb M (34 + 5 * j)) ∧ ((∀ j, j < 16 → aQ M 33 13 (nI j) = some (34 + 5 * j)) ∧ aQ M 114 12 (nI 0) = some 132 ∧ aQ M 114 12 (nI 1) = some 138 ∧ mR M 132 0 = 133 ∧ mR M 138 0 = 139 ∧ mR M 1 1 = 4 ∧ mR M 1 2 = 13 ∧ mR M 1 3 = 22 ∧ mR M 1 4 = 27 ∧ M.1 = 178 ∧ M.2.1 = 4062) ∧ (∀ k, k < 69 → mI M (zxi 22 k) (zxk k) = 0) ∧ (∀ k, k < 69 → mI M 145 k = 0) ∧ (∀ k, k < 16 → mI M 8 k = 0 ∧ mI M 150 k = 0 ∧ mI M 151 k = 0 ∧ mI M 160 k = 0 ∧ mI M 176 k = 0) ∧ (∀ k, k < 9 → mI M 4 k = 0 ∧ mI M 144 k = 0) ∧ (mI M 32 1 = 0 ∧ mI M 32 2 = 0 ∧ mI M 132 2 = 0 ∧ mI M 138 2 = 0 ∧ mI M 2 1 = 0 ∧ mI M 144 16 = 0 ∧ mI M 2 3 = mI M 144 20 ∧ mI M 123 3 = 0 ∧ mI M 144 48 = 0 ∧ mI M 127 2 = 0 ∧ mI M 144 52 = 0 ∧ mI M 1 12 = 0)
theorem C_all : ∃ M, zIn zM00 = some M ∧ cF M := ⟨zC, zC_eq, C_x, C_y, C_st, C_ps, C_pq, C_c1, C_c2, C_c3, C_c4, C_c5⟩
