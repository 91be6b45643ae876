/-! raise -/
def rRs (r : Nat → Nat) (w v : Nat) : Nat → Nat := va_up (va_up r (5 + w) (r (5 + w) + v)) (13 + w) (r (13 + w) + v)
theorem rRs_o {r : Nat → Nat} {w v k : Nat} (h1 : k ≠ 5 + w) (h2 : k ≠ 13 + w) : rRs r w v k = r k := by unfold rRs; rw [va_up, if_neg h2, va_up, if_neg h1]
theorem rRs_5 {r : Nat → Nat} {w v : Nat} : rRs r w v (5 + w) = r (5 + w) + v := by unfold rRs; rw [va_up, if_neg (by omega), va_up, if_pos rfl]
theorem rRs_13 {r : Nat → Nat} {w v : Nat} : rRs r w v (13 + w) = r (13 + w) + v := by unfold rRs; rw [va_up, if_pos rfl]
theorem rB.rs {np c w v : Nat} {r : Nat → Nat} (h : rB np c r) (hw : w < 8) (hv : r (5 + w) + v ≤ 99) : rB np (c + 1) (rRs r w v) := by
  obtain ⟨⟨i1, i2, i3, i4, i5, i6, i7⟩, h2, h3, h4⟩ := h
  refine ⟨⟨fun a ha => ?_, fun a ha => by rw [rRs_o (by omega) (by omega)]; exact i2 a ha, by rw [rRs_o (by omega) (by omega)]; exact i3, by rw [rRs_o (by omega) (by omega)]; exact i4, by rw [rRs_o (by omega) (by omega)]; exact i5, by rw [rRs_o (by omega) (by omega)]; exact i6, by rw [rRs_o (by omega) (by omega)]; exact i7⟩, by rw [rRs_o (by omega) (by omega)]; exact h2, by rw [rRs_o (by omega) (by omega)]; omega, fun q a h5 h6 h7 => by rw [rRs_o (by omega) (by omega)]; exact h4 q a h5 h6 h7⟩
  have e := i1 a ha
  rw [rRs_o (k := 29 + a) (by omega) (by omega), rRs_o (k := 37 + a) (by omega) (by omega), rRs_o (k := 45 + a) (by omega) (by omega), rRs_o (k := 53 + a) (by omega) (by omega), rRs_o (k := 61 + a) (by omega) (by omega)]
  by_cases k : a = w
  · subst k
    rw [rRs_5, rRs_13]
    omega
  · rw [rRs_o (k := 13 + a) (by omega) (by omega), rRs_o (k := 5 + a) (by omega) (by omega)]
    exact e
section RAI
variable {B : zM} {c : Nat} {I : Nat → Nat → Int32} {x y : Int32}
theorem w_raise (h : CR B I c) : W2 B I c (f_X8_raise 1 x y (zI B I)) (f_X9_raise 144 x y) := by
  have h' := h
  obtain ⟨tw, s, u, T, r, pa, pn, P, kf, K, tl, X, kn, kw, kd, kb, en, ew, el, sd, hB, hT, hN, hP, hI, hX, hK, hBk, hS⟩ := h
  have q3 := X_isWord (x := x) hB hT
  have q4 := fun {J} (hJ : gT tw T J) => Y_isWord (x := x) hB hJ
  have q5 := fun M => Y_btw (x := y) (a := 1) (b := 99) (M := M) (y := 1) (z := 99) rfl rfl (by omega) (by omega)
  have b1 := hT.1.2.1
  have hse := hB.hs
  have htw := hB.hw
  rcases Bool.eq_false_or_eq_true (wd x (T 0 1)) with hw' | hw'
  · rw [hw', ite_t] at q3
    simp only [hw', if_true] at q4
    obtain ⟨w, hw1, rfl⟩ := wd_t hw' (by omega)
    have hw8 : w < 8 := by omega
    have hr := hN.2.2.1
    rcases Bool.eq_false_or_eq_true (btw y 1 99) with hb | hb
    · rw [hb, ite_t] at q5
      obtain ⟨v, hv1, hv, rfl⟩ := btw_t hb (by omega)
      have c1' : ¬ nI v < 1 := fun q => absurd ((nI_ltI (b := 1) (by omega) (by omega)).mp q) (by omega)
      have c2' : nI v ≤ 99 := (nI_leI (b := 99) (by omega) (by omega)).mpr hv
      have bb := (hr.1 w hw8).2
      have bl := (hr.b (p := 0) (by omega) hw8).2.1
      have z1 : nI (r (5 + w) + v) ≤ 99 ↔ r (5 + w) + v ≤ 99 := nI_leI (b := 99) (by omega) (by omega)
      have l6 : zlI B 145 = 69 := hB.lt.2.2.2.2.2.1
      have l7 : zln B 10 145 = 69 := by
        have hy := hB.2.1
        simp only [hy]
      have lA : zlI B (s + 1) = 8 ∧ zln B 10 (s + 1) = 8 ∧ zlI B (s + 2) = 8 ∧ zln B 10 (s + 2) = 8 := by
        have hs := hB.2.2.2.2.2.1
        simp only [hs]
        exact ⟨trivial, trivial, trivial, trivial⟩
      obtain ⟨lA1, lA2, lA3, lA4⟩ := lA
      have p5 : (5 : Int32) + nI w = nI (5 + w) := nI_add 5 w
      have p13 : (13 : Int32) + nI w = nI (13 + w) := nI_add 13 w
      have r1 := aI_at (B := B) (by omega) (by rw [lA1]; omega) (hN.1.li hw8)
      by_cases hc : r (5 + w) + v ≤ 99
      · obtain ⟨I1, a1, a2, a3, a4, a5, a6⟩ := act hB hT hN hP hI hX hK hBk
        obtain ⟨J1, hJ1⟩ : ∃ J, J = cu I1 (s + 1) w (nI (r (5 + w) + v)) := ⟨_, rfl⟩
        obtain ⟨I2, hI2⟩ : ∃ J, J = cu J1 (s + 2) w (nI (r (13 + w) + v)) := ⟨_, rfl⟩
        have d2 : XS s (rRs r w v) I2 := by rw [hI2, hJ1]; exact (a2.pLi hw8).pLe hw8
        have d3 : ∀ i j, ¬ (s + 1 ≤ i ∧ i ≤ s + 2) → I2 i j = I1 i j := fun i j q => by rw [hI2, cu_o (by omega), hJ1, cu_o (by omega)]
        have s1 := aI_at (B := B) (I := I1) (by omega) (by rw [lA1]; omega) (a2.li hw8)
        have s2 : sI (zI B I1) (s + 1) (nI w) (nI (r (5 + w) + v)) = some (zI B J1) := by rw [sI_cu (by omega) (by rw [lA2]; omega), hJ1]
        have s3 := aI_at (B := B) (I := J1) (i := s + 2) (k := w) (v := nI (r (13 + w))) (by omega) (by rw [lA3]; omega) (by rw [hJ1, cu_o (by omega)]; exact a2.le hw8)
        have s4 : sI (zI B J1) (s + 2) (nI w) (nI (r (13 + w) + v)) = some (zI B I2) := by rw [sI_cu (by omega) (by rw [lA4]; omega), hI2]
        have s5 := aI_at (B := B) (I := I2) (i := s + 1) (k := w) (v := nI (r (5 + w) + v)) (by omega) (by rw [lA1]; omega) (by rw [hI2, cu_o (by omega), hJ1, cu_s])
        obtain ⟨t2, y2, k2, g2, I3, c1, c2, c3, c4, c5, c6⟩ := a6 I2 (fun i j q => d3 i j (by omega))
        obtain ⟨J3, hJ3⟩ : ∃ J, J = cu I3 145 (5 + w) (nI (r (5 + w) + v)) := ⟨_, rfl⟩
        obtain ⟨I4, hI4⟩ : ∃ J, J = cu J3 145 (13 + w) (nI (r (13 + w) + v)) := ⟨_, rfl⟩
        have f2 : YS 145 (rRs r w v) I4 := by rw [hI4, hJ3]; exact (c2.put (j := 5 + w) (v := r (5 + w) + v)).put (j := 13 + w) (v := r (13 + w) + v)
        have f3 : ∀ i j, i ≠ 145 → I4 i j = I3 i j := fun i j q => by rw [hI4, cu_o (Or.inl q), hJ3, cu_o (Or.inl q)]
        obtain ⟨hC, k4⟩ := c6 I4 (rRs r w v) sd (fun i j q => f3 i j (by omega)) d2 f2 (hN.2.2.rs hw8 hc) ⟨hS.1, by rw [f3 1 12 (by omega), c5, d3 1 12 (by omega), a5]; exact hS.2.1, by rw [f3 144 4 (by omega), c4]; exact hS.2.2⟩
        have v0 := aI_at (B := B) (by omega) (by rw [l6]; omega) (y2 (5 + w) (by omega))
        have v1 := aI_at (B := B) (by omega) (by rw [l6]; omega) (c2 (5 + w) (by omega))
        have v2 : sI (zI B I3) 145 (nI (5 + w)) (nI (r (5 + w) + v)) = some (zI B J3) := by rw [sI_cu (by omega) (by rw [l7]; omega), hJ3]
        have v3 := aI_at (B := B) (I := J3) (i := 145) (k := 13 + w) (v := nI (r (13 + w))) (by omega) (by rw [l6]; omega) (by rw [hJ3, cu_o (by omega)]; exact c2 (13 + w) (by omega))
        have v4 : sI (zI B J3) 145 (nI (13 + w)) (nI (r (13 + w) + v)) = some (zI B I4) := by rw [sI_cu (by omega) (by rw [l7]; omega), hI4]
        have v5 := aI_at (B := B) (I := I4) (i := 145) (k := 5 + w) (v := nI (r (5 + w) + v)) (by omega) (by rw [l6]; omega) (by rw [hI4, cu_o (by omega), hJ3, cu_s])
        have q4' := q4 t2
        refine W_mk (v := nI (r (5 + w) + v)) (I1 := I2) (I2 := I4) ?_ ?_ hC k2 k4
        · obtain ⟨hx, -, ht, m1, -, hs, m3, -⟩ := hB
          simp only [f_X8_raise, nb1, hx, hs, m3, cond_true, oR_eq, oI_eq, zac_zI, Option.bind_some, q3, if_neg ne10, if_neg c1', if_pos c2', r1, nI_add, z1, if_pos hc, a1, s1, s2, s3, s4, s5]
        · obtain ⟨-, hy, -⟩ := hB
          simp only [f_X9_raise, nb144, hy, cond_true, oR_eq, zac_zI, Option.bind_some, q4', if_neg ne10, q5, p5, p13, v0, nI_add, z1, if_pos hc, c1, v1, v2, v3, v4, v5]
      · have v0 := aI_at (B := B) (by omega) (by rw [l6]; omega) (hN.2.1 (5 + w) (by omega))
        have q4' := q4 hT
        obtain ⟨hx, hy, ht, m1, -, hs, m3, -⟩ := hB
        refine W_no h' (v := -1000000003) ?_ ?_
        · simp only [f_X8_raise, nb1, hx, hs, m3, cond_true, oR_eq, oI_eq, zac_zI, Option.bind_some, q3, if_neg ne10, if_neg c1', if_pos c2', r1, nI_add, z1, if_neg hc]
        · simp only [f_X9_raise, nb144, hy, cond_true, oR_eq, zac_zI, Option.bind_some, q4', if_neg ne10, q5, p5, v0, nI_add, z1, if_neg hc]
    · rw [hb, ite_f] at q5
      have q4' := q4 hT
      obtain ⟨hx, hy, ht, m1, -, hs, m3, -⟩ := hB
      refine W_no h' (v := -1000000002) ?_ ?_
      · rcases btw_n hb (by clear hx hy ht hs; omega) (by clear hx hy ht hs; omega) with h1 | ⟨h1, h2, -⟩
        · have h1 : y < 1 := h1
          simp only [f_X8_raise, nb1, hx, cond_true, zac_zI, Option.bind_some, q3, if_neg ne10, if_pos h1]
        · have h1 : ¬ y < 1 := h1
          have h2 : ¬ y ≤ 99 := h2
          simp only [f_X8_raise, nb1, hx, cond_true, zac_zI, Option.bind_some, q3, if_neg ne10, if_neg h1, if_neg h2]
      · simp only [f_X9_raise, nb144, hy, cond_true, zac_zI, Option.bind_some, q4', if_neg ne10, q5, if_pos]
  · rw [hw', ite_f] at q3
    simp only [hw', Bool.false_eq_true, if_false] at q4
    have q4' := q4 hT
    obtain ⟨hx, hy, ht, m1, -, hs, m3, -⟩ := hB
    refine W_no h' (v := -1000000001) ?_ ?_
    · simp only [f_X8_raise, nb1, hx, cond_true, zac_zI, Option.bind_some, q3, if_pos]
    · simp only [f_X9_raise, nb144, hy, cond_true, zac_zI, Option.bind_some, q4', if_pos]
end RAI
