/-! point -/
theorem rPt_o {r : Nat → Nat} {k : Nat} (h : k ≠ 4) : rPt r k = r k := by unfold rPt; rw [va_up, if_neg h]
theorem rB.pt {np c : Nat} {r : Nat → Nat} (h : rB np c r) : rB np (c + 1) (rPt r) :=
  ⟨h.1.up (by omega) (by omega) cnt_le, by rw [rPt_o (by omega)]; exact h.2.1, by rw [rPt_o (by omega)]; have := h.2.2.1; omega, fun q v h1 h2 h3 => by rw [rPt_o (by omega)]; exact h.2.2.2 q v h1 h2 h3⟩
section PTS
variable {B : zM} {c : Nat} {I : Nat → Nat → Int32} {x y : Int32}
theorem w_point (h : CR B I c) : W2 B I c (f_X8_point 1 x (zI B I)) (f_X9_point 144 x) := by
  have h' := h
  obtain ⟨tw, s, u, T, r, pa, pn, P, kf, K, tl, X, kn, kw, kd, kb, en, ew, el, sd, hB, hT, hN, hP, hI, hX, hK, hBk, hS⟩ := h
  have q3 := X_isWord (x := x) hB hT
  have q4 := fun {J} (hJ : gT tw T J) => Y_isWord (x := x) hB hJ
  have b1 := hT.1.2.1
  have hse := hB.hs
  rcases Bool.eq_false_or_eq_true (wd x (T 0 1)) with hw' | hw'
  · rw [hw', ite_t] at q3
    simp only [hw', if_true] at q4
    obtain ⟨w, hw1, rfl⟩ := wd_t hw' (by omega)
    have hw8 : w < 8 := by omega
    have hr := hN.2.2.1
    have r1 := X_canPoint hB.2.2.1 hT.2.2.1 hT.1 hw8
    have z1 := nI_z (v := T 4 w) (by have := hT.1.2.2.2.2.2.1 w; omega)
    have l1 : zln B 11 151 = 8 := by
      have hy := hB.2.1
      simp only [hy]
    by_cases hc : T 4 w = 0
    · have v0 := aZ_at (B := B) (by omega) (by rw [l1]; omega) (hT.2.2.2.2.2.2.1 w hw8)
      have q4' := q4 hT
      obtain ⟨hx, hy, ht, m1, -, hs, m3, -⟩ := hB
      refine W_no h' (v := -1000000003) ?_ ?_
      · simp only [f_X8_point, nb1, hx, ht, m1, cond_true, oR_eq, zac_zI, Option.bind_some, q3, if_neg ne10, r1, z1, if_pos hc]
      · simp only [f_X9_point, nb144, hy, cond_true, oR_eq, zac_zI, Option.bind_some, q4', if_neg ne10, v0, z1, if_pos hc]
    · obtain ⟨I1, a1, a2, a3, a4, a5, a6⟩ := act hB hT hN hP hI hX hK hBk
      have hs := hB.2.2.2.2.2.1
      obtain ⟨I2, d1, d2, d3⟩ := X_gesture hs a2 hr
      have e1 := d2.sc (j := 4) (by clear hs; omega)
      obtain ⟨t2, y2, k2, g2, I3, c1, c2, c3, c4, c5, c6⟩ := a6 I2 (fun i j q => by rw [d3 i (by clear hs; omega)])
      have hy := hB.2.1
      have l6 : zlI B 145 = 69 := hB.lt.2.2.2.2.2.1
      have l7 : zln B 10 145 = 69 := by simp only [hy]
      have f2 : YS 145 (rPt r) (va_up I3 145 (upd (I3 145) 4 (nI (cnt (r 4) 1)))) := c2.put
      have k1 : I2 1 12 = I1 1 12 := by rw [d3 1 (by clear hs hy; omega)]
      obtain ⟨hC, k4⟩ := c6 (cu I3 145 4 (nI (cnt (r 4) 1))) (rPt r) sd (fun i j q => cu_o (by clear hs hy; omega)) d2 f2 hN.2.2.pt ⟨hS.1, by rw [cu_o (by clear hs hy; omega), c5, k1, a5]; exact hS.2.1, by rw [cu_o (by clear hs hy; omega), c4]; exact hS.2.2⟩
      have v0 := aZ_at (B := B) (by omega) (by rw [l1]; omega) (t2.2.2.2.2.2.2.1 w hw8)
      have v1 : aI (zI B I3) 145 4 = some (nI (r 4)) := aI_at (B := B) (k := 4) (by omega) (by rw [l6]; clear hs hy; omega) (c2 4 (by clear hs hy; omega))
      have v2 : sI (zI B I3) 145 4 (nI (cnt (r 4) 1)) = some (zI B (cu I3 145 4 (nI (cnt (r 4) 1)))) := sI_cu (k := 4) (by omega) (by rw [l7]; clear hs hy; omega)
      have v3 : aI (zI B (cu I3 145 4 (nI (cnt (r 4) 1)))) 145 4 = some (nI (cnt (r 4) 1)) := aI_at (B := B) (k := 4) (by omega) (by rw [l6]; clear hs hy; omega) cu_s
      have r4 : r 4 < 2000000 := by have := hr.2.2.2.2.2.2; omega
      have v4 := fun M => Y_up1 (M := M) r4
      have v5 : rPt r 4 = cnt (r 4) 1 := by unfold rPt; rw [va_up, if_pos rfl]
      have q4' := q4 t2
      rw [v5] at e1
      refine W_mk (v := nI (cnt (r 4) 1)) (I1 := I2) (I2 := cu I3 145 4 (nI (cnt (r 4) 1))) ?_ ?_ hC k2 k4
      · obtain ⟨hx, -, ht, m1, -, -, m3, -⟩ := hB
        simp only [f_X8_point, nb1, hx, hs, ht, m1, m3, cond_true, oR_eq, oI_eq, zac_zI, Option.bind_some, q3, if_neg ne10, r1, z1, if_neg hc, a1, d1, e1]
      · simp only [f_X9_point, nb144, hy, cond_true, oR_eq, zac_zI, Option.bind_some, q4', if_neg ne10, v0, z1, if_neg hc, c1, v1, v4, v2, v3]
  · rw [hw', ite_f] at q3
    simp only [hw', Bool.false_eq_true, if_false] at q4
    have q4' := q4 hT
    obtain ⟨hx, hy, ht, m1, -, hs, m3, -⟩ := hB
    refine W_no h' (v := -1000000001) ?_ ?_
    · simp only [f_X8_point, nb1, hx, cond_true, zac_zI, Option.bind_some, q3, if_pos]
    · simp only [f_X9_point, nb144, hy, cond_true, zac_zI, Option.bind_some, q4', if_pos]
end PTS
