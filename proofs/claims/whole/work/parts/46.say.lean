/-! say -/
theorem rSays_le {r : Nat → Nat} {p w k : Nat} (hw : w < 8) (h : k < 21 ∨ 29 ≤ k) : rSays r p w k ≤ r k := by
  by_cases h1 : k = 21 + w
  · omega
  · unfold rSays
    rw [va_up, if_neg h1]
    by_cases c : 0 < r (29 + (8 * p + w))
    · rw [if_pos c, va_up]
      split
      · rename_i e; rw [e]; omega
      · exact Nat.le_refl _
    · rw [if_neg c, va_up]
      split
      · rename_i e; rw [e]; omega
      · exact Nat.le_refl _
theorem rB.says {np c p w : Nat} {r : Nat → Nat} (h : rB np c r) (hp : p < 5) (hw : w < 8) : rB np (c + 1) (rSays r p w) := by
  refine ⟨h.1.says hp hw, by rw [rSays_0 (by omega)]; exact h.2.1, by rw [rSays_0 (by omega)]; have := h.2.2.1; omega, fun q v h1 h2 h3 => ?_⟩
  have := h.2.2.2 q v h1 h2 h3
  have := rSays_le (r := r) (p := p) (w := w) (k := 29 + (8 * q + v)) hw (by omega)
  omega
section SAY
variable {B : zM} {c : Nat} {I : Nat → Nat → Int32} {x y : Int32}
theorem w_say (h : CR B I c) : W2 B I c (f_X8_say 1 x y (zI B I)) (f_X9_say 144 x y) := by
  have h' := h
  obtain ⟨tw, s, u, T, r, pa, pn, P, kf, K, tl, X, kn, kw, kd, kb, en, ew, el, sd, hB, hT, hN, hP, hI, hX, hK, hBk, hS⟩ := h
  have q1 := X_isPerson (x := x) hB hT
  have q2 := fun {J} (hJ : gT tw T J) => Y_isPerson (x := x) hB hJ
  have q3 := X_isWord (x := y) hB hT
  have q4 := fun {J} (hJ : gT tw T J) => Y_isWord (x := y) hB hJ
  have b1 := hT.1.2.1
  have b2 := hT.1.2.2.1
  have hse := hB.hs
  rcases Bool.eq_false_or_eq_true (wd x (T 0 2)) with hw | hw
  · rw [hw, ite_t] at q1
    simp only [hw, if_true] at q2
    obtain ⟨p, hp1, rfl⟩ := wd_t hw (by omega)
    rcases Bool.eq_false_or_eq_true (wd y (T 0 1)) with hw' | hw'
    · rw [hw', ite_t] at q3
      simp only [hw', if_true] at q4
      obtain ⟨w, hw1, rfl⟩ := wd_t hw' (by omega)
      have hw8 : w < 8 := by omega
      have hp5 : p < 5 := by omega
      have hr := hN.2.2.1
      rcases Bool.eq_false_or_eq_true (rCan r p w) with hc | hc
      · obtain ⟨I1, a1, a2, a3, a4, a5, a6⟩ := act hB hT hN hP hI hX hK hBk
        have hs := hB.2.2.2.2.2.1
        obtain ⟨I2, d1, d2, d3⟩ := X_speak hs a2 hr hp5 hw8 hc
        have e1 := X_sayable hs d2 hp5 hw8
        obtain ⟨t2, y2, k2, g2, I3, c1, c2, c3, c4, c5, c6⟩ := a6 I2 (fun i j q => by rw [d3 i (by clear hs; omega)])
        have hy := hB.2.1
        obtain ⟨I4, f1, f2, f3⟩ := Y_says (row145 hy) c2 hr hp5 hw8 hc
        have k1 : I2 1 12 = I1 1 12 := by rw [d3 1 (by clear hs hy; omega)]
        obtain ⟨hC, k4⟩ := c6 I4 (rSays r p w) sd (fun i j q => by rw [f3 i (by clear hs hy; omega)]) d2 f2 (hN.2.2.says hp5 hw8) ⟨hS.1, by rw [f3 1 (by clear hs hy; omega), c5, k1, a5]; exact hS.2.1, by rw [f3 144 (by clear hs hy; omega), c4]; exact hS.2.2⟩
        have l6 : zlI B 145 = 69 := hB.lt.2.2.2.2.2.1
        have p0 : (29 : Int32) + 8 * nI p + nI w = nI (29 + (8 * p + w)) := by rw [nl29, nl8, pk_mul, nI_add, nI_add, Nat.add_assoc]
        have p3 : (13 : Int32) + nI w = nI (13 + w) := nI_add 13 w
        have v1 := aI_at (B := B) (by omega) (by rw [l6]; clear hs hy; omega) (f2 (29 + (8 * p + w)) (by clear hs hy; omega))
        have v2 := aI_at (B := B) (by omega) (by rw [l6]; clear hs hy; omega) (f2 (13 + w) (by clear hs hy; omega))
        have r1 := X_canSay hs hN.1 hr hp5 hw8
        have r2 := Y_canSay (row145 hy) y2 hr hp5 hw8
        rw [hc, ite_t] at r1 r2
        have q2' := q2 t2
        have q4' := q4 t2
        refine W_mk (v := nI (rSays r p w (13 + w) + rSays r p w (29 + (8 * p + w)))) (I1 := I2) (I2 := I4) ?_ ?_ hC k2 k4
        · obtain ⟨hx, -, ht, m1, -, -, m3, -⟩ := hB
          simp only [f_X8_say, nb1, hx, hs, m3, cond_true, oR_eq, zac_zI, Option.bind_some, q1, q3, if_neg ne10, r1, a1, d1, e1]
        · simp only [f_X9_say, nb144, hy, cond_true, oR_eq, zac_zI, Option.bind_some, q2', q4', if_neg ne10, r2, c1, f1, p0, p3, v1, v2, nI_add]
          rw [Nat.add_comm]
      · have r1 := X_canSay hB.2.2.2.2.2.1 hN.1 hr hp5 hw8
        have r2 := Y_canSay (row145 hB.2.1) hN.2.1 hr hp5 hw8
        rw [hc, ite_f] at r1 r2
        have q2' := q2 hT
        have q4' := q4 hT
        obtain ⟨hx, hy, ht, m1, -, hs, m3, -⟩ := hB
        refine W_no h' (v := -1000000003) ?_ ?_
        · simp only [f_X8_say, nb1, hx, hs, m3, cond_true, oR_eq, zac_zI, Option.bind_some, q1, q3, if_neg ne10, r1, if_pos]
        · simp only [f_X9_say, nb144, hy, cond_true, oR_eq, zac_zI, Option.bind_some, q2', q4', if_neg ne10, r2, if_pos]
    · rw [hw', ite_f] at q3
      simp only [hw', Bool.false_eq_true, if_false] at q4
      have q2' := q2 hT
      have q4' := q4 hT
      obtain ⟨hx, hy, ht, m1, -, hs, m3, -⟩ := hB
      refine W_no h' (v := -1000000001) ?_ ?_
      · simp only [f_X8_say, nb1, hx, cond_true, zac_zI, Option.bind_some, q1, q3, if_neg ne10, if_pos]
      · simp only [f_X9_say, nb144, hy, cond_true, zac_zI, Option.bind_some, q2', q4', if_neg ne10, if_pos]
  · rw [hw, ite_f] at q1
    simp only [hw, Bool.false_eq_true, if_false] at q2
    have q2' := q2 hT
    obtain ⟨hx, hy, ht, m1, -, hs, m3, -⟩ := hB
    refine W_no h' (v := -1000000001) ?_ ?_
    · simp only [f_X8_say, nb1, hx, cond_true, zac_zI, Option.bind_some, q1, if_pos]
    · simp only [f_X9_say, nb144, hy, cond_true, zac_zI, Option.bind_some, q2', if_pos]
end SAY
