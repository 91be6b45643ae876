/-! hoard, the call -/
section HOC
variable {B : zM} {c : Nat} {I : Nat → Nat → Int32} {x y z : Int32}
theorem w_hoard (h : CR B I c) : W2 B I c (f_X8_hoard 1 x y z (zI B I)) (f_X9_hoard 144 x y z) := by
  have h' := h
  obtain ⟨tw, s, u, T, r, pa, pn, P, kf, K, tl, X, kn, kw, kd, kb, en, ew, el, sd, hB, hT, hN, hP, hI, hX, hK, hBk, hS⟩ := h
  have q1 := X_isPerson (x := x) hB hT
  have q2 := fun {J} (hJ : gT tw T J) => Y_isPerson (x := x) hB hJ
  have q3 := X_isWord (x := y) hB hT
  have q4 := fun {J} (hJ : gT tw T J) => Y_isWord (x := y) hB hJ
  have q5 := fun M => Y_btw (x := z) (a := 1) (b := 99) (M := M) (y := 1) (z := 99) rfl rfl (by omega) (by omega)
  have b1 := hT.1.2.1
  have b2 := hT.1.2.2.1
  have hse := hB.hs
  have htw := hB.hw
  rcases Bool.eq_false_or_eq_true (wd x (T 0 2)) with hw | hw
  · rw [hw, ite_t] at q1
    simp only [hw, if_true] at q2
    obtain ⟨p, hp1, rfl⟩ := wd_t hw (by omega)
    rcases Bool.eq_false_or_eq_true (wd y (T 0 1)) with hw' | hw'
    · rw [hw', ite_t] at q3
      simp only [hw', if_true] at q4
      obtain ⟨w, hw1, rfl⟩ := wd_t hw' (by omega)
      have hw8 : w < 8 := by omega
      have hp5 : p < 5 := by omega
      have hr := hN.2.2.1
      rcases Bool.eq_false_or_eq_true (btw z 1 99) with hb | hb
      · rw [hb, ite_t] at q5
        obtain ⟨v, hv1, hv, rfl⟩ := btw_t hb (by omega)
        have c1' : ¬ nI v < 1 := fun q => absurd ((nI_ltI (b := 1) (by omega) (by omega)).mp q) (by omega)
        have c2' : nI v ≤ 99 := (nI_leI (b := 99) (by omega) (by omega)).mpr hv
        have bl := hr.b hp5 hw8
        have z1 : nI v ≤ nI (r (13 + w)) ↔ v ≤ r (13 + w) := nI_leI (by omega) (by omega)
        have l6 : zlI B 145 = 69 := hB.lt.2.2.2.2.2.1
        have l7 : zln B 10 145 = 69 := by
          have hy := hB.2.1
          simp only [hy]
        have lA : zlI B (s + 2) = 8 := hB.lt.2.2.2.2.2.2.1
        have p0 : (29 : Int32) + 8 * nI p + nI w = nI (29 + (8 * p + w)) := by rw [nl29, nl8, pk_mul, nI_add, nI_add, Nat.add_assoc]
        have p13 : (13 : Int32) + nI w = nI (13 + w) := nI_add 13 w
        have r1 := aI_at (B := B) (by omega) (by rw [lA]; omega) (hN.1.le hw8)
        by_cases hc : v ≤ r (13 + w)
        · obtain ⟨I1, a1, a2, a3, a4, a5, a6⟩ := act hB hT hN hP hI hX hK hBk
          obtain ⟨I2, d1, d2, d3⟩ := X_store hB.2.2.2.2.2.1 a2 hr hp5 hw8 hc
          have e1 := X_hoardedBy hB.2.2.2.2.2.1 d2 hp5 hw8
          obtain ⟨t2, y2, k2, g2, I3, c1, c2, c3, c4, c5, c6⟩ := a6 I2 (fun i j q => d3 i j (by omega))
          obtain ⟨J3, hJ3⟩ : ∃ J, J = cu I3 145 (13 + w) (nI (r (13 + w) - v)) := ⟨_, rfl⟩
          obtain ⟨I4, hI4⟩ : ∃ J, J = cu J3 145 (29 + (8 * p + w)) (nI (r (29 + (8 * p + w)) + v)) := ⟨_, rfl⟩
          have f2 : YS 145 (rHd r p w v) I4 := by rw [hI4, hJ3]; exact (c2.put (j := 13 + w) (v := r (13 + w) - v)).put (j := 29 + (8 * p + w)) (v := r (29 + (8 * p + w)) + v)
          have f3 : ∀ i j, i ≠ 145 → I4 i j = I3 i j := fun i j q => by rw [hI4, cu_o (Or.inl q), hJ3, cu_o (Or.inl q)]
          obtain ⟨hC, k4⟩ := c6 I4 (rHd r p w v) sd (fun i j q => f3 i j (by omega)) d2 f2 (hN.2.2.hd hp5 hp1 hw8 hc) ⟨hS.1, by rw [f3 1 12 (by omega), c5, d3 1 12 (by omega), a5]; exact hS.2.1, by rw [f3 144 4 (by omega), c4]; exact hS.2.2⟩
          have v0 := aI_at (B := B) (by omega) (by rw [l6]; omega) (y2 (13 + w) (by omega))
          have v1 := aI_at (B := B) (by omega) (by rw [l6]; omega) (c2 (13 + w) (by omega))
          have v2 : sI (zI B I3) 145 (nI (13 + w)) (nI (r (13 + w) - v)) = some (zI B J3) := by rw [sI_cu (by omega) (by rw [l7]; omega), hJ3]
          have v3 := aI_at (B := B) (I := J3) (i := 145) (k := 29 + (8 * p + w)) (v := nI (r (29 + (8 * p + w)))) (by omega) (by rw [l6]; omega) (by rw [hJ3, cu_o (by omega)]; exact c2 (29 + (8 * p + w)) (by omega))
          have v4 : sI (zI B J3) 145 (nI (29 + (8 * p + w))) (nI (r (29 + (8 * p + w)) + v)) = some (zI B I4) := by rw [sI_cu (by omega) (by rw [l7]; omega), hI4]
          have v5 := aI_at (B := B) (I := I4) (i := 145) (k := 29 + (8 * p + w)) (v := nI (r (29 + (8 * p + w)) + v)) (by omega) (by rw [l6]; omega) (by rw [hI4, cu_s])
          have sb : nI (r (13 + w)) - nI v = nI (r (13 + w) - v) := nI_sb hc
          rw [rHd_h] at e1
          have q2' := q2 t2
          have q4' := q4 t2
          refine W_mk (v := nI (r (29 + (8 * p + w)) + v)) (I1 := I2) (I2 := I4) ?_ ?_ hC k2 k4
          · obtain ⟨hx, -, ht, m1, -, hs, m3, -⟩ := hB
            simp only [f_X8_hoard, nb1, hx, hs, m3, cond_true, oR_eq, oI_eq, zac_zI, Option.bind_some, q1, q3, if_neg ne10, if_neg c1', if_pos c2', r1, z1, if_pos hc, a1, d1, e1]
          · obtain ⟨-, hy, -⟩ := hB
            simp only [f_X9_hoard, nb144, hy, cond_true, oR_eq, zac_zI, Option.bind_some, q2', q4', if_neg ne10, q5, p0, p13, v0, z1, if_pos hc, c1, v1, sb, v2, v3, nI_add, v4, v5]
        · have v0 := aI_at (B := B) (by omega) (by rw [l6]; omega) (hN.2.1 (13 + w) (by omega))
          have q2' := q2 hT
          have q4' := q4 hT
          obtain ⟨hx, hy, ht, m1, -, hs, m3, -⟩ := hB
          refine W_no h' (v := -1000000003) ?_ ?_
          · simp only [f_X8_hoard, nb1, hx, hs, m3, cond_true, oR_eq, oI_eq, zac_zI, Option.bind_some, q1, q3, if_neg ne10, if_neg c1', if_pos c2', r1, z1, if_neg hc]
          · simp only [f_X9_hoard, nb144, hy, cond_true, oR_eq, zac_zI, Option.bind_some, q2', q4', if_neg ne10, q5, p13, v0, z1, if_neg hc]
      · rw [hb, ite_f] at q5
        have q2' := q2 hT
        have q4' := q4 hT
        have hbn := btw_n hb (by omega) (by omega)
        obtain ⟨hx, hy, ht, m1, -, hs, m3, -⟩ := hB
        refine W_no h' (v := -1000000002) ?_ ?_
        · rcases hbn with h1 | ⟨h1, h2, -⟩
          · have h1 : z < 1 := h1
            simp only [f_X8_hoard, nb1, hx, cond_true, zac_zI, Option.bind_some, q1, q3, if_neg ne10, if_pos h1]
          · have h1 : ¬ z < 1 := h1
            have h2 : ¬ z ≤ 99 := h2
            simp only [f_X8_hoard, nb1, hx, cond_true, zac_zI, Option.bind_some, q1, q3, if_neg ne10, if_neg h1, if_neg h2]
        · simp only [f_X9_hoard, nb144, hy, cond_true, zac_zI, Option.bind_some, q2', q4', if_neg ne10, q5, if_pos]
    · rw [hw', ite_f] at q3
      simp only [hw', Bool.false_eq_true, if_false] at q4
      have q2' := q2 hT
      have q4' := q4 hT
      obtain ⟨hx, hy, ht, m1, -, hs, m3, -⟩ := hB
      refine W_no h' (v := -1000000001) ?_ ?_
      · simp only [f_X8_hoard, nb1, hx, cond_true, zac_zI, Option.bind_some, q1, q3, if_neg ne10, if_pos]
      · simp only [f_X9_hoard, nb144, hy, cond_true, zac_zI, Option.bind_some, q2', q4', if_neg ne10, if_pos]
  · rw [hw, ite_f] at q1
    simp only [hw, Bool.false_eq_true, if_false] at q2
    have q2' := q2 hT
    obtain ⟨hx, hy, ht, m1, -, hs, m3, -⟩ := hB
    refine W_no h' (v := -1000000001) ?_ ?_
    · simp only [f_X8_hoard, nb1, hx, cond_true, zac_zI, Option.bind_some, q1, if_pos]
    · simp only [f_X9_hoard, nb144, hy, cond_true, zac_zI, Option.bind_some, q2', if_pos]
end HOC
