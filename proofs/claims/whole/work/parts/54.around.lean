/-! around -/
theorem goS_le {p S k : Nat} (h : k < 21 ∨ 29 ≤ k) : ∀ m i r, i + m = 8 → itr (goS p S) m i r k ≤ r k := by
  intro m
  induction m with
  | zero => intro i r _; exact Nat.le_refl _
  | succ m ih =>
    intro i r hi
    simp only [itr]
    refine Nat.le_trans (ih (i + 1) _ (by omega)) ?_
    unfold goS
    split
    · exact rSays_le (by omega) h
    · exact Nat.le_refl _
theorem rGo_le {r : Nat → Nat} {p S k : Nat} (h : k < 21 ∨ 29 ≤ k) : rGo r p S k ≤ r k := goS_le h 8 0 r (by omega)
theorem rB.go {np c p S : Nat} {r : Nat → Nat} (h : rB np c r) (hp : p < 5) : rB np (c + 1) (rGo r p S) := by
  refine ⟨rI_go (r := r) hp 8 0 r (by omega) h.1, by rw [rGo_0 (by omega)]; exact h.2.1, by rw [rGo_0 (by omega)]; have := h.2.2.1; omega, fun q v h1 h2 h3 => ?_⟩
  have := h.2.2.2 q v h1 h2 h3
  have := rGo_le (r := r) (p := p) (S := S) (k := 29 + (8 * q + v)) (by omega)
  omega
section ARO
variable {B : zM} {c : Nat} {I : Nat → Nat → Int32} {x y z : Int32}
theorem w_around (h : CR B I c) : W2 B I c (f_X8_around 1 x y z (zI B I)) (f_X9_around 144 x y z) := by
  have h' := h
  obtain ⟨tw, s, u, T, r, pa, pn, P, kf, K, tl, X, kn, kw, kd, kb, en, ew, el, sd, hB, hT, hN, hP, hI, hX, hK, hBk, hS⟩ := h
  have q1 := X_isPerson (x := x) hB hT
  have q2 := fun {J} (hJ : gT tw T J) => Y_isPerson (x := x) hB hJ
  have q3 := X_isWord (x := y) hB hT
  have q4 := fun {J} (hJ : gT tw T J) => Y_isWord (x := y) hB hJ
  have q5 := fun M => Y_btw (x := z) (a := 0) (b := 1) (M := M) (y := 0) (z := 1) rfl rfl (by omega) (by omega)
  have b1 := hT.1.2.1
  have b2 := hT.1.2.2.1
  have hse := hB.hs
  have htw := hB.hw
  rcases Bool.eq_false_or_eq_true (wd x (T 0 2)) with hw | hw
  · rw [hw, ite_t] at q1
    simp only [hw, if_true] at q2
    obtain ⟨p, hp1, rfl⟩ := wd_t hw (by omega)
    rcases Bool.eq_false_or_eq_true (wd y (T 0 1)) with hw' | hw'
    · rw [hw', ite_t] at q3
      simp only [hw', if_true] at q4
      obtain ⟨w, hw1, rfl⟩ := wd_t hw' (by omega)
      have hw8 : w < 8 := by omega
      have hp5 : p < 5 := by omega
      have hr := hN.2.2.1
      rcases Bool.eq_false_or_eq_true (btw z 0 1) with hb | hb
      · rw [hb, ite_t] at q5
        obtain ⟨v, hv1, hv, rfl⟩ := btw_t hb (by omega)
        have c1' : ¬ nI v < 0 := nI_pos (by omega)
        have c2' : nI v < 2 := (nI_ltI (b := 2) (by omega) (by omega)).mpr (by omega)
        have q8 := X_wayRound (k := v) hB.2.2.1 hT.2.2.1 hw8 (by omega)
        have hS8 : T 3 (2 * w + v) < 1024 := by have := hT.1.2.2.2.2.2.2.2.1 (2 * w + v) (by omega); omega
        obtain ⟨S, hSe⟩ : ∃ S, S = T 3 (2 * w + v) := ⟨_, rfl⟩
        have r1 := X_canGo hB.2.2.2.2.2.1 hN.1 hr hp5 hS8
        have l8 : zlI B 150 = 16 := by
          have hy := hB.2.1
          simp only [hy]
        have p2 : (2 : Int32) * nI w + nI v = nI (2 * w + v) := by rw [nl2, pk_mul, nI_add]
        have v0 := fun {J} (hJ : gT tw T J) => aI_at (B := B) (by omega) (by rw [l8]; omega) (hJ.2.2.2.2.2.1 (2 * w + v) (by omega))
        rw [← hSe] at q8 r1 hS8
        simp only [← hSe] at v0
        rcases Bool.eq_false_or_eq_true (rGoB r p S) with hc | hc
        · rw [hc, ite_t] at r1
          obtain ⟨I1, a1, a2, a3, a4, a5, a6⟩ := act hB hT hN hP hI hX hK hBk
          obtain ⟨I2, d1, d2, -, d3⟩ := X_go hB.2.2.2.2.2.1 a2 hr hp5 hS8 hc
          obtain ⟨t2, y2, k2, g2, I3, c1, c2, c3, c4, c5, c6⟩ := a6 I2 (fun i j q => by rw [d3 i (by omega)])
          have r2 := Y_canGo (row145 hB.2.1) y2 hr hp5 hS8
          rw [hc, ite_t] at r2
          obtain ⟨I4, f1, f2, f3⟩ := Y_goes (row145 hB.2.1) c2 hr hp5 hS8 hc
          have k1 : I2 1 12 = I1 1 12 := by rw [d3 1 (by omega)]
          obtain ⟨hC, k4⟩ := c6 I4 (rGo r p S) sd (fun i j q => by rw [f3 i (by omega)]) d2 f2 (hN.2.2.go hp5) ⟨hS.1, by rw [f3 1 (by omega), c5, k1, a5]; exact hS.2.1, by rw [f3 144 (by omega), c4]; exact hS.2.2⟩
          have q2' := q2 t2
          have q4' := q4 t2
          have v0' := v0 t2
          refine W_mk (v := nI S) (I1 := I2) (I2 := I4) ?_ ?_ hC k2 k4
          · obtain ⟨hx, -, ht, m1, -, hs, m3, -⟩ := hB
            simp only [f_X8_around, nb1, hx, ht, hs, m1, m3, cond_true, oR_eq, zac_zI, Option.bind_some, q1, q3, if_neg ne10, if_neg c1', if_pos c2', q8, r1, a1, d1]
          · obtain ⟨-, hy, -⟩ := hB
            simp only [f_X9_around, nb144, hy, cond_true, oR_eq, zac_zI, Option.bind_some, q2', q4', if_neg ne10, q5, p2, v0', r2, c1, f1]
        · rw [hc, ite_f] at r1
          have r2 := Y_canGo (row145 hB.2.1) hN.2.1 hr hp5 hS8
          rw [hc, ite_f] at r2
          have q2' := q2 hT
          have q4' := q4 hT
          have v0' := v0 hT
          obtain ⟨hx, hy, ht, m1, -, hs, m3, -⟩ := hB
          refine W_no h' (v := -1000000003) ?_ ?_
          · simp only [f_X8_around, nb1, hx, ht, hs, m1, m3, cond_true, oR_eq, zac_zI, Option.bind_some, q1, q3, if_neg ne10, if_neg c1', if_pos c2', q8, r1, if_pos]
          · simp only [f_X9_around, nb144, hy, cond_true, oR_eq, zac_zI, Option.bind_some, q2', q4', if_neg ne10, q5, p2, v0', r2, if_pos]
      · rw [hb, ite_f] at q5
        have q2' := q2 hT
        have q4' := q4 hT
        have hbn := btw_n hb (by omega) (by omega)
        obtain ⟨hx, hy, ht, m1, -, hs, m3, -⟩ := hB
        refine W_no h' (v := -1000000002) ?_ ?_
        · rcases hbn with h1 | ⟨h1, -, h2⟩
          · have h1 : z < 0 := h1
            simp only [f_X8_around, nb1, hx, cond_true, zac_zI, Option.bind_some, q1, q3, if_neg ne10, if_pos h1]
          · have h1 : ¬ z < 0 := h1
            have h2 : ¬ z < 2 := by
              have e1 : (1 : Int32).toInt = 1 := rfl
              have e2 : (2 : Int32).toInt = 2 := rfl
              have h2 : (1 : Int32) < z := h2
              rw [Int32.lt_iff_toInt_lt] at h2 ⊢
              clear hx hy ht hs
              omega
            simp only [f_X8_around, nb1, hx, cond_true, zac_zI, Option.bind_some, q1, q3, if_neg ne10, if_neg h1, if_neg h2]
        · simp only [f_X9_around, nb144, hy, cond_true, zac_zI, Option.bind_some, q2', q4', if_neg ne10, q5, if_pos]
    · rw [hw', ite_f] at q3
      simp only [hw', Bool.false_eq_true, if_false] at q4
      have q2' := q2 hT
      have q4' := q4 hT
      obtain ⟨hx, hy, ht, m1, -, hs, m3, -⟩ := hB
      refine W_no h' (v := -1000000001) ?_ ?_
      · simp only [f_X8_around, nb1, hx, cond_true, zac_zI, Option.bind_some, q1, q3, if_neg ne10, if_pos]
      · simp only [f_X9_around, nb144, hy, cond_true, zac_zI, Option.bind_some, q2', q4', if_neg ne10, if_pos]
  · rw [hw, ite_f] at q1
    simp only [hw, Bool.false_eq_true, if_false] at q2
    have q2' := q2 hT
    obtain ⟨hx, hy, ht, m1, -, hs, m3, -⟩ := hB
    refine W_no h' (v := -1000000001) ?_ ?_
    · simp only [f_X8_around, nb1, hx, cond_true, zac_zI, Option.bind_some, q1, if_pos]
    · simp only [f_X9_around, nb144, hy, cond_true, zac_zI, Option.bind_some, q2', if_pos]
end ARO
