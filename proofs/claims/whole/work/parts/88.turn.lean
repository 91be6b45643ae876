/-! one turn of the law's loop -/
def LI (B : zM) (I : Nat → Nat → Int32) (k L : Nat) (xs : Nat → Int32) : Prop := CR B I k ∧ BR I ∧ I 1000 = zEag ∧ I 1001 = zRis ∧ I 1002 = xs ∧ mR B 1002 0 = L ∧ B.1 = 178 ∧ B.2.1 = 4062
section LAW
variable {B : zM} {k L : Nat} {xs : Nat → Int32} {I : Nat → Nat → Int32}
theorem rd_1002 {j : Nat} (hL : mR B 1002 0 = L) (hx : I 1002 = xs) (hj : j < L) (h3 : L ≤ 320) : aI (zI B I) 1002 (nI j) = some (xs j) := by
  have e : zlI B 1002 = L := by unfold zlI; rw [if_pos (by decide), if_pos rfl, hL]
  exact aI_at (by omega) (by rw [e]; exact hj) (by rw [hx])
/-- a call that writes -/
def WS (B : zM) (I : Nat → Nat → Int32) (k L : Nat) (xs : Nat → Int32) (a : Option (Int32 × zM)) (g : zM → Option (Int32 × zM)) : Prop := ∃ v B1 I1 B2 I2, a = some (v, zI B1 I1) ∧ g (zI B1 I1) = some (v, zI B2 I2) ∧ LI B2 I2 (k + 1) L xs ∧ (∀ j, j < L → aI (zI B1 I1) 1002 (nI j) = some (xs j)) ∧ zac B1 144 9 58 = true
theorem CR.z (h : CR B I k) : zac B 1 8 13 = true ∧ zac B 144 9 58 = true := by
  obtain ⟨tw, s, u, T, r, pa, pn, P, kf, K, tl, X, kn, kw, kd, kb, en, ew, el, sd, hB, -⟩ := h
  exact ⟨hB.hx.1, hB.hy'.1⟩
theorem zac_1 {B B1 : zM} {i ci n : Nat} (h : B1.1 = B.1) : zac B1 i ci n = zac B i ci n := by unfold zac; rw [h]
theorem W2_step (h3 : L ≤ 320) (h : LI B I k L xs) {a : Option (Int32 × zM)} {g : zM → Option (Int32 × zM)} (hw : W2 B I k a g) : WS B I k L xs a g := by
  obtain ⟨hC, hb, hE, hR, hx, hL, b1, b2⟩ := h
  obtain ⟨v, B1, I1, B2, I2, g1, g2, c2, ⟨p1, p2, p3, p4⟩, q1, q2, q3, q4⟩ := hw
  exact ⟨v, B1, I1, B2, I2, g1, g2, ⟨c2, fun p hp => by rw [q4 160 (Or.inr rfl)]; exact hb p hp, by rw [q4 1000 (Or.inl (by decide))]; exact hE, by rw [q4 1001 (Or.inl (by decide))]; exact hR, by rw [q4 1002 (Or.inl (by decide))]; exact hx, by rw [q3]; exact hL, by rw [q1]; exact b1, by rw [q2]; exact b2⟩, fun j hj => rd_1002 (by rw [p3]; exact hL) (by rw [p4 1002 (Or.inl (by decide))]; exact hx) hj h3, by rw [zac_1 p1]; exact hC.z.2⟩
theorem town_step (h3 : L ≤ 320) (h : LI B I k L xs) : WS B I k L xs (f_X8_town 1 (zI B I)) (f_X9_town 144) := by
  obtain ⟨hC, hb, hE, hR, hx, hL, b1, b2⟩ := h
  obtain ⟨v, B1, I1, B2, I2, g1, g2, c2, r2, ⟨p1, p2, p3, p4⟩, q1, q2, q3, q4⟩ := w_town hC hb
  exact ⟨v, B1, I1, B2, I2, g1, g2, ⟨c2, r2, by rw [q4 1000 (by decide)]; exact hE, by rw [q4 1001 (by decide)]; exact hR, by rw [q4 1002 (by decide)]; exact hx, by rw [q3]; exact hL, by rw [q1]; exact b1, by rw [q2]; exact b2⟩, fun j hj => rd_1002 (by rw [p3]; exact hL) (by rw [p4 1002 (by decide)]; exact hx) hj h3, by rw [zac_1 p1]; exact hC.z.2⟩
theorem LI.up (h : LI B I k L xs) : LI B I (k + 1) L xs := ⟨h.1.up (Nat.le_succ k), h.2⟩
/-- one turn: the loop goes on, its invariant kept -/
theorem law_turn {n : Nat} (h3 : L ≤ 320) (h : LI B I k L xs) (hk : 5 * k + 5 ≤ L) : ∃ B2 I2, LI B2 I2 (k + 1) L xs ∧ L_L_law_18 (n + 1) 1002 1 144 (nI (5 * k)) (zI B I) = L_L_law_18 n 1002 1 144 (nI (5 * (k + 1))) (zI B2 I2) := by
  have h' := h
  obtain ⟨hC, hb, hE, hR, hx, hL, b1, b2⟩ := h
  have c64 : k ≤ 64 := by omega
  have rd := fun j (hj : j < L) => rd_1002 (B := B) (I := I) hL hx hj h3
  have rd0 := rd (5 * k) (by omega)
  have rd1 := rd (5 * k + 1) (by omega)
  have rd2 := rd (5 * k + 2) (by omega)
  have rd3 := rd (5 * k + 3) (by omega)
  have rd4 := rd (5 * k + 4) (by omega)
  have i1 : nI (5 * k) + 1 = nI (5 * k + 1) := by rw [nl1, nI_add]
  have i2 : nI (5 * k) + 2 = nI (5 * k + 2) := by rw [nl2, nI_add]
  have i3 : nI (5 * k) + 3 = nI (5 * k + 3) := by rw [nl3, nI_add]
  have i4 : nI (5 * k) + 4 = nI (5 * k + 4) := by rw [nl4, nI_add]
  have i5 : nI (5 * k) + 5 = nI (5 * (k + 1)) := by rw [nl5, nI_add, Nat.mul_succ]
  obtain ⟨x1, y1⟩ := hC.z
  have na : aN (zI B I) 1002 = some (nI L) := by
    have e : zlI (zI B I) 1002 = L := by rw [zlI_zI]; unfold zlI; rw [if_pos (by decide), if_pos rfl, hL]
    have e1 : (zI B I).1 = 178 := b1
    unfold aN
    rw [e, e1]
    rfl
  have hn : ¬ nI L - 5 < nI (5 * k) := by
    have e : nI L - 5 = nI (L - 5) := by rw [show nI L = nI (L - 5) + 5 by rw [nl5, nI_add]; congr 1; omega]; exact Int32.add_sub_cancel _ _
    rw [e]
    exact fun q => absurd ((nI_ltI (by omega) (by omega)).mp q) (by omega)
  rw [L_L_law_18]
  rw [na, Option.bind_some, if_neg hn, rd0, Option.bind_some]
  generalize hv : xs (5 * k) = v
  have st := @W2_step B k L xs I h3 h'
  clear rd0 rd
  by_cases h0 : v &&& 63 = 0
  · rw [if_pos h0]
    obtain ⟨w, B1, I1, B2, I2, g1, g2, g3, g4, g5⟩ := st (w_feed (x := xs (5 * k + 1)) hC)
    have r1 := g4 (5 * k + 1) (by omega)
    refine ⟨B2, I2, g3, ?_⟩
    simp only [i1, rd1, r1, zac_zI, x1, g5, cond_true, Option.bind_some, b2_some, g1, g2, if_pos, i5]
  rw [if_neg h0]
  by_cases h1 : v &&& 63 = 1
  · rw [if_pos h1]
    obtain ⟨w, B1, I1, B2, I2, g1, g2, g3, g4, g5⟩ := town_step h3 h'
    refine ⟨B2, I2, g3, ?_⟩
    simp only [zac_zI, x1, g5, cond_true, Option.bind_some, b2_some, g1, g2, if_pos, i5]
  rw [if_neg h1]
  by_cases h2 : v &&& 63 = 2
  · rw [if_pos h2]
    obtain ⟨tw, s, u, T, r, pa, pn, P, kf, K, tl, X, kn, kw, kd, kb, en, ew, el, sd, hB, hT, hN, hP, hI, hX, hK, hBk, hS⟩ := hC
    obtain ⟨w, g1, g2⟩ := r_fault  hB hX
    refine ⟨B, I, h'.up, ?_⟩
    simp only [zac_zI, x1, y1, cond_true, Option.bind_some, g1, g2, if_pos, i5]
  rw [if_neg h2]
  by_cases h3 : v &&& 63 = 3
  · rw [if_pos h3]
    obtain ⟨tw, s, u, T, r, pa, pn, P, kf, K, tl, X, kn, kw, kd, kb, en, ew, el, sd, hB, hT, hN, hP, hI, hX, hK, hBk, hS⟩ := hC
    obtain ⟨w, g1, g2⟩ := r_told (x := xs (5 * k + 1)) hB hT hN hP hX hK hBk
    refine ⟨B, I, h'.up, ?_⟩
    simp only [i1, rd1, zac_zI, x1, y1, cond_true, Option.bind_some, g1, g2, if_pos, i5]
  rw [if_neg h3]
  by_cases h4 : v &&& 63 = 4
  · rw [if_pos h4]
    obtain ⟨tw, s, u, T, r, pa, pn, P, kf, K, tl, X, kn, kw, kd, kb, en, ew, el, sd, hB, hT, hN, hP, hI, hX, hK, hBk, hS⟩ := hC
    obtain ⟨w, g1, g2⟩ := r_word (x := xs (5 * k + 1)) (y := xs (5 * k + 2)) hB hT hN
    refine ⟨B, I, h'.up, ?_⟩
    simp only [i1, i2, rd1, rd2, zac_zI, x1, y1, cond_true, Option.bind_some, g1, g2, if_pos, i5]
  rw [if_neg h4]
  by_cases h5 : v &&& 63 = 5
  · rw [if_pos h5]
    obtain ⟨tw, s, u, T, r, pa, pn, P, kf, K, tl, X, kn, kw, kd, kb, en, ew, el, sd, hB, hT, hN, hP, hI, hX, hK, hBk, hS⟩ := hC
    obtain ⟨w, g1, g2⟩ := r_hoarded (x := xs (5 * k + 1)) (y := xs (5 * k + 2)) hB hT hN
    refine ⟨B, I, h'.up, ?_⟩
    simp only [i1, i2, rd1, rd2, zac_zI, x1, y1, cond_true, Option.bind_some, g1, g2, if_pos, i5]
  rw [if_neg h5]
  by_cases h6 : v &&& 63 = 6
  · rw [if_pos h6]
    obtain ⟨tw, s, u, T, r, pa, pn, P, kf, K, tl, X, kn, kw, kd, kb, en, ew, el, sd, hB, hT, hN, hP, hI, hX, hK, hBk, hS⟩ := hC
    obtain ⟨w, g1, g2⟩ := r_need (x := xs (5 * k + 1)) (y := xs (5 * k + 2)) hB hT hN
    refine ⟨B, I, h'.up, ?_⟩
    simp only [i1, i2, rd1, rd2, zac_zI, x1, y1, cond_true, Option.bind_some, g1, g2, if_pos, i5]
  rw [if_neg h6]
  by_cases h7 : v &&& 63 = 7
  · rw [if_pos h7]
    obtain ⟨w, B1, I1, B2, I2, g1, g2, g3, g4, g5⟩ := st (w_day (x := xs (5 * k + 1)) hC)
    have r1 := g4 (5 * k + 1) (by omega)
    refine ⟨B2, I2, g3, ?_⟩
    simp only [i1, rd1, r1, zac_zI, x1, g5, cond_true, Option.bind_some, b2_some, g1, g2, if_pos, i5]
  rw [if_neg h7]
  by_cases h8 : v &&& 63 = 8
  · rw [if_pos h8]
    obtain ⟨w, B1, I1, B2, I2, g1, g2, g3, g4, g5⟩ := st (w_say (x := xs (5 * k + 1)) (y := xs (5 * k + 2)) hC)
    have r1 := g4 (5 * k + 1) (by omega)
    have r2 := g4 (5 * k + 2) (by omega)
    refine ⟨B2, I2, g3, ?_⟩
    simp only [i1, i2, rd1, rd2, r1, r2, zac_zI, x1, g5, cond_true, Option.bind_some, b2_some, g1, g2, if_pos, i5]
  rw [if_neg h8]
  by_cases h9 : v &&& 63 = 9
  · rw [if_pos h9]
    obtain ⟨w, B1, I1, B2, I2, g1, g2, g3, g4, g5⟩ := st (w_around (x := xs (5 * k + 1)) (y := xs (5 * k + 2)) (z := xs (5 * k + 3)) hC)
    have r1 := g4 (5 * k + 1) (by omega)
    have r2 := g4 (5 * k + 2) (by omega)
    have r3 := g4 (5 * k + 3) (by omega)
    refine ⟨B2, I2, g3, ?_⟩
    simp only [i1, i2, i3, rd1, rd2, rd3, r1, r2, r3, zac_zI, x1, g5, cond_true, Option.bind_some, b2_some, g1, g2, if_pos, i5]
  rw [if_neg h9]
  by_cases h10 : v &&& 63 = 10
  · rw [if_pos h10]
    obtain ⟨w, B1, I1, B2, I2, g1, g2, g3, g4, g5⟩ := st (w_point (x := xs (5 * k + 1)) hC)
    have r1 := g4 (5 * k + 1) (by omega)
    refine ⟨B2, I2, g3, ?_⟩
    simp only [i1, rd1, r1, zac_zI, x1, g5, cond_true, Option.bind_some, b2_some, g1, g2, if_pos, i5]
  rw [if_neg h10]
  by_cases h11 : v &&& 63 = 11
  · rw [if_pos h11]
    obtain ⟨w, B1, I1, B2, I2, g1, g2, g3, g4, g5⟩ := st (w_hoard (x := xs (5 * k + 1)) (y := xs (5 * k + 2)) (z := xs (5 * k + 3)) hC)
    have r1 := g4 (5 * k + 1) (by omega)
    have r2 := g4 (5 * k + 2) (by omega)
    have r3 := g4 (5 * k + 3) (by omega)
    refine ⟨B2, I2, g3, ?_⟩
    simp only [i1, i2, i3, rd1, rd2, rd3, r1, r2, r3, zac_zI, x1, g5, cond_true, Option.bind_some, b2_some, g1, g2, if_pos, i5]
  rw [if_neg h11]
  by_cases h12 : v &&& 63 = 12
  · rw [if_pos h12]
    obtain ⟨w, B1, I1, B2, I2, g1, g2, g3, g4, g5⟩ := st (w_sell (x := xs (5 * k + 1)) (x2 := xs (5 * k + 2)) (y := xs (5 * k + 3)) (z := xs (5 * k + 4)) hC)
    have r1 := g4 (5 * k + 1) (by omega)
    have r2 := g4 (5 * k + 2) (by omega)
    have r3 := g4 (5 * k + 3) (by omega)
    have r4 := g4 (5 * k + 4) (by omega)
    refine ⟨B2, I2, g3, ?_⟩
    simp only [i1, i2, i3, i4, rd1, rd2, rd3, rd4, r1, r2, r3, r4, zac_zI, x1, g5, cond_true, Option.bind_some, b2_some, g1, g2, if_pos, i5]
  rw [if_neg h12]
  by_cases h13 : v &&& 63 = 13
  · rw [if_pos h13]
    obtain ⟨w, B1, I1, B2, I2, g1, g2, g3, g4, g5⟩ := st (w_raise (x := xs (5 * k + 1)) (y := xs (5 * k + 2)) hC)
    have r1 := g4 (5 * k + 1) (by omega)
    have r2 := g4 (5 * k + 2) (by omega)
    refine ⟨B2, I2, g3, ?_⟩
    simp only [i1, i2, rd1, rd2, r1, r2, zac_zI, x1, g5, cond_true, Option.bind_some, b2_some, g1, g2, if_pos, i5]
  rw [if_neg h13]
  by_cases h14 : v &&& 63 = 14
  · rw [if_pos h14]
    obtain ⟨w, B1, I1, B2, I2, g1, g2, g3, g4, g5⟩ := st (w_drift (x := xs (5 * k + 1)) hC)
    have r1 := g4 (5 * k + 1) (by omega)
    refine ⟨B2, I2, g3, ?_⟩
    simp only [i1, rd1, r1, zac_zI, x1, g5, cond_true, Option.bind_some, b2_some, g1, g2, if_pos, i5]
  rw [if_neg h14]
  by_cases h15 : v &&& 63 = 15
  · rw [if_pos h15]
    obtain ⟨w, B1, I1, B2, I2, g1, g2, g3, g4, g5⟩ := st (w_undo  hC)
    refine ⟨B2, I2, g3, ?_⟩
    simp only [zac_zI, x1, g5, cond_true, Option.bind_some, b2_some, g1, g2, if_pos, i5]
  rw [if_neg h15]
  by_cases h16 : v &&& 63 = 16
  · rw [if_pos h16]
    obtain ⟨w, B1, I1, B2, I2, g1, g2, g3, g4, g5⟩ := st (w_cheapest (x := xs (5 * k + 1)) (y := xs (5 * k + 2)) (z := xs (5 * k + 3)) hC)
    have r1 := g4 (5 * k + 1) (by omega)
    have r2 := g4 (5 * k + 2) (by omega)
    have r3 := g4 (5 * k + 3) (by omega)
    refine ⟨B2, I2, g3, ?_⟩
    simp only [i1, i2, i3, rd1, rd2, rd3, r1, r2, r3, zac_zI, x1, g5, cond_true, Option.bind_some, b2_some, g1, g2, if_pos, i5]
  rw [if_neg h16]
  by_cases h17 : v &&& 63 = 17
  · rw [if_pos h17]
    obtain ⟨w, B1, I1, B2, I2, g1, g2, g3, g4, g5⟩ := st (w_runsOut (x := xs (5 * k + 1)) hC)
    have r1 := g4 (5 * k + 1) (by omega)
    refine ⟨B2, I2, g3, ?_⟩
    simp only [i1, rd1, r1, zac_zI, x1, g5, cond_true, Option.bind_some, b2_some, g1, g2, if_pos, i5]
  rw [if_neg h17]
  by_cases h18 : v &&& 63 = 18
  · rw [if_pos h18]
    obtain ⟨w, B1, I1, B2, I2, g1, g2, g3, g4, g5⟩ := st (w_willBe (x := xs (5 * k + 1)) hC c64)
    have r1 := g4 (5 * k + 1) (by omega)
    refine ⟨B2, I2, g3, ?_⟩
    simp only [i1, rd1, r1, zac_zI, x1, g5, cond_true, Option.bind_some, b2_some, g1, g2, if_pos, i5]
  rw [if_neg h18]
  by_cases h19 : v &&& 63 = 19
  · rw [if_pos h19]
    obtain ⟨w, B1, I1, B2, I2, g1, g2, g3, g4, g5⟩ := st (w_plan (x := xs (5 * k + 1)) hC hE hR)
    have r1 := g4 (5 * k + 1) (by omega)
    refine ⟨B2, I2, g3, ?_⟩
    simp only [i1, rd1, r1, zac_zI, x1, g5, cond_true, Option.bind_some, b2_some, g1, g2, if_pos, i5]
  rw [if_neg h19]
  by_cases h20 : v &&& 63 = 20
  · rw [if_pos h20]
    obtain ⟨tw, s, u, T, r, pa, pn, P, kf, K, tl, X, kn, kw, kd, kb, en, ew, el, sd, hB, hT, hN, hP, hI, hX, hK, hBk, hS⟩ := hC
    obtain ⟨w, g1, g2⟩ := r_price (x := xs (5 * k + 1)) hB hT hN
    refine ⟨B, I, h'.up, ?_⟩
    simp only [i1, rd1, zac_zI, x1, y1, cond_true, Option.bind_some, g1, g2, if_pos, i5]
  rw [if_neg h20]
  by_cases h21 : v &&& 63 = 21
  · rw [if_pos h21]
    obtain ⟨tw, s, u, T, r, pa, pn, P, kf, K, tl, X, kn, kw, kd, kb, en, ew, el, sd, hB, hT, hN, hP, hI, hX, hK, hBk, hS⟩ := hC
    obtain ⟨w, g1, g2⟩ := r_sells (x := xs (5 * k + 1)) (y := xs (5 * k + 2)) hB hT hN
    refine ⟨B, I, h'.up, ?_⟩
    simp only [i1, i2, rd1, rd2, zac_zI, x1, y1, cond_true, Option.bind_some, g1, g2, if_pos, i5]
  rw [if_neg h21]
  by_cases h22 : v &&& 63 = 22
  · rw [if_pos h22]
    obtain ⟨tw, s, u, T, r, pa, pn, P, kf, K, tl, X, kn, kw, kd, kb, en, ew, el, sd, hB, hT, hN, hP, hI, hX, hK, hBk, hS⟩ := hC
    obtain ⟨w, g1, g2⟩ := r_share (x := xs (5 * k + 1)) (y := xs (5 * k + 2)) hB hT hN
    refine ⟨B, I, h'.up, ?_⟩
    simp only [i1, i2, rd1, rd2, zac_zI, x1, y1, cond_true, Option.bind_some, g1, g2, if_pos, i5]
  rw [if_neg h22]
  by_cases h23 : v &&& 63 = 23
  · rw [if_pos h23]
    obtain ⟨tw, s, u, T, r, pa, pn, P, kf, K, tl, X, kn, kw, kd, kb, en, ew, el, sd, hB, hT, hN, hP, hI, hX, hK, hBk, hS⟩ := hC
    obtain ⟨w, g1, g2⟩ := r_more (x := xs (5 * k + 1)) hB hT hN
    refine ⟨B, I, h'.up, ?_⟩
    simp only [i1, rd1, zac_zI, x1, y1, cond_true, Option.bind_some, g1, g2, if_pos, i5]
  rw [if_neg h23]
  by_cases h24 : v &&& 63 = 24
  · rw [if_pos h24]
    obtain ⟨w, B1, I1, B2, I2, g1, g2, g3, g4, g5⟩ := st (w_fire (x := xs (5 * k + 1)) (y := xs (5 * k + 2)) hC)
    have r1 := g4 (5 * k + 1) (by omega)
    have r2 := g4 (5 * k + 2) (by omega)
    refine ⟨B2, I2, g3, ?_⟩
    simp only [i1, i2, rd1, rd2, r1, r2, zac_zI, x1, g5, cond_true, Option.bind_some, b2_some, g1, g2, if_pos, i5]
  rw [if_neg h24]
  by_cases h25 : v &&& 63 = 25
  · rw [if_pos h25]
    obtain ⟨tw, s, u, T, r, pa, pn, P, kf, K, tl, X, kn, kw, kd, kb, en, ew, el, sd, hB, hT, hN, hP, hI, hX, hK, hBk, hS⟩ := hC
    obtain ⟨w, g1, g2⟩ := r_rhymes (y := xs (5 * k + 1)) hB hT hN
    refine ⟨B, I, h'.up, ?_⟩
    simp only [i1, rd1, zac_zI, x1, y1, cond_true, Option.bind_some, g1, g2, if_pos, i5]
  rw [if_neg h25]
  by_cases h26 : v &&& 63 = 26
  · rw [if_pos h26]
    obtain ⟨tw, s, u, T, r, pa, pn, P, kf, K, tl, X, kn, kw, kd, kb, en, ew, el, sd, hB, hT, hN, hP, hI, hX, hK, hBk, hS⟩ := hC
    obtain ⟨w, g1, g2⟩ := r_silent (M := zI B I) (x := xs (5 * k + 1)) (y := xs (5 * k + 2))
    refine ⟨B, I, h'.up, ?_⟩
    simp only [i1, i2, rd1, rd2, zac_zI, x1, y1, cond_true, Option.bind_some, g1, g2, if_pos, i5]
  rw [if_neg h26]
  by_cases h27 : v &&& 63 = 27
  · rw [if_pos h27]
    by_cases kb : xs (5 * k + 3) = 0
    · obtain ⟨w, B1, I1, B2, I2, g1, g2, g3, g4, g5⟩ := st (w_knot (x := xs (5 * k + 1)) (y := xs (5 * k + 2)) hC (b := 0) (by omega) (Or.inl rfl))
      rw [show nI 0 = (0 : Int32) from rfl] at g1 g2
      have r1 := g4 (5 * k + 1) (by omega)
      have r2 := g4 (5 * k + 2) (by omega)
      have r3 := g4 (5 * k + 3) (by omega)
      refine ⟨B2, I2, g3, ?_⟩
      simp only [i1, i2, i3, rd1, rd2, rd3, r1, r2, r3, kb, if_pos, zac_zI, x1, g5, cond_true, Option.bind_some, b2_some, g1, g2, i5]
    · obtain ⟨w, B1, I1, B2, I2, g1, g2, g3, g4, g5⟩ := st (w_knot (x := xs (5 * k + 1)) (y := xs (5 * k + 2)) hC (b := 1) (by omega) (Or.inr rfl))
      rw [show nI 1 = (1 : Int32) from rfl] at g1 g2
      have r1 := g4 (5 * k + 1) (by omega)
      have r2 := g4 (5 * k + 2) (by omega)
      have r3 := g4 (5 * k + 3) (by omega)
      refine ⟨B2, I2, g3, ?_⟩
      simp only [i1, i2, i3, rd1, rd2, rd3, r1, r2, r3, if_neg kb, zac_zI, x1, g5, cond_true, Option.bind_some, b2_some, g1, g2, if_pos, i5]
  rw [if_neg h27]
  by_cases h28 : v &&& 63 = 28
  · rw [if_pos h28]
    obtain ⟨tw, s, u, T, r, pa, pn, P, kf, K, tl, X, kn, kw, kd, kb, en, ew, el, sd, hB, hT, hN, hP, hI, hX, hK, hBk, hS⟩ := hC
    obtain ⟨w, g1, g2⟩ := r_who  hB hT hK
    refine ⟨B, I, h'.up, ?_⟩
    simp only [zac_zI, x1, y1, cond_true, Option.bind_some, g1, g2, if_pos, i5]
  rw [if_neg h28]
  by_cases h29 : v &&& 63 = 29
  · rw [if_pos h29]
    obtain ⟨tw, s, u, T, r, pa, pn, P, kf, K, tl, X, kn, kw, kd, kb, en, ew, el, sd, hB, hT, hN, hP, hI, hX, hK, hBk, hS⟩ := hC
    obtain ⟨w, g1, g2⟩ := r_ask  hB hT hK
    refine ⟨B, I, h'.up, ?_⟩
    simp only [zac_zI, x1, y1, cond_true, Option.bind_some, g1, g2, if_pos, i5]
  rw [if_neg h29]
  by_cases h30 : v &&& 63 = 30
  · rw [if_pos h30]
    obtain ⟨w, B1, I1, B2, I2, g1, g2, g3, g4, g5⟩ := st (w_write (x := xs (5 * k + 1)) (y := xs (5 * k + 2)) hC)
    have r1 := g4 (5 * k + 1) (by omega)
    have r2 := g4 (5 * k + 2) (by omega)
    refine ⟨B2, I2, g3, ?_⟩
    simp only [i1, i2, rd1, rd2, r1, r2, zac_zI, x1, g5, cond_true, Option.bind_some, b2_some, g1, g2, if_pos, i5]
  rw [if_neg h30]
  by_cases h31 : v &&& 63 = 31
  · rw [if_pos h31]
    obtain ⟨w, B1, I1, B2, I2, g1, g2, g3, g4, g5⟩ := st (w_tear  hC)
    refine ⟨B2, I2, g3, ?_⟩
    simp only [zac_zI, x1, g5, cond_true, Option.bind_some, b2_some, g1, g2, if_pos, i5]
  rw [if_neg h31]
  by_cases h32 : v &&& 63 = 32
  · rw [if_pos h32]
    obtain ⟨tw, s, u, T, r, pa, pn, P, kf, K, tl, X, kn, kw, kd, kb, en, ew, el, sd, hB, hT, hN, hP, hI, hX, hK, hBk, hS⟩ := hC
    obtain ⟨w, g1, g2⟩ := r_judge  hB hT hN hBk
    refine ⟨B, I, h'.up, ?_⟩
    simp only [zac_zI, x1, y1, cond_true, Option.bind_some, g1, g2, if_pos, i5]
  rw [if_neg h32]
  by_cases h33 : v &&& 63 = 33
  · rw [if_pos h33]
    obtain ⟨w, B1, I1, B2, I2, g1, g2, g3, g4, g5⟩ := st (w_seed (x := xs (5 * k + 1)) hC)
    have r1 := g4 (5 * k + 1) (by omega)
    refine ⟨B2, I2, g3, ?_⟩
    simp only [i1, rd1, r1, zac_zI, x1, g5, cond_true, Option.bind_some, b2_some, g1, g2, if_pos, i5]
  rw [if_neg h33]
  by_cases h34 : v &&& 63 = 34
  · rw [if_pos h34]
    obtain ⟨w, B1, I1, B2, I2, g1, g2, g3, g4, g5⟩ := st (w_keep (x := xs (5 * k + 1)) hC)
    have r1 := g4 (5 * k + 1) (by omega)
    refine ⟨B2, I2, g3, ?_⟩
    simp only [i1, rd1, r1, zac_zI, x1, g5, cond_true, Option.bind_some, b2_some, g1, g2, if_pos, i5]
  rw [if_neg h34]
  by_cases h35 : v &&& 63 = 35
  · rw [if_pos h35]
    obtain ⟨w, B1, I1, B2, I2, g1, g2, g3, g4, g5⟩ := st (w_goBack (x := xs (5 * k + 1)) hC)
    have r1 := g4 (5 * k + 1) (by omega)
    refine ⟨B2, I2, g3, ?_⟩
    simp only [i1, rd1, r1, zac_zI, x1, g5, cond_true, Option.bind_some, b2_some, g1, g2, if_pos, i5]
  rw [if_neg h35]
  exact ⟨B, I, h'.up, by rw [i5]⟩
theorem law_end {n : Nat} (h : LI B I k L xs) (h3 : L ≤ 320) (hk : L < 5 * k + 5) (hk2 : 5 * k ≤ 320) : L_L_law_18 (n + 1) 1002 1 144 (nI (5 * k)) (zI B I) = some (.inr (zI B I)) := by
  obtain ⟨hC, hb, hE, hR, hx, hL, b1, b2⟩ := h
  have na : aN (zI B I) 1002 = some (nI L) := by
    have e : zlI (zI B I) 1002 = L := by rw [zlI_zI]; unfold zlI; rw [if_pos (by decide), if_pos rfl, hL]
    have e1 : (zI B I).1 = 178 := b1
    unfold aN
    rw [e, e1]
    rfl
  have hn : nI L - 5 < nI (5 * k) := by
    rw [Int32.lt_iff_toInt_lt, nl5, pk_sub_toInt (by omega) (by omega), nI_toInt (by omega)]
    omega
  rw [L_L_law_18, na, Option.bind_some, if_pos hn]
theorem law_loop (h3 : L ≤ 320) : ∀ m n k B I, L < 5 * (k + m) + 5 → 5 * k ≤ 320 → m < n → LI B I k L xs → ∃ M', L_L_law_18 n 1002 1 144 (nI (5 * k)) (zI B I) = some (.inr M') ∧ M'.1 = 178 ∧ M'.2.1 = 4062 := by
  intro m
  induction m with
  | zero =>
    intro n k B I hm hk hn h
    obtain ⟨n, rfl⟩ := Nat.exists_eq_succ_of_ne_zero (show n ≠ 0 by omega)
    exact ⟨_, law_end h h3 (by omega) hk, h.2.2.2.2.2.2.1, h.2.2.2.2.2.2.2⟩
  | succ m ih =>
    intro n k B I hm hk hn h
    obtain ⟨n, rfl⟩ := Nat.exists_eq_succ_of_ne_zero (show n ≠ 0 by omega)
    by_cases e : 5 * k + 5 ≤ L
    · obtain ⟨B2, I2, g1, g2⟩ := law_turn (n := n) h3 h e
      obtain ⟨M', r1, r2⟩ := ih n (k + 1) B2 I2 (by omega) (by omega) (by omega) g1
      exact ⟨M', by rw [g2, r1], r2⟩
    · exact ⟨_, law_end h h3 (by omega) hk, h.2.2.2.2.2.2.1, h.2.2.2.2.2.2.2⟩
end LAW
