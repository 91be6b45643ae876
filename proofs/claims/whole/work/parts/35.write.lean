/-! knot, write -/
theorem F_knot {I I2 : Nat → Nat → Int32} {tw s kn : Nat} (htw : tw = 4 ∨ tw = 13) (hs : s = 22) (hf : ∀ i j, ¬ ((i = 124 ∧ j = kn) ∨ (i = 125 ∧ j = kn) ∨ (i = 126 ∧ j = kn) ∨ (i = 123 ∧ j = 3) ∨ (i = 171 ∧ j = kn) ∨ (i = 172 ∧ j = kn) ∨ (i = 173 ∧ j = kn) ∨ (i = 144 ∧ j = 48)) → I2 i j = I i j) : (∀ i j, cT tw i j → I2 i j = I i j) ∧ (∀ i j, cN s i → I2 i j = I i j) ∧ (∀ i j, cP' i j → I2 i j = I i j) ∧ (∀ i j, cI i → I2 i j = I i j) ∧ (∀ i j, cX i j → I2 i j = I i j) ∧ (∀ i j, cB i j → I2 i j = I i j) ∧ (∀ i j, cS i j → I2 i j = I i j) :=
  ⟨fun i j q => hf i j (by unfold cT at q; omega), fun i j q => hf i j (by unfold cN at q; omega), fun i j q => hf i j (by unfold cP' at q; omega), fun i j q => hf i j (by unfold cI at q; omega), fun i j q => hf i j (by unfold cX at q; omega), fun i j q => hf i j (by unfold cB at q; omega), fun i j q => hf i j (by unfold cS at q; omega)⟩
theorem F_write {I I2 : Nat → Nat → Int32} {tw s en : Nat} (htw : tw = 4 ∨ tw = 13) (hs : s = 22) (hf : ∀ i j, ¬ ((i = 128 ∧ j = en) ∨ (i = 129 ∧ j = en) ∨ (i = 127 ∧ j = 2) ∨ (i = 174 ∧ j = en) ∨ (i = 175 ∧ j = en) ∨ (i = 144 ∧ j = 52)) → I2 i j = I i j) : (∀ i j, cT tw i j → I2 i j = I i j) ∧ (∀ i j, cN s i → I2 i j = I i j) ∧ (∀ i j, cP' i j → I2 i j = I i j) ∧ (∀ i j, cI i → I2 i j = I i j) ∧ (∀ i j, cX i j → I2 i j = I i j) ∧ (∀ i j, cK i j → I2 i j = I i j) ∧ (∀ i j, cS i j → I2 i j = I i j) :=
  ⟨fun i j q => hf i j (by unfold cT at q; omega), fun i j q => hf i j (by unfold cN at q; omega), fun i j q => hf i j (by unfold cP' at q; omega), fun i j q => hf i j (by unfold cI at q; omega), fun i j q => hf i j (by unfold cX at q; omega), fun i j q => hf i j (by unfold cK at q; omega), fun i j q => hf i j (by unfold cS at q; omega)⟩
section WS
variable {B : zM} {c : Nat} {I : Nat → Nat → Int32} {x y z : Int32}
theorem w_knot (h : CR B I c) {b : Nat} (hbb : b ≤ 1) (hz : nI b = 0 ∨ nI b = 1) : W2 B I c (f_X8_knot 1 x y (nI b) (zI B I)) (f_X9_knot 144 x y (nI b)) := by
  have h' := h
  obtain ⟨tw, s, u, T, r, pa, pn, P, kf, K, tl, X, kn, kw, kd, kb, en, ew, el, sd, hB, hT, hN, hP, hI, hX, hK, hBk, hS⟩ := h
  have htw := hB.hw
  have hse := hB.hs
  have q1 := X_isWord (x := x) hB hT
  have q2 := fun {J} (hJ : gT tw T J) => Y_isWord (x := x) hB hJ
  have q2I := Y_isWord (x := x) hB hT
  have bT := hT.1.2.1
  have q3 := fun M => Y_btw (x := y) (a := 0) (b := 98) (M := M) (y := 0) (z := 98) rfl rfl (by omega) (by omega)
  rcases Bool.eq_false_or_eq_true (wd x (T 0 1)) with hw | hw
  · rw [hw, ite_t] at q1 q2I
    obtain ⟨w, hw1, rfl⟩ := wd_t hw (by omega)
    rcases Bool.eq_false_or_eq_true (btw y 0 98) with hb | hb
    · rw [hb, ite_t] at q3
      obtain ⟨v, -, hv, rfl⟩ := btw_t hb (by omega)
      have c1 : ¬ nI v < 0 := nI_pos (by omega)
      have c2 : nI v < 99 := (nI_ltI (b := 99) (by omega) (by omega)).mpr (by omega)
      obtain ⟨b1, e1, e2, e3⟩ := id hK
      by_cases hl : kn < 6
      · have c3 : nI kn < 6 := (nI_ltI (b := 6) (by omega) (by omega)).mpr hl
        have c4 : ¬ 6 ≤ nI kn := fun q => absurd ((nI_leI (a := 6) (by omega) (by omega)).mp q) (by omega)
        have c5 : ¬ nI kn = 6 := fun q => absurd ((nI_eq (b := 6) (by omega) (by omega)).mp q) (by omega)
        obtain ⟨J0, hJ0⟩ : ∃ J, J = cu I 124 kn (nI w) := ⟨_, rfl⟩
        obtain ⟨J1, hJ1⟩ : ∃ J, J = cu J0 125 kn (nI v) := ⟨_, rfl⟩
        obtain ⟨J2, hJ2⟩ : ∃ J, J = cu J1 126 kn (nI b) := ⟨_, rfl⟩
        obtain ⟨J3, hJ3⟩ : ∃ J, J = cu J2 123 3 (nI (kn + 1)) := ⟨_, rfl⟩
        obtain ⟨L0, hL0⟩ : ∃ J, J = cu J3 171 kn (nI w) := ⟨_, rfl⟩
        obtain ⟨L1, hL1⟩ : ∃ J, J = cu L0 172 kn (nI v) := ⟨_, rfl⟩
        obtain ⟨L2, hL2⟩ : ∃ J, J = cu L1 173 kn (nI b) := ⟨_, rfl⟩
        obtain ⟨L3, hL3⟩ : ∃ J, J = cu L2 144 48 (nI (kn + 1)) := ⟨_, rfl⟩
        have gJ0 : J0 123 3 = nI kn := by rw [hJ0, cu_o (by omega), e1]
        have gJ1 : J1 123 3 = nI kn := by rw [hJ1, cu_o (by omega), hJ0, cu_o (by omega), e1]
        have gJ2 : J2 123 3 = nI kn := by rw [hJ2, cu_o (by omega), hJ1, cu_o (by omega), hJ0, cu_o (by omega), e1]
        have gJ3 : J3 123 3 = nI (kn + 1) := by rw [hJ3, cu_s]
        have gy0 : J3 144 48 = nI kn := by rw [hJ3, cu_o (by omega), hJ2, cu_o (by omega), hJ1, cu_o (by omega), hJ0, cu_o (by omega), e2]
        have gL0 : L0 144 48 = nI kn := by rw [hL0, cu_o (by omega), gy0]
        have gL1 : L1 144 48 = nI kn := by rw [hL1, cu_o (by omega), hL0, cu_o (by omega), gy0]
        have gL2 : L2 144 48 = nI kn := by rw [hL2, cu_o (by omega), hL1, cu_o (by omega), hL0, cu_o (by omega), gy0]
        have gL3 : L3 144 48 = nI (kn + 1) := by rw [hL3, cu_s]
        have hf : ∀ i j, ¬ ((i = 124 ∧ j = kn) ∨ (i = 125 ∧ j = kn) ∨ (i = 126 ∧ j = kn) ∨ (i = 123 ∧ j = 3) ∨ (i = 171 ∧ j = kn) ∨ (i = 172 ∧ j = kn) ∨ (i = 173 ∧ j = kn) ∨ (i = 144 ∧ j = 48)) → L3 i j = I i j := fun i j q => by rw [hL3, cu_o (by omega), hL2, cu_o (by omega), hL1, cu_o (by omega), hL0, cu_o (by omega), hJ3, cu_o (by omega), hJ2, cu_o (by omega), hJ1, cu_o (by omega), hJ0, cu_o (by omega)]
        have hf1 : ∀ i j, ¬ ((i = 124 ∧ j = kn) ∨ (i = 125 ∧ j = kn) ∨ (i = 126 ∧ j = kn) ∨ (i = 123 ∧ j = 3) ∨ (i = 171 ∧ j = kn) ∨ (i = 172 ∧ j = kn) ∨ (i = 173 ∧ j = kn) ∨ (i = 144 ∧ j = 48)) → J3 i j = I i j := fun i j q => by rw [hJ3, cu_o (by omega), hJ2, cu_o (by omega), hJ1, cu_o (by omega), hJ0, cu_o (by omega)]
        obtain ⟨ffT, ffN, ffP, ffI, ffX, ffB, ffS⟩ := F_knot htw hse hf
        obtain ⟨fT1, -⟩ := F_knot htw hse hf1
        have q2J := q2 (hT.fr fT1)
        rw [hw, ite_t] at q2J
        have hG : gK T (kn + 1) (fun j => if j = kn then w else kw j) (fun j => if j = kn then v else kd j) (fun j => if j = kn then b else kb j) L3 := by
          refine ⟨by omega, by rw [hL3, cu_o (by omega), hL2, cu_o (by omega), hL1, cu_o (by omega), hL0, cu_o (by omega), gJ3], gL3, fun j hj => ?_⟩
          by_cases hjt : j = kn
          · subst hjt
            simp only [if_pos]
            exact ⟨⟨by rw [hL3, cu_o (by omega), hL2, cu_o (by omega), hL1, cu_o (by omega), hL0, cu_o (by omega), hJ3, cu_o (by omega), hJ2, cu_o (by omega), hJ1, cu_o (by omega), hJ0, cu_s], by rw [hL3, cu_o (by omega), hL2, cu_o (by omega), hL1, cu_o (by omega), hL0, cu_s], hw1⟩, ⟨by rw [hL3, cu_o (by omega), hL2, cu_o (by omega), hL1, cu_o (by omega), hL0, cu_o (by omega), hJ3, cu_o (by omega), hJ2, cu_o (by omega), hJ1, cu_s], by rw [hL3, cu_o (by omega), hL2, cu_o (by omega), hL1, cu_s], by omega⟩, ⟨by rw [hL3, cu_o (by omega), hL2, cu_o (by omega), hL1, cu_o (by omega), hL0, cu_o (by omega), hJ3, cu_o (by omega), hJ2, cu_s], by rw [hL3, cu_o (by omega), hL2, cu_s], hbb⟩⟩
          · simp only [if_neg hjt]
            rw [hf 124 j (by omega), hf 125 j (by omega), hf 126 j (by omega), hf 171 j (by omega), hf 172 j (by omega), hf 173 j (by omega)]
            exact e3 j (by omega)
        refine W_mk (v := nI (kn + 1)) (I1 := J3) (I2 := L3) ?_ ?_ ⟨tw, s, u, T, r, pa, pn, P, kf, K, tl, X, kn + 1, _, _, _, en, ew, el, sd, hB, (hT.fr ffT), ((hN.fr ffN).mono (Nat.le_succ c)), ((hP.fr ffP).mono (Nat.le_succ c)), ((hI.fr ffI).mono (Nat.le_succ c)), (hX.fr ffX), hG, (hBk.fr ffB), (hS.fr ffS)⟩ (fun z hz => by rw [hJ3, cu_F (by omega), hJ2, cu_F (by omega), hJ1, cu_F (by omega), hJ0, cu_F (by omega)]) (fun z hz => by rw [hL3, cu_F (by omega), hL2, cu_F (by omega), hL1, cu_F (by omega), hL0, cu_F (by omega), hJ3, cu_F (by omega), hJ2, cu_F (by omega), hJ1, cu_F (by omega), hJ0, cu_F (by omega)])
        · obtain ⟨hx, hy, ht, m1, -, hs, m3, -⟩ := hB
          have s0 : sI (zI B I) 124 (nI kn) (nI w) = some (zI B J0) := by rw [sI_cu (by omega) (by simp only [hx]; omega), hJ0]
          have s1 : sI (zI B J0) 125 (nI kn) (nI v) = some (zI B J1) := by rw [sI_cu (by omega) (by simp only [hx]; omega), hJ1]
          have s2 : sZ (zI B J1) 126 (nI kn) (nI b) = some (zI B J2) := by rw [sZ_cu (by omega) hz (by simp only [hx]; omega), hJ2]
          simp only [f_X8_knot, f_X2_tie, nb1, show Nat.ble 1 123 = true from rfl, hx, m1, ht, cond_true, oR_eq, oI_eq, pI_cu, zac_zI, Option.bind_some, q1, if_neg ne10, if_neg c1, if_pos c2, e1, if_pos c3, if_neg c4, s0, s1, s2, gJ0, gJ1, gJ2, nI_1, ← hJ3, gJ3]
        · obtain ⟨hx, hy, ht, m1, -, hs, m3, -⟩ := hB
          have s0 : sI (zI B J3) 171 (nI kn) (nI w) = some (zI B L0) := by rw [sI_cu (by omega) (by simp only [hy]; omega), hL0]
          have s1 : sI (zI B L0) 172 (nI kn) (nI v) = some (zI B L1) := by rw [sI_cu (by omega) (by simp only [hy]; omega), hL1]
          have s2 : sZ (zI B L1) 173 (nI kn) (nI b) = some (zI B L2) := by rw [sZ_cu (by omega) hz (by simp only [hy]; omega), hL2]
          simp only [f_X9_knot, nb144, hy, cond_true, oR_eq, oI_eq, pI_cu, zac_zI, Option.bind_some, q2J, q3, if_neg ne10, gy0, if_neg c5, s0, s1, s2, gL0, gL1, gL2, nI_1, ← hL3, gL3]
      · have c3 : ¬ nI kn < 6 := fun q => hl ((nI_ltI (b := 6) (by omega) (by omega)).mp q)
        have c5 : nI kn = 6 := (nI_eq (b := 6) (by omega) (by omega)).mpr (by omega)
        refine W_no h' (v := -1000000004) ?_ ?_
        · obtain ⟨hx, hy, ht, m1, -, hs, m3, -⟩ := hB
          simp only [f_X8_knot, nb1, hx, m1, ht, cond_true, oR_eq, oI_eq, zac_zI, Option.bind_some, q1, if_neg ne10, if_neg c1, if_pos c2, e1, if_neg c3]
        · obtain ⟨hx, hy, ht, m1, -, hs, m3, -⟩ := hB
          simp only [f_X9_knot, nb144, hy, cond_true, oR_eq, oI_eq, zac_zI, Option.bind_some, q2I, q3, if_neg ne10, e2, if_pos c5]
    · rw [hb, ite_f] at q3
      refine W_no h' (v := -1000000002) ?_ ?_
      · obtain ⟨hx, hy, ht, m1, -, hs, m3, -⟩ := hB
        rcases btw_n hb (by omega) (by omega) with h1 | ⟨h1, h2, h3⟩
        · rw [show nI 0 = (0 : Int32) from rfl] at h1
          simp only [f_X8_knot, nb1, hx, cond_true, zac_zI, q1, if_neg ne10, Option.bind_some, if_pos h1]
        · rw [show nI 0 = (0 : Int32) from rfl] at h1
          have h4 : ¬ y < 99 := by
            rw [Int32.lt_iff_toInt_lt] at h3 ⊢
            rw [nI_toInt (by omega)] at h3
            have : (99 : Int32).toInt = 99 := rfl
            omega
          simp only [f_X8_knot, nb1, hx, cond_true, zac_zI, q1, if_neg ne10, Option.bind_some, if_neg h1, if_neg h4]
      · obtain ⟨hx, hy, ht, m1, -, hs, m3, -⟩ := hB
        simp only [f_X9_knot, nb144, hy, cond_true, zac_zI, Option.bind_some, q2I, if_neg ne10, q3, if_pos]
  · rw [hw, ite_f] at q1 q2I
    refine W_no h' (v := -1000000001) ?_ ?_
    · obtain ⟨hx, hy, ht, m1, -, hs, m3, -⟩ := hB
      simp only [f_X8_knot, nb1, hx, cond_true, zac_zI, q1, Option.bind_some, if_pos]
    · obtain ⟨hx, hy, ht, m1, -, hs, m3, -⟩ := hB
      simp only [f_X9_knot, nb144, hy, cond_true, zac_zI, q2I, Option.bind_some, if_pos]
theorem w_write (h : CR B I c) : W2 B I c (f_X8_write 1 x y (zI B I)) (f_X9_write 144 x y) := by
  have h' := h
  obtain ⟨tw, s, u, T, r, pa, pn, P, kf, K, tl, X, kn, kw, kd, kb, en, ew, el, sd, hB, hT, hN, hP, hI, hX, hK, hBk, hS⟩ := h
  have htw := hB.hw
  have hse := hB.hs
  have q1 := X_isWord (x := x) hB hT
  have q2 := fun {J} (hJ : gT tw T J) => Y_isWord (x := x) hB hJ
  have q2I := Y_isWord (x := x) hB hT
  have bT := hT.1.2.1
  have q3 := fun M => Y_btw (x := y) (a := 0) (b := 99) (M := M) (y := 0) (z := 99) rfl rfl (by omega) (by omega)
  rcases Bool.eq_false_or_eq_true (wd x (T 0 1)) with hw | hw
  · rw [hw, ite_t] at q1 q2I
    obtain ⟨w, hw1, rfl⟩ := wd_t hw (by omega)
    rcases Bool.eq_false_or_eq_true (btw y 0 99) with hb | hb
    · rw [hb, ite_t] at q3
      obtain ⟨v, -, hv, rfl⟩ := btw_t hb (by omega)
      have c1 : ¬ nI v < 0 := nI_pos (by omega)
      have c2 : nI v ≤ 99 := (nI_leI (b := 99) (by omega) (by omega)).mpr (by omega)
      obtain ⟨b1, e1, e2, e3⟩ := id hBk
      by_cases hl : en < 15
      · have c3 : nI en < 15 := (nI_ltI (b := 15) (by omega) (by omega)).mpr hl
        have c4 : ¬ 15 ≤ nI en := fun q => absurd ((nI_leI (a := 15) (by omega) (by omega)).mp q) (by omega)
        have c5 : ¬ nI en = 15 := fun q => absurd ((nI_eq (b := 15) (by omega) (by omega)).mp q) (by omega)
        obtain ⟨J0, hJ0⟩ : ∃ J, J = cu I 128 en (nI w) := ⟨_, rfl⟩
        obtain ⟨J1, hJ1⟩ : ∃ J, J = cu J0 129 en (nI v) := ⟨_, rfl⟩
        obtain ⟨J2, hJ2⟩ : ∃ J, J = cu J1 127 2 (nI (en + 1)) := ⟨_, rfl⟩
        obtain ⟨L0, hL0⟩ : ∃ J, J = cu J2 174 en (nI w) := ⟨_, rfl⟩
        obtain ⟨L1, hL1⟩ : ∃ J, J = cu L0 175 en (nI v) := ⟨_, rfl⟩
        obtain ⟨L2, hL2⟩ : ∃ J, J = cu L1 144 52 (nI (en + 1)) := ⟨_, rfl⟩
        have gJ0 : J0 127 2 = nI en := by rw [hJ0, cu_o (by omega), e1]
        have gJ1 : J1 127 2 = nI en := by rw [hJ1, cu_o (by omega), hJ0, cu_o (by omega), e1]
        have gJ2 : J2 127 2 = nI (en + 1) := by rw [hJ2, cu_s]
        have gy0 : J2 144 52 = nI en := by rw [hJ2, cu_o (by omega), hJ1, cu_o (by omega), hJ0, cu_o (by omega), e2]
        have gL0 : L0 144 52 = nI en := by rw [hL0, cu_o (by omega), gy0]
        have gL1 : L1 144 52 = nI en := by rw [hL1, cu_o (by omega), hL0, cu_o (by omega), gy0]
        have gL2 : L2 144 52 = nI (en + 1) := by rw [hL2, cu_s]
        have hf : ∀ i j, ¬ ((i = 128 ∧ j = en) ∨ (i = 129 ∧ j = en) ∨ (i = 127 ∧ j = 2) ∨ (i = 174 ∧ j = en) ∨ (i = 175 ∧ j = en) ∨ (i = 144 ∧ j = 52)) → L2 i j = I i j := fun i j q => by rw [hL2, cu_o (by omega), hL1, cu_o (by omega), hL0, cu_o (by omega), hJ2, cu_o (by omega), hJ1, cu_o (by omega), hJ0, cu_o (by omega)]
        have hf1 : ∀ i j, ¬ ((i = 128 ∧ j = en) ∨ (i = 129 ∧ j = en) ∨ (i = 127 ∧ j = 2) ∨ (i = 174 ∧ j = en) ∨ (i = 175 ∧ j = en) ∨ (i = 144 ∧ j = 52)) → J2 i j = I i j := fun i j q => by rw [hJ2, cu_o (by omega), hJ1, cu_o (by omega), hJ0, cu_o (by omega)]
        obtain ⟨ffT, ffN, ffP, ffI, ffX, ffK, ffS⟩ := F_write htw hse hf
        obtain ⟨fT1, -⟩ := F_write htw hse hf1
        have q2J := q2 (hT.fr fT1)
        rw [hw, ite_t] at q2J
        have hG : gB T (en + 1) (fun j => if j = en then w else ew j) (fun j => if j = en then v else el j) L2 := by
          refine ⟨by omega, by rw [hL2, cu_o (by omega), hL1, cu_o (by omega), hL0, cu_o (by omega), gJ2], gL2, fun j hj => ?_⟩
          by_cases hjt : j = en
          · subst hjt
            simp only [if_pos]
            exact ⟨⟨by rw [hL2, cu_o (by omega), hL1, cu_o (by omega), hL0, cu_o (by omega), hJ2, cu_o (by omega), hJ1, cu_o (by omega), hJ0, cu_s], by rw [hL2, cu_o (by omega), hL1, cu_o (by omega), hL0, cu_s], hw1⟩, ⟨by rw [hL2, cu_o (by omega), hL1, cu_o (by omega), hL0, cu_o (by omega), hJ2, cu_o (by omega), hJ1, cu_s], by rw [hL2, cu_o (by omega), hL1, cu_s], hv⟩⟩
          · simp only [if_neg hjt]
            rw [hf 128 j (by omega), hf 129 j (by omega), hf 174 j (by omega), hf 175 j (by omega)]
            exact e3 j (by omega)
        refine W_mk (v := nI (en + 1)) (I1 := J2) (I2 := L2) ?_ ?_ ⟨tw, s, u, T, r, pa, pn, P, kf, K, tl, X, kn, kw, kd, kb, en + 1, _, _, sd, hB, (hT.fr ffT), ((hN.fr ffN).mono (Nat.le_succ c)), ((hP.fr ffP).mono (Nat.le_succ c)), ((hI.fr ffI).mono (Nat.le_succ c)), (hX.fr ffX), (hK.fr ffK), hG, (hS.fr ffS)⟩ (fun z hz => by rw [hJ2, cu_F (by omega), hJ1, cu_F (by omega), hJ0, cu_F (by omega)]) (fun z hz => by rw [hL2, cu_F (by omega), hL1, cu_F (by omega), hL0, cu_F (by omega), hJ2, cu_F (by omega), hJ1, cu_F (by omega), hJ0, cu_F (by omega)])
        · obtain ⟨hx, hy, ht, m1, -, hs, m3, -⟩ := hB
          have s0 : sI (zI B I) 128 (nI en) (nI w) = some (zI B J0) := by rw [sI_cu (by omega) (by simp only [hx]; omega), hJ0]
          have s1 : sI (zI B J0) 129 (nI en) (nI v) = some (zI B J1) := by rw [sI_cu (by omega) (by simp only [hx]; omega), hJ1]
          simp only [f_X8_write, f_X0_enter, nb1, show Nat.ble 1 127 = true from rfl, hx, m1, ht, cond_true, oR_eq, oI_eq, pI_cu, zac_zI, Option.bind_some, q1, if_neg ne10, if_neg c1, if_pos c2, e1, if_pos c3, if_neg c4, s0, s1, gJ0, gJ1, nI_1, ← hJ2, gJ2]
        · obtain ⟨hx, hy, ht, m1, -, hs, m3, -⟩ := hB
          have s0 : sI (zI B J2) 174 (nI en) (nI w) = some (zI B L0) := by rw [sI_cu (by omega) (by simp only [hy]; omega), hL0]
          have s1 : sI (zI B L0) 175 (nI en) (nI v) = some (zI B L1) := by rw [sI_cu (by omega) (by simp only [hy]; omega), hL1]
          simp only [f_X9_write, nb144, hy, cond_true, oR_eq, oI_eq, pI_cu, zac_zI, Option.bind_some, q2J, q3, if_neg ne10, gy0, if_neg c5, s0, s1, gL0, gL1, nI_1, ← hL2, gL2]
      · have c3 : ¬ nI en < 15 := fun q => hl ((nI_ltI (b := 15) (by omega) (by omega)).mp q)
        have c5 : nI en = 15 := (nI_eq (b := 15) (by omega) (by omega)).mpr (by omega)
        refine W_no h' (v := -1000000004) ?_ ?_
        · obtain ⟨hx, hy, ht, m1, -, hs, m3, -⟩ := hB
          simp only [f_X8_write, nb1, hx, m1, ht, cond_true, oR_eq, oI_eq, zac_zI, Option.bind_some, q1, if_neg ne10, if_neg c1, if_pos c2, e1, if_neg c3]
        · obtain ⟨hx, hy, ht, m1, -, hs, m3, -⟩ := hB
          simp only [f_X9_write, nb144, hy, cond_true, oR_eq, oI_eq, zac_zI, Option.bind_some, q2I, q3, if_neg ne10, e2, if_pos c5]
    · rw [hb, ite_f] at q3
      refine W_no h' (v := -1000000002) ?_ ?_
      · obtain ⟨hx, hy, ht, m1, -, hs, m3, -⟩ := hB
        rcases btw_n hb (by omega) (by omega) with h1 | ⟨h1, h2, h3⟩
        · rw [show nI 0 = (0 : Int32) from rfl] at h1
          simp only [f_X8_write, nb1, hx, cond_true, zac_zI, q1, if_neg ne10, Option.bind_some, if_pos h1]
        · rw [show nI 0 = (0 : Int32) from rfl] at h1
          have h4 : ¬ y ≤ 99 := h2
          simp only [f_X8_write, nb1, hx, cond_true, zac_zI, q1, if_neg ne10, Option.bind_some, if_neg h1, if_neg h4]
      · obtain ⟨hx, hy, ht, m1, -, hs, m3, -⟩ := hB
        simp only [f_X9_write, nb144, hy, cond_true, zac_zI, Option.bind_some, q2I, if_neg ne10, q3, if_pos]
  · rw [hw, ite_f] at q1 q2I
    refine W_no h' (v := -1000000001) ?_ ?_
    · obtain ⟨hx, hy, ht, m1, -, hs, m3, -⟩ := hB
      simp only [f_X8_write, nb1, hx, cond_true, zac_zI, q1, Option.bind_some, if_pos]
    · obtain ⟨hx, hy, ht, m1, -, hs, m3, -⟩ := hB
      simp only [f_X9_write, nb144, hy, cond_true, zac_zI, q2I, Option.bind_some, if_pos]
end WS
