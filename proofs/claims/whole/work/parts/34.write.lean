/-! calls that write a little: feed, knot, write, tear, seed -/
def cu (I : Nat → Nat → Int32) (i k : Nat) (x : Int32) : Nat → Nat → Int32 := va_up I i (upd (I i) k x)
theorem cu_s {I : Nat → Nat → Int32} {i k : Nat} {x : Int32} : cu I i k x i k = x := by simp [cu, va_up, upd]
theorem cu_o {I : Nat → Nat → Int32} {i k a b : Nat} {x : Int32} (h : a ≠ i ∨ b ≠ k) : cu I i k x a b = I a b := by
  unfold cu va_up upd
  by_cases e : a = i
  · subst e
    rw [if_pos rfl, if_neg (by omega)]
  · rw [if_neg e]
theorem pI_cu {B : zM} {I : Nat → Nat → Int32} {i ci n k : Nat} {x : Int32} : pI (zI B I) i ci n k x = bif zac B i ci n then some (zI B (cu I i k x)) else none := rfl
theorem sI_cu {B : zM} {I : Nat → Nat → Int32} {i k : Nat} {x : Int32} (hk : k < 2147483648) (hl : k < zln B 10 i) : sI (zI B I) i (nI k) x = some (zI B (cu I i k x)) := by rw [sI_eq hk, if_pos hl]; rfl
theorem sZ_cu {B : zM} {I : Nat → Nat → Int32} {i k : Nat} {x : Int32} (hk : k < 2147483648) (hx : x = 0 ∨ x = 1) (hl : k < zln B 11 i) : sZ (zI B I) i (nI k) x = some (zI B (cu I i k x)) := by rw [sZ_eq hk hx, if_pos hl]; rfl
/-- what stands behind a call of both -/
def KP (B B' : zM) (I I' : Nat → Nat → Int32) : Prop := B'.1 = B.1 ∧ B'.2.1 = B.2.1 ∧ mR B' 1002 = mR B 1002 ∧ ∀ z, (1000 ≤ z ∨ z = 160) → I' z = I z
def W2 (B : zM) (I : Nat → Nat → Int32) (c : Nat) (a : Option (Int32 × zM)) (g : zM → Option (Int32 × zM)) : Prop := ∃ v B1 I1 B2 I2, a = some (v, zI B1 I1) ∧ g (zI B1 I1) = some (v, zI B2 I2) ∧ CR B2 I2 (c + 1) ∧ KP B B1 I I1 ∧ KP B B2 I I2
theorem W_mk {B : zM} {I I1 I2 : Nat → Nat → Int32} {c : Nat} {v : Int32} {a : Option (Int32 × zM)} {g : zM → Option (Int32 × zM)} (h1 : a = some (v, zI B I1)) (h2 : g (zI B I1) = some (v, zI B I2)) (hC : CR B I2 (c + 1)) (k1 : ∀ z, (1000 ≤ z ∨ z = 160) → I1 z = I z) (k2 : ∀ z, (1000 ≤ z ∨ z = 160) → I2 z = I z) : W2 B I c a g := ⟨v, B, I1, B, I2, h1, h2, hC, ⟨rfl, rfl, rfl, k1⟩, rfl, rfl, rfl, k2⟩
theorem W_no {B : zM} {I : Nat → Nat → Int32} {c : Nat} {v : Int32} {a : Option (Int32 × zM)} {g : zM → Option (Int32 × zM)} (hC : CR B I c) (h1 : a = some (v, zI B I)) (h2 : g (zI B I) = some (v, zI B I)) : W2 B I c a g := W_mk h1 h2 (hC.up (Nat.le_succ c)) (fun _ _ => rfl) (fun _ _ => rfl)
theorem cu_F {I : Nat → Nat → Int32} {i k a : Nat} {x : Int32} (h : a ≠ i) : cu I i k x a = I a := by unfold cu va_up; rw [if_neg h]
theorem btw_n {x : Int32} {a b : Nat} (h : btw x a b = false) (ha : a < 2147483648) (hb : b < 2147483648) : x < nI a ∨ (¬ x < nI a ∧ ¬ x ≤ nI b ∧ nI b < x) := by
  simp only [btw, decide_eq_false_iff_not] at h
  by_cases h1 : x < nI a
  · exact Or.inl h1
  · refine Or.inr ⟨h1, ?_, ?_⟩
    · rw [Int32.lt_iff_toInt_lt, nI_toInt ha] at h1
      rw [Int32.le_iff_toInt_le, nI_toInt hb]
      omega
    · rw [Int32.lt_iff_toInt_lt, nI_toInt ha] at h1
      rw [Int32.lt_iff_toInt_lt, nI_toInt hb]
      omega
theorem F_seed {I I2 : Nat → Nat → Int32} {tw s : Nat} (htw : tw = 4 ∨ tw = 13) (hs : s = 22) (hf : ∀ i j, ¬ ((i = 1 ∧ j = 12) ∨ (i = 144 ∧ j = 4)) → I2 i j = I i j) : (∀ i j, cT tw i j → I2 i j = I i j) ∧ (∀ i j, cN s i → I2 i j = I i j) ∧ (∀ i j, cP' i j → I2 i j = I i j) ∧ (∀ i j, cI i → I2 i j = I i j) ∧ (∀ i j, cX i j → I2 i j = I i j) ∧ (∀ i j, cK i j → I2 i j = I i j) ∧ (∀ i j, cB i j → I2 i j = I i j) :=
  ⟨fun i j q => hf i j (by unfold cT at q; omega), fun i j q => hf i j (by unfold cN at q; omega), fun i j q => hf i j (by unfold cP' at q; omega), fun i j q => hf i j (by unfold cI at q; omega), fun i j q => hf i j (by unfold cX at q; omega), fun i j q => hf i j (by unfold cK at q; omega), fun i j q => hf i j (by unfold cB at q; omega)⟩
theorem F_tear {I I2 : Nat → Nat → Int32} {tw s : Nat} (htw : tw = 4 ∨ tw = 13) (hs : s = 22) (hf : ∀ i j, ¬ ((i = 123 ∧ j = 3) ∨ (i = 127 ∧ j = 2) ∨ (i = 144 ∧ j = 48) ∨ (i = 144 ∧ j = 52)) → I2 i j = I i j) : (∀ i j, cT tw i j → I2 i j = I i j) ∧ (∀ i j, cN s i → I2 i j = I i j) ∧ (∀ i j, cP' i j → I2 i j = I i j) ∧ (∀ i j, cI i → I2 i j = I i j) ∧ (∀ i j, cX i j → I2 i j = I i j) ∧ (∀ i j, cS i j → I2 i j = I i j) :=
  ⟨fun i j q => hf i j (by unfold cT at q; omega), fun i j q => hf i j (by unfold cN at q; omega), fun i j q => hf i j (by unfold cP' at q; omega), fun i j q => hf i j (by unfold cI at q; omega), fun i j q => hf i j (by unfold cX at q; omega), fun i j q => hf i j (by unfold cS at q; omega)⟩
theorem F_feed {I I2 : Nat → Nat → Int32} {tw s tl : Nat} (htw : tw = 4 ∨ tw = 13) (hs : s = 22) (hf : ∀ i j, ¬ ((i = 3 ∧ j = tl) ∨ (i = 2 ∧ j = 1) ∨ (i = 154 ∧ j = tl) ∨ (i = 144 ∧ j = 16)) → I2 i j = I i j) : (∀ i j, cT tw i j → I2 i j = I i j) ∧ (∀ i j, cN s i → I2 i j = I i j) ∧ (∀ i j, cP' i j → I2 i j = I i j) ∧ (∀ i j, cI i → I2 i j = I i j) ∧ (∀ i j, cK i j → I2 i j = I i j) ∧ (∀ i j, cB i j → I2 i j = I i j) ∧ (∀ i j, cS i j → I2 i j = I i j) :=
  ⟨fun i j q => hf i j (by unfold cT at q; omega), fun i j q => hf i j (by unfold cN at q; omega), fun i j q => hf i j (by unfold cP' at q; omega), fun i j q => hf i j (by unfold cI at q; omega), fun i j q => hf i j (by unfold cK at q; omega), fun i j q => hf i j (by unfold cB at q; omega), fun i j q => hf i j (by unfold cS at q; omega)⟩
section WR
variable {B : zM} {c : Nat} {I : Nat → Nat → Int32} {x y z : Int32}
theorem w_seed (h : CR B I c) : W2 B I c (f_X8_seed 1 x (zI B I)) (f_X9_seed 144 x) := by
  have h' := h
  obtain ⟨tw, s, u, T, r, pa, pn, P, kf, K, tl, X, kn, kw, kd, kb, en, ew, el, sd, hB, hT, hN, hP, hI, hX, hK, hBk, hS⟩ := h
  have htw := hB.hw
  have hse := hB.hs
  by_cases h0 : 0 ≤ x
  · have e1 := hS.2.1
    have e2 := hS.2.2
    obtain ⟨j, hj, rfl⟩ : ∃ j, j < 2147483648 ∧ x = nI j := by
      rw [Int32.le_iff_toInt_le] at h0
      have := x.toInt_lt
      refine ⟨x.toInt.toNat, by simp at h0; omega, Int32.toInt_inj.mp ?_⟩
      simp at h0
      rw [nI_toInt (by omega)]
      omega
    obtain ⟨I1, hI1⟩ : ∃ I1, I1 = cu I 1 12 (nI j) := ⟨_, rfl⟩
    obtain ⟨I2, hI2⟩ : ∃ I2, I2 = cu I1 144 4 (nI j) := ⟨_, rfl⟩
    have e3 : I1 144 4 = nI sd := by rw [hI1, cu_o (by omega), e2]
    have hf : ∀ i j, ¬ ((i = 1 ∧ j = 12) ∨ (i = 144 ∧ j = 4)) → I2 i j = I i j := fun i j q => by rw [hI2, cu_o (by omega), hI1, cu_o (by omega)]
    have hS2 : gS j I2 := ⟨hj, by rw [hI2, cu_o (by omega), hI1, cu_s], by rw [hI2, cu_s]⟩
    obtain ⟨ffT, ffN, ffP, ffI, ffX, ffK, ffB⟩ := F_seed htw hse hf
    refine W_mk (v := nI sd) (I1 := I1) (I2 := I2) ?_ ?_ ⟨tw, s, u, T, r, pa, pn, P, kf, K, tl, X, kn, kw, kd, kb, en, ew, el, j, hB, (hT.fr ffT), ((hN.fr ffN).mono (Nat.le_succ c)), ((hP.fr ffP).mono (Nat.le_succ c)), ((hI.fr ffI).mono (Nat.le_succ c)), (hX.fr ffX), (hK.fr ffK), (hBk.fr ffB), hS2⟩ (fun z hz => by rw [hI1, cu_F (by omega)]) (fun z hz => by rw [hI2, cu_F (by omega), hI1, cu_F (by omega)])
    · obtain ⟨hx, hy, ht, m1, -, hs, m3, -⟩ := hB
      simp only [f_X8_seed, nb1, hx, cond_true, oI_eq, pI_cu, Option.bind_some, e1, if_pos h0, hI1]
    · obtain ⟨hx, hy, ht, m1, -, hs, m3, -⟩ := hB
      simp only [f_X9_seed, nb144, hy, cond_true, oI_eq, pI_cu, Option.bind_some, e3, if_pos h0, hI2]
  · refine W_no h' (v := -1000000002) ?_ ?_
    · obtain ⟨hx, hy, ht, m1, -, hs, m3, -⟩ := hB
      simp only [f_X8_seed, nb1, cond_true, if_neg h0]
    · obtain ⟨hx, hy, ht, m1, -, hs, m3, -⟩ := hB
      simp only [f_X9_seed, nb144, cond_true, if_neg h0]
theorem w_tear (h : CR B I c) : W2 B I c (f_X8_tear 1 (zI B I)) (f_X9_tear 144) := by
  obtain ⟨tw, s, u, T, r, pa, pn, P, kf, K, tl, X, kn, kw, kd, kb, en, ew, el, sd, hB, hT, hN, hP, hI, hX, hK, hBk, hS⟩ := h
  have htw := hB.hw
  have hse := hB.hs
  have e1 := hK.2.1
  have e2 := hK.2.2.1
  have e3 := hBk.2.1
  have e4 := hBk.2.2.1
  obtain ⟨I1, hI1⟩ : ∃ I1, I1 = cu (cu I 123 3 0) 127 2 0 := ⟨_, rfl⟩
  obtain ⟨I2, hI2⟩ : ∃ I2, I2 = cu (cu I1 144 48 0) 144 52 0 := ⟨_, rfl⟩
  have e5 : I1 144 48 = nI kn := by rw [hI1, cu_o (by omega), cu_o (by omega), e2]
  have e6 : I1 144 52 = nI en := by rw [hI1, cu_o (by omega), cu_o (by omega), e4]
  have hf : ∀ i j, ¬ ((i = 123 ∧ j = 3) ∨ (i = 127 ∧ j = 2) ∨ (i = 144 ∧ j = 48) ∨ (i = 144 ∧ j = 52)) → I2 i j = I i j := fun i j q => by rw [hI2, cu_o (by omega), cu_o (by omega), hI1, cu_o (by omega), cu_o (by omega)]
  have hK2 : gK T 0 kw kd kb I2 := ⟨by omega, by rw [hI2, cu_o (by omega), cu_o (by omega), hI1, cu_o (by omega), cu_s]; rfl, by rw [hI2, cu_o (by omega), cu_s]; rfl, fun j hj => absurd hj (by omega)⟩
  have hB2 : gB T 0 ew el I2 := ⟨by omega, by rw [hI2, cu_o (by omega), cu_o (by omega), hI1, cu_s]; rfl, by rw [hI2, cu_s]; rfl, fun j hj => absurd hj (by omega)⟩
  obtain ⟨ffT, ffN, ffP, ffI, ffX, ffS⟩ := F_tear htw hse hf
  refine W_mk (v := nI (kn + en)) (I1 := I1) (I2 := I2) ?_ ?_ ⟨tw, s, u, T, r, pa, pn, P, kf, K, tl, X, 0, kw, kd, kb, 0, ew, el, sd, hB, (hT.fr ffT), ((hN.fr ffN).mono (Nat.le_succ c)), ((hP.fr ffP).mono (Nat.le_succ c)), ((hI.fr ffI).mono (Nat.le_succ c)), (hX.fr ffX), hK2, hB2, (hS.fr ffS)⟩ (fun z hz => by rw [hI1, cu_F (by omega), cu_F (by omega)]) (fun z hz => by rw [hI2, cu_F (by omega), cu_F (by omega), hI1, cu_F (by omega), cu_F (by omega)])
  · obtain ⟨hx, hy, ht, m1, -, hs, m3, -⟩ := hB
    simp only [f_X8_tear, f_X2_clear, f_X0_clear, nb1, show Nat.ble 1 123 = true from rfl, show Nat.ble 1 127 = true from rfl, hx, cond_true, oR_eq, oI_eq, pI_cu, zac_zI, Option.bind_some, e1, e3, nI_add, hI1]
  · obtain ⟨hx, hy, ht, m1, -, hs, m3, -⟩ := hB
    simp only [f_X9_tear, nb144, hy, cond_true, oI_eq, pI_cu, Option.bind_some, e5, e6, nI_add, hI2]
theorem w_feed (h : CR B I c) : W2 B I c (f_X8_feed 1 x (zI B I)) (f_X9_feed 144 x) := by
  have h' := h
  obtain ⟨tw, s, u, T, r, pa, pn, P, kf, K, tl, X, kn, kw, kd, kb, en, ew, el, sd, hB, hT, hN, hP, hI, hX, hK, hBk, hS⟩ := h
  have htw := hB.hw
  have hse := hB.hs
  have q1 := fun M => Y_btw (x := x) (a := 0) (b := 255) (M := M) (y := 0) (z := 255) rfl rfl (by omega) (by omega)
  rcases Bool.eq_false_or_eq_true (btw x 0 255) with hb | hb
  · rw [hb, ite_t] at q1
    obtain ⟨v, -, hv, rfl⟩ := btw_t hb (by omega)
    have c1 : ¬ nI v < 0 := nI_pos (by omega)
    have c2 : nI v ≤ 255 := (nI_leI (b := 255) (by omega) (by omega)).mpr hv
    obtain ⟨b1, e1, e2, e3, e4⟩ := id hX
    by_cases hl : tl < 240
    · have c3 : nI tl < 240 := (nI_ltI (b := 240) (by omega) (by omega)).mpr hl
      have c4 : ¬ 240 ≤ nI tl := fun q => absurd ((nI_leI (a := 240) (by omega) (by omega)).mp q) (by omega)
      have c5 : ¬ nI tl = 240 := fun q => absurd ((nI_eq (b := 240) (by omega) (by omega)).mp q) (by omega)
      obtain ⟨J, hJ⟩ : ∃ J, J = cu I 3 tl (nI v) := ⟨_, rfl⟩
      obtain ⟨I1, hI1⟩ : ∃ I1, I1 = cu J 2 1 (nI (tl + 1)) := ⟨_, rfl⟩
      obtain ⟨J2, hJ2⟩ : ∃ J2, J2 = cu I1 154 tl (nI v) := ⟨_, rfl⟩
      obtain ⟨I2, hI2⟩ : ∃ I2, I2 = cu J2 144 16 (nI (tl + 1)) := ⟨_, rfl⟩
      have g1 : J 2 1 = nI tl := by rw [hJ, cu_o (by omega), e1]
      have g2 : I1 2 1 = nI (tl + 1) := by rw [hI1, cu_s]
      have g3 : I1 144 16 = nI tl := by rw [hI1, cu_o (by omega), hJ, cu_o (by omega), e2]
      have g4 : J2 144 16 = nI tl := by rw [hJ2, cu_o (by omega), g3]
      have g5 : I2 144 16 = nI (tl + 1) := by rw [hI2, cu_s]
      have hf : ∀ i j, ¬ ((i = 3 ∧ j = tl) ∨ (i = 2 ∧ j = 1) ∨ (i = 154 ∧ j = tl) ∨ (i = 144 ∧ j = 16)) → I2 i j = I i j := fun i j q => by rw [hI2, cu_o (by omega), hJ2, cu_o (by omega), hI1, cu_o (by omega), hJ, cu_o (by omega)]
      have hX2 : gX (tl + 1) (fun j => if j = tl then v else X j) I2 := by
        refine ⟨by omega, by rw [hI2, cu_o (by omega), hJ2, cu_o (by omega), g2], g5, fun j hj => ?_, ?_⟩
        · by_cases hjt : j = tl
          · subst hjt
            simp only [if_pos]
            exact ⟨by rw [hI2, cu_o (by omega), hJ2, cu_o (by omega), hI1, cu_o (by omega), hJ, cu_s], by rw [hI2, cu_o (by omega), hJ2, cu_s], hv⟩
          · simp only [if_neg hjt]
            rw [hf 3 j (by omega), hf 154 j (by omega)]
            exact e3 j (by omega)
        · rw [hf 2 3 (by omega), hf 144 20 (by omega)]
          exact e4
      obtain ⟨ffT, ffN, ffP, ffI, ffK, ffB, ffS⟩ := F_feed htw hse hf
      refine W_mk (v := nI (tl + 1)) (I1 := I1) (I2 := I2) ?_ ?_ ⟨tw, s, u, T, r, pa, pn, P, kf, K, tl + 1, _, kn, kw, kd, kb, en, ew, el, sd, hB, (hT.fr ffT), ((hN.fr ffN).mono (Nat.le_succ c)), ((hP.fr ffP).mono (Nat.le_succ c)), ((hI.fr ffI).mono (Nat.le_succ c)), hX2, (hK.fr ffK), (hBk.fr ffB), (hS.fr ffS)⟩ (fun z hz => by rw [hI1, cu_F (by omega), hJ, cu_F (by omega)]) (fun z hz => by rw [hI2, cu_F (by omega), hJ2, cu_F (by omega), hI1, cu_F (by omega), hJ, cu_F (by omega)])
      · obtain ⟨hx, hy, ht, m1, -, hs, m3, -⟩ := hB
        have s1 : sI (zI B I) 3 (nI tl) (nI v) = some (zI B J) := by rw [sI_cu (by omega) (by simp only [hx]; omega), hJ]
        simp only [f_X8_feed, f_X6_isFull, f_X6_add, nb1, show Nat.ble 1 2 = true from rfl, hx, cond_true, oR_eq, oI_eq, pI_cu, zac_zI, Option.bind_some, if_neg c1, if_pos c2, e1, if_pos c3, if_neg c4, s1, g1, nI_1, ← hI1, g2, if_pos]
      · obtain ⟨hx, hy, ht, m1, -, hs, m3, -⟩ := hB
        have s1 : sI (zI B I1) 154 (nI tl) (nI v) = some (zI B J2) := by rw [sI_cu (by omega) (by simp only [hy]; omega), hJ2]
        simp only [f_X9_feed, nb144, hy, cond_true, oR_eq, oI_eq, pI_cu, zac_zI, Option.bind_some, q1, if_neg ne10, g3, if_neg c5, s1, g4, nI_1, ← hI2, g5]
    · have c3 : ¬ nI tl < 240 := fun q => hl ((nI_ltI (b := 240) (by omega) (by omega)).mp q)
      have c5 : nI tl = 240 := (nI_eq (b := 240) (by omega) (by omega)).mpr (by omega)
      refine W_no h' (v := -1000000004) ?_ ?_
      · obtain ⟨hx, hy, ht, m1, -, hs, m3, -⟩ := hB
        simp only [f_X8_feed, f_X6_isFull, nb1, show Nat.ble 1 2 = true from rfl, hx, cond_true, oR_eq, oI_eq, zac_zI, Option.bind_some, if_neg c1, if_pos c2, e1, if_neg c3, if_neg ne10]
      · obtain ⟨hx, hy, ht, m1, -, hs, m3, -⟩ := hB
        simp only [f_X9_feed, nb144, hy, cond_true, oR_eq, oI_eq, zac_zI, Option.bind_some, q1, if_neg ne10, e2, if_pos c5]
  · rw [hb, ite_f] at q1
    refine W_no h' (v := -1000000002) ?_ ?_
    · obtain ⟨hx, hy, ht, m1, -, hs, m3, -⟩ := hB
      rcases btw_n hb (by omega) (by omega) with h1 | ⟨h1, h2, -⟩
      · rw [show nI 0 = (0 : Int32) from rfl] at h1
        simp only [f_X8_feed, nb1, cond_true, if_pos h1]
      · rw [show nI 0 = (0 : Int32) from rfl] at h1
        rw [show nI 255 = (255 : Int32) from rfl] at h2
        simp only [f_X8_feed, nb1, cond_true, if_neg h1, if_neg h2]
    · obtain ⟨hx, hy, ht, m1, -, hs, m3, -⟩ := hB
      simp only [f_X9_feed, nb144, cond_true, Option.bind_some, q1, if_pos]
end WR
