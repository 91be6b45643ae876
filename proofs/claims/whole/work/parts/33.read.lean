/-! word, hoarded, need -/
theorem aI_at {B : zM} {I : Nat → Nat → Int32} {i k : Nat} {v : Int32} (hk : k < 2147483648) (hl : k < zlI B i) (e : I i k = v) : aI (zI B I) i (nI k) = some v := by rw [aI_eq hk, if_pos hl, e]
theorem aZ_at {B : zM} {I : Nat → Nat → Int32} {i k : Nat} {v : Int32} (hk : k < 2147483648) (hl : k < zln B 11 i) (e : I i k = v) : aZ (zI B I) i (nI k) = some v := by rw [aZ_eq hk, if_pos hl, e]
theorem ite_t : (if true = true then (1 : Int32) else 0) = 1 := rfl
theorem ite_f : (if false = true then (1 : Int32) else 0) = 0 := rfl
theorem ne10 : ¬ (1 : Int32) = 0 := by decide
section RF
variable {B : zM} {tw s u c np w p n tl kn en pa pn a : Nat} {T : Nat → Nat → Nat} {r X kw kd kb ew el : Nat → Nat} {P : Nat → Nat → Nat} {I : Nat → Nat → Int32} {x y z : Int32}
theorem X_hAll_lp (hs : isSt B s) (h : XS s r I) (hr : rI r) (hw : w < 8) : ∀ m i n q, i + m = 5 → m < n → L_X5_hoardedByAll_4 n s (nI w) (nI q) (nI i) (zI B I) = some (nI (q + hsum r w m i)) := by
  intro m
  induction m with
  | zero =>
    intro i n q hi hn
    obtain ⟨n, rfl⟩ := Nat.exists_eq_succ_of_ne_zero (show n ≠ 0 by omega)
    simp only [L_X5_hoardedByAll_4]
    rw [if_pos (show (5 : Int32) ≤ nI i from (nI_leI (a := 5) (by omega) (by omega)).mpr (by omega))]
    rfl
  | succ m ih =>
    intro i n q hi hn
    obtain ⟨n, rfl⟩ := Nat.exists_eq_succ_of_ne_zero (show n ≠ 0 by omega)
    have c1 : ¬ (5 : Int32) ≤ nI i := fun q => absurd ((nI_leI (a := 5) (by omega) (by omega)).mp q) (by omega)
    simp only [L_X5_hoardedByAll_4, if_neg c1, zac_zI, hs, cond_true, X_hoardedBy hs h (show i < 5 by omega) hw, Option.bind_some, nI_1, nI_add]
    rw [ih (i + 1) n _ (by omega) (by omega)]
    simp only [hsum]
    rw [Nat.add_assoc]
theorem X_hAll (hs : isSt B s) (h : XS s r I) (hr : rI r) (hw : w < 8) : f_X5_hoardedByAll s (nI w) (zI B I) = some (nI (hsum r w 5 0)) := by
  have e := X_hAll_lp hs h hr hw 5 0 zN 0 (by omega) (by unfold zN; omega)
  rw [show nI 0 = (0 : Int32) from rfl, Nat.zero_add] at e
  simp only [f_X5_hoardedByAll, hs, cond_true, Option.bind_some, e]
theorem X_supply (hs : isSt B s) (h : XS s r I) (hr : rI r) (hw : w < 8) : f_X5_supply s (nI w) (zI B I) = some (nI (r (13 + w) + hsum r w 5 0)) := by
  have e := h.le hw
  simp (disch := omega) only [f_X5_supply, hs, cond_true, oR_eq, zac_zI, aI_eq, if_pos, Option.bind_some, e, X_hAll hs h hr hw, nI_add]
theorem Y_hOf_lp (hy : isY B) (ha : isRow B a) (e1 : I 144 8 = I 144 8) (e7 : I 144 7 = nI (T 0 2)) (b : T 0 2 ≤ 5) (h : YS a r I) (hw : w < 8) : ∀ m i n q, i + m = T 0 2 → m < n → L_X9_hoardedOf_5 n 144 a (nI w) (nI q) (nI i) (zI B I) = some (nI (q + hsum r w m i)) := by
  intro m
  induction m with
  | zero =>
    intro i n q hi hn
    obtain ⟨n, rfl⟩ := Nat.exists_eq_succ_of_ne_zero (show n ≠ 0 by omega)
    simp only [L_X9_hoardedOf_5, hy, cond_true, oI_eq, Option.bind_some, e7]
    rw [if_pos ((nI_leI (by omega) (by omega)).mpr (by omega))]
    rfl
  | succ m ih =>
    intro i n q hi hn
    obtain ⟨n, rfl⟩ := Nat.exists_eq_succ_of_ne_zero (show n ≠ 0 by omega)
    have e := h (29 + (8 * i + w)) (by omega)
    simp (disch := omega) only [L_X9_hoardedOf_5, hy, ha, cond_true, oI_eq, Option.bind_some, e7, nl29, nl8, pk_mul, nI_add, Nat.add_assoc, aI_eq, if_pos, e]
    rw [if_neg (fun q => absurd ((nI_leI (by omega) (by omega)).mp q) (by omega)), nI_1, ih (i + 1) n _ (by omega) (by omega)]
    simp only [hsum]
    rw [Nat.add_assoc]
theorem Y_hOf (hB : GB B tw s u) (ha : isRow B a) (hT : gT tw T I) (h : YS a r I) (hw : w < 8) : f_X9_hoardedOf 144 a (nI w) (zI B I) = some (nI (hsum r w (T 0 2) 0)) := by
  have hy := hB.2.1
  have e := Y_hOf_lp (T := T) hy ha rfl hT.2.2.2.1.2.2.1 hT.1.2.2.1 h hw (T 0 2) 0 zN 0 (by omega) (by have := hT.1.2.2.1; unfold zN; omega)
  rw [show nI 0 = (0 : Int32) from rfl, Nat.zero_add] at e
  simp only [f_X9_hoardedOf, nb144, ha, cond_true, Option.bind_some, e]
theorem row145 (hy : isY B) : isRow B 145 := ⟨rfl, by simp only [hy], by simp only [hy]⟩
theorem row146 (hy : isY B) : isRow B 146 := ⟨rfl, by simp only [hy], by simp only [hy]⟩
theorem r_word (hB : GB B tw s u) (hT : gT tw T I) (hN : gN s (T 0 2) c r I) : R2 (f_X8_word 1 x y (zI B I)) (f_X9_word 144 x y (zI B I)) := by
  have q1 := X_isWord (x := x) hB hT
  have q2 := Y_isWord (x := x) hB hT
  rcases Bool.eq_false_or_eq_true (wd x (T 0 1)) with hw | hw
  · rw [hw, ite_t] at q1 q2
    have b1 := hT.1.2.1
    have b2 := hT.1.2.2.1
    obtain ⟨w, hw1, rfl⟩ := wd_t hw (by omega)
    have hw8 : w < 8 := by omega
    have hB' := hB
    have hT' := hT
    obtain ⟨hx, hy, ht, m1, htw, hs, m3, -⟩ := hB
    obtain ⟨-, -, ⟨-, x7, -⟩, ⟨-, y7, y3, y4, -⟩⟩ := hT
    have a0 := aI_at (B := B) (by omega) (by simp only [hs]; omega) (hN.1.li hw8)
    have a1 := aI_at (B := B) (by omega) (by simp only [hs]; omega) (hN.1.le hw8)
    have a2 := aI_at (B := B) (by omega) (by simp only [hs]; omega) (hN.1.sa hw8)
    have d0 := aI_at (B := B) (by omega) (by simp only [hy]; omega) (hN.2.1 (5 + w) (by omega))
    have d1 := aI_at (B := B) (by omega) (by simp only [hy]; omega) (hN.2.1 (13 + w) (by omega))
    have d2 := aI_at (B := B) (by omega) (by simp only [hy]; omega) (hN.2.1 (21 + w) (by omega))
    have p5 : (5 : Int32) + nI w = nI (5 + w) := nI_add 5 w
    have p13 : (13 : Int32) + nI w = nI (13 + w) := nI_add 13 w
    have p21 : (21 : Int32) + nI w = nI (21 + w) := nI_add 21 w
    have p2 : (2 : Int32) * nI w = nI (2 * w) := by rw [nl2, pk_mul]
    have q3 := X_hAll hs hN.1 hN.2.2.1 hw8
    have q4 := Y_hOf hB' (row145 hy) hT' hN.2.1 hw8
    rw [hsum_H hN.2.2.2.2.2 b2 hw8] at q3
    have q5 := X_wayRound (k := 0) ht hT'.2.2.1 hw8 (by omega)
    have q6 := X_wayRound (k := 1) ht hT'.2.2.1 hw8 (by omega)
    have q7 := X_canPoint ht hT'.2.2.1 hT'.1 hw8
    rw [← nl0] at q5
    rw [← nl1] at q6
    have u1 := aI_at (B := B) (by omega) (by simp only [ht]; omega) (x7 w hw1).1
    have u2 := aI_at (B := B) (by omega) (by simp only [ht]; omega) (x7 w hw1).2
    have v1 := aI_at (B := B) (by omega) (by simp only [hy]; omega) (y7 w hw1).1
    have v2 := aI_at (B := B) (by omega) (by simp only [hy]; omega) (y7 w hw1).2
    have v3 := aI_at (B := B) (by omega) (by simp only [hy]; omega) (y3 (2 * w) (by omega))
    have v4 := aI_at (B := B) (by omega) (by simp only [hy]; omega) (y3 (2 * w + 1) (by omega))
    have v5 := aZ_at (B := B) (by omega) (by simp only [hy]; omega) (y4 w hw8)
    simp only [f_X8_word, f_X9_word, nb1, nb144, hx, hy, m1, m3, ht, hs, cond_true, oR_eq, Option.bind_some, zac_zI, q1, q2, q3, q4, q5, q6, q7, if_neg ne10, p5, p13, p21, p2, nI_1, a0, a1, a2, d0, d1, d2, u1, u2, v1, v2, v3, v4, v5]
    refine R_if (fun _ => ⟨_, rfl, rfl⟩) (fun _ => ?_)
    refine R_if (fun _ => ⟨_, rfl, rfl⟩) (fun _ => ?_)
    refine R_if (fun _ => ⟨_, rfl, rfl⟩) (fun _ => ?_)
    refine R_if (fun _ => ⟨_, rfl, rfl⟩) (fun _ => ?_)
    refine R_if (fun _ => ⟨_, rfl, rfl⟩) (fun _ => ?_)
    refine R_if (fun _ => ⟨_, rfl, rfl⟩) (fun _ => ?_)
    refine R_if (fun _ => ⟨_, rfl, rfl⟩) (fun _ => ?_)
    refine R_if (fun _ => ⟨_, rfl, rfl⟩) (fun _ => ?_)
    refine R_if (fun _ => ?_) (fun _ => ⟨_, rfl, rfl⟩)
    exact R_if (fun _ => ⟨_, rfl, rfl⟩) (fun _ => ⟨_, rfl, rfl⟩)
  · rw [hw] at q1 q2
    have t1 : (if false = true then (1 : Int32) else 0) = 0 := rfl
    obtain ⟨hx, hy, ht, m1, htw, hs, m3, -⟩ := hB
    simp only [f_X8_word, f_X9_word, nb1, nb144, hx, hy, cond_true, zac_zI, q1, q2, t1, Option.bind_some, if_pos]
    exact ⟨_, rfl, rfl⟩
theorem r_hoarded (hB : GB B tw s u) (hT : gT tw T I) (hN : gN s (T 0 2) c r I) : R2 (f_X8_hoarded 1 x y (zI B I)) (f_X9_hoarded 144 x y (zI B I)) := by
  have q1 := X_isPerson (x := x) hB hT
  have q2 := Y_isPerson (x := x) hB hT
  have q3 := X_isWord (x := y) hB hT
  have q4 := Y_isWord (x := y) hB hT
  have b1 := hT.1.2.1
  have b2 := hT.1.2.2.1
  obtain ⟨hx, hy, ht, m1, htw, hs, m3, -⟩ := hB
  have t0 : (if false = true then (1 : Int32) else 0) = 0 := rfl
  have t1 : (if true = true then (1 : Int32) else 0) = 1 := rfl
  have t2 : ¬ (1 : Int32) = 0 := by decide
  rcases Bool.eq_false_or_eq_true (wd x (T 0 2)) with hw | hw
  · rw [hw] at q1 q2
    rcases Bool.eq_false_or_eq_true (wd y (T 0 1)) with hw' | hw'
    · rw [hw'] at q3 q4
      obtain ⟨p, hp1, rfl⟩ := wd_t hw (by omega)
      obtain ⟨w, hw1, rfl⟩ := wd_t hw' (by omega)
      have q5 := X_hoardedBy hs hN.1 (show p < 5 by omega) (show w < 8 by omega)
      have d0 := aI_at (B := B) (by omega) (by simp only [hy]; omega) (hN.2.1 (29 + (8 * p + w)) (by omega))
      have p0 : (29 : Int32) + 8 * nI p + nI w = nI (29 + (8 * p + w)) := by rw [nl29, nl8, pk_mul, nI_add, nI_add, Nat.add_assoc]
      simp only [f_X8_hoarded, f_X9_hoarded, nb1, nb144, hx, hy, m1, m3, ht, hs, cond_true, oR_eq, Option.bind_some, zac_zI, q1, q2, q3, q4, q5, t1, if_neg t2, p0, d0]
      exact ⟨_, rfl, rfl⟩
    · rw [hw'] at q3 q4
      simp only [f_X8_hoarded, f_X9_hoarded, nb1, nb144, hx, hy, cond_true, Option.bind_some, zac_zI, q1, q2, q3, q4, t0, t1, if_neg t2, if_pos]
      exact ⟨_, rfl, rfl⟩
  · rw [hw] at q1 q2
    simp only [f_X8_hoarded, f_X9_hoarded, nb1, nb144, hx, hy, cond_true, Option.bind_some, zac_zI, q1, q2, q3, q4, t0, if_pos]
    exact ⟨_, rfl, rfl⟩
theorem Y_isToCome (hB : GB B tw s u) (hT : gT tw T I) (hN : gN s np c r I) (hn : n < T 0 3) : f_X9_isToCome 144 (nI n) (zI B I) = some (if dN T r ≤ T 6 (4 * n + 2) then 1 else 0) := by
  have q1 := Y_dayNow hB hT hN
  have hy := hB.2.1
  have b0 := hT.1.1
  have b3 := hT.1.2.2.2.1
  have b := (hT.1.2.2.2.2.2.2.2.2.1 n hn).2.2.1
  have bd : dN T r < 1000 := by
    unfold dN
    split
    · omega
    · have := Nat.mod_lt (r 0) (show T 0 0 > 0 by omega)
      omega
  have e := aI_at (B := B) (by omega) (by simp only [hy]; omega) (hT.2.2.2.2.2.2.2.2 n hn).2.2.1
  have p0 : (4 : Int32) * nI n + 2 = nI (4 * n + 2) := by rw [nl4, nl2, pk_mul, nI_add]
  simp only [f_X9_isToCome, f_X9_dayOf, nb144, hy, cond_true, oR_eq, Option.bind_some, zac_zI, p0, e, q1]
  by_cases c : dN T r ≤ T 6 (4 * n + 2)
  · rw [if_pos c, if_neg (fun q => absurd ((nI_ltI (by omega) (by omega)).mp q) (by omega))]
  · rw [if_neg c, if_pos ((nI_ltI (by omega) (by omega)).mpr (by omega))]
theorem dN_lt (hT : gT tw T I) : dN T r < 1000 := by
  have b0 := hT.1.1
  unfold dN
  split
  · omega
  · have := Nat.mod_lt (r 0) (show T 0 0 > 0 by omega)
    omega
theorem btw04 {y : Int32} (h : btw y 0 4 = true) : y = 0 ∨ y = 1 ∨ y = 2 ∨ y = 3 ∨ y = 4 := by
  obtain ⟨j, h1, h2, rfl⟩ := btw_t h (by omega)
  have : j = 0 ∨ j = 1 ∨ j = 2 ∨ j = 3 ∨ j = 4 := by omega
  rcases this with rfl | rfl | rfl | rfl | rfl
  · exact Or.inl rfl
  · exact Or.inr (Or.inl rfl)
  · exact Or.inr (Or.inr (Or.inl rfl))
  · exact Or.inr (Or.inr (Or.inr (Or.inl rfl)))
  · exact Or.inr (Or.inr (Or.inr (Or.inr rfl)))
theorem r_need (hB : GB B tw s u) (hT : gT tw T I) (hN : gN s (T 0 2) c r I) : R2 (f_X8_need 1 x y (zI B I)) (f_X9_need 144 x y (zI B I)) := by
  have q1 := X_isNeed (x := x) hB hT
  have q2 := Y_isNeed (x := x) hB hT
  have b1 := hT.1.2.2.2.1
  have hB' := hB
  have hT' := hT
  obtain ⟨hx, hy, ht, m1, htw, hs, m3, -⟩ := hB
  rcases Bool.eq_false_or_eq_true (wd x (T 0 3)) with hw | hw
  · rw [hw, ite_t] at q1 q2
    obtain ⟨n, hn1, rfl⟩ := wd_t hw (by omega)
    have q3 := Y_btw (x := y) (a := 0) (b := 4) (M := zI B I) (y := 0) (z := 4) rfl rfl (by omega) (by omega)
    rcases Bool.eq_false_or_eq_true (btw y 0 4) with hb | hb
    · rw [hb, ite_t] at q3
      have q5 := X_today hB' hT' hN
      have q6 := X_isToCome (d := dN T r) ht hT.2.2.1 hT.1 hn1 (dN_lt hT)
      have q7 := Y_isToCome hB' hT' hN hn1
      obtain ⟨-, -, ⟨-, -, -, x9⟩, ⟨-, -, -, -, -, y9⟩⟩ := hT
      have u1 := aI_at (B := B) (by omega) (by simp only [ht]; omega) (x9 n hn1).1
      have u2 := aI_at (B := B) (by omega) (by simp only [ht]; omega) (x9 n hn1).2.1
      have u3 := aI_at (B := B) (by omega) (by simp only [ht]; omega) (x9 n hn1).2.2.1
      have u4 := aI_at (B := B) (by omega) (by simp only [ht]; omega) (x9 n hn1).2.2.2
      have v1 := aI_at (B := B) (by omega) (by simp only [hy]; omega) (y9 n hn1).1
      have v2 := aI_at (B := B) (by omega) (by simp only [hy]; omega) (y9 n hn1).2.1
      have v3 := aI_at (B := B) (by omega) (by simp only [hy]; omega) (y9 n hn1).2.2.1
      have v4 := aI_at (B := B) (by omega) (by simp only [hy]; omega) (y9 n hn1).2.2.2
      have p0 : (4 : Int32) * nI n + 0 = nI (4 * n) := by rw [Int32.add_zero, nl4, pk_mul]
      have p1 : (4 : Int32) * nI n + 1 = nI (4 * n + 1) := by rw [nl4, nl1, pk_mul, nI_add]
      have p2 : (4 : Int32) * nI n + 2 = nI (4 * n + 2) := by rw [nl4, nl2, pk_mul, nI_add]
      have p3 : (4 : Int32) * nI n + 3 = nI (4 * n + 3) := by rw [nl4, nl3, pk_mul, nI_add]
      simp only [f_X8_need, f_X9_need, nb1, nb144, hx, hy, m1, m3, ht, hs, cond_true, oR_eq, Option.bind_some, zac_zI, q1, q2, q3, q5, q6, q7, if_neg ne10, u1, u2, u3, u4]
      rcases btw04 hb with rfl | rfl | rfl | rfl | rfl
      · simp (decide := true) only [if_true, if_false, p0, v1, Option.bind_some]
        exact ⟨_, rfl, rfl⟩
      · simp (decide := true) only [if_true, if_false, p1, v2, Option.bind_some]
        exact ⟨_, rfl, rfl⟩
      · simp (decide := true) only [if_true, if_false, p2, v3, Option.bind_some]
        exact ⟨_, rfl, rfl⟩
      · simp (decide := true) only [if_true, if_false, p3, v4, Option.bind_some]
        exact ⟨_, rfl, rfl⟩
      · simp (decide := true) only [if_true, if_false, Option.bind_some]
        exact R_if (fun _ => ⟨_, rfl, rfl⟩) (fun _ => ⟨_, rfl, rfl⟩)
    · rw [hb, ite_f] at q3
      have nb : ∀ j, j ≤ 4 → ¬ y = nI j := by
        intro j hj q
        subst q
        simp only [btw, decide_eq_false_iff_not] at hb
        rw [nI_toInt (by omega)] at hb
        omega
      have n0 : ¬ y = 0 := nb 0 (by omega)
      have n1 : ¬ y = 1 := nb 1 (by omega)
      have n2 : ¬ y = 2 := nb 2 (by omega)
      have n3 : ¬ y = 3 := nb 3 (by omega)
      have n4 : ¬ y = 4 := nb 4 (by omega)
      simp only [f_X8_need, f_X9_need, nb1, nb144, hx, hy, cond_true, Option.bind_some, zac_zI, q1, q2, q3, if_neg ne10, if_pos]
      rw [if_neg n0, if_neg n1, if_neg n2, if_neg n3, if_neg n4]
      exact ⟨_, rfl, rfl⟩
  · rw [hw, ite_f] at q1 q2
    simp only [f_X8_need, f_X9_need, nb1, nb144, hx, hy, cond_true, Option.bind_some, zac_zI, q1, q2, if_pos]
    exact ⟨_, rfl, rfl⟩
end RF
