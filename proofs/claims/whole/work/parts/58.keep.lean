/-! images: keep, goBack -/
theorem pZ_cu {B : zM} {I : Nat → Nat → Int32} {i ci n k : Nat} {x : Int32} (hx : x = 0 ∨ x = 1) : pZ (zI B I) i ci n k x = bif zac B i ci n then some (zI B (cu I i k x)) else none := by
  unfold pZ
  rw [zac_zI, decide_eq_true hx, Bool.and_true]
  rfl
section KEE
variable {B : zM} {tw s u np c : Nat} {T : Nat → Nat → Nat} {r q : Nat → Nat} {I : Nat → Nat → Int32} {x : Int32}
theorem GB.im (h : GB B tw s u) {i : Nat} (hi : i < 2) : mR B 1 6 = 114 ∧ zac B 1 8 13 = true ∧ (∀ I, aQ (zI B I) 114 12 (nI i) = some (132 + 6 * i)) ∧ Nat.ble 1 (132 + 6 * i) = true ∧ zac B (132 + 6 * i) 1 3 = true ∧ mR B (132 + 6 * i) 0 = 133 + 6 * i ∧ isSt B (133 + 6 * i) := by
  obtain ⟨hx, hy, ht, m1, htw, hs, m3, -, hu, m4, hu', -, -, i1, i2, q1, q2, r1, r2, -⟩ := h
  have a1 : zac B 132 1 3 = true := by simp only [hx]
  have a2 : zac B 138 1 3 = true := by simp only [hx]
  refine ⟨by simp only [hx], by simp only [hx], ?_⟩
  have : i = 0 ∨ i = 1 := by clear hx hy ht hs hu i1 i2; omega
  rcases this with rfl | rfl
  · exact ⟨q1, rfl, a1, r1, i1⟩
  · exact ⟨q2, rfl, a2, r2, i2⟩
theorem GB.iy (h : GB B tw s u) : mR B 144 55 = 176 ∧ mR B 144 56 = 177 ∧ mR B 144 57 = 178 ∧ zlI B 177 = 138 ∧ zln B 10 177 = 138 ∧ zlI B 178 = 2 ∧ zln B 10 178 = 2 ∧ zln B 11 176 = 2 := by
  have hy := h.2.1
  exact ⟨by simp only [hy], by simp only [hy], by simp only [hy], by simp only [hy], by simp only [hy], by simp only [hy], by simp only [hy], by simp only [hy]⟩
theorem Y_keep_lp (hB : GB B tw s u) {b : Nat} (hb : b < 2) : ∀ m i n I, i + m = 69 → m < n → YS 145 r I → ∃ I', L_X9_keep_15 n 144 (nI b) (nI i) (zI B I) = some (zI B I') ∧ (∀ k, i ≤ k → k < 69 → I' 177 (69 * b + k) = nI (r k)) ∧ ∀ a k, ¬ (a = 177 ∧ 69 * b + i ≤ k ∧ k < 69 * b + 69) → I' a k = I a k := by
  obtain ⟨x1, x2, -, l1, l2, -⟩ := hB.hy'
  obtain ⟨-, k2, -, -, k5, -⟩ := hB.iy
  intro m
  induction m with
  | zero =>
    intro i n I hi hn h
    obtain ⟨n, rfl⟩ := Nat.exists_eq_succ_of_ne_zero (show n ≠ 0 by omega)
    have c1 : (69 : Int32) ≤ nI i := (nI_leI (a := 69) (by omega) (by omega)).mpr (by omega)
    simp only [L_X9_keep_15, if_pos c1]
    exact ⟨I, rfl, fun k h1 h2 => absurd h1 (by omega), fun _ _ _ => rfl⟩
  | succ m ih =>
    intro i n I hi hn h
    obtain ⟨n, rfl⟩ := Nat.exists_eq_succ_of_ne_zero (show n ≠ 0 by omega)
    have c1 : ¬ (69 : Int32) ≤ nI i := fun q => absurd ((nI_leI (a := 69) (by omega) (by omega)).mp q) (by omega)
    have a1 := aI_at (B := B) (k := i) (by omega) (by rw [l1]; omega) (h i (by omega))
    have s1 : sI (zI B I) 177 (nI (69 * b + i)) (nI (r i)) = some (zI B (cu I 177 (69 * b + i) (nI (r i)))) := sI_cu (by omega) (by rw [k5]; omega)
    have p1 : (69 : Int32) * nI b + nI i = nI (69 * b + i) := by rw [nl69, pk_mul, nI_add]
    obtain ⟨I', g1, g2, g3⟩ := ih (i + 1) n (cu I 177 (69 * b + i) (nI (r i))) (by omega) (by omega) (fun k hk => by rw [cu_o (by omega)]; exact h k hk)
    refine ⟨I', ?_, ?_, ?_⟩
    · simp only [L_X9_keep_15, if_neg c1, x1, x2, k2, cond_true, oR_eq, oI_eq, Option.bind_some, a1, p1, s1, nI_1, g1]
    · intro k k1 k2
      by_cases k3 : k = i
      · subst k3
        rw [g3 177 _ (by omega), cu_s]
      · exact g2 k (by omega) k2
    · intro a k hn
      rw [g3 a k (by omega), cu_o (by omega)]
theorem Y_back_lp (hB : GB B tw s u) {b : Nat} (hb : b < 2) : ∀ m i n I, i + m = 69 → m < n → (∀ k, k < 69 → I 177 (69 * b + k) = nI (q k)) → ∃ I', L_X9_goBack_28 n 144 (nI b) (nI i) (zI B I) = some (zI B I') ∧ (∀ k, i ≤ k → k < 69 → I' 145 k = nI (q k)) ∧ ∀ a k, ¬ (a = 145 ∧ i ≤ k) → I' a k = I a k := by
  obtain ⟨x1, x2, -, l1, l2, -⟩ := hB.hy'
  obtain ⟨-, k2, -, k4, k5, -⟩ := hB.iy
  intro m
  induction m with
  | zero =>
    intro i n I hi hn h
    obtain ⟨n, rfl⟩ := Nat.exists_eq_succ_of_ne_zero (show n ≠ 0 by omega)
    have c1 : (69 : Int32) ≤ nI i := (nI_leI (a := 69) (by omega) (by omega)).mpr (by omega)
    simp only [L_X9_goBack_28, if_pos c1]
    exact ⟨I, rfl, fun k h1 h2 => absurd h1 (by omega), fun _ _ _ => rfl⟩
  | succ m ih =>
    intro i n I hi hn h
    obtain ⟨n, rfl⟩ := Nat.exists_eq_succ_of_ne_zero (show n ≠ 0 by omega)
    have c1 : ¬ (69 : Int32) ≤ nI i := fun q => absurd ((nI_leI (a := 69) (by omega) (by omega)).mp q) (by omega)
    have a1 := aI_at (B := B) (k := 69 * b + i) (by omega) (by rw [k4]; omega) (h i (by omega))
    have s1 : sI (zI B I) 145 (nI i) (nI (q i)) = some (zI B (cu I 145 i (nI (q i)))) := sI_cu (by omega) (by rw [l2]; omega)
    have p1 : (69 : Int32) * nI b + nI i = nI (69 * b + i) := by rw [nl69, pk_mul, nI_add]
    obtain ⟨I', g1, g2, g3⟩ := ih (i + 1) n (cu I 145 i (nI (q i))) (by omega) (by omega) (fun k hk => by rw [cu_o (by omega)]; exact h k hk)
    refine ⟨I', ?_, ?_, ?_⟩
    · simp only [L_X9_goBack_28, if_neg c1, x1, x2, k2, cond_true, oR_eq, oI_eq, Option.bind_some, a1, p1, s1, nI_1, g1]
    · intro k k1 k2
      by_cases k3 : k = i
      · subst k3
        rw [g3 145 _ (by omega), cu_s]
      · exact g2 k (by omega) k2
    · intro a k hn
      rw [g3 a k (by omega), cu_o (by omega)]
theorem lt2_of {x : Int32} (h : nI 1 < x) : ¬ x < 2 := by
  have e1 : (nI 1 : Int32).toInt = 1 := rfl
  have e2 : (2 : Int32).toInt = 2 := rfl
  rw [Int32.lt_iff_toInt_lt] at h ⊢
  omega
theorem F_kee {I I2 : Nat → Nat → Int32} {tw s : Nat} (htw : tw = 4 ∨ tw = 13) (hs : s = 22) (hf : ∀ i j, ¬ (cI i ∨ (i = 32 ∧ j = 2) ∨ (i = 144 ∧ j = 3)) → I2 i j = I i j) : (∀ i j, cT tw i j → I2 i j = I i j) ∧ (∀ i j, cN s i → I2 i j = I i j) ∧ (∀ i j, cX i j → I2 i j = I i j) ∧ (∀ i j, cK i j → I2 i j = I i j) ∧ (∀ i j, cB i j → I2 i j = I i j) ∧ (∀ i j, cS i j → I2 i j = I i j) ∧ (∀ z, (1000 ≤ z ∨ z = 160) → I2 z = I z) :=
  ⟨fun i j q => hf i j (by unfold cT at q; unfold cI; omega), fun i j q => hf i j (by unfold cN at q; unfold cI; omega), fun i j q => hf i j (by unfold cX at q; unfold cI; omega), fun i j q => hf i j (by unfold cK at q; unfold cI; omega), fun i j q => hf i j (by unfold cB at q; unfold cI; omega), fun i j q => hf i j (by unfold cS at q; unfold cI; omega), fun z hz => funext fun j => hf z j (by unfold cI; omega)⟩
theorem w_keep (h : CR B I c) : W2 B I c (f_X8_keep 1 x (zI B I)) (f_X9_keep 144 x) := by
  have h' := h
  obtain ⟨tw, s, u, T, r, pa, pn, P, kf, K, tl, X, kn, kw, kd, kb, en, ew, el, sd, hB, hT, hN, hP, hI, hX, hK, hBk, hS⟩ := h
  have q5 := fun M => Y_btw (x := x) (a := 0) (b := 1) (M := M) (y := 0) (z := 1) rfl rfl (by omega) (by omega)
  have hse := hB.hs
  have htw := hB.hw
  obtain ⟨x1, x2, x3, x4, x5, x6, x7, -⟩ := hB.hx
  obtain ⟨y1, y2, -, y4, y5, -⟩ := hB.hy'
  obtain ⟨k1, k2, k3, k4, k5, k6, k7, k8⟩ := hB.iy
  rcases Bool.eq_false_or_eq_true (btw x 0 1) with hb | hb
  · rw [hb, ite_t] at q5
    obtain ⟨v, hv1, hv, rfl⟩ := btw_t hb (by omega)
    have hv2 : v < 2 := by omega
    have c1' : ¬ nI v < 0 := nI_pos (by omega)
    have c2' : nI v < 2 := (nI_ltI (b := 2) (by omega) (by omega)).mpr (by omega)
    obtain ⟨i1, -, i3, i4, i5, i6, i7⟩ := hB.im hv2
    obtain ⟨J, a1, a2, a3⟩ := X_copy hB.2.2.2.2.2.1 i7 (by clear i7; omega) hN.1
    have z5 : zac B (133 + 6 * v) 5 9 = true := by simp only [i7]
    clear i7
    obtain ⟨J1, hJ1⟩ : ∃ K, K = cu J (132 + 6 * v) 1 (nI sd) := ⟨_, rfl⟩
    obtain ⟨J2, hJ2⟩ : ∃ K, K = cu J1 (132 + 6 * v) 2 1 := ⟨_, rfl⟩
    obtain ⟨I1, hI1⟩ : ∃ K, K = cu J2 32 2 0 := ⟨_, rfl⟩
    have e1 : J 1 12 = nI sd := by rw [a3 1 (by omega)]; exact hS.2.1
    have o1 : ∀ i j, ¬ ((132 + 6 * v ≤ i ∧ i ≤ 132 + 6 * v + 5) ∨ (i = 32 ∧ j = 2)) → I1 i j = I i j := fun i j q => by rw [hI1, cu_o (by omega), hJ2, cu_o (by omega), hJ1, cu_o (by omega), a3 i (by omega)]
    have yr : YS 145 r I1 := fun k hk => by rw [o1 145 k (by omega)]; exact hN.2.1 k hk
    obtain ⟨L, b1, b2, b3⟩ := Y_keep_lp hB hv2 69 0 zN I1 (by omega) (by unfold zN; omega) yr
    rw [show nI 0 = (0 : Int32) from rfl] at b1
    obtain ⟨L1, hL1⟩ : ∃ K, K = cu L 178 v (nI sd) := ⟨_, rfl⟩
    obtain ⟨L2, hL2⟩ : ∃ K, K = cu L1 176 v 1 := ⟨_, rfl⟩
    obtain ⟨I2, hI2⟩ : ∃ K, K = cu L2 144 3 0 := ⟨_, rfl⟩
    have e2 : L 144 4 = nI sd := by rw [b3 144 4 (by omega), o1 144 4 (by omega)]; exact hS.2.2
    have s1 : sI (zI B L) 178 (nI v) (nI sd) = some (zI B L1) := by rw [sI_cu (by omega) (by rw [k7]; omega), hL1]
    have s2 : sZ (zI B L1) 176 (nI v) 1 = some (zI B L2) := by rw [sZ_cu (by omega) (Or.inr rfl) (by rw [k8]; omega), hL2]
    have o2 : ∀ i j, ¬ ((i = 178 ∧ j = v) ∨ (i = 176 ∧ j = v) ∨ (i = 144 ∧ j = 3) ∨ (i = 177 ∧ 69 * v ≤ j ∧ j < 69 * v + 69)) → I2 i j = I1 i j := fun i j q => by rw [hI2, cu_o (by omega), hL2, cu_o (by omega), hL1, cu_o (by omega), b3 i j (by omega)]
    have hf : ∀ i j, ¬ (cI i ∨ (i = 32 ∧ j = 2) ∨ (i = 144 ∧ j = 3)) → I2 i j = I i j := fun i j q => by rw [o2 i j (by unfold cI at q; omega), o1 i j (by unfold cI at q; omega)]
    have hf1 : ∀ i j, ¬ (cI i ∨ (i = 32 ∧ j = 2) ∨ (i = 144 ∧ j = 3)) → I1 i j = I i j := fun i j q => by rw [o1 i j (by unfold cI at q; omega)]
    obtain ⟨f1, f2, f3, f4, f5, f6, f7⟩ := F_kee htw hse hf
    have hP2 : gP (T 0 2) c 0 pn P I2 := ⟨by omega, hP.2.1, by rw [hf 32 1 (by unfold cI; omega)]; exact hP.2.2.1, by rw [o2 32 2 (by omega), hI1, cu_s]; rfl, by rw [hI2, cu_s]; rfl, fun j hj => absurd hj (by omega)⟩
    have hI2' : gI (T 0 2) c (fun i => if i = v then 1 else kf i) (fun i => if i = v then r else K i) I2 := by
      have kk : I2 (132 + 6 * v) 2 = 1 := by rw [o2 _ _ (by omega), hI1, cu_o (by omega), hJ2, cu_s]
      refine ⟨?_, fun i hi => ?_⟩
      · have : v = 0 ∨ v = 1 := by omega
        rcases this with rfl | rfl
        · refine ⟨by rw [show (132 : Nat) = 132 + 6 * 0 from rfl, kk]; rfl, ?_⟩
          rw [o2 138 2 (by omega), o1 138 2 (by omega)]; show I 138 2 = nI (if 1 = 0 then 1 else kf 1); rw [if_neg (by omega)]
          exact hI.1.2
        · refine ⟨?_, by rw [show (138 : Nat) = 132 + 6 * 1 from rfl, kk]; rfl⟩
          rw [o2 132 2 (by omega), o1 132 2 (by omega)]; show I 132 2 = nI (if 0 = 1 then 1 else kf 0); rw [if_neg (by omega)]
          exact hI.1.1
      · by_cases hiv : i = v
        · subst hiv
          simp only [if_pos]
          refine ⟨Nat.le_refl _, by rw [hI2, cu_o (by omega), hL2, cu_s]; rfl, fun _ => ⟨a2.fp (fun a b q1 q2 => ?_), fun k hk => ?_, hN.2.2, sd, hS.1, ?_, ?_⟩⟩
          · rw [o2 a b (by omega), hI1, cu_o (by omega), hJ2, cu_o (by omega), hJ1, cu_o (by omega)]
          · rw [hI2, cu_o (by omega), hL2, cu_o (by omega), hL1, cu_o (by omega), b2 k (by omega) hk]
          · rw [o2 _ _ (by omega), hI1, cu_o (by omega), hJ2, cu_o (by omega), hJ1, cu_s]
          · rw [hI2, cu_o (by omega), hL2, cu_o (by omega), hL1, cu_s]
        · simp only [if_neg hiv]
          have oo : ∀ a j, ((132 + 6 * i ≤ a ∧ a ≤ 132 + 6 * i + 5) ∨ (a = 178 ∧ j = i) ∨ (a = 176 ∧ j = i) ∨ (a = 177 ∧ 69 * i ≤ j ∧ j < 69 * i + 69)) → I2 a j = I a j := fun a j q => by rw [o2 a j (by omega), o1 a j (by omega)]
          obtain ⟨d1, d2, d3⟩ := hI.2 i hi
          refine ⟨d1, by rw [oo _ _ (by omega)]; exact d2, fun hk => ?_⟩
          obtain ⟨g1, g2, g3, w, g4, g5, g6⟩ := d3 hk
          exact ⟨g1.fp (fun a b q1 q2 => oo a b (by omega)), fun k hk => by rw [oo _ _ (by omega)]; exact g2 k hk, g3, w, g4, by rw [oo _ _ (by omega)]; exact g5, by rw [oo _ _ (by omega)]; exact g6⟩
    refine W_mk (v := 1) (I1 := I1) (I2 := I2) ?_ ?_ ⟨tw, s, u, T, r, 0, pn, P, _, _, tl, X, kn, kw, kd, kb, en, ew, el, sd, hB, hT.fr f1, (hN.fr f2).mono (Nat.le_succ c), hP2.mono (Nat.le_succ c), hI2'.mono (Nat.le_succ c), hX.fr f3, hK.fr f4, hBk.fr f5, hS.fr f6⟩ (F_kee htw hse hf1).2.2.2.2.2.2 f7
    · simp only [f_X8_keep, f_X3_forget, show Nat.ble 1 32 = true from rfl, nb1, x1, x2, x3, x4, x6, x7, i1, i3, i4, i5, i6, z5, cond_true, oR_eq, oI_eq, pI_cu, pZ_cu (Or.inr rfl), zac_zI, Option.bind_some, if_neg c1', if_pos c2', a1, e1, ← hJ1, ← hJ2, ← hI1]
    · simp only [f_X9_keep, nb144, y1, k1, k2, k3, cond_true, oR_eq, oI_eq, pI_cu, zac_zI, Option.bind_some, q5, if_neg ne10, b1, e2, s1, s2, ← hI2]
  · rw [hb, ite_f] at q5
    have hbn := btw_n hb (by omega) (by omega)
    refine W_no h' (v := -1000000001) ?_ ?_
    · rcases hbn with h1 | ⟨h1, -, h2⟩
      · have h1 : x < 0 := h1
        simp only [f_X8_keep, nb1, cond_true, if_pos h1]
      · have h1 : ¬ x < 0 := h1
        have h2 : ¬ x < 2 := lt2_of h2
        simp only [f_X8_keep, nb1, cond_true, if_neg h1, if_neg h2]
    · simp only [f_X9_keep, nb144, cond_true, Option.bind_some, q5, if_pos]
theorem w_goBack (h : CR B I c) : W2 B I c (f_X8_goBack 1 x (zI B I)) (f_X9_goBack 144 x) := by
  have h' := h
  obtain ⟨tw, s, u, T, r, pa, pn, P, kf, K, tl, X, kn, kw, kd, kb, en, ew, el, sd, hB, hT, hN, hP, hI, hX, hK, hBk, hS⟩ := h
  have q5 := fun M => Y_btw (x := x) (a := 0) (b := 1) (M := M) (y := 0) (z := 1) rfl rfl (by omega) (by omega)
  have hse := hB.hs
  have htw := hB.hw
  obtain ⟨x1, x2, x3, x4, x5, x6, x7, -⟩ := hB.hx
  obtain ⟨y1, y2, -, y4, y5, -⟩ := hB.hy'
  obtain ⟨k1, k2, k3, k4, k5, k6, k7, k8⟩ := hB.iy
  rcases Bool.eq_false_or_eq_true (btw x 0 1) with hb | hb
  · rw [hb, ite_t] at q5
    obtain ⟨v, hv1, hv, rfl⟩ := btw_t hb (by omega)
    have hv2 : v < 2 := by omega
    have c1' : ¬ nI v < 0 := nI_pos (by omega)
    have c2' : nI v < 2 := (nI_ltI (b := 2) (by omega) (by omega)).mpr (by omega)
    obtain ⟨i1, -, i3, i4, i5, i6, i7⟩ := hB.im hv2
    obtain ⟨d1, d2, d3⟩ := hI.2 v hv2
    have d4 : I (132 + 6 * v) 2 = nI (kf v) := by
      have : v = 0 ∨ v = 1 := by clear i7; omega
      rcases this with rfl | rfl
      · exact hI.1.1
      · exact hI.1.2
    have z0 := nI_z (v := kf v) (by clear i7; omega)
    have v0 := aZ_at (B := B) (by clear i7; omega) (by rw [k8]; exact hv2) d2
    by_cases hk : kf v = 0
    · refine W_no h' (v := -1000000003) ?_ ?_
      · simp only [f_X8_goBack, nb1, x1, i1, i3, i4, i5, cond_true, oR_eq, oI_eq, Option.bind_some, if_neg c1', if_pos c2', d4, z0, if_pos hk]
      · simp only [f_X9_goBack, nb144, y1, k1, cond_true, oR_eq, oI_eq, Option.bind_some, q5, if_neg ne10, v0, z0, if_pos hk]
    · obtain ⟨g1, g2, g3, w, g4, g5, g6⟩ := d3 (by clear i7; omega)
      obtain ⟨J, a1, a2, a3⟩ := X_copy i7 hB.2.2.2.2.2.1 (by clear i7; omega) g1
      clear i7
      obtain ⟨J1, hJ1⟩ : ∃ K, K = cu J 1 12 (nI w) := ⟨_, rfl⟩
      obtain ⟨I1, hI1⟩ : ∃ K, K = cu J1 32 2 0 := ⟨_, rfl⟩
      have e1 : J (132 + 6 * v) 1 = nI w := by rw [a3 _ (by omega)]; exact g5
      have o1 : ∀ i j, ¬ ((s ≤ i ∧ i ≤ s + 4) ∨ (i = 1 ∧ j = 12) ∨ (i = 32 ∧ j = 2)) → I1 i j = I i j := fun i j q => by rw [hI1, cu_o (by omega), hJ1, cu_o (by omega), a3 i (by omega)]
      obtain ⟨L, b1, b2, b3⟩ := Y_back_lp (q := K v) hB hv2 69 0 zN I1 (by omega) (by unfold zN; omega) (fun k hk => by rw [o1 177 _ (by omega)]; exact g2 k hk)
      rw [show nI 0 = (0 : Int32) from rfl] at b1
      obtain ⟨L1, hL1⟩ : ∃ K, K = cu L 144 4 (nI w) := ⟨_, rfl⟩
      obtain ⟨I2, hI2⟩ : ∃ K, K = cu L1 144 3 0 := ⟨_, rfl⟩
      have e2 := aI_at (B := B) (I := L) (i := 178) (k := v) (v := nI w) (by omega) (by rw [k6]; exact hv2) (by rw [b3 178 v (by omega), o1 178 v (by omega)]; exact g6)
      have v1 := aZ_at (B := B) (I := I1) (i := 176) (k := v) (v := nI (kf v)) (by omega) (by rw [k8]; exact hv2) (by rw [o1 176 v (by omega)]; exact d2)
      have o2 : ∀ i j, ¬ (i = 145 ∨ (i = 144 ∧ (j = 3 ∨ j = 4))) → I2 i j = I1 i j := fun i j q => by rw [hI2, cu_o (by omega), hL1, cu_o (by omega), b3 i j (by omega)]
      have hf : ∀ i j, ¬ (cN s i ∨ cP' i j ∨ cS i j) → I2 i j = I i j := fun i j q => by rw [o2 i j (by unfold cN cP' cS at q; omega), o1 i j (by unfold cN cP' cS at q; omega)]
      have hf1 : ∀ i j, ¬ (cN s i ∨ cP' i j ∨ cS i j) → I1 i j = I i j := fun i j q => by rw [o1 i j (by unfold cN cP' cS at q; omega)]
      obtain ⟨f1, f2, f3, f4, f5, f6⟩ := F_act htw hse hf
      have hP2 : gP (T 0 2) c 0 pn P I2 := ⟨by omega, hP.2.1, by rw [o2 32 1 (by omega), o1 32 1 (by omega)]; exact hP.2.2.1, by rw [o2 32 2 (by omega), hI1, cu_s]; rfl, by rw [hI2, cu_s]; rfl, fun j hj => absurd hj (by omega)⟩
      have hN2 : gN s (T 0 2) c (K v) I2 := ⟨a2.fp (fun i j q1 q2 => by rw [o2 i j (by omega), hI1, cu_o (by omega), hJ1, cu_o (by omega)]), fun k hk => by rw [hI2, cu_o (by omega), hL1, cu_o (by omega), b2 k (by omega) hk], g3⟩
      have hS2 : gS w I2 := ⟨g4, by rw [o2 1 12 (by omega), hI1, cu_o (by omega), hJ1, cu_s], by rw [hI2, cu_o (by omega), hL1, cu_s]⟩
      refine W_mk (v := 1) (I1 := I1) (I2 := I2) ?_ ?_ ⟨tw, s, u, T, K v, 0, pn, P, kf, K, tl, X, kn, kw, kd, kb, en, ew, el, w, hB, hT.fr f1, hN2.mono (Nat.le_succ c), hP2.mono (Nat.le_succ c), (hI.fr f2).mono (Nat.le_succ c), hX.fr f3, hK.fr f4, hBk.fr f5, hS2⟩ (F_act htw hse hf1).2.2.2.2.2 f6
      · simp only [f_X8_goBack, f_X3_forget, show Nat.ble 1 32 = true from rfl, nb1, x1, x2, x3, x4, x6, x7, i1, i3, i4, i5, i6, cond_true, oR_eq, oI_eq, pI_cu, zac_zI, Option.bind_some, if_neg c1', if_pos c2', d4, z0, if_neg hk, a1, e1, ← hJ1, ← hI1]
      · simp only [f_X9_goBack, nb144, y1, k1, k3, cond_true, oR_eq, oI_eq, pI_cu, zac_zI, Option.bind_some, q5, if_neg ne10, v1, z0, if_neg hk, b1, e2, ← hL1, ← hI2]
  · rw [hb, ite_f] at q5
    have hbn := btw_n hb (by omega) (by omega)
    refine W_no h' (v := -1000000001) ?_ ?_
    · rcases hbn with h1 | ⟨h1, -, h2⟩
      · have h1 : x < 0 := h1
        simp only [f_X8_goBack, nb1, cond_true, if_pos h1]
      · have h1 : ¬ x < 0 := h1
        have h2 : ¬ x < 2 := lt2_of h2
        simp only [f_X8_goBack, nb1, cond_true, if_neg h1, if_neg h2]
    · simp only [f_X9_goBack, nb144, cond_true, Option.bind_some, q5, if_pos]
end KEE
