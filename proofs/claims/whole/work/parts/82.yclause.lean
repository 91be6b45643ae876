/-! a clause, read by the reference -/
def YG (f : zM → Option zM) (B : zM) (I : Nat → Nat → Int32) (R : PSt × Nat × (Nat → Nat → Nat)) : Prop := ∃ I', f (zI B I) = some (zI B I') ∧ RS R.1 R.2.1 I' ∧ (R.1 = none → YD R.2.2 I') ∧ (∀ i j, ¬ ((i = 144 ∧ 17 ≤ j ∧ j ≤ 33 ∧ j ≠ 20) ∨ (155 ≤ i ∧ i ≤ 161)) → I' i j = I i j) ∧ ∀ j, I' 160 j = I 160 j ∨ I' 160 j = 0 ∨ I' 160 j = 1
section YCM
variable {B : zM} {tw s u tl a lo n : Nat} {X : Nat → Nat} {D : Nat → Nat → Nat} {I : Nat → Nat → Int32} {st : PSt} {hi : Int32}
theorem YG_f {f : zM → Option zM} {I' : Nat → Nat → Int32} (h : f (zI B I) = some (zI B I')) (hC : RS (some (3, a)) 0 I') (hf : ∀ i j, ¬ (i = 144 ∧ 17 ≤ j ∧ j ≤ 19) → I' i j = I i j) : YG f B I (some (3, a), a, D) := ⟨I', h, hC, fun q => absurd q (by simp), fun i j q => hf i j (by omega), fun j => Or.inl (hf 160 j (by omega))⟩
/-- full: the fault at a, and one letter on -/
theorem Y_full (hB : GB B tw s u) (hT : TYt tl X I) (hC : RS none a I) : ∃ J1 J2, f_X9_bad 144 3 (I 144 17) (zI B I) = some (zI B J1) ∧ cu J1 144 17 (J1 144 17 + 1) = J2 ∧ RS (some (3, a)) 0 J2 ∧ TYt tl X J2 ∧ (∀ i j, ¬ (i = 144 ∧ (j = 18 ∨ j = 19)) → J1 i j = I i j) ∧ ∀ i j, ¬ (i = 144 ∧ 17 ≤ j ∧ j ≤ 19) → J2 i j = I i j := by
  obtain ⟨J1, g1, g2, g3⟩ := Y_bad (f := 3) (p := a) (y := I 144 17) hB (by omega) (by omega) hC (fun _ => hC.2.2)
  refine ⟨J1, _, g1, rfl, RS.nx g2, hT.fr (fun i j q => by rw [cu_o (by omega), g3 i j (by omega)]), g3, fun i j q => by rw [cu_o (by omega), g3 i j (by omega)]⟩
theorem Y_rW (hB : GB B tw s u) (hT : TYt tl X I) (ha : a < tl) (hC : RS none a I) (h : YD D I) (hn : D 0 1 ≤ 8) : YG (f_X9_readWord 144) B I (if 8 ≤ D 0 1 then (some (3, a), a, D) else clE X tl (bW X tl D (pNum X tl none 0 100 (a + 1)))) := by
  obtain ⟨y1, -⟩ := hB.hy'
  obtain ⟨m26, m27, m28, -, -, -, -, z155, z156, z157, -⟩ := hB.hz
  have e22 : I 144 22 = nI (D 0 1) := h.1.2.1
  have c8 : nI (D 0 1) = 8 ↔ D 0 1 = 8 := nI_eq (b := 8) (by omega) (by omega)
  by_cases k : 8 ≤ D 0 1
  · have k8 : D 0 1 = 8 := by omega
    rw [if_pos k]
    obtain ⟨J1, J2, g1, g2, g3, g4, g5, g6⟩ := Y_full hB hT hC
    obtain ⟨v1, K1, a1, a2, a3, a4⟩ := Y_numF (lo := 0) (n := 100) (hi := 99) hB g4 g3 rfl (by omega) (by omega)
    obtain ⟨v2, K2, b1, b2', b3', b4⟩ := Y_numF (lo := 1) (n := 100) (hi := 99) hB a3 a2 rfl (by omega) (by omega)
    obtain ⟨v3, K3, c1, c2, c3, c4⟩ := Y_numF (lo := 0) (n := 10) (hi := 9) hB b3' b2' rfl (by omega) (by omega)
    obtain ⟨K4, d1, d2, d3⟩ := Y_endF hB c3 c2
    have f4 := RS_f d2
    rw [show nI 0 = (0 : Int32) from rfl] at a1 c1
    rw [show nI 1 = (1 : Int32) from rfl] at b1
    refine YG_f (I' := K4) ?_ d2 (fun i j q => by rw [d3 i j q, c4 i j q, b4 i j q, a4 i j q, g6 i j q])
    simp only [f_X9_readWord, nb144, y1, cond_true, oI_eq, pI_cu, zac_zI, Option.bind_some, e22, c8, if_pos k8, g1, g2, a1, b2_some, b1, c1, d1, if_neg f4]
  · have k8 : ¬ D 0 1 = 8 := by omega
    rw [if_neg k]
    obtain ⟨J0, hJ⟩ : ∃ J, J = cu I 144 17 (I 144 17 + 1) := ⟨_, rfl⟩
    have R0 : RS none (a + 1) J0 := by rw [hJ]; exact hC.nx
    have o0 : ∀ i j, ¬ (i = 144 ∧ 17 ≤ j ∧ j ≤ 19) → J0 i j = I i j := fun i j q => by rw [hJ, cu_o (by omega)]
    have T0 : TYt tl X J0 := hT.fr (fun i j q => o0 i j (by omega))
    obtain ⟨v1, K1, a1, a2, a3, a4⟩ := Y_num (lo := 0) (n := 100) (hi := 99) hB T0 ha R0 rfl (by omega) (by omega)
    have p1 := pNum_b (st := none) (X := X) (tl := tl) (lo := 0) (n := 100) (a := a + 1) ha
    have q1 := fun hh => pNum_ok (st := none) (X := X) (tl := tl) (lo := 0) (n := 100) (a := a + 1) hh
    have T1 : TYt tl X K1 := T0.fr (fun i j q => a4 i j (by omega))
    generalize pNum X tl none 0 100 (a + 1) = n1 at *
    obtain ⟨v2, K2, b1, b2', b3', b4⟩ := Y_num (lo := 1) (n := 100) (hi := 99) hB T1 p1.2 a2 rfl (by omega) (by omega)
    have p2 := pNum_b (st := n1.1) (X := X) (lo := 1) (n := 100) p1.2
    have q2 := fun hh => pNum_ok (st := n1.1) (X := X) (tl := tl) (lo := 1) (n := 100) (a := n1.2.2.1) hh
    have T2 : TYt tl X K2 := T1.fr (fun i j q => b4 i j (by omega))
    unfold bW
    generalize pNum X tl n1.1 1 100 n1.2.2.1 = n2 at *
    unfold bW2
    obtain ⟨v3, K3, c1, c2, c3, c4⟩ := Y_num (lo := 0) (n := 10) (hi := 9) hB T2 p2.2 b2' rfl (by omega) (by omega)
    have p3 := pNum_b (st := n2.1) (X := X) (lo := 0) (n := 10) p2.2
    have q3 := fun hh => pNum_ok (st := n2.1) (X := X) (tl := tl) (lo := 0) (n := 10) (a := n2.2.2.1) hh
    have T3 : TYt tl X K3 := T2.fr (fun i j q => c4 i j (by omega))
    generalize pNum X tl n2.1 0 10 n2.2.2.1 = n3 at *
    obtain ⟨K4, d1, d2, d3⟩ := Y_end hB T3 p3.2 c2
    have o4 : ∀ i j, ¬ (i = 144 ∧ 17 ≤ j ∧ j ≤ 19) → K4 i j = I i j := fun i j q => by rw [d3 i j q, c4 i j q, b4 i j q, a4 i j q, o0 i j q]
    have f4 := Y_f0 d2
    rw [show nI 0 = (0 : Int32) from rfl] at a1 c1
    rw [show nI 1 = (1 : Int32) from rfl] at b1
    unfold bW3 clE
    simp only []
    by_cases ke : (pE X tl n3.1 n3.2.2.1).1 = none
    · have m3 := pE_ok ke
      have m2 := (q3 m3).1
      have m1 := (q2 m2).1
      have u1 := a3 m1
      have u2' := b3' m2
      have u3 := c3 m3
      have e4 : K4 144 22 = nI (D 0 1) := by rw [o4 144 22 (by omega)]; exact e22
      obtain ⟨K5, h5⟩ : ∃ K, K = cu K4 155 (D 0 1) (nI n1.2.1) := ⟨_, rfl⟩
      obtain ⟨K6, h6⟩ : ∃ K, K = cu K5 156 (D 0 1) (nI n2.2.1) := ⟨_, rfl⟩
      obtain ⟨K7, h7⟩ : ∃ K, K = cu K6 157 (D 0 1) (nI n3.2.1) := ⟨_, rfl⟩
      have s5 : sI (zI B K4) 155 (nI (D 0 1)) (nI n1.2.1) = some (zI B K5) := by rw [sI_cu (by omega) (by rw [z155]; omega), h5]
      have s6 : sI (zI B K5) 156 (nI (D 0 1)) (nI n2.2.1) = some (zI B K6) := by rw [sI_cu (by omega) (by rw [z156]; omega), h6]
      have s7 : sI (zI B K6) 157 (nI (D 0 1)) (nI n3.2.1) = some (zI B K7) := by rw [sI_cu (by omega) (by rw [z157]; omega), h7]
      have e5 : K5 144 22 = nI (D 0 1) := by rw [h5, cu_o (by omega)]; exact e4
      have e6 : K6 144 22 = nI (D 0 1) := by rw [h6, cu_o (by omega)]; exact e5
      have e7 : K7 144 22 = nI (D 0 1) := by rw [h7, cu_o (by omega)]; exact e6
      have hD := YD_word (l := n1.2.1) (c := n2.2.1) (r := n3.2.1) (h.fr (I' := K4) (fun i j q => o4 i j (by omega)))
      rw [← h5, ← h6, ← h7] at hD
      have o7 : ∀ i j, ¬ (i = 155 ∨ i = 156 ∨ i = 157) → K7 i j = K4 i j := fun i j q => by rw [h7, cu_o (by omega), h6, cu_o (by omega), h5, cu_o (by omega)]
      refine ⟨cu K7 144 22 (nI (D 0 1 + 1)), ?_, d2.fr (fun j x y => by rw [cu_o (by omega), o7 _ _ (by omega)]), fun _ => hD, fun i j q => by rw [cu_o (by omega), o7 _ _ (by omega), o4 i j (by omega)], fun j => Or.inl (by rw [cu_o (by omega), o7 _ _ (by omega), o4 160 j (by omega)])⟩
      simp only [f_X9_readWord, nb144, y1, cond_true, oI_eq, oR_eq, pI_cu, zac_zI, Option.bind_some, e22, c8, if_neg k8, ← hJ, a1, b2_some, b1, c1, d1, f4, if_pos ke, m26, m27, m28, e4, u1, u2', u3, s5, e5, s6, e6, s7, e7, nI_1]
    · refine ⟨K4, ?_, d2, fun q => absurd q ke, fun i j q => o4 i j (by omega), fun j => Or.inl (o4 160 j (by omega))⟩
      simp only [f_X9_readWord, nb144, y1, cond_true, oI_eq, oR_eq, pI_cu, zac_zI, Option.bind_some, e22, c8, if_neg k8, ← hJ, a1, b2_some, b1, c1, d1, f4, if_neg ke]
theorem Y_rP (hB : GB B tw s u) (hT : TYt tl X I) (ha : a < tl) (hC : RS none a I) (h : YD D I) (hn : D 0 2 ≤ 5) : YG (f_X9_readPerson 144) B I (if 5 ≤ D 0 2 then (some (3, a), a, D) else clE X tl (bP D (pNum X tl none 0 2 (a + 1)))) := by
  obtain ⟨y1, -⟩ := hB.hy'
  obtain ⟨-, -, -, -, -, m31, -, -, -, -, -, -, -, z160, -⟩ := hB.hz
  have e23 : I 144 23 = nI (D 0 2) := h.1.2.2.1
  have c5 : nI (D 0 2) = 5 ↔ D 0 2 = 5 := nI_eq (b := 5) (by omega) (by omega)
  by_cases k : 5 ≤ D 0 2
  · have k8 : D 0 2 = 5 := by omega
    rw [if_pos k]
    obtain ⟨J1, J2, g1, g2, g3, g4, g5, g6⟩ := Y_full hB hT hC
    obtain ⟨v1, K1, a1, a2, a3, a4⟩ := Y_numF (lo := 0) (n := 2) (hi := 1) hB g4 g3 rfl (by omega) (by omega)
    obtain ⟨K4, d1, d2, d3⟩ := Y_endF hB a3 a2
    have f4 := RS_f d2
    rw [show nI 0 = (0 : Int32) from rfl] at a1
    refine YG_f (I' := K4) ?_ d2 (fun i j q => by rw [d3 i j q, a4 i j q, g6 i j q])
    simp only [f_X9_readPerson, nb144, y1, cond_true, oI_eq, pI_cu, zac_zI, Option.bind_some, e23, c5, if_pos k8, g1, g2, a1, b2_some, d1, if_neg f4]
  · have k8 : ¬ D 0 2 = 5 := by omega
    rw [if_neg k]
    obtain ⟨J0, hJ⟩ : ∃ J, J = cu I 144 17 (I 144 17 + 1) := ⟨_, rfl⟩
    have R0 : RS none (a + 1) J0 := by rw [hJ]; exact hC.nx
    have o0 : ∀ i j, ¬ (i = 144 ∧ 17 ≤ j ∧ j ≤ 19) → J0 i j = I i j := fun i j q => by rw [hJ, cu_o (by omega)]
    have T0 : TYt tl X J0 := hT.fr (fun i j q => o0 i j (by omega))
    obtain ⟨v1, K1, a1, a2, a3, a4⟩ := Y_num (lo := 0) (n := 2) (hi := 1) hB T0 ha R0 rfl (by omega) (by omega)
    have p1 := pNum_b (st := none) (X := X) (tl := tl) (lo := 0) (n := 2) (a := a + 1) ha
    have q1 := fun hh => pNum_ok (st := none) (X := X) (tl := tl) (lo := 0) (n := 2) (a := a + 1) hh
    have T1 : TYt tl X K1 := T0.fr (fun i j q => a4 i j (by omega))
    generalize pNum X tl none 0 2 (a + 1) = n1 at *
    obtain ⟨K4, d1, d2, d3⟩ := Y_end hB T1 p1.2 a2
    have o4 : ∀ i j, ¬ (i = 144 ∧ 17 ≤ j ∧ j ≤ 19) → K4 i j = I i j := fun i j q => by rw [d3 i j q, a4 i j q, o0 i j q]
    have f4 := Y_f0 d2
    rw [show nI 0 = (0 : Int32) from rfl] at a1
    unfold bP clE
    simp only []
    by_cases ke : (pE X tl n1.1 n1.2.2.1).1 = none
    · have m1 := pE_ok ke
      have u1 := a3 m1
      have w1 := (q1 m1).2.2
      have e4 : K4 144 23 = nI (D 0 2) := by rw [o4 144 23 (by omega)]; exact e23
      obtain ⟨K5, h5⟩ : ∃ K, K = cu K4 160 (D 0 2) (nI n1.2.1) := ⟨_, rfl⟩
      have s5 : sZ (zI B K4) 160 (nI (D 0 2)) (nI n1.2.1) = some (zI B K5) := by
        rw [sZ_cu (by omega) _ (by rw [z160]; omega), h5]
        rcases (show n1.2.1 = 0 ∨ n1.2.1 = 1 by omega) with e | e
        · rw [e]; exact Or.inl rfl
        · rw [e]; exact Or.inr rfl
      have e5 : K5 144 23 = nI (D 0 2) := by rw [h5, cu_o (by omega)]; exact e4
      have hD := YD_per (b := n1.2.1) (h.fr (I' := K4) (fun i j q => o4 i j (by omega)))
      rw [← h5] at hD
      refine ⟨cu K5 144 23 (nI (D 0 2 + 1)), ?_, d2.fr (fun j x y => by rw [cu_o (by omega), h5, cu_o (by omega)]), fun _ => hD, fun i j q => by rw [cu_o (by omega), h5, cu_o (by omega), o4 i j (by omega)], fun j => by
        by_cases e : j = D 0 2
        · right
          rw [e, cu_o (by omega), h5, cu_s]
          rcases (show n1.2.1 = 0 ∨ n1.2.1 = 1 by omega) with e | e
          · left; rw [e]; rfl
          · right; rw [e]; rfl
        · left
          rw [cu_o (by omega), h5, cu_o (by omega), o4 160 j (by omega)]⟩
      have zp : nI n1.2.1 = 1 ↔ n1.2.1 = 1 := nI_eq (b := 1) (by omega) (by omega)
      by_cases kp : n1.2.1 = 1
      · rw [kp, show nI 1 = (1 : Int32) from rfl] at s5
        simp only [f_X9_readPerson, nb144, y1, cond_true, oI_eq, oR_eq, pI_cu, zac_zI, Option.bind_some, e23, c5, if_neg k8, ← hJ, a1, b2_some, d1, f4, if_pos ke, m31, e4, u1, zp, if_pos kp, s5, e5, nI_1]
      · rw [show n1.2.1 = 0 by omega, show nI 0 = (0 : Int32) from rfl] at s5
        simp only [f_X9_readPerson, nb144, y1, cond_true, oI_eq, oR_eq, pI_cu, zac_zI, Option.bind_some, e23, c5, if_neg k8, ← hJ, a1, b2_some, d1, f4, if_pos ke, m31, e4, u1, zp, if_neg kp, s5, e5, nI_1]
    · refine ⟨K4, ?_, d2, fun q => absurd q ke, fun i j q => o4 i j (by omega), fun j => Or.inl (o4 160 j (by omega))⟩
      simp only [f_X9_readPerson, nb144, y1, cond_true, oI_eq, oR_eq, pI_cu, zac_zI, Option.bind_some, e23, c5, if_neg k8, ← hJ, a1, b2_some, d1, f4, if_neg ke]
theorem Y_rY (hB : GB B tw s u) (hT : TYt tl X I) (ha : a < tl) (hC : RS none a I) (h : YD D I) (h1 : D 0 1 = 0) : YG (f_X9_readYear 144) B I (clE X tl (bY D (pNum X tl none 1 100 (a + 1)))) := by
  obtain ⟨y1, -⟩ := hB.hy'
  obtain ⟨J0, hJ⟩ : ∃ J, J = cu I 144 17 (I 144 17 + 1) := ⟨_, rfl⟩
  have R0 : RS none (a + 1) J0 := by rw [hJ]; exact hC.nx
  have o0 : ∀ i j, ¬ (i = 144 ∧ 17 ≤ j ∧ j ≤ 19) → J0 i j = I i j := fun i j q => by rw [hJ, cu_o (by omega)]
  have T0 : TYt tl X J0 := hT.fr (fun i j q => o0 i j (by omega))
  obtain ⟨v1, K1, a1, a2, a3, a4⟩ := Y_num (lo := 1) (n := 100) (hi := 99) hB T0 ha R0 rfl (by omega) (by omega)
  have p1 := pNum_b (st := none) (X := X) (tl := tl) (lo := 1) (n := 100) (a := a + 1) ha
  have T1 : TYt tl X K1 := T0.fr (fun i j q => a4 i j (by omega))
  generalize pNum X tl none 1 100 (a + 1) = n1 at *
  obtain ⟨K2, h2⟩ : ∃ K, K = cu K1 144 21 v1 := ⟨_, rfl⟩
  have o2 : ∀ i j, ¬ (i = 144 ∧ j = 21) → K2 i j = K1 i j := fun i j q => by rw [h2, cu_o (by omega)]
  obtain ⟨K4, d1, d2, d3⟩ := Y_end hB (T1.fr (I' := K2) (fun i j q => o2 i j (by omega))) p1.2 (a2.fr (I' := K2) (fun j x y => o2 _ _ (by omega)))
  rw [show nI 1 = (1 : Int32) from rfl] at a1
  refine ⟨K4, ?_, d2, fun q => ?_, fun i j q => by rw [d3 i j (by omega), o2 i j (by omega), a4 i j (by omega), o0 i j (by omega)], fun j => Or.inl (by rw [d3 160 j (by omega), o2 160 j (by omega), a4 160 j (by omega), o0 160 j (by omega)])⟩
  · simp only [f_X9_readYear, nb144, y1, cond_true, oI_eq, pI_cu, zac_zI, Option.bind_some, ← hJ, a1, b2_some, ← h2, d1]
  · have m1 := pE_ok (show (pE X tl n1.1 n1.2.2.1).1 = none from q)
    have u1 := a3 m1
    have hD := YD_year (v := n1.2.1) (h.fr (I' := K1) (fun i j q => by rw [a4 i j (by omega), o0 i j (by omega)])) h1
    rw [← u1, ← h2] at hD
    exact hD.fr (fun i j q => d3 i j (by omega))
theorem Y_rN (hB : GB B tw s u) (hT : TYt tl X I) (ha : a < tl) (hC : RS none a I) (h : YD D I) (hS : SD D) : YG (f_X9_readNeed 144) B I (if 8 ≤ D 0 3 then (some (3, a), a, D) else clE X tl (bN X tl D (pNum X tl none 0 (D 0 2) (a + 1)))) := by
  obtain ⟨y1, -⟩ := hB.hy'
  obtain ⟨-, -, -, -, -, -, m32, -, -, -, -, -, -, -, z161⟩ := hB.hz
  have i0 := hS.1.1
  have i1 := hS.1.2.1
  have i2 := hS.1.2.2.1
  have i3 := hS.1.2.2.2.1
  obtain ⟨e21, e22, e23, e24, -⟩ := h.1
  have c8 : nI (D 0 3) = 8 ↔ D 0 3 = 8 := nI_eq (b := 8) (by omega) (by omega)
  by_cases k : 8 ≤ D 0 3
  · have k8 : D 0 3 = 8 := by omega
    rw [if_pos k]
    obtain ⟨J1, J2, g1, g2, g3, g4, g5, g6⟩ := Y_full hB hT hC
    obtain ⟨v1, K1, a1, a2, a3, a4⟩ := Y_numF (lo := 0) (n := D 0 2) (hi := nI (D 0 2) - 1) hB g4 g3 rfl (by omega) (by omega)
    obtain ⟨v2, K2, b1, b2', b3', b4⟩ := Y_numF (lo := 0) (n := D 0 1) (hi := nI (D 0 1) - 1) hB a3 a2 rfl (by omega) (by omega)
    obtain ⟨v3, K3, c1, c2, c3, c4⟩ := Y_numF (lo := 0) (n := D 0 0) (hi := nI (D 0 0) - 1) hB b3' b2' rfl (by omega) (by omega)
    obtain ⟨v4, K5, x1, x2, x3, x4⟩ := Y_numF (lo := 0) (n := 100) (hi := 99) hB c3 c2 rfl (by omega) (by omega)
    obtain ⟨K4, d1, d2, d3⟩ := Y_endF hB x3 x2
    have f4 := RS_f d2
    have r23 : J2 144 23 = nI (D 0 2) := by rw [g6 _ _ (by omega)]; exact e23
    have r22 : K1 144 22 = nI (D 0 1) := by rw [a4 _ _ (by omega), g6 _ _ (by omega)]; exact e22
    have r21 : K2 144 21 = nI (D 0 0) := by rw [b4 _ _ (by omega), a4 _ _ (by omega), g6 _ _ (by omega)]; exact e21
    rw [show nI 0 = (0 : Int32) from rfl] at a1 b1 c1 x1
    refine YG_f (I' := K4) ?_ d2 (fun i j q => by rw [d3 i j q, x4 i j q, c4 i j q, b4 i j q, a4 i j q, g6 i j q])
    simp only [f_X9_readNeed, nb144, y1, cond_true, oI_eq, pI_cu, zac_zI, Option.bind_some, e24, c8, if_pos k8, g1, g2, r23, a1, b2_some, r22, b1, r21, c1, x1, d1, if_neg f4]
  · have k8 : ¬ D 0 3 = 8 := by omega
    rw [if_neg k]
    obtain ⟨J0, hJ⟩ : ∃ J, J = cu I 144 17 (I 144 17 + 1) := ⟨_, rfl⟩
    have R0 : RS none (a + 1) J0 := by rw [hJ]; exact hC.nx
    have o0 : ∀ i j, ¬ (i = 144 ∧ 17 ≤ j ∧ j ≤ 19) → J0 i j = I i j := fun i j q => by rw [hJ, cu_o (by omega)]
    have T0 : TYt tl X J0 := hT.fr (fun i j q => o0 i j (by omega))
    have r23 : J0 144 23 = nI (D 0 2) := by rw [o0 _ _ (by omega)]; exact e23
    obtain ⟨v1, K1, a1, a2, a3, a4⟩ := Y_num (lo := 0) (n := D 0 2) (hi := nI (D 0 2) - 1) hB T0 ha R0 rfl (by omega) (by omega)
    have p1 := pNum_b (st := none) (X := X) (tl := tl) (lo := 0) (n := D 0 2) (a := a + 1) ha
    have T1 : TYt tl X K1 := T0.fr (fun i j q => a4 i j (by omega))
    have r22 : K1 144 22 = nI (D 0 1) := by rw [a4 _ _ (by omega), o0 _ _ (by omega)]; exact e22
    generalize pNum X tl none 0 (D 0 2) (a + 1) = n1 at *
    obtain ⟨v2, K2, b1, b2', b3', b4⟩ := Y_num (lo := 0) (n := D 0 1) (hi := nI (D 0 1) - 1) hB T1 p1.2 a2 rfl (by omega) (by omega)
    have p2 := pNum_b (st := n1.1) (X := X) (lo := 0) (n := D 0 1) p1.2
    have q2 := fun hh => pNum_ok (st := n1.1) (X := X) (tl := tl) (lo := 0) (n := D 0 1) (a := n1.2.2.1) hh
    have T2 : TYt tl X K2 := T1.fr (fun i j q => b4 i j (by omega))
    have r21 : K2 144 21 = nI (D 0 0) := by rw [b4 _ _ (by omega), a4 _ _ (by omega), o0 _ _ (by omega)]; exact e21
    unfold bN
    generalize pNum X tl n1.1 0 (D 0 1) n1.2.2.1 = n2 at *
    unfold bN2
    obtain ⟨v3, K3, c1, c2, c3, c4⟩ := Y_num (lo := 0) (n := D 0 0) (hi := nI (D 0 0) - 1) hB T2 p2.2 b2' rfl (by omega) (by omega)
    have p3 := pNum_b (st := n2.1) (X := X) (lo := 0) (n := D 0 0) p2.2
    have q3 := fun hh => pNum_ok (st := n2.1) (X := X) (tl := tl) (lo := 0) (n := D 0 0) (a := n2.2.2.1) hh
    have T3 : TYt tl X K3 := T2.fr (fun i j q => c4 i j (by omega))
    generalize pNum X tl n2.1 0 (D 0 0) n2.2.2.1 = n3 at *
    unfold bN3
    obtain ⟨v4, K5, x1, x2, x3, x4⟩ := Y_num (lo := 0) (n := 100) (hi := 99) hB T3 p3.2 c2 rfl (by omega) (by omega)
    have p4 := pNum_b (st := n3.1) (X := X) (lo := 0) (n := 100) p3.2
    have q4 := fun hh => pNum_ok (st := n3.1) (X := X) (tl := tl) (lo := 0) (n := 100) (a := n3.2.2.1) hh
    have T5 : TYt tl X K5 := T3.fr (fun i j q => x4 i j (by omega))
    generalize pNum X tl n3.1 0 100 n3.2.2.1 = n4 at *
    obtain ⟨K4, d1, d2, d3⟩ := Y_end hB T5 p4.2 x2
    have o4 : ∀ i j, ¬ (i = 144 ∧ 17 ≤ j ∧ j ≤ 19) → K4 i j = I i j := fun i j q => by rw [d3 i j q, x4 i j q, c4 i j q, b4 i j q, a4 i j q, o0 i j q]
    have f4 := Y_f0 d2
    rw [show nI 0 = (0 : Int32) from rfl] at a1 b1 c1 x1
    unfold bN4 clE
    simp only []
    by_cases ke : (pE X tl n4.1 n4.2.2.1).1 = none
    · have m4 := pE_ok ke
      have m3 := (q4 m4).1
      have m2 := (q3 m3).1
      have m1 := (q2 m2).1
      have u1 := a3 m1
      have u2' := b3' m2
      have u3 := c3 m3
      have u4 := x3 m4
      have e4 : K4 144 24 = nI (D 0 3) := by rw [o4 144 24 (by omega)]; exact e24
      obtain ⟨K6, h6⟩ : ∃ K, K = cu K4 161 (4 * D 0 3) (nI n1.2.1) := ⟨_, rfl⟩
      obtain ⟨K7, h7⟩ : ∃ K, K = cu K6 161 (4 * D 0 3 + 1) (nI n2.2.1) := ⟨_, rfl⟩
      obtain ⟨K8, h8⟩ : ∃ K, K = cu K7 161 (4 * D 0 3 + 2) (nI n3.2.1) := ⟨_, rfl⟩
      obtain ⟨K9, h9⟩ : ∃ K, K = cu K8 161 (4 * D 0 3 + 3) (nI n4.2.1) := ⟨_, rfl⟩
      have i4 : (4 : Int32) * nI (D 0 3) = nI (4 * D 0 3) := by rw [nl4, pk_mul]
      have i41 : nI (4 * D 0 3) + 1 = nI (4 * D 0 3 + 1) := nI_1 _
      have i42 : nI (4 * D 0 3) + 2 = nI (4 * D 0 3 + 2) := by rw [nl2, nI_add]
      have i43 : nI (4 * D 0 3) + 3 = nI (4 * D 0 3 + 3) := by rw [nl3, nI_add]
      have s6 : sI (zI B K4) 161 (nI (4 * D 0 3)) (nI n1.2.1) = some (zI B K6) := by rw [sI_cu (by omega) (by rw [z161]; omega), h6]
      have s7 : sI (zI B K6) 161 (nI (4 * D 0 3 + 1)) (nI n2.2.1) = some (zI B K7) := by rw [sI_cu (by omega) (by rw [z161]; omega), h7]
      have s8 : sI (zI B K7) 161 (nI (4 * D 0 3 + 2)) (nI n3.2.1) = some (zI B K8) := by rw [sI_cu (by omega) (by rw [z161]; omega), h8]
      have s9 : sI (zI B K8) 161 (nI (4 * D 0 3 + 3)) (nI n4.2.1) = some (zI B K9) := by rw [sI_cu (by omega) (by rw [z161]; omega), h9]
      have e6 : K6 144 24 = nI (D 0 3) := by rw [h6, cu_o (by omega)]; exact e4
      have e7 : K7 144 24 = nI (D 0 3) := by rw [h7, cu_o (by omega)]; exact e6
      have e8 : K8 144 24 = nI (D 0 3) := by rw [h8, cu_o (by omega)]; exact e7
      have e9 : K9 144 24 = nI (D 0 3) := by rw [h9, cu_o (by omega)]; exact e8
      have hD := YD_need (p := n1.2.1) (w := n2.2.1) (d := n3.2.1) (v := n4.2.1) (h.fr (I' := K4) (fun i j q => o4 i j (by omega)))
      rw [← h6, ← h7, ← h8, ← h9] at hD
      have o7 : ∀ i j, ¬ i = 161 → K9 i j = K4 i j := fun i j q => by rw [h9, cu_o (by omega), h8, cu_o (by omega), h7, cu_o (by omega), h6, cu_o (by omega)]
      refine ⟨cu K9 144 24 (nI (D 0 3 + 1)), ?_, d2.fr (fun j x y => by rw [cu_o (by omega), o7 _ _ (by omega)]), fun _ => hD, fun i j q => by rw [cu_o (by omega), o7 _ _ (by omega), o4 i j (by omega)], fun j => Or.inl (by rw [cu_o (by omega), o7 _ _ (by omega), o4 160 j (by omega)])⟩
      simp only [f_X9_readNeed, nb144, y1, cond_true, oI_eq, oR_eq, pI_cu, zac_zI, Option.bind_some, e24, c8, if_neg k8, ← hJ, r23, a1, b2_some, r22, b1, r21, c1, x1, d1, f4, if_pos ke, m32, e4, u1, u2', u3, u4, i4, s6, e6, i41, s7, e7, i42, s8, e8, i43, s9, e9, nI_1]
    · refine ⟨K4, ?_, d2, fun q => absurd q ke, fun i j q => o4 i j (by omega), fun j => Or.inl (o4 160 j (by omega))⟩
      simp only [f_X9_readNeed, nb144, y1, cond_true, oI_eq, oR_eq, pI_cu, zac_zI, Option.bind_some, e24, c8, if_neg k8, ← hJ, r23, a1, b2_some, r22, b1, r21, c1, x1, d1, f4, if_neg ke]
end YCM
