/-! ways and pointing, the clause and the text, read by the reference -/
section YCW
variable {B : zM} {tw s u tl a lo n : Nat} {X : Nat → Nat} {D : Nat → Nat → Nat} {I : Nat → Nat → Int32} {st : PSt} {hi : Int32}
theorem YG_s {f : zM → Option zM} {I' : Nat → Nat → Int32} {q : Nat × Nat} {R : PSt × Nat × (Nat → Nat → Nat)} (h : f (zI B I) = some (zI B I')) (hC : RS (some q) 0 I') (hR : R.1 = some q) (hf : ∀ i j, ¬ (i = 144 ∧ 17 ≤ j ∧ j ≤ 33 ∧ j ≠ 20) → I' i j = I i j) : YG f B I R := ⟨I', h, by rw [hR]; exact hC, fun e => by rw [hR] at e; exact absurd e (by simp), fun i j q => hf i j (by omega), fun j => Or.inl (hf 160 j (by omega))⟩
theorem Y_wt (hB : GB B tw s u) (hT : TYt tl X I) (ha : a ≤ tl) (hC : RS st a I) (h : I 144 22 = nI (D 0 1)) (h8 : D 0 1 ≤ 8) : ∃ y I', f_X9_wordTold 144 (zI B I) = some (y, zI B I') ∧ RS (pNum X tl st 0 (D 0 1) a).1 (pNum X tl st 0 (D 0 1) a).2.2.1 I' ∧ ((pNum X tl st 0 (D 0 1) a).1 = none → y = nI (pNum X tl st 0 (D 0 1) a).2.1) ∧ (st = none → I' 144 33 = nI (sk X tl a)) ∧ ∀ i j, ¬ (i = 144 ∧ 17 ≤ j ∧ (j ≤ 19 ∨ j = 33)) → I' i j = I i j := by
  obtain ⟨y1, -⟩ := hB.hy'
  obtain ⟨J1, a1, a2, a3⟩ := Y_ln hB hT ha hC
  obtain ⟨J2, hJ⟩ : ∃ J, J = cu J1 144 33 (J1 144 17) := ⟨_, rfl⟩
  have o2 : ∀ i j, ¬ (i = 144 ∧ (j = 17 ∨ j = 33)) → J2 i j = I i j := fun i j q => by rw [hJ, cu_o (by omega), a3 i j (by omega)]
  have e22 : J2 144 22 = nI (D 0 1) := by rw [o2 _ _ (by omega)]; exact h
  have T2 : TYt tl X J2 := hT.fr (fun i j q => o2 i j (by omega))
  have R2 : RS st (skS X tl st a) J2 := a2.fr (fun j x y => by rw [hJ, cu_o (by omega)])
  have hs := sk_b (X := X) ha
  cases st with
  | none =>
    have R2 : RS none (sk X tl a) J2 := R2
    obtain ⟨y, I', b1, b2', b3', b4⟩ := Y_num (lo := 0) (n := D 0 1) (hi := nI (D 0 1) - 1) hB T2 hs.2 R2 rfl (by omega) (by omega)
    rw [pNum_sk ha] at b2' b3'
    have j33 : J2 144 33 = nI (sk X tl a) := by
      have a2 : RS none (sk X tl a) J1 := a2
      rw [hJ, cu_s, a2.2.2]
    rw [show nI 0 = (0 : Int32) from rfl] at b1
    refine ⟨y, I', ?_, b2', b3', fun _ => by rw [b4 _ _ (by omega)]; exact j33, fun i j q => by rw [b4 i j (by omega), o2 i j (by omega)]⟩
    simp only [f_X9_wordTold, nb144, y1, cond_true, oI_eq, pI_cu, zac_zI, Option.bind_some, a1, b2_some, ← hJ, e22, b1]
  | some q =>
    obtain ⟨y, I', b1, b2', b3', b4⟩ := Y_num (lo := 0) (n := D 0 1) (hi := nI (D 0 1) - 1) hB T2 (Nat.zero_le tl) (RS.pos (b := 0) R2) rfl (by omega) (by omega)
    rw [show nI 0 = (0 : Int32) from rfl] at b1
    refine ⟨y, I', ?_, b2', fun e => absurd e (by simp [pNum]), fun e => absurd e (by simp), fun i j q => by rw [b4 i j (by omega), o2 i j (by omega)]⟩
    simp only [f_X9_wordTold, nb144, y1, cond_true, oI_eq, pI_cu, zac_zI, Option.bind_some, a1, b2_some, ← hJ, e22, b1]
theorem Y_rO (hB : GB B tw s u) (hT : TYt tl X I) (ha : a < tl) (hC : RS none a I) (h : YD D I) (hS : SD D) : YG (f_X9_readPointing 144) B I (clE X tl (bO D (pNum X tl none 0 (D 0 1) (a + 1)))) := by
  obtain ⟨y1, -⟩ := hB.hy'
  obtain ⟨-, -, -, -, m30, -, -, -, -, -, -, -, z159, -⟩ := hB.hz
  have i1 := hS.1.2.1
  have i4 := hS.1.2.2.2.2.2.1
  obtain ⟨J0, hJ⟩ : ∃ J, J = cu I 144 17 (I 144 17 + 1) := ⟨_, rfl⟩
  have R0 : RS none (a + 1) J0 := by rw [hJ]; exact hC.nx
  have o0 : ∀ i j, ¬ (i = 144 ∧ 17 ≤ j ∧ j ≤ 19) → J0 i j = I i j := fun i j q => by rw [hJ, cu_o (by omega)]
  have T0 : TYt tl X J0 := hT.fr (fun i j q => o0 i j (by omega))
  obtain ⟨v1, K1, a1, a2, a3, a5, a4⟩ := Y_wt (D := D) hB T0 ha R0 (by rw [o0 _ _ (by omega)]; exact h.1.2.1) i1
  have a5 := a5 rfl
  have p1 := pNum_b (st := none) (X := X) (tl := tl) (lo := 0) (n := D 0 1) (a := a + 1) ha
  have q1 := fun hh => pNum_ok (st := none) (X := X) (tl := tl) (lo := 0) (n := D 0 1) (a := a + 1) hh
  have q3 := pNum_p (X := X) (tl := tl) (lo := 0) (n := D 0 1) (a := a + 1)
  have T1 : TYt tl X K1 := T0.fr (fun i j q => a4 i j (by omega))
  rw [← q3] at a5
  clear q3
  generalize pNum X tl none 0 (D 0 1) (a + 1) = n1 at *
  have o1 : ∀ i j, ¬ (i = 144 ∧ 17 ≤ j ∧ (j ≤ 19 ∨ j = 33)) → K1 i j = I i j := fun i j q => by rw [a4 i j q, o0 i j (by omega)]
  have f1 := Y_f0 a2
  by_cases k1 : n1.1 = none
  · have w8 := (q1 k1).2.2
    have u1 := a3 k1
    have b4 := i4 n1.2.1
    have v4 := aZ_at (B := B) (I := K1) (i := 159) (k := n1.2.1) (v := nI (D 4 n1.2.1)) (by omega) (by rw [z159]; omega) (by rw [o1 _ _ (by omega)]; exact h.2.2.2.1 _ (by omega))
    have z4 := nI_z (v := D 4 n1.2.1) (by omega)
    by_cases k4 : D 4 n1.2.1 = 0
    · obtain ⟨K4, d1, d2, d3⟩ := Y_end hB T1 p1.2 a2
      have f4 := Y_f0 d2
      have hR : (clE X tl (bO D n1)).1 = (pE X tl n1.1 n1.2.2.1).1 := by
        unfold bO clE
        simp only [if_pos k4]
      have hR2 : (clE X tl (bO D n1)).2.1 = (pE X tl n1.1 n1.2.2.1).2 := by
        unfold bO clE
        simp only [if_pos k4]
      by_cases ke : (pE X tl n1.1 n1.2.2.1).1 = none
      · have s5 : sZ (zI B K4) 159 (nI n1.2.1) 1 = some (zI B (cu K4 159 n1.2.1 1)) := sZ_cu (by omega) (Or.inr rfl) (by rw [z159]; omega)
        refine ⟨cu K4 159 n1.2.1 1, ?_, by rw [hR, hR2]; exact d2.fr (fun j x y => cu_o (by omega)), fun _ => YD_pt (h.fr (I' := K4) (fun i j q => by rw [d3 i j (by omega), o1 i j (by omega)])), fun i j q => by rw [cu_o (by omega), d3 i j (by omega), o1 i j (by omega)], fun j => Or.inl (by rw [cu_o (by omega), d3 160 j (by omega), o1 160 j (by omega)])⟩
        simp only [f_X9_readPointing, nb144, y1, cond_true, oI_eq, oR_eq, pI_cu, zac_zI, Option.bind_some, ← hJ, a1, b2_some, f1, if_pos k1, m30, u1, v4, z4, if_pos k4, d1, f4, if_pos ke, s5]
      · refine ⟨K4, ?_, by rw [hR, hR2]; exact d2, fun q => absurd (hR ▸ q) ke, fun i j q => by rw [d3 i j (by omega), o1 i j (by omega)], fun j => Or.inl (by rw [d3 160 j (by omega), o1 160 j (by omega)])⟩
        simp only [f_X9_readPointing, nb144, y1, cond_true, oI_eq, oR_eq, pI_cu, zac_zI, Option.bind_some, ← hJ, a1, b2_some, f1, if_pos k1, m30, u1, v4, z4, if_pos k4, d1, f4, if_neg ke]
    · rw [k1] at a2
      obtain ⟨K2, g1, g2, g3⟩ := Y_bad (f := 4) (p := n1.2.2.2) (y := K1 144 33) hB (by omega) (by omega) a2 (fun _ => a5)
      have g2 : RS (some (4, n1.2.2.2)) 0 K2 := g2
      obtain ⟨K4, d1, d2, d3⟩ := Y_endF hB (T1.fr (I' := K2) (fun i j q => g3 i j (by omega))) g2
      have f4 := RS_f d2
      rw [show nI 4 = (4 : Int32) from rfl] at g1
      refine YG_s (I' := K4) ?_ d2 ?_ (fun i j q => by rw [d3 i j (by omega), g3 i j (by omega), o1 i j (by omega)])
      · simp only [f_X9_readPointing, nb144, y1, cond_true, oI_eq, oR_eq, pI_cu, zac_zI, Option.bind_some, ← hJ, a1, b2_some, f1, if_pos k1, m30, u1, v4, z4, if_neg k4, g1, d1, if_neg f4]
      · unfold bO clE
        simp only [if_neg k4, k1]
        exact pE_s
  · obtain ⟨q, hq⟩ : ∃ q, n1.1 = some q := by
      cases hh : n1.1 with
      | none => exact absurd hh k1
      | some q => exact ⟨q, rfl⟩
    rw [hq] at a2
    obtain ⟨K4, d1, d2, d3⟩ := Y_endF hB T1 (RS.pos (b := 0) a2)
    have f4 := RS_f d2
    refine YG_s (I' := K4) ?_ d2 ?_ (fun i j q => by rw [d3 i j (by omega), o1 i j (by omega)])
    · simp only [f_X9_readPointing, nb144, y1, cond_true, oI_eq, oR_eq, pI_cu, zac_zI, Option.bind_some, ← hJ, a1, b2_some, f1, if_neg k1, d1, if_neg f4]
    · unfold bO clE
      simp only []
      split
      · rw [hq]; exact pE_s
      · rw [hq]; exact pE_s
/-- a faulty text's way: the rest -/
theorem Y_tailF (hB : GB B tw s u) (hT : TYt tl X I) {q : Nat × Nat} (hC : RS (some q) 0 I) : ∃ r J1 y J2 J3, f_X9_letterNow 144 (zI B I) = some (r, zI B J1) ∧ f_X9_number 144 1 255 (zI B J1) = some (y, zI B J2) ∧ f_X9_end 144 (zI B J2) = some (zI B J3) ∧ ¬ J2 144 18 = 0 ∧ RS (some q) 0 J3 ∧ ∀ i j, ¬ (i = 144 ∧ 17 ≤ j ∧ j ≤ 19) → J3 i j = I i j := by
  obtain ⟨J1, a1, a2, a3⟩ := Y_ln hB hT (Nat.zero_le tl) hC
  have T1 : TYt tl X J1 := hT.fr (fun i j q => a3 i j (by omega))
  obtain ⟨y, J2, b1, b2', b3', b4⟩ := Y_numF (lo := 1) (n := 256) (hi := 255) hB T1 (RS.pos (b := 0) a2) rfl (by omega) (by omega)
  obtain ⟨J3, d1, d2, d3⟩ := Y_endF hB b3' b2'
  exact ⟨_, J1, y, J2, J3, a1, b1, d1, RS_f b2', d2, fun i j q => by rw [d3 i j q, b4 i j q, a3 i j (by omega)]⟩
theorem bA2_s {q : Nat × Nat} {n1 n2 : PSt × Nat × Nat × Nat} (h : sA2 D n1.2.1 n2 = some q) : (clE X tl (bA2 D n1 n2)).1 = some q := by
  unfold clE bA2
  simp only [h]
  exact pE_s
theorem sA2_s {q : Nat × Nat} {w : Nat} {n2 : PSt × Nat × Nat × Nat} (h : n2.1 = some q) : sA2 D w n2 = some q := by
  unfold sA2
  split
  · exact h
  · rw [h]; rfl
theorem bA_s {q : Nat × Nat} {n1 : PSt × Nat × Nat × Nat} (h : sA D n1 = some q) : (clE X tl (bA X tl D n1)).1 = some q := by
  unfold bA
  rw [h]
  exact bA2_s (sA2_s rfl)
theorem Y_rA (hB : GB B tw s u) (hT : TYt tl X I) (ha : a < tl) (hC : RS none a I) (h : YD D I) (hS : SD D) : YG (f_X9_readWay 144) B I (if 10 ≤ D 0 4 then (some (3, a), a, D) else clE X tl (bA X tl D (pNum X tl none 0 (D 0 1) (a + 1)))) := by
  obtain ⟨y1, -⟩ := hB.hy'
  obtain ⟨-, -, -, m29, -, -, -, -, -, -, z158, l158, -⟩ := hB.hz
  have i1 := hS.1.2.1
  have i4 := hS.2.1
  have i3 := hS.1.2.2.2.2.2.2.2.1
  have e25 : I 144 25 = nI (D 0 4) := h.1.2.2.2.2
  have e22 : I 144 22 = nI (D 0 1) := h.1.2.1
  have c10 : nI (D 0 4) = 10 ↔ D 0 4 = 10 := nI_eq (b := 10) (by omega) (by omega)
  by_cases k : 10 ≤ D 0 4
  · have k8 : D 0 4 = 10 := by omega
    rw [if_pos k]
    obtain ⟨J1, J2, g1, g2, g3, g4, g5, g6⟩ := Y_full hB hT hC
    obtain ⟨v1, K1, a1, a2, -, -, a4⟩ := Y_wt (D := D) hB g4 (Nat.zero_le tl) g3 (by rw [g6 _ _ (by omega)]; exact e22) i1
    have a2 : RS (some (3, a)) 0 K1 := a2
    obtain ⟨r, L1, y, L2, L3, b1, b2', b3', b4, b5, b6⟩ := Y_tailF hB (g4.fr (I' := K1) (fun i j q => a4 i j (by omega))) a2
    have f1 := RS_f a2
    have f5 := RS_f b5
    refine YG_s (I' := L3) ?_ b5 rfl (fun i j q => by rw [b6 i j (by omega), a4 i j (by omega), g6 i j (by omega)])
    simp only [f_X9_readWay, nb144, y1, cond_true, oI_eq, oR_eq, pI_cu, zac_zI, Option.bind_some, e25, c10, if_pos k8, g1, g2, a1, b2_some, if_neg f1, b1, b2', if_neg b4, b3', if_neg f5]
  · have k8 : ¬ D 0 4 = 10 := by omega
    rw [if_neg k]
    obtain ⟨J0, hJ⟩ : ∃ J, J = cu I 144 17 (I 144 17 + 1) := ⟨_, rfl⟩
    have R0 : RS none (a + 1) J0 := by rw [hJ]; exact hC.nx
    have o0 : ∀ i j, ¬ (i = 144 ∧ 17 ≤ j ∧ j ≤ 19) → J0 i j = I i j := fun i j q => by rw [hJ, cu_o (by omega)]
    have T0 : TYt tl X J0 := hT.fr (fun i j q => o0 i j (by omega))
    obtain ⟨v1, K1, a1, a2, a3, a5, a4⟩ := Y_wt (D := D) hB T0 ha R0 (by rw [o0 _ _ (by omega)]; exact h.1.2.1) i1
    have a5 := a5 rfl
    have p1 := pNum_b (st := none) (X := X) (tl := tl) (lo := 0) (n := D 0 1) (a := a + 1) ha
    have q1 := fun hh => pNum_ok (st := none) (X := X) (tl := tl) (lo := 0) (n := D 0 1) (a := a + 1) hh
    have q3 := pNum_p (X := X) (tl := tl) (lo := 0) (n := D 0 1) (a := a + 1)
    have T1 : TYt tl X K1 := T0.fr (fun i j q => a4 i j (by omega))
    rw [← q3] at a5
    clear q3
    generalize pNum X tl none 0 (D 0 1) (a + 1) = n1 at *
    have o1 : ∀ i j, ¬ (i = 144 ∧ 17 ≤ j ∧ (j ≤ 19 ∨ j = 33)) → K1 i j = I i j := fun i j q => by rw [a4 i j q, o0 i j (by omega)]
    have f1 := Y_f0 a2
    by_cases k1 : n1.1 = none
    · have w8 := (q1 k1).2.2
      have u1 := a3 k1
      have b4 := i3 (2 * n1.2.1 + 1) (by omega)
      have b0 := i3 (2 * n1.2.1) (by omega)
      have j2 : (2 : Int32) * nI n1.2.1 = nI (2 * n1.2.1) := by rw [nl2, pk_mul]
      have j21 : nI (2 * n1.2.1) + 1 = nI (2 * n1.2.1 + 1) := nI_1 _
      have v4 := aI_at (B := B) (I := K1) (i := 158) (k := 2 * n1.2.1 + 1) (v := nI (D 3 (2 * n1.2.1 + 1))) (by omega) (by rw [l158]; omega) (by rw [o1 _ _ (by omega)]; exact h.2.2.1 _ (by omega))
      have z4 := nI_z (v := D 3 (2 * n1.2.1 + 1)) (by omega)
      by_cases k4 : D 3 (2 * n1.2.1 + 1) = 0
      · have hsA : sA D n1 = none := by unfold sA; rw [if_pos k4, k1]
        rw [k1] at a2
        obtain ⟨J3, c1, c2, c3⟩ := Y_ln hB T1 p1.2 a2
        have c2 : RS none (sk X tl n1.2.2.1) J3 := c2
        have hs := sk_b (X := X) p1.2
        have T3 : TYt tl X J3 := T1.fr (fun i j q => c3 i j (by omega))
        have e17 : J3 144 17 = nI (sk X tl n1.2.2.1) := c2.2.2
        obtain ⟨v2, K3, x1, x2, x3, x4⟩ := Y_num (lo := 1) (n := 256) (hi := 255) hB T3 hs.2 c2 rfl (by omega) (by omega)
        rw [pNum_sk p1.2] at x2 x3
        have p2 := pNum_b (st := none) (X := X) (tl := tl) (lo := 1) (n := 256) p1.2
        have q2 := fun hh => pNum_ok (st := none) (X := X) (tl := tl) (lo := 1) (n := 256) (a := n1.2.2.1) hh
        have q4 := pNum_p (X := X) (tl := tl) (lo := 1) (n := 256) (a := n1.2.2.1)
        have T4 : TYt tl X K3 := T3.fr (fun i j q => x4 i j (by omega))
        rw [show nI 1 = (1 : Int32) from rfl] at x1
        rw [← q4] at e17
        clear q4
        unfold bA
        rw [hsA]
        generalize pNum X tl none 1 256 n1.2.2.1 = n2 at *
        have o3 : ∀ i j, ¬ (i = 144 ∧ 17 ≤ j ∧ (j ≤ 19 ∨ j = 33)) → K3 i j = I i j := fun i j q => by rw [x4 i j (by omega), c3 i j (by omega), o1 i j q]
        have f3 := Y_f0 x2
        by_cases k3 : n2.1 = none
        · have u3 := x3 k3
          have hS8 := (q2 k3).2
          have sh : nI n2.2.1 >>> (nI (D 0 1) &&& 31) = nI (n2.2.1 / 2 ^ D 0 1) := pk_shrN (by omega) _ (D 0 1) (shW (D 0 1) i1)
          have zs := nI_z (v := n2.2.1 / 2 ^ D 0 1) (Nat.lt_of_le_of_lt (Nat.div_le_self _ _) (by omega))
          have hh := fun M => Y_has (S := n2.2.1) (w := n1.2.1) (M := M) (by omega) (by omega)
          have r22 : K3 144 22 = nI (D 0 1) := by rw [o3 _ _ (by omega)]; exact e22
          rw [k3] at x2
          obtain ⟨K2, g1, g2, g3⟩ := Y_bad (f := 2) (p := n2.2.2.2) (y := J3 144 17) hB (by omega) (by omega) x2 (fun _ => e17)
          have g2 : RS (some (2, n2.2.2.2)) 0 K2 := g2
          obtain ⟨K4, d1, d2, d3⟩ := Y_endF hB (T4.fr (I' := K2) (fun i j q => g3 i j (by omega))) g2
          have f4 := RS_f d2
          rw [show nI 2 = (2 : Int32) from rfl] at g1
          by_cases k5 : n2.2.1 / 2 ^ D 0 1 = 0
          · rcases Bool.eq_false_or_eq_true (hasB n2.2.1 n1.2.1) with hb | hb
            · refine YG_s (I' := K4) ?_ d2 (bA2_s (by unfold sA2; rw [if_neg (fun q => by rw [hb] at q; exact absurd q.2 (by decide)), k3]; rfl)) (fun i j q => by rw [d3 i j (by omega), g3 i j (by omega), o3 i j (by omega)])
              simp only [f_X9_readWay, nb144, y1, cond_true, oI_eq, oR_eq, pI_cu, zac_zI, Option.bind_some, e25, c10, if_neg k8, ← hJ, a1, b2_some, f1, if_pos k1, m29, u1, j2, j21, v4, z4, if_pos k4, c1, x1, f3, if_pos k3, r22, u3, sh, zs, if_pos k5, hh, hb, if_pos, if_neg ne10, g1, d1, if_neg f4]
            · obtain ⟨K5, d1, d2, d3⟩ := Y_end hB T4 p2.2 x2
              have f5 := Y_f0 d2
              have o5 : ∀ i j, ¬ (i = 144 ∧ 17 ≤ j ∧ (j ≤ 19 ∨ j = 33)) → K5 i j = I i j := fun i j q => by rw [d3 i j (by omega), o3 i j q]
              have s2 : sA2 D n1.2.1 n2 = none := by unfold sA2; rw [if_pos ⟨k5, hb⟩, k3]
              have hR : (clE X tl (bA2 D n1 n2)).1 = (pE X tl none n2.2.2.1).1 := by unfold bA2 clE; simp only [s2]
              have hR2 : (clE X tl (bA2 D n1 n2)).2.1 = (pE X tl none n2.2.2.1).2 := by unfold bA2 clE; simp only [s2]
              have hR3 : (clE X tl (bA2 D n1 n2)).2.2 = aWay D n1.2.1 n2.2.1 := rfl
              by_cases ke : (pE X tl none n2.2.2.1).1 = none
              · have v0 := aI_at (B := B) (I := K5) (i := 158) (k := 2 * n1.2.1) (v := nI (D 3 (2 * n1.2.1))) (by omega) (by rw [l158]; omega) (by rw [o5 _ _ (by omega)]; exact h.2.2.1 _ (by omega))
                have z0 := nI_z (v := D 3 (2 * n1.2.1)) (by omega)
                have h5 : YD D K5 := h.fr (fun i j q => o5 i j (by omega))
                have r25 : K5 144 25 = nI (D 0 4) := h5.1.2.2.2.2
                by_cases k0 : D 3 (2 * n1.2.1) = 0
                · have sw : sI (zI B K5) 158 (nI (2 * n1.2.1)) (nI n2.2.1) = some (zI B (cu K5 158 (2 * n1.2.1) (nI n2.2.1))) := sI_cu (by omega) (by rw [z158]; omega)
                  have ew : cu K5 158 (2 * n1.2.1) (nI n2.2.1) 144 25 = nI (D 0 4) := by rw [cu_o (by omega)]; exact r25
                  refine ⟨cu (cu K5 158 (2 * n1.2.1) (nI n2.2.1)) 144 25 (nI (D 0 4 + 1)), ?_, by rw [hR, hR2]; exact d2.fr (fun j x y => by rw [cu_o (by omega), cu_o (by omega)]), fun _ => ?_, fun i j q => by rw [cu_o (by omega), cu_o (by omega), o5 i j (by omega)], fun j => Or.inl (by rw [cu_o (by omega), cu_o (by omega), o5 160 j (by omega)])⟩
                  · simp only [f_X9_readWay, nb144, y1, cond_true, oI_eq, oR_eq, pI_cu, zac_zI, Option.bind_some, e25, c10, if_neg k8, ← hJ, a1, b2_some, f1, if_pos k1, m29, u1, j2, j21, v4, z4, if_pos k4, c1, x1, f3, if_pos k3, r22, u3, sh, zs, if_pos k5, hh, hb, if_neg Bool.false_ne_true, if_pos, d1, f5, if_pos ke, v0, z0, if_pos k0, sw, ew, nI_1]
                  · rw [hR3]
                    unfold aWay
                    rw [if_pos k0]
                    exact YD_way h5 (by omega)
                · have sw : sI (zI B K5) 158 (nI (2 * n1.2.1 + 1)) (nI n2.2.1) = some (zI B (cu K5 158 (2 * n1.2.1 + 1) (nI n2.2.1))) := sI_cu (by omega) (by rw [z158]; omega)
                  have ew : cu K5 158 (2 * n1.2.1 + 1) (nI n2.2.1) 144 25 = nI (D 0 4) := by rw [cu_o (by omega)]; exact r25
                  refine ⟨cu (cu K5 158 (2 * n1.2.1 + 1) (nI n2.2.1)) 144 25 (nI (D 0 4 + 1)), ?_, by rw [hR, hR2]; exact d2.fr (fun j x y => by rw [cu_o (by omega), cu_o (by omega)]), fun _ => ?_, fun i j q => by rw [cu_o (by omega), cu_o (by omega), o5 i j (by omega)], fun j => Or.inl (by rw [cu_o (by omega), cu_o (by omega), o5 160 j (by omega)])⟩
                  · simp only [f_X9_readWay, nb144, y1, cond_true, oI_eq, oR_eq, pI_cu, zac_zI, Option.bind_some, e25, c10, if_neg k8, ← hJ, a1, b2_some, f1, if_pos k1, m29, u1, j2, j21, v4, z4, if_pos k4, c1, x1, f3, if_pos k3, r22, u3, sh, zs, if_pos k5, hh, hb, if_neg Bool.false_ne_true, if_pos, d1, f5, if_pos ke, v0, z0, if_neg k0, sw, ew, nI_1]
                  · rw [hR3]
                    unfold aWay
                    rw [if_neg k0, if_pos k4]
                    exact YD_way h5 (by omega)
              · refine ⟨K5, ?_, by rw [hR, hR2]; exact d2, fun q => absurd (hR ▸ q) ke, fun i j q => o5 i j (by omega), fun j => Or.inl (o5 160 j (by omega))⟩
                simp only [f_X9_readWay, nb144, y1, cond_true, oI_eq, oR_eq, pI_cu, zac_zI, Option.bind_some, e25, c10, if_neg k8, ← hJ, a1, b2_some, f1, if_pos k1, m29, u1, j2, j21, v4, z4, if_pos k4, c1, x1, f3, if_pos k3, r22, u3, sh, zs, if_pos k5, hh, hb, if_neg Bool.false_ne_true, if_pos, d1, f5, if_neg ke]
          · refine YG_s (I' := K4) ?_ d2 (bA2_s (by unfold sA2; rw [if_neg (fun q => k5 q.1), k3]; rfl)) (fun i j q => by rw [d3 i j (by omega), g3 i j (by omega), o3 i j (by omega)])
            simp only [f_X9_readWay, nb144, y1, cond_true, oI_eq, oR_eq, pI_cu, zac_zI, Option.bind_some, e25, c10, if_neg k8, ← hJ, a1, b2_some, f1, if_pos k1, m29, u1, j2, j21, v4, z4, if_pos k4, c1, x1, f3, if_pos k3, r22, u3, sh, zs, if_neg k5, g1, d1, if_neg f4]
        · obtain ⟨q, hq⟩ : ∃ q, n2.1 = some q := by
            cases hh : n2.1 with
            | none => exact absurd hh k3
            | some q => exact ⟨q, rfl⟩
          rw [hq] at x2
          obtain ⟨K4, d1, d2, d3⟩ := Y_endF hB T4 (RS.pos (b := 0) x2)
          have f4 := RS_f d2
          refine YG_s (I' := K4) ?_ d2 (bA2_s (by unfold sA2; rw [hq]; split <;> rfl)) (fun i j q => by rw [d3 i j (by omega), o3 i j (by omega)])
          simp only [f_X9_readWay, nb144, y1, cond_true, oI_eq, oR_eq, pI_cu, zac_zI, Option.bind_some, e25, c10, if_neg k8, ← hJ, a1, b2_some, f1, if_pos k1, m29, u1, j2, j21, v4, z4, if_pos k4, c1, x1, f3, if_neg k3, d1, if_neg f4]
      · rw [k1] at a2
        obtain ⟨K2, g1, g2, g3⟩ := Y_bad (f := 4) (p := n1.2.2.2) (y := K1 144 33) hB (by omega) (by omega) a2 (fun _ => a5)
        have g2 : RS (some (4, n1.2.2.2)) 0 K2 := g2
        obtain ⟨r, L1, y, L2, L3, b1, b2', b3', b4, b5, b6⟩ := Y_tailF hB (T1.fr (I' := K2) (fun i j q => g3 i j (by omega))) g2
        have f5 := RS_f b5
        rw [show nI 4 = (4 : Int32) from rfl] at g1
        refine YG_s (I' := L3) ?_ b5 (bA_s (by unfold sA; rw [if_neg k4, k1]; rfl)) (fun i j q => by rw [b6 i j (by omega), g3 i j (by omega), o1 i j (by omega)])
        simp only [f_X9_readWay, nb144, y1, cond_true, oI_eq, oR_eq, pI_cu, zac_zI, Option.bind_some, e25, c10, if_neg k8, ← hJ, a1, b2_some, f1, if_pos k1, m29, u1, j2, j21, v4, z4, if_neg k4, g1, b1, b2', if_neg b4, b3', if_neg f5]
    · obtain ⟨q, hq⟩ : ∃ q, n1.1 = some q := by
        cases hh : n1.1 with
        | none => exact absurd hh k1
        | some q => exact ⟨q, rfl⟩
      rw [hq] at a2
      obtain ⟨r, L1, y, L2, L3, b1, b2', b3', b4, b5, b6⟩ := Y_tailF hB T1 (RS.pos (b := 0) a2)
      have f5 := RS_f b5
      refine YG_s (I' := L3) ?_ b5 (bA_s (by unfold sA; rw [hq]; split <;> rfl)) (fun i j q => by rw [b6 i j (by omega), o1 i j (by omega)])
      simp only [f_X9_readWay, nb144, y1, cond_true, oI_eq, oR_eq, pI_cu, zac_zI, Option.bind_some, e25, c10, if_neg k8, ← hJ, a1, b2_some, f1, if_neg k1, b1, b2', if_neg b4, b3', if_neg f5]
end YCW
