/-! undo, the call -/
section UNC
variable {B : zM} {c : Nat} {I : Nat → Nat → Int32}
theorem w_undo (h : CR B I c) : W2 B I c (f_X8_undo 1 (zI B I)) (f_X9_undo 144) := by
  have h' := h
  obtain ⟨tw, s, u, T, r, pa, pn, P, kf, K, tl, X, kn, kw, kd, kb, en, ew, el, sd, hB, hT, hN, hP, hI, hX, hK, hBk, hS⟩ := h
  have hse := hB.hs
  have htw := hB.hw
  obtain ⟨hpa, hpn, e1, e2, e3, hrow⟩ := hP
  have z1 := nI_z (v := pa) (by omega)
  by_cases hc : pa = 0
  · obtain ⟨hx, hy, ht, m1, -, hs, m3, -⟩ := hB
    refine W_no h' (v := -1000000003) ?_ ?_
    · simp only [f_X8_undo, nb1, hx, cond_true, oR_eq, oI_eq, zac_zI, Option.bind_some, e2, z1, if_pos hc]
    · simp only [f_X9_undo, nb144, hy, cond_true, oR_eq, oI_eq, zac_zI, Option.bind_some, e3, z1, if_pos hc]
  · obtain ⟨x1, x2, x3⟩ := hrow (pa - 1) (by omega)
    rw [show (pn + 16 - pa + (pa - 1)) % 16 = (pn + 15) % 16 by omega] at x1
    obtain ⟨I1, a1, a2, a3, a4, a5⟩ := X_ret hB hpn hpa (by omega) e1 e2 x1
    obtain ⟨J, hJ⟩ : ∃ J, J = cu I1 144 3 (nI (pa - 1)) := ⟨_, rfl⟩
    have j1 : J 144 3 = nI (pa - 1) := by rw [hJ, cu_s]
    obtain ⟨I2, d1, d2, d3⟩ := Y_undo_lp (q := P (pa - 1)) hB.2.1 (b := pa - 1) (by omega) 69 0 zN J (by omega) (by unfold zN; omega) j1 (fun k hk => by rw [hJ, cu_o (by omega), a5 147 _ (by omega)]; exact x2 k hk)
    rw [show nI 0 = (0 : Int32) from rfl] at d1
    have j2 : I2 144 3 = nI (pa - 1) := by rw [d3 144 3 (by omega), j1]
    have j3 : I1 144 3 = nI pa := by rw [a5 144 3 (by omega), e3]
    have hf : ∀ i j, ¬ (cN s i ∨ cP' i j ∨ cS i j) → I2 i j = I i j := fun i j q => by rw [d3 i j (by unfold cN cP' cS at q; omega), hJ, cu_o (by unfold cN cP' cS at q; omega), a5 i j (by unfold cN cP' cS at q; omega)]
    have hf1 : ∀ i j, ¬ (cN s i ∨ cP' i j ∨ cS i j) → I1 i j = I i j := fun i j q => a5 i j (by unfold cN cP' cS at q; omega)
    have o : ∀ i j, i ≠ 145 → ¬ (i = 144 ∧ j = 3) → I2 i j = I1 i j := fun i j q1 q2 => by rw [d3 i j (by omega), hJ, cu_o (by omega)]
    obtain ⟨f1, f2, f3, f4, f5, f6⟩ := F_act htw hse hf
    have hN2 : gN s (T 0 2) c (P (pa - 1)) I2 := ⟨a2.fp (fun i j q1 q2 => o i j (by omega) (by omega)), fun k hk => d2 k (by omega) hk, x3⟩
    have hP2 : gP (T 0 2) c (pa - 1) ((pn + 15) % 16) P I2 := by
      refine ⟨by omega, by omega, by rw [o 32 1 (by omega) (by omega), a3], by rw [o 32 2 (by omega) (by omega), a4], j2, fun j hj => ?_⟩
      obtain ⟨y1, y2, y3⟩ := hrow j (by omega)
      refine ⟨?_, fun k hk => by rw [o 147 _ (by omega) (by omega), a5 147 _ (by omega)]; exact y2 k hk, y3⟩
      rw [show ((pn + 15) % 16 + 16 - (pa - 1) + j) % 16 = (pn + 16 - pa + j) % 16 by omega]
      exact y1.fp (fun i k q1 q2 => by rw [o i k (by omega) (by omega), a5 i k (by omega)])
    have hS2 : gS sd I2 := ⟨hS.1, by rw [o 1 12 (by omega) (by omega), a5 1 12 (by omega)]; exact hS.2.1, by rw [o 144 4 (by omega) (by omega), a5 144 4 (by omega)]; exact hS.2.2⟩
    refine W_mk (v := nI (pa - 1)) (I1 := I1) (I2 := I2) ?_ ?_ ⟨tw, s, u, T, _, _, _, P, kf, K, tl, X, kn, kw, kd, kb, en, ew, el, sd, hB, hT.fr f1, hN2.mono (Nat.le_succ c), hP2.mono (Nat.le_succ c), (hI.fr f2).mono (Nat.le_succ c), hX.fr f3, hK.fr f4, hBk.fr f5, hS2⟩ (F_act htw hse hf1).2.2.2.2.2 f6
    · obtain ⟨hx, -, ht, m1, -, hs, m3, -⟩ := hB
      simp only [f_X8_undo, nb1, hx, m3, cond_true, oR_eq, oI_eq, zac_zI, Option.bind_some, e2, z1, if_neg hc, a1, a4]
    · have p1 : nI pa - 1 = nI (pa - 1) := by rw [nl1, nI_sb (by omega)]
      obtain ⟨-, hy, -⟩ := hB
      simp only [f_X9_undo, nb144, hy, cond_true, oR_eq, oI_eq, pI_cu, zac_zI, Option.bind_some, j3, z1, if_neg hc, p1, ← hJ, d1, j2]
end UNC
