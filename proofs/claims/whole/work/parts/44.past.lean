/-! the past behind an act -/
section PSU
variable {B : zM} {tw s u c np pa pn : Nat} {r q : Nat → Nat} {P : Nat → Nat → Nat} {I J : Nat → Nat → Int32}
theorem Y_keepAct (hB : GB B tw s u) (h : YS 145 r I) (hpa : pa ≤ 16) (e1 : I 144 3 = nI pa) : ∃ I', f_X9_keepAct 144 (zI B I) = some (zI B I') ∧ I' 144 3 = nI (if pa < 16 then pa + 1 else 16) ∧ (∀ k, k < 69 → I' 147 (69 * (if pa < 16 then pa else 15) + k) = nI (r k)) ∧ (∀ j k, j < (if pa < 16 then pa else 15) → k < 69 → I' 147 (69 * j + k) = I 147 (69 * (if pa < 16 then j else j + 1) + k)) ∧ ∀ i j, ¬ (i = 147 ∨ (i = 144 ∧ j = 3)) → I' i j = I i j := by
  obtain ⟨hx, hy, -⟩ := hB
  have x1 : zac B 144 9 58 = true := by simp only [hy]
  have sh := fun I => Y_shift_lp (B := B) hy 1035 0 zN I (by omega) (by unfold zN; omega)
  have rw' := fun {b : Nat} (hb : b ≤ 15) I e h => Y_row_lp (B := B) (r := r) hy hb 69 0 zN I (by omega) (by unfold zN; omega) e h
  clear hx hy
  by_cases k : pa < 16
  · have c1 : ¬ nI pa = 16 := fun q => absurd ((nI_eq (b := 16) (by omega) (by omega)).mp q) (by omega)
    obtain ⟨I', g1, g2, g3⟩ := rw' (b := pa) (by omega) I e1 h
    have e2 : I' 144 3 = nI pa := by rw [g3 144 3 (by omega), e1]
    rw [if_pos k, if_pos k]
    refine ⟨cu I' 144 3 (nI (pa + 1)), ?_, cu_s, ?_, ?_, ?_⟩
    · rw [show nI 0 = (0 : Int32) from rfl] at g1
      simp only [f_X9_keepAct, nb144, x1, cond_true, oI_eq, pI_cu, Option.bind_some, e1, if_neg c1, g1, e2, nI_1]
    · intro k hk
      rw [cu_o (by omega), g2 k (by omega) hk]
    · intro j k' hj hk
      rw [cu_o (by omega), g3 147 _ (by omega), if_pos k]
    · intro i j hn
      rw [cu_o (by omega), g3 i j (by omega)]
  · have hpe : pa = 16 := by omega
    subst hpe
    have c1 : nI 16 = (16 : Int32) := rfl
    obtain ⟨J1, a1, a2, a3⟩ := sh I
    have e2 : J1 144 3 = nI 16 := by rw [a3 144 3 (by omega), e1]
    obtain ⟨J2, hJ2⟩ : ∃ J2, J2 = cu J1 144 3 (nI 15) := ⟨_, rfl⟩
    obtain ⟨I', g1, g2, g3⟩ := rw' (b := 15) (by omega) J2 (by rw [hJ2, cu_s]) (fun k hk => by rw [hJ2, cu_o (by omega), a3 145 k (by omega)]; exact h k hk)
    have e3 : I' 144 3 = nI 15 := by rw [g3 144 3 (by omega), hJ2, cu_s]
    rw [if_neg k, if_neg k]
    refine ⟨cu I' 144 3 (nI 16), ?_, cu_s, ?_, ?_, ?_⟩
    · rw [show nI 0 = (0 : Int32) from rfl] at g1 a1
      have p1 : nI 16 - (1 : Int32) = nI 15 := rfl
      have p2 : nI 15 + (1 : Int32) = nI 16 := rfl
      simp only [f_X9_keepAct, nb144, x1, cond_true, oI_eq, pI_cu, Option.bind_some, e1, if_pos c1, a1, e2, p1, ← hJ2, g1, e3, p2]
    · intro k hk
      rw [cu_o (by omega), g2 k (by omega) hk]
    · intro j k' hj hk
      rw [cu_o (by omega), g3 147 _ (by omega), hJ2, cu_o (by omega), a2 _ (by omega) (by omega), if_neg k, show 69 * j + k' + 69 = 69 * (j + 1) + k' by omega]
    · intro i j hn
      rw [cu_o (by omega), g3 i j (by omega), hJ2, cu_o (by omega), a3 i j (by omega)]
theorem gP_new (hP : gP np c pa pn P I) (hr : rB np c r) (x1 : XS (34 + 5 * pn) r J) (x2 : J 32 1 = nI ((pn + 1) % 16)) (x3 : J 32 2 = nI (if pa < 16 then pa + 1 else 16)) (x4 : J 144 3 = nI (if pa < 16 then pa + 1 else 16)) (x5 : ∀ i j, 34 ≤ i → i ≤ 113 → ¬ (34 + 5 * pn ≤ i ∧ i ≤ 34 + 5 * pn + 4) → J i j = I i j) (x6 : ∀ k, k < 69 → J 147 (69 * (if pa < 16 then pa else 15) + k) = nI (r k)) (x7 : ∀ j k, j < (if pa < 16 then pa else 15) → k < 69 → J 147 (69 * j + k) = I 147 (69 * (if pa < 16 then j else j + 1) + k)) : ∃ P', gP np c (if pa < 16 then pa + 1 else 16) ((pn + 1) % 16) P' J := by
  obtain ⟨hpa, hpn, -, -, -, hrow⟩ := hP
  by_cases k : pa < 16
  · rw [if_pos k] at x3 x4 x6
    simp only [if_pos k] at x7
    rw [if_pos k]
    refine ⟨fun j => if j = pa then r else P j, by omega, by omega, x2, x3, x4, fun j hj => ?_⟩
    by_cases hjp : j = pa
    · subst hjp
      simp only [if_pos]
      refine ⟨?_, x6, hr⟩
      rw [show (pn + 1) % 16 + 16 - (j + 1) + j = (pn + 1) % 16 + 15 by omega, show ((pn + 1) % 16 + 15) % 16 = pn by omega]
      exact x1
    · simp only [if_neg hjp]
      obtain ⟨a, b, d⟩ := hrow j (by omega)
      refine ⟨?_, fun k' hk => by rw [x7 j k' (by omega) hk]; exact b k' hk, d⟩
      rw [show ((pn + 1) % 16 + 16 - (pa + 1) + j) % 16 = (pn + 16 - pa + j) % 16 by omega]
      exact a.fp (fun i j' h1 h2 => x5 i j' (by omega) (by omega) (by omega))
  · have hpe : pa = 16 := by omega
    subst hpe
    rw [if_neg k] at x3 x4 x6
    simp only [if_neg k] at x7
    rw [if_neg k]
    refine ⟨fun j => if j = 15 then r else P (j + 1), by omega, by omega, x2, x3, x4, fun j hj => ?_⟩
    by_cases hjp : j = 15
    · subst hjp
      simp only [if_pos]
      refine ⟨?_, x6, hr⟩
      rw [show ((pn + 1) % 16 + 16 - 16 + 15) % 16 = pn by omega]
      exact x1
    · simp only [if_neg hjp]
      obtain ⟨a, b, d⟩ := hrow (j + 1) (by omega)
      refine ⟨?_, fun k' hk => by rw [x7 j k' (by omega) hk]; exact b k' hk, d⟩
      rw [show ((pn + 1) % 16 + 16 - 16 + j) % 16 = (pn + 16 - 16 + (j + 1)) % 16 by omega]
      exact a.fp (fun i j' h1 h2 => x5 i j' (by omega) (by omega) (by omega))
end PSU
