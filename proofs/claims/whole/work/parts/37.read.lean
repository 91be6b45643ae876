/-! silent -/
section RS
variable {B : zM} {tw s u c np en : Nat} {T : Nat → Nat → Nat} {r ew el : Nat → Nat} {I : Nat → Nat → Int32} {x y : Int32}
theorem silent_lp {M : zM} {k : Nat} (hk : k ≤ 60) : ∀ m i n (l : Int64), i + m = k → m < n → ∃ v, L_X8_silent_30 n (nI k) y l (nI i) M = some v ∧ L_X9_silent_34 n (nI k) y l (nI i) M = some v := by
  intro m
  induction m with
  | zero =>
    intro i n l hi hn
    obtain ⟨n, rfl⟩ := Nat.exists_eq_succ_of_ne_zero (show n ≠ 0 by omega)
    have c1 : nI k ≤ nI i := (nI_leI (by omega) (by omega)).mpr (by omega)
    simp only [L_X8_silent_30, L_X9_silent_34, if_pos c1]
    exact ⟨l, rfl, rfl⟩
  | succ m ih =>
    intro i n l hi hn
    obtain ⟨n, rfl⟩ := Nat.exists_eq_succ_of_ne_zero (show n ≠ 0 by omega)
    have c1 : ¬ nI k ≤ nI i := fun q => absurd ((nI_leI (by omega) (by omega)).mp q) (by omega)
    obtain ⟨w, hw⟩ : ∃ w, ldv (l * y.toInt64) 100 = some w := by
      unfold ldv
      exact ⟨_, if_neg (by decide)⟩
    simp only [L_X8_silent_30, L_X9_silent_34, if_neg c1, hw, Option.bind_some, nI_1]
    exact ih (i + 1) n w (by omega) (by omega)
theorem r_silent {M : zM} : R2 (f_X8_silent 1 x y M) (f_X9_silent 144 x y M) := by
  have q1 := Y_btw (x := x) (a := 0) (b := 60) (M := M) (y := 0) (z := 60) rfl rfl (by omega) (by omega)
  have q2 := Y_btw (x := y) (a := 0) (b := 100) (M := M) (y := 0) (z := 100) rfl rfl (by omega) (by omega)
  rcases Bool.eq_false_or_eq_true (btw x 0 60) with hb | hb
  · rw [hb, ite_t] at q1
    obtain ⟨k, -, hk, rfl⟩ := btw_t hb (by omega)
    have c1 : ¬ nI k < 0 := nI_pos (by omega)
    have c2 : ¬ 60 < nI k := fun q => absurd ((nI_ltI (a := 60) (by omega) (by omega)).mp q) (by omega)
    rcases Bool.eq_false_or_eq_true (btw y 0 100) with hb2 | hb2
    · rw [hb2, ite_t] at q2
      obtain ⟨j, -, hj, rfl⟩ := btw_t hb2 (by omega)
      have c3 : ¬ nI j < 0 := nI_pos (by omega)
      have c4 : nI j ≤ 100 := (nI_leI (b := 100) (by omega) (by omega)).mpr hj
      obtain ⟨v, i1, i2⟩ := silent_lp (M := M) (y := nI j) hk k 0 zN 1000000000 (by omega) (by unfold zN; omega)
      rw [show nI 0 = (0 : Int32) from rfl] at i1 i2
      simp only [f_X8_silent, f_X9_silent, nb1, nb144, cond_true, q1, q2, Option.bind_some, if_neg ne10, if_neg c1, if_neg c2, if_neg c3, if_pos c4, i1, i2]
      exact ⟨_, rfl, rfl⟩
    · rw [hb2, ite_f] at q2
      rcases btw_n hb2 (by omega) (by omega) with h1 | ⟨h1, h2, h3⟩
      · rw [show nI 0 = (0 : Int32) from rfl] at h1
        simp only [f_X8_silent, f_X9_silent, nb1, nb144, cond_true, q1, q2, Option.bind_some, if_neg ne10, if_neg c1, if_neg c2, if_pos h1, if_pos]
        exact ⟨_, rfl, rfl⟩
      · rw [show nI 0 = (0 : Int32) from rfl] at h1
        have c4 : ¬ y ≤ 100 := h2
        simp only [f_X8_silent, f_X9_silent, nb1, nb144, cond_true, q1, q2, Option.bind_some, if_neg ne10, if_neg c1, if_neg c2, if_neg h1, if_neg c4, if_pos]
        exact ⟨_, rfl, rfl⟩
  · rw [hb, ite_f] at q1
    rcases btw_n hb (by omega) (by omega) with h1 | ⟨h1, h2, h3⟩
    · rw [show nI 0 = (0 : Int32) from rfl] at h1
      simp only [f_X8_silent, f_X9_silent, nb1, nb144, cond_true, q1, Option.bind_some, if_pos h1, if_pos]
      exact ⟨_, rfl, rfl⟩
    · rw [show nI 0 = (0 : Int32) from rfl] at h1
      have c4 : 60 < x := h3
      simp only [f_X8_silent, f_X9_silent, nb1, nb144, cond_true, q1, Option.bind_some, if_neg h1, if_pos c4, if_pos]
      exact ⟨_, rfl, rfl⟩
end RS
