section YD2
variable {B : zM} {a p w S n : Nat} {r : Nat → Nat} {T : Nat → Nat → Nat} {I : Nat → Nat → Int32}
theorem Y_goOn_lp1 (ha : isRow B a) : ∀ m i n q r I, i + m = 8 → m < n → YS a r I → ∃ I', L_X9_goOn_126 n a q (nI i) (zI B I) = some (zI B I') ∧ YS a (itr l0 m i r) I' ∧ Fr a a I I' := by
  intro m
  induction m with
  | zero =>
    intro i n q r I hi hn h
    obtain ⟨n, rfl⟩ := Nat.exists_eq_succ_of_ne_zero (show n ≠ 0 by omega)
    have hi : i = 8 := by omega
    subst hi
    refine ⟨I, ?_, h, Fr.rf⟩
    simp only [Nat.succ_eq_add_one, L_X9_goOn_126]
    rw [if_pos (by decide)]
  | succ m ih =>
    intro i n q r I hi hn h
    obtain ⟨n, rfl⟩ := Nat.exists_eq_succ_of_ne_zero (show n ≠ 0 by omega)
    have hc : ¬ (8 : Int32) ≤ nI i := by rw [nl8]; exact fun q => absurd ((nI_leI (by omega) (by omega)).mp q) (by omega)
    have e := h (5 + i) (by omega)
    obtain ⟨I2, q2, x2, f2⟩ := ih (i + 1) n q (l0 i r) _ (by omega) (by omega) (h.put (j := 13 + i) (v := r (5 + i)))
    refine ⟨I2, ?_, x2, (Fr.up (i := a) (Nat.le_refl _) (Nat.le_refl _)).tr f2⟩
    simp only [Nat.succ_eq_add_one, L_X9_goOn_126, if_neg hc]
    simp (disch := omega) only [nl5, nl13, nI_add, aI_eq, ha, if_pos, e, Option.bind_some, sI_eq, show nI i + 1 = nI (i + 1) from nI_1 i, q2]
theorem Y_goOn_lp2 (ha : isRow B a) : ∀ m i n q r I, i + m = 69 → m < n → YS a r I → ∃ I', L_X9_goOn_152 n a q (nI i) (zI B I) = some (zI B I') ∧ YS a (itr z0 m i r) I' ∧ Fr a a I I' := by
  intro m
  induction m with
  | zero =>
    intro i n q r I hi hn h
    obtain ⟨n, rfl⟩ := Nat.exists_eq_succ_of_ne_zero (show n ≠ 0 by omega)
    have hi : i = 69 := by omega
    subst hi
    refine ⟨I, ?_, h, Fr.rf⟩
    simp only [Nat.succ_eq_add_one, L_X9_goOn_152]
    rw [if_pos (by decide)]
  | succ m ih =>
    intro i n q r I hi hn h
    obtain ⟨n, rfl⟩ := Nat.exists_eq_succ_of_ne_zero (show n ≠ 0 by omega)
    have hc : ¬ (69 : Int32) ≤ nI i := by rw [nl69]; exact fun q => absurd ((nI_leI (by omega) (by omega)).mp q) (by omega)
    obtain ⟨I2, q2, x2, f2⟩ := ih (i + 1) n q (z0 i r) _ (by omega) (by omega) (h.put (j := i) (v := 0))
    refine ⟨I2, ?_, x2, (Fr.up (i := a) (Nat.le_refl _) (Nat.le_refl _)).tr f2⟩
    simp only [Nat.succ_eq_add_one, L_X9_goOn_152, if_neg hc]
    rw [nl0]
    simp (disch := omega) only [sI_eq, ha, if_pos, Option.bind_some, show nI i + 1 = nI (i + 1) from nI_1 i, q2]
theorem Y_goOn (hy : isY B) (ha : isRow B a) (hx : a = 145 ∨ a = 146) (h : YS a r I) (hr : rI r) (hY : YT T I) (hT : TI T) (h0 : 0 < T 0 0) (hb : r 0 < 19000) : ∃ I', f_X9_goOn 144 a (zI B I) = some (nI (cM T (r 0 % T 0 0) (T 0 3) 0 r), zI B I') ∧ YS a (rDay T r) I' ∧ Fr a a I I' := by
  have hT0 := hT.1
  obtain ⟨I1, q1, x1, f1⟩ := Y_goOn_lp hy ha hx hT h0 (d := r 0 % T 0 0) (T 0 3) 0 zN 0 r I (by omega) (Nat.lt_of_le_of_lt hT.2.2.2.1 (by decide)) h hr hY rfl
  rw [Nat.zero_add] at q1
  have g0 := dS_0 (T := T) (d := r 0 % T 0 0) (T 0 3) 0 r
  have e5 := x1 0 (by omega)
  have x2 := x1.put (j := 0) (v := itr (dS T (r 0 % T 0 0)) (T 0 3) 0 r 0 + 1)
  have f2 : Fr a a I1 (va_up I1 a (upd (I1 a) 0 (nI (itr (dS T (r 0 % T 0 0)) (T 0 3) 0 r 0 + 1)))) := Fr.up (i := a) (Nat.le_refl _) (Nat.le_refl _)
  have e6 := x2 0 (by omega)
  rw [show va_up (itr (dS T (r 0 % T 0 0)) (T 0 3) 0 r) 0 (itr (dS T (r 0 % T 0 0)) (T 0 3) 0 r 0 + 1) 0 = itr (dS T (r 0 % T 0 0)) (T 0 3) 0 r 0 + 1 by simp [va_up]] at e6
  have hY2 := hY.same (YTs.fr (f1.tr f2) (by omega))
  have erm : rm (nI (itr (dS T (r 0 % T 0 0)) (T 0 3) 0 r 0 + 1)) (nI (T 0 0)) = some (nI ((itr (dS T (r 0 % T 0 0)) (T 0 3) 0 r 0 + 1) % T 0 0)) := by
    unfold rm
    rw [if_neg (by rw [nl0]; exact fun q => absurd ((nI_eq (by omega) (by omega)).mp q) (by omega)), pk_rem (by omega) (by omega) (by omega)]
  simp only [f_X9_goOn, show Nat.ble 1 144 = true from rfl, ha, cond_true]
  rw [nl0, q1, b2_some]
  simp (disch := omega) only [aI_eq, ha, if_pos, e5, Option.bind_some, nl1, nI_add, sI_eq, e6, oI_eq, hy, cond_true, hY2.1.1, erm]
  by_cases c : (itr (dS T (r 0 % T 0 0)) (T 0 3) 0 r 0 + 1) % T 0 0 = 0
  · obtain ⟨I3, q3, x3, f3⟩ := Y_goOn_lp1 ha 8 0 zN (nI (cM T (r 0 % T 0 0) (T 0 3) 0 r)) _ _ (by omega) (by decide) x2
    obtain ⟨I4, q4, x4, f4⟩ := Y_goOn_lp2 ha 40 29 zN (nI (cM T (r 0 % T 0 0) (T 0 3) 0 r)) _ I3 (by omega) (by decide) x3
    rw [rYear_itr] at x4
    refine ⟨I4, ?_, ?_, ((f1.tr f2).tr f3).tr f4⟩
    · rw [if_pos (by rw [c]), q3, Option.bind_some, show (29 : Int32) = nI 29 from rfl, q4]; rfl
    · unfold rDay; simp only []; rw [if_pos c]; exact x4
  · refine ⟨_, ?_, ?_, f1.tr f2⟩
    rotate_left
    · unfold rDay; simp only []; rw [if_neg c]; exact x2
    · rw [if_neg (fun q => c ((nI_eq (Nat.lt_of_le_of_lt (Nat.mod_le _ _) (by omega)) (by omega)).mp q))]
end YD2
