/-! undo -/
section UND
variable {B : zM} {tw s u c np pa pn : Nat} {r q : Nat → Nat} {P : Nat → Nat → Nat} {I : Nat → Nat → Int32}
theorem X_ret (hB : GB B tw s u) (hpn : pn < 16) (hpa : pa ≤ 16) (h0 : 0 < pa) (e1 : I 32 1 = nI pn) (e2 : I 32 2 = nI pa) (h : XS (34 + 5 * ((pn + 15) % 16)) q I) : ∃ I', f_X3_returnTo 32 s (zI B I) = some (zI B I') ∧ XS s q I' ∧ I' 32 1 = nI ((pn + 15) % 16) ∧ I' 32 2 = nI (pa - 1) ∧ ∀ i j, ¬ ((s ≤ i ∧ i ≤ s + 4) ∨ (i = 32 ∧ (j = 1 ∨ j = 2))) → I' i j = I i j := by
  have hse := hB.hs
  obtain ⟨hx, hy, ht, m1, htw, hs, m3, -, hu, m4, -, hr, hq, -⟩ := hB
  have hrp := hr ((pn + 15) % 16) (by omega)
  have hqp := fun J => hq J ((pn + 15) % 16) (by omega)
  obtain ⟨J, hJ⟩ : ∃ J, J = cu (cu I 32 1 (nI ((pn + 15) % 16))) 32 2 (nI (pa - 1)) := ⟨_, rfl⟩
  have hJ1 : XS (34 + 5 * ((pn + 15) % 16)) q J := h.fp (fun i j a b => by rw [hJ, cu_o (by clear hx hy ht hs hu hrp; omega), cu_o (by clear hx hy ht hs hu hrp; omega)])
  obtain ⟨I', g1, g2, g3⟩ := X_copy hrp hs (by clear hx hy ht hs hu hrp; omega) hJ1
  have x1 : zac B 32 3 3 = true := by simp only [hx]
  have x2 : mR B 32 0 = 33 := by simp only [hx]
  have x3 : Nat.ble 1 s = true := by simp only [hs]
  have x4 : zac B s 5 9 = true := by simp only [hs]
  clear hx hy ht hs hu hrp hr
  have d0 : nI pn + 16 - 1 = nI (pn + 15) := by
    rw [show nI pn + 16 = nI (pn + 16) from nI_add pn 16, show (1 : Int32) = nI 1 from rfl, nI_sb (by omega)]
    rfl
  have d1 : rm (nI (pn + 15)) 16 = some (nI ((pn + 15) % 16)) := rm_nI (b := 16) (by omega) (by omega) (by omega)
  have d2 : nI pa - 1 = nI (pa - 1) := by rw [nl1, nI_sb (by omega)]
  have f1 : cu I 32 1 (nI ((pn + 15) % 16)) 32 2 = nI pa := by rw [cu_o (by omega), e2]
  have f2 : J 32 1 = nI ((pn + 15) % 16) := by rw [hJ, cu_o (by omega), cu_s]
  refine ⟨I', ?_, g2, by rw [g3 32 (by omega), f2], by rw [g3 32 (by omega), hJ, cu_s], fun i j hn => by rw [g3 i (by omega), hJ, cu_o (by omega), cu_o (by omega)]⟩
  simp only [f_X3_returnTo, show Nat.ble 1 32 = true from rfl, x1, x2, x3, x4, cond_true, oR_eq, oI_eq, pI_cu, zac_zI, Option.bind_some, e1, d0, d1, f1, d2, ← hJ, f2, hqp, g1]
theorem Y_undo_lp (hy : isY B) {b : Nat} (hb : b ≤ 15) : ∀ m i n I, i + m = 69 → m < n → I 144 3 = nI b → (∀ k, k < 69 → I 147 (69 * b + k) = nI (q k)) → ∃ I', L_X9_undo_23 n 144 (nI i) (zI B I) = some (zI B I') ∧ (∀ k, i ≤ k → k < 69 → I' 145 k = nI (q k)) ∧ ∀ a k, ¬ (a = 145 ∧ i ≤ k) → I' a k = I a k := by
  intro m
  induction m with
  | zero =>
    intro i n I hi hn e1 h
    obtain ⟨n, rfl⟩ := Nat.exists_eq_succ_of_ne_zero (show n ≠ 0 by omega)
    have c1 : (69 : Int32) ≤ nI i := (nI_leI (a := 69) (by omega) (by omega)).mpr (by omega)
    simp only [L_X9_undo_23, if_pos c1]
    exact ⟨I, rfl, fun k h1 h2 => absurd h1 (by omega), fun _ _ _ => rfl⟩
  | succ m ih =>
    intro i n I hi hn e1 h
    obtain ⟨n, rfl⟩ := Nat.exists_eq_succ_of_ne_zero (show n ≠ 0 by omega)
    have c1 : ¬ (69 : Int32) ≤ nI i := fun q => absurd ((nI_leI (a := 69) (by omega) (by omega)).mp q) (by omega)
    have l1 : zlI B 147 = 1104 := by simp only [hy]
    have l2 : zln B 10 145 = 69 := by simp only [hy]
    have x1 : zac B 144 9 58 = true := by simp only [hy]
    have x2 : mR B 144 0 = 145 := by simp only [hy]
    have x3 : mR B 144 2 = 147 := by simp only [hy]
    have a1 := aI_at (B := B) (k := 69 * b + i) (by omega) (by rw [l1]; omega) (h i (by omega))
    have s1 : sI (zI B I) 145 (nI i) (nI (q i)) = some (zI B (cu I 145 i (nI (q i)))) := sI_cu (by omega) (by rw [l2]; omega)
    have p1 : (69 : Int32) * nI b + nI i = nI (69 * b + i) := by rw [nl69, pk_mul, nI_add]
    obtain ⟨I', g1, g2, g3⟩ := ih (i + 1) n (cu I 145 i (nI (q i))) (by omega) (by omega) (by rw [cu_o (by omega), e1]) (fun k hk => by rw [cu_o (by omega)]; exact h k hk)
    refine ⟨I', ?_, ?_, ?_⟩
    · simp only [L_X9_undo_23, if_neg c1, x1, x2, x3, cond_true, oR_eq, oI_eq, Option.bind_some, e1, a1, p1, s1, nI_1, g1]
    · intro k k1 k2
      by_cases k3 : k = i
      · subst k3
        rw [g3 145 _ (by omega), cu_s]
      · exact g2 k (by omega) k2
    · intro a k hn
      rw [g3 a k (by omega), cu_o (by omega)]
end UND
