/-! the past: remember -/
section PST
variable {B : zM} {tw s u c np pa pn : Nat} {r q : Nat → Nat} {P : Nat → Nat → Nat} {I : Nat → Nat → Int32}
theorem X_rem (hB : GB B tw s u) (h : XS s r I) (hpn : pn < 16) (hpa : pa ≤ 16) (e1 : I 32 1 = nI pn) (e2 : I 32 2 = nI pa) : ∃ I', f_X3_remember 32 s (zI B I) = some (zI B I') ∧ XS (34 + 5 * pn) r I' ∧ I' 32 1 = nI ((pn + 1) % 16) ∧ I' 32 2 = nI (if pa < 16 then pa + 1 else 16) ∧ ∀ i j, ¬ ((34 + 5 * pn ≤ i ∧ i ≤ 34 + 5 * pn + 4) ∨ (i = 32 ∧ (j = 1 ∨ j = 2))) → I' i j = I i j := by
  have hse := hB.hs
  obtain ⟨hx, hy, ht, m1, htw, hs, m3, -, hu, m4, -, hr, hq, -⟩ := hB
  have hrp := hr pn hpn
  have hqp := fun J => hq J pn hpn
  obtain ⟨J, g1, g2, g3⟩ := X_copy hs hrp (by clear hx hy ht hs hu hrp; omega) h
  have x1 : zac B 32 3 3 = true := by simp only [hx]
  have x2 : mR B 32 0 = 33 := by simp only [hx]
  have x3 : Nat.ble 1 s = true := by simp only [hs]
  have x4 : zac B (34 + 5 * pn) 5 9 = true := by simp only [hrp]
  clear hx hy ht hs hu hrp hr
  have f1 : J 32 1 = nI pn := by rw [g3 32 (by omega), e1]
  have f2 : cu J 32 1 (nI ((pn + 1) % 16)) 32 2 = nI pa := by rw [cu_o (by omega), g3 32 (by omega), e2]
  have d1 : rm (nI (pn + 1)) 16 = some (nI ((pn + 1) % 16)) := rm_nI (b := 16) (by omega) (by omega) (by omega)
  have d2 : (nI (pa + 1) < 16) ↔ pa < 15 := by
    have := nI_ltI (a := pa + 1) (b := 16) (by omega) (by omega)
    rw [show nI 16 = (16 : Int32) from rfl] at this
    rw [this]
    omega
  refine ⟨cu (cu J 32 1 (nI ((pn + 1) % 16))) 32 2 (nI (if pa < 16 then pa + 1 else 16)), ?_, ?_, ?_, cu_s, ?_⟩
  · simp only [f_X3_remember, show Nat.ble 1 32 = true from rfl, x1, x2, x3, x4, cond_true, oR_eq, oI_eq, pI_cu, zac_zI, Option.bind_some, e1, hqp, g1, f1, nI_1, d1, f2, d2]
    by_cases k : pa < 15
    · rw [if_pos k, if_pos (by omega)]
    · rw [if_neg k]
      by_cases k2 : pa < 16
      · rw [if_pos k2, show pa + 1 = 16 by omega]; rfl
      · rw [if_neg k2]; rfl
  · exact g2.fp (fun i j a b => by rw [cu_o (by omega), cu_o (by omega)])
  · rw [cu_o (by omega), cu_s]
  · intro i j hn
    rw [cu_o (by omega), cu_o (by omega), g3 i (by omega)]
theorem Y_row_lp (hy : isY B) {b : Nat} (hb : b ≤ 15) : ∀ m i n I, i + m = 69 → m < n → I 144 3 = nI b → YS 145 r I → ∃ I', L_X9_keepAct_51 n 144 (nI i) (zI B I) = some (zI B I') ∧ (∀ k, i ≤ k → k < 69 → I' 147 (69 * b + k) = nI (r k)) ∧ ∀ a k, ¬ (a = 147 ∧ 69 * b + i ≤ k ∧ k < 69 * b + 69) → I' a k = I a k := by
  intro m
  induction m with
  | zero =>
    intro i n I hi hn e1 h
    obtain ⟨n, rfl⟩ := Nat.exists_eq_succ_of_ne_zero (show n ≠ 0 by omega)
    have c1 : (69 : Int32) ≤ nI i := (nI_leI (a := 69) (by omega) (by omega)).mpr (by omega)
    simp only [L_X9_keepAct_51, if_pos c1]
    exact ⟨I, rfl, fun k h1 h2 => absurd h1 (by omega), fun _ _ _ => rfl⟩
  | succ m ih =>
    intro i n I hi hn e1 h
    obtain ⟨n, rfl⟩ := Nat.exists_eq_succ_of_ne_zero (show n ≠ 0 by omega)
    have c1 : ¬ (69 : Int32) ≤ nI i := fun q => absurd ((nI_leI (a := 69) (by omega) (by omega)).mp q) (by omega)
    have l1 : zlI B 145 = 69 := by simp only [hy]
    have l2 : zln B 10 147 = 1104 := by simp only [hy]
    have x1 : zac B 144 9 58 = true := by simp only [hy]
    have x2 : mR B 144 0 = 145 := by simp only [hy]
    have x3 : mR B 144 2 = 147 := by simp only [hy]
    have a1 := aI_at (B := B) (k := i) (by omega) (by rw [l1]; omega) (h i (by omega))
    have s1 : sI (zI B I) 147 (nI (69 * b + i)) (nI (r i)) = some (zI B (cu I 147 (69 * b + i) (nI (r i)))) := sI_cu (by omega) (by rw [l2]; omega)
    have p1 : (69 : Int32) * nI b + nI i = nI (69 * b + i) := by rw [nl69, pk_mul, nI_add]
    obtain ⟨I', g1, g2, g3⟩ := ih (i + 1) n (cu I 147 (69 * b + i) (nI (r i))) (by omega) (by omega) (by rw [cu_o (by omega), e1]) (fun k hk => by rw [cu_o (by omega)]; exact h k hk)
    refine ⟨I', ?_, ?_, ?_⟩
    · simp only [L_X9_keepAct_51, if_neg c1, x1, x2, x3, cond_true, oR_eq, oI_eq, Option.bind_some, e1, a1, p1, s1, nI_1, g1]
    · intro k k1 k2
      by_cases k3 : k = i
      · subst k3
        rw [g3 147 _ (by omega), cu_s]
      · exact g2 k (by omega) k2
    · intro a k hn
      rw [g3 a k (by omega), cu_o (by omega)]
theorem Y_shift_lp (hy : isY B) : ∀ m i n I, i + m = 1035 → m < n → ∃ I', L_X9_keepAct_11 n 144 (nI i) (zI B I) = some (zI B I') ∧ (∀ k, i ≤ k → k < 1035 → I' 147 k = I 147 (k + 69)) ∧ ∀ a k, ¬ (a = 147 ∧ i ≤ k ∧ k < 1035) → I' a k = I a k := by
  intro m
  induction m with
  | zero =>
    intro i n I hi hn
    obtain ⟨n, rfl⟩ := Nat.exists_eq_succ_of_ne_zero (show n ≠ 0 by omega)
    have c1 : (1035 : Int32) ≤ nI i := (nI_leI (a := 1035) (by omega) (by omega)).mpr (by omega)
    simp only [L_X9_keepAct_11, if_pos c1]
    exact ⟨I, rfl, fun k h1 h2 => absurd h1 (by omega), fun _ _ _ => rfl⟩
  | succ m ih =>
    intro i n I hi hn
    obtain ⟨n, rfl⟩ := Nat.exists_eq_succ_of_ne_zero (show n ≠ 0 by omega)
    have c1 : ¬ (1035 : Int32) ≤ nI i := fun q => absurd ((nI_leI (a := 1035) (by omega) (by omega)).mp q) (by omega)
    have l1 : zlI B 147 = 1104 := by simp only [hy]
    have l2 : zln B 10 147 = 1104 := by simp only [hy]
    have x1 : zac B 144 9 58 = true := by simp only [hy]
    have x3 : mR B 144 2 = 147 := by simp only [hy]
    have a1 := aI_at (B := B) (I := I) (i := 147) (k := i + 69) (by omega) (by rw [l1]; omega) rfl
    have s1 : sI (zI B I) 147 (nI i) (I 147 (i + 69)) = some (zI B (cu I 147 i (I 147 (i + 69)))) := sI_cu (by omega) (by rw [l2]; omega)
    have p1 : nI i + (69 : Int32) = nI (i + 69) := nI_add i 69
    obtain ⟨I', g1, g2, g3⟩ := ih (i + 1) n (cu I 147 i (I 147 (i + 69))) (by omega) (by omega)
    refine ⟨I', ?_, ?_, ?_⟩
    · simp only [L_X9_keepAct_11, if_neg c1, x1, x3, cond_true, oR_eq, oI_eq, Option.bind_some, a1, p1, s1, nI_1, g1]
    · intro k k1 k2
      by_cases k3 : k = i
      · subst k3
        rw [g3 147 _ (by omega), cu_s]
      · rw [g2 k (by omega) k2, cu_o (by omega)]
    · intro a k hn
      rw [g3 a k (by omega), cu_o (by omega)]
end PST
