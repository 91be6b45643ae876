/-! judge -/
def jf (r ew el : Nat → Nat) : Nat → Nat → Int32 ⊕ Unit
  | 0, _ => .inr ()
  | m + 1, i => if r (13 + ew i) = el i then jf r ew el m (i + 1) else .inl (nI i)
section RJ
variable {B : zM} {tw s u c np en : Nat} {T : Nat → Nat → Nat} {r ew el : Nat → Nat} {I : Nat → Nat → Int32}
theorem jf_ne (h : ∀ j, j < en → I 128 j = nI (ew j) ∧ I 129 j = nI (el j)) (g : ∀ j, j < en → I 174 j = nI (ew j) ∧ I 175 j = nI (el j)) (hw : ∀ j, j < en → ew j < 8 ∧ el j ≤ 99) (hen : en ≤ 15) (hx : isX B) (hy : isY B) (hs : isSt B s) (hX : XS s r I) (hY : YS 145 r I) (hr : rI r) (e1 : I 127 2 = nI en) (e2 : I 144 52 = nI en) : ∀ m i n, i + m = en → m < n → L_X0_firstWrong_2 n 127 s (nI i) (zI B I) = some (jf r ew el m i) ∧ L_X9_judge_2 n 144 (nI i) (zI B I) = some (jf r ew el m i) := by
  intro m
  induction m with
  | zero =>
    intro i n hi hn
    obtain ⟨n, rfl⟩ := Nat.exists_eq_succ_of_ne_zero (show n ≠ 0 by omega)
    have c1 : nI en ≤ nI i := (nI_leI (by omega) (by omega)).mpr (by omega)
    simp only [L_X0_firstWrong_2, L_X9_judge_2, hx, hy, cond_true, oI_eq, Option.bind_some, e1, e2, if_pos c1]
    exact ⟨rfl, rfl⟩
  | succ m ih =>
    intro i n hi hn
    obtain ⟨n, rfl⟩ := Nat.exists_eq_succ_of_ne_zero (show n ≠ 0 by omega)
    have c1 : ¬ nI en ≤ nI i := fun q => absurd ((nI_leI (by omega) (by omega)).mp q) (by omega)
    have hi' : i < en := by omega
    have w8 := (hw i hi').1
    have l9 := (hw i hi').2
    have l1 : i < zlI B 128 := by simp only [hx]; omega
    have l2 : i < zlI B 129 := by simp only [hx]; omega
    have l3 : i < zlI B 174 := by simp only [hy]; omega
    have l4 : i < zlI B 175 := by simp only [hy]; omega
    have l5 : ew i < zlI B (s + 2) := by simp only [hs]; omega
    have l6 : 13 + ew i < zlI B 145 := by simp only [hy]; omega
    have a1 := aI_at (by omega) l1 (h i hi').1
    have a2 := aI_at (by omega) l2 (h i hi').2
    have a3 := aI_at (by omega) l3 (g i hi').1
    have a4 := aI_at (by omega) l4 (g i hi').2
    have a5 := aI_at (by omega) l5 (hX.le w8)
    have a6 := aI_at (by omega) l6 (hY (13 + ew i) (by omega))
    have p0 : (13 : Int32) + nI (ew i) = nI (13 + ew i) := nI_add 13 _
    have bb := hr.1 (ew i) w8
    obtain ⟨i1, i2⟩ := ih (i + 1) n (by omega) (by omega)
    simp only [L_X0_firstWrong_2, L_X9_judge_2, hx, hy, hs, cond_true, oI_eq, oR_eq, Option.bind_some, e1, e2, if_neg c1, a1, a2, a3, a4, a5, a6, p0, nI_1, i1, i2, jf]
    by_cases c : r (13 + ew i) = el i
    · have c2 : nI (r (13 + ew i)) = nI (el i) := by rw [c]
      simp only [if_pos c, if_pos c2]
      exact ⟨trivial, trivial⟩
    · have c2 : ¬ nI (r (13 + ew i)) = nI (el i) := fun q => c ((nI_eq (by omega) (by omega)).mp q)
      simp only [if_neg c, if_neg c2]
      exact ⟨trivial, trivial⟩
theorem r_judge (hB : GB B tw s u) (hT : gT tw T I) (hN : gN s np c r I) (hBk : gB T en ew el I) : R2 (f_X8_judge 1 (zI B I)) (f_X9_judge 144 (zI B I)) := by
  have b1 := hT.1.2.1
  obtain ⟨hen, e1, e2, e3⟩ := hBk
  have hse := hB.hs
  obtain ⟨hx, hy, ht, m1, -, hs, m3, -⟩ := hB
  obtain ⟨i1, i2⟩ := jf_ne (fun j hj => ⟨(e3 j hj).1.1, (e3 j hj).2.1⟩) (fun j hj => ⟨(e3 j hj).1.2.1, (e3 j hj).2.2.1⟩) (fun j hj => ⟨Nat.lt_of_lt_of_le (e3 j hj).1.2.2 b1, (e3 j hj).2.2.2⟩) hen hx hy hs hN.1 hN.2.1 hN.2.2.1 e1 e2 en 0 zN (by omega) (by unfold zN; omega)
  rw [show nI 0 = (0 : Int32) from rfl] at i1 i2
  simp only [f_X8_judge, f_X0_firstWrong, f_X9_judge, nb1, nb144, show Nat.ble 1 127 = true from rfl, hx, hy, m3, hs, cond_true, oR_eq, zac_zI, Option.bind_some, i1, i2]
  cases jf r ew el en 0 with
  | inl v => exact ⟨v, rfl, rfl⟩
  | inr v => exact ⟨-1, rfl, rfl⟩
end RJ
