/-! drift: the reference's drawn deed, the days, the call -/
section DRY
variable {B : zM} {tw s u np c sd n : Nat} {T : Nat → Nat → Nat} {r : Nat → Nat} {I : Nat → Nat → Int32} {x : Int32}
theorem Y_drawn (hB : GB B tw s u) (hT : TI T) (h : YS 145 r I) (hr : rI r) (hX : YT T I) (e1 : I 144 4 = nI sd) (h1 : 0 < T 0 1) (h2 : 0 < T 0 2) : ∃ I', f_X9_drawn 144 (zI B I) = some (zI B I') ∧ YS 145 (rDn T r sd) I' ∧ I' 144 4 = nI (nx (nx (nx sd))) ∧ ∀ i j, ¬ (i = 145 ∨ (i = 144 ∧ j = 4)) → I' i j = I i j := by
  have b1 := hT.2.1
  have b2 := hT.2.2.1
  obtain ⟨x1, x2, -, l1, l2, -, -, x8, -⟩ := hB.hy'
  obtain ⟨I1, hI1⟩ : ∃ J, J = cu I 144 4 (nI (nx sd)) := ⟨_, rfl⟩
  obtain ⟨I2, hI2⟩ : ∃ J, J = cu I1 144 4 (nI (nx (nx sd))) := ⟨_, rfl⟩
  obtain ⟨I3, hI3⟩ : ∃ J, J = cu I2 144 4 (nI (nx (nx (nx sd)))) := ⟨_, rfl⟩
  have g1 := Y_draw hB e1 h2 (by omega)
  have g2 := Y_draw (I := I1) hB (by rw [hI1, cu_s]) h1 (by omega)
  have g3 := Y_draw (I := I2) (n := 4) hB (by rw [hI2, cu_s]) (by omega) (by omega)
  rw [← hI1] at g1
  rw [← hI2] at g2
  rw [← hI3, show nI 4 = (4 : Int32) from rfl] at g3
  have o3 : ∀ i j, ¬ (i = 144 ∧ j = 4) → I3 i j = I i j := fun i j q => by rw [hI3, cu_o (by omega), hI2, cu_o (by omega), hI1, cu_o (by omega)]
  have k3 : I3 144 4 = nI (nx (nx (nx sd))) := by rw [hI3, cu_s]
  have f1 : I 144 7 = nI (T 0 2) := hX.1.2.2.1
  have f2 : I1 144 6 = nI (T 0 1) := by rw [hI1, cu_o (by omega)]; exact hX.1.2.1
  have h3 : YS 145 r I3 := fun k hk => by rw [o3 145 k (by omega)]; exact h k hk
  have hX3 : YT T I3 := hX.same ⟨o3 _ _ (by omega), o3 _ _ (by omega), o3 _ _ (by omega), o3 _ _ (by omega), funext fun j => o3 _ j (by omega), funext fun j => o3 _ j (by omega), funext fun j => o3 _ j (by omega), funext fun j => o3 _ j (by omega), funext fun j => o3 _ j (by omega), funext fun j => o3 _ j (by omega)⟩
  unfold rDn
  generalize hP : nx sd / 65536 % T 0 2 = p at *
  generalize hW : nx (nx sd) / 65536 % T 0 1 = w at *
  generalize hE : nx (nx (nx sd)) / 65536 % 4 = e at *
  have hp : p < T 0 2 := by rw [← hP]; exact Nat.mod_lt _ h2
  have hw : w < T 0 1 := by rw [← hW]; exact Nat.mod_lt _ h1
  have he : e < 4 := by rw [← hE]; exact Nat.mod_lt _ (by omega)
  have hp5 : p < 5 := by omega
  have hw8 : w < 8 := by omega
  clear hP hW hE
  have bl := hr.b hp5 hw8
  have hS0 : T 3 (2 * w) < 1024 := by have := hT.2.2.2.2.2.2.2.1 (2 * w) (by omega); omega
  have b5 := hr.2.2.2.2.2.2
  have hy := hB.2.1
  have l8 : zlI B 150 = 16 := by simp only [hy]
  have l9 : zln B 11 151 = 8 := by simp only [hy]
  have m1 : mR B 144 11 = 150 := by simp only [hy]
  have m2 : mR B 144 12 = 151 := by simp only [hy]
  clear hy
  have c1 := Y_canSay x8 h3 hr hp5 hw8
  have c2 := aI_at (B := B) (by omega) (by rw [l1]; omega) (h3 (13 + w) (by omega))
  have c3 := aI_at (B := B) (by omega) (by rw [l8]; omega) (hX3.2.2.1 (2 * w) (by omega))
  have c4 := Y_canGo x8 h3 hr hp5 hS0
  have c5 := aZ_at (B := B) (by omega) (by rw [l9]; omega) (hX3.2.2.2.1 w hw8)
  have c6 : aI (zI B I3) 145 4 = some (nI (r 4)) := aI_at (B := B) (k := 4) (by omega) (by rw [l1]; omega) (h3 4 (by omega))
  have b4 := hT.2.2.2.2.2.1 w
  have z1 := nI_l0 (v := r (13 + w)) (by omega)
  have z2 := nI_z (v := T 4 w) (by omega)
  have p0 : (29 : Int32) + 8 * nI p + nI w = nI (29 + (8 * p + w)) := by rw [nl29, nl8, pk_mul, nI_add, nI_add, Nat.add_assoc]
  have p13 : (13 : Int32) + nI w = nI (13 + w) := nI_add 13 w
  have p2 : (2 : Int32) * nI w = nI (2 * w) := by rw [nl2, pk_mul]
  have t00 : ((0 : Int32) = 0) = True := eq_true rfl
  have t10 : ((1 : Int32) = 0) = False := eq_false (by decide)
  have t11 : ((1 : Int32) = 1) = True := eq_true rfl
  have t20 : ((2 : Int32) = 0) = False := eq_false (by decide)
  have t21 : ((2 : Int32) = 1) = False := eq_false (by decide)
  have t22 : ((2 : Int32) = 2) = True := eq_true rfl
  have t30 : ((3 : Int32) = 0) = False := eq_false (by decide)
  have t31 : ((3 : Int32) = 1) = False := eq_false (by decide)
  have t32 : ((3 : Int32) = 2) = False := eq_false (by decide)
  have fin : ∀ (r' : Nat → Nat) (I' : Nat → Nat → Int32), f_X9_drawn 144 (zI B I) = some (zI B I') → YS 145 r' I' → (∀ i j, i ≠ 145 → I' i j = I3 i j) → ∃ I', f_X9_drawn 144 (zI B I) = some (zI B I') ∧ YS 145 r' I' ∧ I' 144 4 = nI (nx (nx (nx sd))) ∧ ∀ i j, ¬ (i = 145 ∨ (i = 144 ∧ j = 4)) → I' i j = I i j := by
    intro r' I' q1 q2 q3
    refine ⟨I', q1, q2, by rw [q3 144 4 (by omega), k3], fun i j q => by rw [q3 i j (by omega), o3 i j (by omega)]⟩
  have ec : e = 0 ∨ e = 1 ∨ e = 2 ∨ e = 3 := by omega
  rcases ec with rfl | rfl | rfl | rfl
  · rw [show nI 0 = (0 : Int32) from rfl] at g3
    rcases Bool.eq_false_or_eq_true (rCan r p w) with hc | hc
    · rw [hc, ite_t] at c1
      obtain ⟨I', d1, d2, d3⟩ := Y_says x8 h3 hr hp5 hw8 hc
      refine fin _ I' ?_ (by unfold rDw; rw [if_pos rfl, hc, if_pos rfl]; exact d2) (fun i j q => by rw [d3 i (by omega)])
      simp only [f_X9_drawn, nb144, x1, x2, cond_true, oR_eq, oI_eq, zac_zI, Option.bind_some, f1, f2, g1, g2, g3, b2_some, ↓reduceIte, t00, t10, c1, d1]
    · rw [hc, ite_f] at c1
      refine fin _ I3 ?_ (by unfold rDw; rw [if_pos rfl, hc]; exact h3) (fun i j q => rfl)
      simp only [f_X9_drawn, nb144, x1, x2, cond_true, oR_eq, oI_eq, zac_zI, Option.bind_some, f1, f2, g1, g2, g3, b2_some, ↓reduceIte, t00, c1]
  · rw [show nI 1 = (1 : Int32) from rfl] at g3
    by_cases hc : r (13 + w) = 0
    · refine fin _ I3 ?_ (by unfold rDw; rw [if_neg (by omega), if_pos rfl, if_neg (by omega)]; exact h3) (fun i j q => rfl)
      have z1' := eq_true (z1.mpr hc)
      simp only [f_X9_drawn, nb144, x1, x2, cond_true, oR_eq, oI_eq, zac_zI, Option.bind_some, f1, f2, g1, g2, g3, b2_some, ↓reduceIte, t10, t11, p13, c2, z1']
    · obtain ⟨J3, hJ3⟩ : ∃ J, J = cu I3 145 (13 + w) (nI (r (13 + w) - 1)) := ⟨_, rfl⟩
      obtain ⟨I4, hI4⟩ : ∃ J, J = cu J3 145 (29 + (8 * p + w)) (nI (r (29 + (8 * p + w)) + 1)) := ⟨_, rfl⟩
      have d2 : YS 145 (rHd r p w 1) I4 := by rw [hI4, hJ3]; exact (h3.put (j := 13 + w) (v := r (13 + w) - 1)).put (j := 29 + (8 * p + w)) (v := r (29 + (8 * p + w)) + 1)
      have v2 : sI (zI B I3) 145 (nI (13 + w)) (nI (r (13 + w) - 1)) = some (zI B J3) := by rw [sI_cu (by omega) (by rw [l2]; omega), hJ3]
      have v3 := aI_at (B := B) (I := J3) (i := 145) (k := 29 + (8 * p + w)) (v := nI (r (29 + (8 * p + w)))) (by omega) (by rw [l1]; omega) (by rw [hJ3, cu_o (by omega)]; exact h3 (29 + (8 * p + w)) (by omega))
      have v4 : sI (zI B J3) 145 (nI (29 + (8 * p + w))) (nI (r (29 + (8 * p + w)) + 1)) = some (zI B I4) := by rw [sI_cu (by omega) (by rw [l2]; omega), hI4]
      have sb : nI (r (13 + w)) - 1 = nI (r (13 + w) - 1) := by rw [nl1, nI_sb (by omega)]
      refine fin _ I4 ?_ (by unfold rDw; rw [if_neg (by omega), if_pos rfl, if_pos (by omega)]; exact d2) (fun i j q => by rw [hI4, cu_o (Or.inl q), hJ3, cu_o (Or.inl q)])
      have z1' := eq_false (fun q => hc (z1.mp q))
      simp only [f_X9_drawn, nb144, x1, x2, cond_true, oR_eq, oI_eq, zac_zI, Option.bind_some, f1, f2, g1, g2, g3, b2_some, ↓reduceIte, t10, t11, p13, c2, z1', p0, sb, v2, v3, nI_1, v4]
  · rw [show nI 2 = (2 : Int32) from rfl] at g3
    rcases Bool.eq_false_or_eq_true (rGoB r p (T 3 (2 * w))) with hc | hc
    · rw [hc, ite_t] at c4
      obtain ⟨I', d1, d2, d3⟩ := Y_goes x8 h3 hr hp5 hS0 hc
      refine fin _ I' ?_ (by unfold rDw; rw [if_neg (by omega), if_neg (by omega), if_pos rfl, hc, if_pos rfl]; exact d2) (fun i j q => by rw [d3 i (by omega)])
      simp only [f_X9_drawn, nb144, x1, x2, cond_true, oR_eq, oI_eq, zac_zI, Option.bind_some, f1, f2, g1, g2, g3, b2_some, ↓reduceIte, t20, t21, t22, t10, m1, p2, c3, c4, d1]
    · rw [hc, ite_f] at c4
      refine fin _ I3 ?_ (by unfold rDw; rw [if_neg (by omega), if_neg (by omega), if_pos rfl, hc]; exact h3) (fun i j q => rfl)
      simp only [f_X9_drawn, nb144, x1, x2, cond_true, oR_eq, oI_eq, zac_zI, Option.bind_some, f1, f2, g1, g2, g3, b2_some, ↓reduceIte, t20, t21, t22, t00, m1, p2, c3, c4]
  · rw [show nI 3 = (3 : Int32) from rfl] at g3
    obtain ⟨r4, hr4⟩ : ∃ v, v = (if T 4 w = 0 then r 4 else cnt (r 4) 1) := ⟨_, rfl⟩
    have u0 : f_X9_up (nI (r 4)) 0 (zI B I3) = some (nI (r 4)) := by
      have := Y_up (x := r 4) (v := 0) (M := zI B I3) (by omega) (by omega)
      rw [cnt0 b5] at this
      exact this
    have u1 := Y_up1 (M := zI B I3) (x := r 4) (by omega)
    have v2 : ∀ y, sI (zI B I3) 145 4 (nI y) = some (zI B (cu I3 145 4 (nI y))) := fun y => sI_cu (k := 4) (by omega) (by rw [l2]; omega)
    by_cases hc : T 4 w = 0
    · have d2 : YS 145 r (cu I3 145 4 (nI (r 4))) := fun k hk => by
        by_cases hk4 : k = 4
        · subst hk4; rw [cu_s]
        · rw [cu_o (by omega)]; exact h3 k hk
      refine fin _ (cu I3 145 4 (nI (r 4))) ?_ (by unfold rDw; rw [if_neg (by omega), if_neg (by omega), if_neg (by omega), if_neg (by omega)]; exact d2) (fun i j q => cu_o (Or.inl q))
      have z2' := eq_true (z2.mpr hc)
      simp only [f_X9_drawn, nb144, x1, x2, cond_true, oR_eq, oI_eq, zac_zI, Option.bind_some, f1, f2, g1, g2, g3, b2_some, ↓reduceIte, t30, t31, t32, m2, c5, z2', c6, u0, v2]
    · have d2 : YS 145 (rPt r) (cu I3 145 4 (nI (cnt (r 4) 1))) := h3.put
      refine fin _ (cu I3 145 4 (nI (cnt (r 4) 1))) ?_ (by unfold rDw; rw [if_neg (by omega), if_neg (by omega), if_neg (by omega), if_pos hc]; exact d2) (fun i j q => cu_o (Or.inl q))
      have z2' := eq_false (fun q => hc (z2.mp q))
      simp only [f_X9_drawn, nb144, x1, x2, cond_true, oR_eq, oI_eq, zac_zI, Option.bind_some, f1, f2, g1, g2, g3, b2_some, ↓reduceIte, t30, t31, t32, m2, c5, z2', c6, u1, v2]
/-- a drifted day: the row ahead of passing, and the seed -/
noncomputable def rDp (T : Nat → Nat → Nat) (r : Nat → Nat) (sd : Nat) : Nat → Nat := if T 0 2 = 0 then r else if T 0 1 = 0 then r else rDn T r sd
noncomputable def sDp (T : Nat → Nat → Nat) (sd : Nat) : Nat := if T 0 2 = 0 then sd else if T 0 1 = 0 then sd else nx (nx (nx sd))
noncomputable def rDf (T : Nat → Nat → Nat) : Nat → (Nat → Nat) → Nat → Nat → Nat
  | 0, r, _ => r
  | m + 1, r, sd => rDf T m (rDay T (rDp T r sd)) (sDp T sd)
noncomputable def sDf (T : Nat → Nat → Nat) : Nat → Nat → Nat
  | 0, sd => sd
  | m + 1, sd => sDf T m (sDp T sd)
theorem sDf_lt {T : Nat → Nat → Nat} : ∀ m sd, sd < 2147483648 → sDf T m sd < 2147483648 := by
  intro m
  induction m with
  | zero => intro sd h; exact h
  | succ m ih =>
    intro sd h
    simp only [sDf]
    refine ih _ ?_
    unfold sDp
    split
    · exact h
    · split
      · exact h
      · exact nx_lt
theorem rDp_all {T : Nat → Nat → Nat} {r : Nat → Nat} {sd : Nat} (hT : TI T) (hr : rI r) (h0 : r 0 ≤ 9060) (hH : rH (T 0 2) r) : rI (rDp T r sd) ∧ rDp T r sd 0 = r 0 ∧ rDp T r sd 1 = r 1 ∧ rH (T 0 2) (rDp T r sd) := by
  unfold rDp
  split
  · exact ⟨hr, rfl, rfl, hH⟩
  · split
    · exact ⟨hr, rfl, rfl, hH⟩
    · have h1 := hT.2.1
      have h2 := hT.2.2.1
      have a := Nat.mod_lt (nx sd / 65536) (show T 0 2 > 0 by omega)
      have b := Nat.mod_lt (nx (nx sd) / 65536) (show T 0 1 > 0 by omega)
      exact rDw_all hr h0 hH a (by omega) (by omega)
theorem rDf_all {T : Nat → Nat → Nat} (hT : TI T) : ∀ m r sd, rI r → r 0 + m ≤ 9060 → rH (T 0 2) r → rI (rDf T m r sd) ∧ rDf T m r sd 0 = r 0 + m ∧ rDf T m r sd 1 ≤ r 1 + 8 * m ∧ rH (T 0 2) (rDf T m r sd) := by
  intro m
  induction m with
  | zero => intro r sd h _ hH; exact ⟨h, rfl, Nat.le_refl _, hH⟩
  | succ m ih =>
    intro r sd h hb hH
    obtain ⟨a1, a2, a3, a4⟩ := rDp_all (sd := sd) hT h (by omega) hH
    obtain ⟨b1, b2, b3, b4⟩ := rDay_all hT a1 (by omega)
    obtain ⟨d1, d2, d3, d4⟩ := ih (rDay T (rDp T r sd)) (sDp T sd) b1 (by omega) (fun q v h1 h2 h3 => by have := a4 q v h1 h2 h3; have := b4 (29 + (8 * q + v)) (by omega); omega)
    exact ⟨d1, by simp only [rDf]; omega, by simp only [rDf]; omega, d4⟩
theorem X_drift_lp (hB : GB B tw s u) (hT : TI T) (h0 : 0 < T 0 0) {k : Nat} (hk : k ≤ 60) : ∀ m i n r sd I, i + m = k → m < n → XS s r I → rI r → XT tw T I → r 0 + m ≤ 9060 → rH (T 0 2) r → I 1 12 = nI sd → ∃ I', L_X8_drift_25 n 1 (nI k) (nI i) (zI B I) = some (zI B I') ∧ XS s (rDf T m r sd) I' ∧ I' 1 12 = nI (sDf T m sd) ∧ ∀ i j, ¬ ((s ≤ i ∧ i ≤ s + 4) ∨ (i = 1 ∧ j = 12)) → I' i j = I i j := by
  have htw := hB.hw
  have hse := hB.hs
  obtain ⟨x1, x2, x3, x4, x5, -⟩ := hB.hx
  have b1 := hT.2.1
  have b2 := hT.2.2.1
  have z1 := nI_l0 (v := T 0 2) (by omega)
  have z2 := nI_l0 (v := T 0 1) (by omega)
  intro m
  induction m with
  | zero =>
    intro i n r sd I hi hn h hr hX hb hH e1
    obtain ⟨n, rfl⟩ := Nat.exists_eq_succ_of_ne_zero (show n ≠ 0 by omega)
    have c1 : nI k ≤ nI i := (nI_leI (by omega) (by omega)).mpr (by omega)
    refine ⟨I, ?_, h, e1, fun _ _ _ => rfl⟩
    simp only [L_X8_drift_25, if_pos c1]
  | succ m ih =>
    intro i n r sd I hi hn h hr hX hb hH e1
    obtain ⟨n, rfl⟩ := Nat.exists_eq_succ_of_ne_zero (show n ≠ 0 by omega)
    have c1 : ¬ nI k ≤ nI i := fun q => absurd ((nI_leI (by omega) (by omega)).mp q) (by omega)
    obtain ⟨f1, f2, f3, f4⟩ := rDp_all (sd := sd) hT hr (by omega) hH
    have p3 := hX.1.2.2.2.1
    have p1 := hX.1.2.1
    have key : ∃ J, (if T 0 2 = 0 then some (zI B I) else if T 0 1 = 0 then some (zI B I) else f_X8_doByDraws 1 (zI B I)) = some (zI B J) ∧ XS s (rDp T r sd) J ∧ J 1 12 = nI (sDp T sd) ∧ ∀ i j, ¬ ((s ≤ i ∧ i ≤ s + 4) ∨ (i = 1 ∧ j = 12)) → J i j = I i j := by
      unfold rDp sDp
      by_cases k2 : T 0 2 = 0
      · simp only [if_pos k2]
        exact ⟨I, rfl, h, e1, fun _ _ _ => rfl⟩
      · by_cases k1 : T 0 1 = 0
        · simp only [if_neg k2, if_pos k1]
          exact ⟨I, rfl, h, e1, fun _ _ _ => rfl⟩
        · simp only [if_neg k2, if_neg k1]
          exact X_drawn hB hT h hr hX e1 (by omega) (by omega)
    obtain ⟨J, j1, j2, j3, j4⟩ := key
    have hXJ : XT tw T J := hX.fr (a := 1) (b := 1) (I := I) (I' := fun i j => if i = 1 then J i j else I i j) (fun i hi => funext fun j => if_neg (by omega)) (by omega) |>.fr (a := s) (b := s + 4) (fun i hi => funext fun j => by
      by_cases e : i = 1
      · simp only [if_pos e]
      · simp only [if_neg e]; exact j4 i j (by omega)) (by omega)
    obtain ⟨I1, a1, a2, a3, a4⟩ := X_passDay hB.2.2.2.2.2.1 hB.2.2.1 (by omega) j2 f1 hXJ hT h0 (by omega)
    obtain ⟨d1, d2, d3, d4⟩ := rDay_all hT f1 (by omega)
    obtain ⟨I2, g1, g2, g3, g4⟩ := ih (i + 1) n (rDay T (rDp T r sd)) (sDp T sd) I1 (by omega) (by omega) a2 a3 (hXJ.fr a4 (by omega)) (by omega) (fun q v h1 h2 h3 => by have := f4 q v h1 h2 h3; have := d4 (29 + (8 * q + v)) (by omega); omega) (by rw [a4 1 (by omega), j3])
    refine ⟨I2, ?_, g2, g3, fun i j q => by rw [g4 i j q, a4 i (by omega), j4 i j q]⟩
    by_cases k2 : T 0 2 = 0
    · rw [if_pos k2] at j1
      have jj : zI B I = zI B J := Option.some.inj j1
      simp only [L_X8_drift_25, if_neg c1, x1, x2, x3, x4, x5, cond_true, oR_eq, oI_eq, zac_zI, Option.bind_some, p3, z1, if_pos k2]
      rw [jj, a1]
      simp only [Option.bind_some, nI_1, g1]
    · rw [if_neg k2] at j1
      by_cases k1 : T 0 1 = 0
      · rw [if_pos k1] at j1
        have jj : zI B I = zI B J := Option.some.inj j1
        simp only [L_X8_drift_25, if_neg c1, x1, x2, x3, x4, x5, cond_true, oR_eq, oI_eq, zac_zI, Option.bind_some, p3, p1, z1, z2, if_neg k2, if_pos k1]
        rw [jj, a1]
        simp only [Option.bind_some, nI_1, g1]
      · rw [if_neg k1] at j1
        simp only [L_X8_drift_25, if_neg c1, x1, x2, x3, x4, x5, cond_true, oR_eq, oI_eq, zac_zI, Option.bind_some, p3, p1, z1, z2, if_neg k2, if_neg k1, j1, a1, nI_1, g1]
theorem Y_drift_lp (hB : GB B tw s u) (hT : TI T) (h0 : 0 < T 0 0) {k : Nat} (hk : k ≤ 60) : ∀ m i n r sd I, i + m = k → m < n → YS 145 r I → rI r → YT T I → r 0 + m ≤ 9060 → rH (T 0 2) r → I 144 4 = nI sd → ∃ I', L_X9_drift_47 n 144 (nI k) (nI i) (zI B I) = some (zI B I') ∧ YS 145 (rDf T m r sd) I' ∧ I' 144 4 = nI (sDf T m sd) ∧ ∀ i j, ¬ (i = 145 ∨ (i = 144 ∧ j = 4)) → I' i j = I i j := by
  obtain ⟨x1, x2, -, l1, l2, -, -, x8, -⟩ := hB.hy'
  have b1 := hT.2.1
  have b2 := hT.2.2.1
  have z1 := nI_l0 (v := T 0 2) (by omega)
  have z2 := nI_l0 (v := T 0 1) (by omega)
  intro m
  induction m with
  | zero =>
    intro i n r sd I hi hn h hr hX hb hH e1
    obtain ⟨n, rfl⟩ := Nat.exists_eq_succ_of_ne_zero (show n ≠ 0 by omega)
    have c1 : nI k ≤ nI i := (nI_leI (by omega) (by omega)).mpr (by omega)
    refine ⟨I, ?_, h, e1, fun _ _ _ => rfl⟩
    simp only [L_X9_drift_47, if_pos c1]
  | succ m ih =>
    intro i n r sd I hi hn h hr hX hb hH e1
    obtain ⟨n, rfl⟩ := Nat.exists_eq_succ_of_ne_zero (show n ≠ 0 by omega)
    have c1 : ¬ nI k ≤ nI i := fun q => absurd ((nI_leI (by omega) (by omega)).mp q) (by omega)
    obtain ⟨f1, f2, f3, f4⟩ := rDp_all (sd := sd) hT hr (by omega) hH
    have p3 := hX.1.2.2.1
    have p1 := hX.1.2.1
    have key : ∃ J, (if T 0 2 = 0 then some (zI B I) else if T 0 1 = 0 then some (zI B I) else f_X9_drawn 144 (zI B I)) = some (zI B J) ∧ YS 145 (rDp T r sd) J ∧ J 144 4 = nI (sDp T sd) ∧ ∀ i j, ¬ (i = 145 ∨ (i = 144 ∧ j = 4)) → J i j = I i j := by
      unfold rDp sDp
      by_cases k2 : T 0 2 = 0
      · simp only [if_pos k2]
        exact ⟨I, rfl, h, e1, fun _ _ _ => rfl⟩
      · by_cases k1 : T 0 1 = 0
        · simp only [if_neg k2, if_pos k1]
          exact ⟨I, rfl, h, e1, fun _ _ _ => rfl⟩
        · simp only [if_neg k2, if_neg k1]
          exact Y_drawn hB hT h hr hX e1 (by omega) (by omega)
    obtain ⟨J, j1, j2, j3, j4⟩ := key
    have hXJ : YT T J := hX.same ⟨j4 _ _ (by omega), j4 _ _ (by omega), j4 _ _ (by omega), j4 _ _ (by omega), funext fun j => j4 _ j (by omega), funext fun j => j4 _ j (by omega), funext fun j => j4 _ j (by omega), funext fun j => j4 _ j (by omega), funext fun j => j4 _ j (by omega), funext fun j => j4 _ j (by omega)⟩
    obtain ⟨I1, a1, a2, a4⟩ := Y_goOn hB.2.1 x8 (Or.inl rfl) j2 f1 hXJ hT h0 (by omega)
    obtain ⟨d1, d2, d3, d4⟩ := rDay_all hT f1 (by omega)
    obtain ⟨I2, g1, g2, g3, g4⟩ := ih (i + 1) n (rDay T (rDp T r sd)) (sDp T sd) I1 (by omega) (by omega) a2 d1 (hXJ.same (YTs.fr a4 (by omega))) (by omega) (fun q v h1 h2 h3 => by have := f4 q v h1 h2 h3; have := d4 (29 + (8 * q + v)) (by omega); omega) (by rw [a4 144 (by omega), j3])
    refine ⟨I2, ?_, g2, g3, fun i j q => by rw [g4 i j q, a4 i (by omega), j4 i j q]⟩
    by_cases k2 : T 0 2 = 0
    · rw [if_pos k2] at j1
      have jj : zI B I = zI B J := Option.some.inj j1
      simp only [L_X9_drift_47, if_neg c1, x1, x2, cond_true, oR_eq, oI_eq, zac_zI, Option.bind_some, p3, z1, if_pos k2]
      rw [jj, a1]
      simp only [b2_some, nI_1, g1]
    · rw [if_neg k2] at j1
      by_cases k1 : T 0 1 = 0
      · rw [if_pos k1] at j1
        have jj : zI B I = zI B J := Option.some.inj j1
        simp only [L_X9_drift_47, if_neg c1, x1, x2, cond_true, oR_eq, oI_eq, zac_zI, Option.bind_some, p3, p1, z1, z2, if_neg k2, if_pos k1]
        rw [jj, a1]
        simp only [b2_some, nI_1, g1]
      · rw [if_neg k1] at j1
        simp only [L_X9_drift_47, if_neg c1, x1, x2, cond_true, oR_eq, oI_eq, zac_zI, Option.bind_some, p3, p1, z1, z2, if_neg k2, if_neg k1, j1, a1, b2_some, nI_1, g1]
theorem w_drift (h : CR B I c) : W2 B I c (f_X8_drift 1 x (zI B I)) (f_X9_drift 144 x) := by
  have h' := h
  obtain ⟨tw, s, u, T, r, pa, pn, P, kf, K, tl, X, kn, kw, kd, kb, en, ew, el, sd, hB, hT, hN, hP, hI, hX, hK, hBk, hS⟩ := h
  have q1 := X_rfd (x := x) hB hT hN
  have q5 := fun M => Y_btw (x := x) (a := 1) (b := 60) (M := M) (y := 1) (z := 60) rfl rfl (by omega) (by omega)
  obtain ⟨x1, x2, x3, x4, x5, x6, x7, -⟩ := hB.hx
  obtain ⟨y1, y2, y3, y4, y5, -⟩ := hB.hy'
  have hse := hB.hs
  have htw := hB.hw
  have b0 := hT.1.1
  have br := hN.2.2.2.1
  have z0 := nI_z (v := T 0 0) (by omega)
  have z1 : nI (r 0) ≤ 9000 ↔ r 0 ≤ 9000 := nI_leI (b := 9000) (by omega) (by omega)
  have n3 : ¬ (-1000000003 : Int32) = 0 := by decide
  have n4 : ¬ (-1000000004 : Int32) = 0 := by decide
  have n2 : ¬ (-1000000002 : Int32) = 0 := by decide
  rcases Bool.eq_false_or_eq_true (btw x 1 60) with hb | hb
  · rw [hb, ite_t] at q5
    obtain ⟨v, hv1, hv, rfl⟩ := btw_t hb (by omega)
    by_cases hd : T 0 0 = 0
    · have hr : rfd T r (nI v) = -1000000003 := by unfold rfd; rw [hb, if_pos rfl, if_pos hd]
      rw [hr] at q1
      have e5 := hT.2.2.2.1.1
      refine W_no h' (v := -1000000003) ?_ ?_
      · simp only [f_X8_drift, nb1, x1, cond_true, zac_zI, Option.bind_some, q1, if_neg n3]
      · simp only [f_X9_drift, nb144, y1, cond_true, oI_eq, Option.bind_some, q5, if_neg ne10, e5, z0, if_pos hd]
    · by_cases h9 : r 0 ≤ 9000
      · have hr : rfd T r (nI v) = 0 := by unfold rfd; rw [hb, if_pos rfl, if_neg hd, if_pos h9]
        rw [hr] at q1
        obtain ⟨I1, a1, a2, a3, a4, a5, a6⟩ := act hB hT hN hP hI hX hK hBk
        obtain ⟨I2, d1, d2, d4, d3⟩ := X_drift_lp hB hT.1 (by omega) hv v 0 zN r sd I1 (by omega) (by unfold zN; omega) a2 hN.2.2.1 a3.2.2.1 (by omega) hN.2.2.2.2.2 (by rw [a5]; exact hS.2.1)
        have e1 : I2 s 6 = nI (rDf T v r sd 2) := d2.sc (j := 2) (by omega)
        obtain ⟨t2, y2', k2, g2, I3, c1, c2, c3, c4, c5, c6⟩ := a6 I2 d3
        obtain ⟨I4, f1, f2, f4, f3⟩ := Y_drift_lp hB hT.1 (by omega) hv v 0 zN r sd I3 (by omega) (by unfold zN; omega) c2 hN.2.2.1 c3.2.2.2 (by omega) hN.2.2.2.2.2 (by rw [c4]; exact hS.2.2)
        obtain ⟨g1, g3, g4, g5⟩ := rDf_all hT.1 v r sd hN.2.2.1 (by omega) hN.2.2.2.2.2
        have b1 := hN.2.2.2.2.1
        obtain ⟨hC, k4⟩ := c6 I4 (rDf T v r sd) (sDf T v sd) (fun i j q => f3 i j q) d2 f2 ⟨g1, by omega, by omega, g5⟩ ⟨sDf_lt v sd hS.1, by rw [f3 1 12 (by omega), c5, d4], f4⟩
        have e5 := t2.2.2.2.1.1
        have v0 : aI (zI B I2) 145 0 = some (nI (r 0)) := aI_at (B := B) (k := 0) (by omega) (by rw [y4]; omega) (y2' 0 (by omega))
        have v1 : aI (zI B I4) 145 2 = some (nI (rDf T v r sd 2)) := aI_at (B := B) (k := 2) (by omega) (by rw [y4]; omega) (f2 2 (by omega))
        rw [show nI 0 = (0 : Int32) from rfl] at d1 f1
        refine W_mk (v := nI (rDf T v r sd 2)) (I1 := I2) (I2 := I4) ?_ ?_ hC k2 k4
        · simp only [f_X8_drift, nb1, x1, x3, x4, x6, x7, cond_true, oR_eq, oI_eq, zac_zI, Option.bind_some, q1, if_pos, a1, d1, e1]
        · simp only [f_X9_drift, nb144, y1, y2, cond_true, oR_eq, oI_eq, zac_zI, Option.bind_some, q5, if_neg ne10, e5, z0, if_neg hd, v0, z1, if_pos h9, c1, f1, v1]
      · have hr : rfd T r (nI v) = -1000000004 := by unfold rfd; rw [hb, if_pos rfl, if_neg hd, if_neg h9]
        rw [hr] at q1
        have e5 := hT.2.2.2.1.1
        have v0 : aI (zI B I) 145 0 = some (nI (r 0)) := aI_at (B := B) (k := 0) (by omega) (by rw [y4]; omega) (hN.2.1 0 (by omega))
        refine W_no h' (v := -1000000004) ?_ ?_
        · simp only [f_X8_drift, nb1, x1, cond_true, zac_zI, Option.bind_some, q1, if_neg n4]
        · simp only [f_X9_drift, nb144, y1, y2, cond_true, oI_eq, oR_eq, Option.bind_some, q5, if_neg ne10, e5, z0, if_neg hd, v0, z1, if_neg h9]
  · rw [hb, ite_f] at q5
    have hr : rfd T r x = -1000000002 := by unfold rfd; rw [hb]; rfl
    rw [hr] at q1
    refine W_no h' (v := -1000000002) ?_ ?_
    · simp only [f_X8_drift, nb1, x1, cond_true, zac_zI, Option.bind_some, q1, if_neg n2]
    · simp only [f_X9_drift, nb144, y1, cond_true, oI_eq, Option.bind_some, q5, if_pos]
end DRY
