/-! sell -/
def rSl (r : Nat → Nat) (p q w v : Nat) : Nat → Nat := va_up (va_up r (29 + (8 * p + w)) (r (29 + (8 * p + w)) - v)) (29 + (8 * q + w)) (r (29 + (8 * q + w)) + v)
theorem rSl_o {r : Nat → Nat} {p q w v k : Nat} (h1 : k ≠ 29 + (8 * p + w)) (h2 : k ≠ 29 + (8 * q + w)) : rSl r p q w v k = r k := by unfold rSl; rw [va_up, if_neg h2, va_up, if_neg h1]
theorem rSl_p {r : Nat → Nat} {p q w v : Nat} (hn : p ≠ q) : rSl r p q w v (29 + (8 * p + w)) = r (29 + (8 * p + w)) - v := by unfold rSl; rw [va_up, if_neg (by omega), va_up, if_pos rfl]
theorem rSl_q {r : Nat → Nat} {p q w v : Nat} : rSl r p q w v (29 + (8 * q + w)) = r (29 + (8 * q + w)) + v := by unfold rSl; rw [va_up, if_pos rfl]
theorem rSl_sum {r : Nat → Nat} {p q w v : Nat} (hn : p ≠ q) (hp : p < 5) (hq : q < 5) (hv : v ≤ r (29 + (8 * p + w))) : rSl r p q w v (29 + w) + rSl r p q w v (37 + w) + rSl r p q w v (45 + w) + rSl r p q w v (53 + w) + rSl r p q w v (61 + w) = r (29 + w) + r (37 + w) + r (45 + w) + r (53 + w) + r (61 + w) := by
  have h1 := rSl_p (r := r) (p := p) (q := q) (w := w) (v := v) hn
  have h2 := rSl_q (r := r) (p := p) (q := q) (w := w) (v := v)
  have o : ∀ j, j < 5 → j = p ∨ j = q ∨ rSl r p q w v (29 + (8 * j + w)) = r (29 + (8 * j + w)) := fun j hj => by
    by_cases n : j = p
    · exact Or.inl n
    · by_cases n2 : j = q
      · exact Or.inr (Or.inl n2)
      · exact Or.inr (Or.inr (rSl_o (by omega) (by omega)))
  have e0 : 29 + (8 * 0 + w) = 29 + w := by omega
  have e1 : 29 + (8 * 1 + w) = 37 + w := by omega
  have e2 : 29 + (8 * 2 + w) = 45 + w := by omega
  have e3 : 29 + (8 * 3 + w) = 53 + w := by omega
  have e4 : 29 + (8 * 4 + w) = 61 + w := by omega
  have o0 := o 0 (by omega)
  have o1 := o 1 (by omega)
  have o2 := o 2 (by omega)
  have o3 := o 3 (by omega)
  have o4 := o 4 (by omega)
  rw [e0] at o0
  rw [e1] at o1
  rw [e2] at o2
  rw [e3] at o3
  rw [e4] at o4
  clear o
  have cp : p = 0 ∨ p = 1 ∨ p = 2 ∨ p = 3 ∨ p = 4 := by omega
  have cq : q = 0 ∨ q = 1 ∨ q = 2 ∨ q = 3 ∨ q = 4 := by omega
  rcases cp with rfl | rfl | rfl | rfl | rfl <;> rcases cq with rfl | rfl | rfl | rfl | rfl <;> simp only [e0, e1, e2, e3, e4] at h1 h2 hv <;> omega
theorem rB.sl {np c p q w v : Nat} {r : Nat → Nat} (h : rB np c r) (hp : p < 5) (hpn : p < np) (hq : q < 5) (hqn : q < np) (hn : p ≠ q) (hw : w < 8) (hv : v ≤ r (29 + (8 * p + w))) : rB np (c + 1) (rSl r p q w v) := by
  obtain ⟨⟨i1, i2, i3, i4, i5, i6, i7⟩, h2, h3, h4⟩ := h
  refine ⟨⟨fun a ha => ?_, fun a ha => by rw [rSl_o (by omega) (by omega)]; exact i2 a ha, by rw [rSl_o (by omega) (by omega)]; exact i3, by rw [rSl_o (by omega) (by omega)]; exact i4, by rw [rSl_o (by omega) (by omega)]; exact i5, by rw [rSl_o (by omega) (by omega)]; exact i6, by rw [rSl_o (by omega) (by omega)]; exact i7⟩, by rw [rSl_o (by omega) (by omega)]; exact h2, by rw [rSl_o (by omega) (by omega)]; omega, fun j a h5 h6 h7 => by rw [rSl_o (by omega) (by omega)]; exact h4 j a h5 h6 h7⟩
  have e := i1 a ha
  rw [rSl_o (k := 5 + a) (by omega) (by omega), rSl_o (k := 13 + a) (by omega) (by omega)]
  by_cases k : a = w
  · subst k
    have := rSl_sum (r := r) (p := p) (q := q) (w := a) (v := v) hn hp hq hv
    omega
  · rw [rSl_o (k := 29 + a) (by omega) (by omega), rSl_o (k := 37 + a) (by omega) (by omega), rSl_o (k := 45 + a) (by omega) (by omega), rSl_o (k := 53 + a) (by omega) (by omega), rSl_o (k := 61 + a) (by omega) (by omega)]
    exact e
section SEL
variable {B : zM} {c : Nat} {I : Nat → Nat → Int32} {x x2 y z : Int32}
theorem X_addH {s p w v : Nat} {y : Int32} {r : Nat → Nat} (hs : isSt B s) (h : XS s r I) (hp : p < 5) (hw : w < 8) (hy : nI (r (29 + (8 * p + w))) + y = nI v) : ∃ I', f_X5_addHoarded s (nI p) (nI w) y (zI B I) = some (zI B I') ∧ XS s (va_up r (29 + (8 * p + w)) v) I' ∧ ∀ i j, ¬ (s ≤ i ∧ i ≤ s + 4) → I' i j = I i j :=
  ⟨_, X_addHoarded hs h hp hw rfl hy, h.pHo (by clear hs; omega), fun i j q => cu_o (by clear hs; omega)⟩
theorem w_sell (h : CR B I c) : W2 B I c (f_X8_sell 1 x x2 y z (zI B I)) (f_X9_sell 144 x x2 y z) := by
  have h' := h
  obtain ⟨tw, s, u, T, r, pa, pn, P, kf, K, tl, X, kn, kw, kd, kb, en, ew, el, sd, hB, hT, hN, hP, hI, hX, hK, hBk, hS⟩ := h
  have q1 := X_isPerson (x := x) hB hT
  have q2 := fun {J} (hJ : gT tw T J) => Y_isPerson (x := x) hB hJ
  have q6 := X_isPerson (x := x2) hB hT
  have q7 := fun {J} (hJ : gT tw T J) => Y_isPerson (x := x2) hB hJ
  have q3 := X_isWord (x := y) hB hT
  have q4 := fun {J} (hJ : gT tw T J) => Y_isWord (x := y) hB hJ
  have q5 := fun M => Y_btw (x := z) (a := 1) (b := 99) (M := M) (y := 1) (z := 99) rfl rfl (by omega) (by omega)
  have b1 := hT.1.2.1
  have b2 := hT.1.2.2.1
  have hse := hB.hs
  have htw := hB.hw
  rcases Bool.eq_false_or_eq_true (wd x (T 0 2)) with hw | hw
  · rw [hw, ite_t] at q1
    simp only [hw, if_true] at q2
    obtain ⟨p, hp1, rfl⟩ := wd_t hw (by omega)
    rcases Bool.eq_false_or_eq_true (wd x2 (T 0 2)) with hv | hv
    · rw [hv, ite_t] at q6
      simp only [hv, if_true] at q7
      obtain ⟨q, hp2, rfl⟩ := wd_t hv (by omega)
      have z0 : nI p = nI q ↔ p = q := nI_eq (by omega) (by omega)
      by_cases hpq : p = q
      · have q2' := q2 hT
        have q7' := q7 hT
        have z0' := z0.mpr hpq
        obtain ⟨hx, hy, ht, m1, -, hs, m3, -⟩ := hB
        refine W_no h' (v := -1000000001) ?_ ?_
        · simp only [f_X8_sell, nb1, hx, cond_true, zac_zI, Option.bind_some, q1, q6, if_neg ne10, if_pos z0']
        · simp only [f_X9_sell, nb144, hy, cond_true, zac_zI, Option.bind_some, q2', q7', if_neg ne10, if_pos z0']
      · have z0' : ¬ nI p = nI q := fun e => hpq (z0.mp e)
        rcases Bool.eq_false_or_eq_true (wd y (T 0 1)) with hw' | hw'
        · rw [hw', ite_t] at q3
          simp only [hw', if_true] at q4
          obtain ⟨w, hw1, rfl⟩ := wd_t hw' (by omega)
          have hw8 : w < 8 := by omega
          have hp5 : p < 5 := by omega
          have hq5 : q < 5 := by omega
          have hr := hN.2.2.1
          rcases Bool.eq_false_or_eq_true (btw z 1 99) with hb | hb
          · rw [hb, ite_t] at q5
            obtain ⟨v, hv1, hv9, rfl⟩ := btw_t hb (by omega)
            have c1' : ¬ nI v < 1 := fun q => absurd ((nI_ltI (b := 1) (by omega) (by omega)).mp q) (by omega)
            have c2' : nI v ≤ 99 := (nI_leI (b := 99) (by omega) (by omega)).mpr hv9
            have bl := hr.b hp5 hw8
            have bl2 := hr.b hq5 hw8
            have z1 : nI v ≤ nI (r (29 + (8 * p + w))) ↔ v ≤ r (29 + (8 * p + w)) := nI_leI (by omega) (by omega)
            have l6 : zlI B 145 = 69 := hB.lt.2.2.2.2.2.1
            have l7 : zln B 10 145 = 69 := by
              have hy := hB.2.1
              simp only [hy]
            have p0 : (29 : Int32) + 8 * nI p + nI w = nI (29 + (8 * p + w)) := by rw [nl29, nl8, pk_mul, nI_add, nI_add, Nat.add_assoc]
            have p1 : (29 : Int32) + 8 * nI q + nI w = nI (29 + (8 * q + w)) := by rw [nl29, nl8, pk_mul, nI_add, nI_add, Nat.add_assoc]
            have r1 := X_hoardedBy hB.2.2.2.2.2.1 hN.1 hp5 hw8
            by_cases hc : v ≤ r (29 + (8 * p + w))
            · obtain ⟨I1, a1, a2, a3, a4, a5, a6⟩ := act hB hT hN hP hI hX hK hBk
              have sb : nI (r (29 + (8 * p + w))) - nI v = nI (r (29 + (8 * p + w)) - v) := nI_sb hc
              obtain ⟨J1, g1, g2, g3⟩ := X_addH (y := -nI v) (v := r (29 + (8 * p + w)) - v) hB.2.2.2.2.2.1 a2 hp5 hw8 (by rw [← Int32.sub_eq_add_neg, sb])
              have eq1 : va_up r (29 + (8 * p + w)) (r (29 + (8 * p + w)) - v) (29 + (8 * q + w)) = r (29 + (8 * q + w)) := by rw [va_up, if_neg (by omega)]
              obtain ⟨I2, d1, d2, d3⟩ := X_addH (y := nI v) (v := r (29 + (8 * q + w)) + v) hB.2.2.2.2.2.1 g2 hq5 hw8 (by rw [eq1, nI_add])
              have d2 : XS s (rSl r p q w v) I2 := d2
              have e1 := X_hoardedBy hB.2.2.2.2.2.1 d2 hq5 hw8
              obtain ⟨t2, y2, k2, g2', I3, c1, c2, c3, c4, c5, c6⟩ := a6 I2 (fun i j q => by rw [d3 i j (by omega), g3 i j (by omega)])
              obtain ⟨J3, hJ3⟩ : ∃ J, J = cu I3 145 (29 + (8 * p + w)) (nI (r (29 + (8 * p + w)) - v)) := ⟨_, rfl⟩
              obtain ⟨I4, hI4⟩ : ∃ J, J = cu J3 145 (29 + (8 * q + w)) (nI (r (29 + (8 * q + w)) + v)) := ⟨_, rfl⟩
              have f2 : YS 145 (rSl r p q w v) I4 := by rw [hI4, hJ3]; exact (c2.put (j := 29 + (8 * p + w)) (v := r (29 + (8 * p + w)) - v)).put (j := 29 + (8 * q + w)) (v := r (29 + (8 * q + w)) + v)
              have f3 : ∀ i j, i ≠ 145 → I4 i j = I3 i j := fun i j q => by rw [hI4, cu_o (Or.inl q), hJ3, cu_o (Or.inl q)]
              obtain ⟨hC, k4⟩ := c6 I4 (rSl r p q w v) sd (fun i j q => f3 i j (by omega)) d2 f2 (hN.2.2.sl hp5 hp1 hq5 hp2 hpq hw8 hc) ⟨hS.1, by rw [f3 1 12 (by omega), c5, d3 1 12 (by omega), g3 1 12 (by omega), a5]; exact hS.2.1, by rw [f3 144 4 (by omega), c4]; exact hS.2.2⟩
              have v0 := aI_at (B := B) (by omega) (by rw [l6]; omega) (y2 (29 + (8 * p + w)) (by omega))
              have v1 := aI_at (B := B) (by omega) (by rw [l6]; omega) (c2 (29 + (8 * p + w)) (by omega))
              have v2 : sI (zI B I3) 145 (nI (29 + (8 * p + w))) (nI (r (29 + (8 * p + w)) - v)) = some (zI B J3) := by rw [sI_cu (by omega) (by rw [l7]; omega), hJ3]
              have v3 := aI_at (B := B) (I := J3) (i := 145) (k := 29 + (8 * q + w)) (v := nI (r (29 + (8 * q + w)))) (by omega) (by rw [l6]; omega) (by rw [hJ3, cu_o (by omega)]; exact c2 (29 + (8 * q + w)) (by omega))
              have v4 : sI (zI B J3) 145 (nI (29 + (8 * q + w))) (nI (r (29 + (8 * q + w)) + v)) = some (zI B I4) := by rw [sI_cu (by omega) (by rw [l7]; omega), hI4]
              have v5 := aI_at (B := B) (I := I4) (i := 145) (k := 29 + (8 * q + w)) (v := nI (r (29 + (8 * q + w)) + v)) (by omega) (by rw [l6]; omega) (by rw [hI4, cu_s])
              rw [rSl_q] at e1
              have q2' := q2 t2
              have q4' := q4 t2
              have q7' := q7 t2
              refine W_mk (v := nI (r (29 + (8 * q + w)) + v)) (I1 := I2) (I2 := I4) ?_ ?_ hC k2 k4
              · obtain ⟨hx, -, ht, m1, -, hs, m3, -⟩ := hB
                simp only [f_X8_sell, nb1, hx, hs, m3, cond_true, oR_eq, oI_eq, zac_zI, Option.bind_some, q1, q3, q6, if_neg ne10, if_neg z0', if_neg c1', if_pos c2', r1, z1, if_pos hc, a1, g1, d1, e1]
              · obtain ⟨-, hy, -⟩ := hB
                simp only [f_X9_sell, nb144, hy, cond_true, oR_eq, zac_zI, Option.bind_some, q2', q4', q7', if_neg ne10, if_neg z0', q5, p0, p1, v0, z1, if_pos hc, c1, v1, sb, v2, v3, nI_add, v4, v5]
            · have v0 := aI_at (B := B) (by omega) (by rw [l6]; omega) (hN.2.1 (29 + (8 * p + w)) (by omega))
              have q2' := q2 hT
              have q4' := q4 hT
              have q7' := q7 hT
              obtain ⟨hx, hy, ht, m1, -, hs, m3, -⟩ := hB
              refine W_no h' (v := -1000000003) ?_ ?_
              · simp only [f_X8_sell, nb1, hx, hs, m3, cond_true, oR_eq, oI_eq, zac_zI, Option.bind_some, q1, q3, q6, if_neg ne10, if_neg z0', if_neg c1', if_pos c2', r1, z1, if_neg hc]
              · simp only [f_X9_sell, nb144, hy, cond_true, oR_eq, zac_zI, Option.bind_some, q2', q4', q7', if_neg ne10, if_neg z0', q5, p0, v0, z1, if_neg hc]
          · rw [hb, ite_f] at q5
            have q2' := q2 hT
            have q4' := q4 hT
            have q7' := q7 hT
            have hbn := btw_n hb (by omega) (by omega)
            obtain ⟨hx, hy, ht, m1, -, hs, m3, -⟩ := hB
            refine W_no h' (v := -1000000002) ?_ ?_
            · rcases hbn with h1 | ⟨h1, h2, -⟩
              · have h1 : z < 1 := h1
                simp only [f_X8_sell, nb1, hx, cond_true, zac_zI, Option.bind_some, q1, q3, q6, if_neg ne10, if_neg z0', if_pos h1]
              · have h1 : ¬ z < 1 := h1
                have h2 : ¬ z ≤ 99 := h2
                simp only [f_X8_sell, nb1, hx, cond_true, zac_zI, Option.bind_some, q1, q3, q6, if_neg ne10, if_neg z0', if_neg h1, if_neg h2]
            · simp only [f_X9_sell, nb144, hy, cond_true, zac_zI, Option.bind_some, q2', q4', q7', if_neg ne10, if_neg z0', q5, if_pos]
        · rw [hw', ite_f] at q3
          simp only [hw', Bool.false_eq_true, if_false] at q4
          have q2' := q2 hT
          have q4' := q4 hT
          have q7' := q7 hT
          obtain ⟨hx, hy, ht, m1, -, hs, m3, -⟩ := hB
          refine W_no h' (v := -1000000001) ?_ ?_
          · simp only [f_X8_sell, nb1, hx, cond_true, zac_zI, Option.bind_some, q1, q3, q6, if_neg ne10, if_neg z0', if_pos]
          · simp only [f_X9_sell, nb144, hy, cond_true, zac_zI, Option.bind_some, q2', q4', q7', if_neg ne10, if_neg z0', if_pos]
    · rw [hv, ite_f] at q6
      simp only [hv, Bool.false_eq_true, if_false] at q7
      have q2' := q2 hT
      have q7' := q7 hT
      obtain ⟨hx, hy, ht, m1, -, hs, m3, -⟩ := hB
      refine W_no h' (v := -1000000001) ?_ ?_
      · simp only [f_X8_sell, nb1, hx, cond_true, zac_zI, Option.bind_some, q1, q6, if_neg ne10, if_pos]
      · simp only [f_X9_sell, nb144, hy, cond_true, zac_zI, Option.bind_some, q2', q7', if_neg ne10, if_pos]
  · rw [hw, ite_f] at q1
    simp only [hw, Bool.false_eq_true, if_false] at q2
    have q2' := q2 hT
    obtain ⟨hx, hy, ht, m1, -, hs, m3, -⟩ := hB
    refine W_no h' (v := -1000000001) ?_ ?_
    · simp only [f_X8_sell, nb1, hx, cond_true, zac_zI, Option.bind_some, q1, if_pos]
    · simp only [f_X9_sell, nb144, hy, cond_true, zac_zI, Option.bind_some, q2', if_pos]
end SEL
