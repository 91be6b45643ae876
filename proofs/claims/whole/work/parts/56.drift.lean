/-! drift -/
def nxI (x : Int32) : Int32 := Int64.toInt32 ((((Int32.toInt64 x) * 1103515245) + 12345) &&& 2147483647)
theorem nx_ex (x : Int32) : ∃ j, j < 2147483648 ∧ nxI x = nI j := by
  unfold nxI
  rw [Int64.toInt32_and]
  obtain ⟨j, h1, h2⟩ := pk_andE (Int64.toInt32 (Int32.toInt64 x * 1103515245 + 12345)) (m := (2147483647 : Int64).toInt32) 31 (by decide)
  exact ⟨j, by omega, h2⟩
noncomputable def nx (sd : Nat) : Nat := Classical.choose (nx_ex (nI sd))
theorem nx_lt {sd : Nat} : nx sd < 2147483648 := (Classical.choose_spec (nx_ex (nI sd))).1
theorem nx_eq {sd : Nat} : nxI (nI sd) = nI (nx sd) := (Classical.choose_spec (nx_ex (nI sd))).2
theorem dv_65 {v : Nat} (h : v < 2147483648) : dv (nI v) 65536 = some (nI (v / 65536)) := by
  rw [show (65536 : Int32) = nI 65536 from rfl]
  exact dv_nI h (by omega) (by omega)
def rDw (T : Nat → Nat → Nat) (r : Nat → Nat) (p w e : Nat) : Nat → Nat := if e = 0 then (if rCan r p w then rSays r p w else r) else if e = 1 then (if 0 < r (13 + w) then rHd r p w 1 else r) else if e = 2 then (if rGoB r p (T 3 (2 * w)) then rGo r p (T 3 (2 * w)) else r) else (if T 4 w ≠ 0 then rPt r else r)
theorem rDw_all {T : Nat → Nat → Nat} {r : Nat → Nat} {np p w e : Nat} (hr : rI r) (h0 : r 0 ≤ 9060) (hH : rH np r) (hp : p < np) (hp5 : p < 5) (hw : w < 8) : rI (rDw T r p w e) ∧ rDw T r p w e 0 = r 0 ∧ rDw T r p w e 1 = r 1 ∧ rH np (rDw T r p w e) := by
  have hb : rB np (r 1) r := ⟨hr, h0, by omega, hH⟩
  have hz : rI r ∧ r 0 = r 0 ∧ r 1 = r 1 ∧ rH np r := ⟨hr, rfl, rfl, hH⟩
  unfold rDw
  split
  · split
    · have := hb.says hp5 hw
      exact ⟨this.1, rSays_0 (by omega), rSays_0 (by omega), this.2.2.2⟩
    · exact hz
  · split
    · split
      · have := hb.hd (v := 1) hp5 hp hw (by omega)
        exact ⟨this.1, rHd_o (by omega) (by omega), rHd_o (by omega) (by omega), this.2.2.2⟩
      · exact hz
    · split
      · split
        · have := hb.go (S := T 3 (2 * w)) hp5
          exact ⟨this.1, rGo_0 (by omega), rGo_0 (by omega), this.2.2.2⟩
        · exact hz
      · split
        · have := hb.pt
          exact ⟨this.1, rPt_o (by omega), rPt_o (by omega), this.2.2.2⟩
        · exact hz
/-- a drawn day's deed: the row behind it -/
noncomputable def rDn (T : Nat → Nat → Nat) (r : Nat → Nat) (sd : Nat) : Nat → Nat := rDw T r (nx sd / 65536 % T 0 2) (nx (nx sd) / 65536 % T 0 1) (nx (nx (nx sd)) / 65536 % 4)
section DRW
variable {B : zM} {tw s u np c sd n : Nat} {T : Nat → Nat → Nat} {r : Nat → Nat} {I : Nat → Nat → Int32} {x : Int32}
theorem X_drawOf (hB : GB B tw s u) (e1 : I 1 12 = nI sd) (hn : 0 < n) (hn2 : n < 1000) : f_X8_drawOf 1 (nI n) (zI B I) = some (nI (nx sd / 65536 % n), zI B (cu I 1 12 (nI (nx sd)))) := by
  obtain ⟨x1, -⟩ := hB.hx
  have c1 : ¬ nI n ≤ 0 := fun q => absurd ((nI_l0 (by omega)).mp q) (by omega)
  have hl := nx_lt (sd := sd)
  have e2 := nx_eq (sd := sd)
  unfold nxI at e2
  have e3 : cu I 1 12 (nI (nx sd)) 1 12 = nI (nx sd) := cu_s
  have d1 : dv (nI (nx sd)) 65536 = some (nI (nx sd / 65536)) := dv_65 hl
  have d2 := rm_nI (a := nx sd / 65536) (b := n) (by omega) (by omega) hn
  have o1 : oI (zI B I) 1 8 13 12 = some (nI sd) := by rw [oI_eq, x1, cond_true, e1]
  have o2 : oI (zI B (cu I 1 12 (nI (nx sd)))) 1 8 13 12 = some (nI (nx sd)) := by rw [oI_eq, x1, cond_true, e3]
  have p1 : pI (zI B I) 1 8 13 12 (nI (nx sd)) = some (zI B (cu I 1 12 (nI (nx sd)))) := by rw [pI_cu, x1, cond_true]
  unfold f_X8_drawOf
  rw [nb1, cond_true, o1, Option.bind_some, e2, p1, Option.bind_some, if_neg c1, o2, Option.bind_some, d1, Option.bind_some, d2, Option.bind_some]
theorem Y_draw (hB : GB B tw s u) (e1 : I 144 4 = nI sd) (hn : 0 < n) (hn2 : n < 1000) : f_X9_draw 144 (nI n) (zI B I) = some (nI (nx sd / 65536 % n), zI B (cu I 144 4 (nI (nx sd)))) := by
  obtain ⟨x1, -⟩ := hB.hy'
  have hl := nx_lt (sd := sd)
  have e2 := nx_eq (sd := sd)
  unfold nxI at e2
  have e3 : cu I 144 4 (nI (nx sd)) 144 4 = nI (nx sd) := cu_s
  have d1 : dv (nI (nx sd)) 65536 = some (nI (nx sd / 65536)) := dv_65 hl
  have d2 := rm_nI (a := nx sd / 65536) (b := n) (by omega) (by omega) hn
  have o1 : oI (zI B I) 144 9 58 4 = some (nI sd) := by rw [oI_eq, x1, cond_true, e1]
  have o2 : oI (zI B (cu I 144 4 (nI (nx sd)))) 144 9 58 4 = some (nI (nx sd)) := by rw [oI_eq, x1, cond_true, e3]
  have p1 : pI (zI B I) 144 9 58 4 (nI (nx sd)) = some (zI B (cu I 144 4 (nI (nx sd)))) := by rw [pI_cu, x1, cond_true]
  unfold f_X9_draw
  rw [nb144, cond_true, o1, Option.bind_some, e2, p1, Option.bind_some, o2, Option.bind_some, d1, Option.bind_some, d2, Option.bind_some]
theorem X_drawn (hB : GB B tw s u) (hT : TI T) (h : XS s r I) (hr : rI r) (hX : XT tw T I) (e1 : I 1 12 = nI sd) (h1 : 0 < T 0 1) (h2 : 0 < T 0 2) : ∃ I', f_X8_doByDraws 1 (zI B I) = some (zI B I') ∧ XS s (rDn T r sd) I' ∧ I' 1 12 = nI (nx (nx (nx sd))) ∧ ∀ i j, ¬ ((s ≤ i ∧ i ≤ s + 4) ∨ (i = 1 ∧ j = 12)) → I' i j = I i j := by
  have htw := hB.hw
  have hse := hB.hs
  have b1 := hT.2.1
  have b2 := hT.2.2.1
  obtain ⟨x1, x2, x3, x4, x5, -⟩ := hB.hx
  obtain ⟨I1, hI1⟩ : ∃ J, J = cu I 1 12 (nI (nx sd)) := ⟨_, rfl⟩
  obtain ⟨I2, hI2⟩ : ∃ J, J = cu I1 1 12 (nI (nx (nx sd))) := ⟨_, rfl⟩
  obtain ⟨I3, hI3⟩ : ∃ J, J = cu I2 1 12 (nI (nx (nx (nx sd)))) := ⟨_, rfl⟩
  have g1 := X_drawOf hB e1 h2 (by omega)
  have g2 := X_drawOf (I := I1) hB (by rw [hI1, cu_s]) h1 (by omega)
  have g3 := X_drawOf (I := I2) (n := 4) hB (by rw [hI2, cu_s]) (by omega) (by omega)
  rw [← hI1] at g1
  rw [← hI2] at g2
  rw [← hI3, show nI 4 = (4 : Int32) from rfl] at g3
  have o3 : ∀ i j, ¬ (i = 1 ∧ j = 12) → I3 i j = I i j := fun i j q => by rw [hI3, cu_o (by omega), hI2, cu_o (by omega), hI1, cu_o (by omega)]
  have k3 : I3 1 12 = nI (nx (nx (nx sd))) := by rw [hI3, cu_s]
  have f1 : I tw 3 = nI (T 0 2) := hX.1.2.2.2.1
  have f2 : I1 tw 1 = nI (T 0 1) := by rw [hI1, cu_o (by omega)]; exact hX.1.2.1
  have h3 : XS s r I3 := h.fp (fun i j q1 q2 => o3 i j (by omega))
  have hX3 : XT tw T I3 := hX.fr (a := 1) (b := 1) (fun i hi => funext fun j => o3 i j (by omega)) (by omega)
  unfold rDn
  generalize hP : nx sd / 65536 % T 0 2 = p at *
  generalize hW : nx (nx sd) / 65536 % T 0 1 = w at *
  generalize hE : nx (nx (nx sd)) / 65536 % 4 = e at *
  have hp : p < T 0 2 := by rw [← hP]; exact Nat.mod_lt _ h2
  have hw : w < T 0 1 := by rw [← hW]; exact Nat.mod_lt _ h1
  have he : e < 4 := by rw [← hE]; exact Nat.mod_lt _ (by omega)
  have hp5 : p < 5 := by omega
  have hw8 : w < 8 := by omega
  clear hP hW hE
  have bl := hr.b hp5 hw8
  have hS0 : T 3 (2 * w) < 1024 := by have := hT.2.2.2.2.2.2.2.1 (2 * w) (by omega); omega
  have hs := hB.2.2.2.2.2.1
  have ht := hB.2.2.1
  have c1 := X_canSay hs h3 hr hp5 hw8
  have l2 : zlI B (s + 2) = 8 := hB.lt.2.2.2.2.2.2.1
  have m2 : mR B s 1 = s + 2 := by simp only [hs]
  have c2 := aI_at (B := B) (by clear hs ht; omega) (by rw [l2]; exact hw8) (h3.le hw8)
  have c3 := X_wayRound (k := 0) ht hX3 hw8 (by clear hs ht; omega)
  rw [show nI 0 = (0 : Int32) from rfl, Nat.add_zero] at c3
  have c4 := X_canGo hs h3 hr hp5 hS0
  have c5 := X_canPoint ht hX3 hT hw8
  have b4 := hT.2.2.2.2.2.1 w
  have z1 := nI_l0 (v := r (13 + w)) (by clear hs ht; omega)
  have z2 := nI_z (v := T 4 w) (by clear hs ht; omega)
  have t00 : ((0 : Int32) = 0) = True := eq_true rfl
  have t01 : ((0 : Int32) = 1) = False := eq_false (by decide)
  have t02 : ((0 : Int32) = 2) = False := eq_false (by decide)
  have t03 : ((0 : Int32) = 3) = False := eq_false (by decide)
  have t10 : ((1 : Int32) = 0) = False := eq_false (by decide)
  have t11 : ((1 : Int32) = 1) = True := eq_true rfl
  have t12 : ((1 : Int32) = 2) = False := eq_false (by decide)
  have t13 : ((1 : Int32) = 3) = False := eq_false (by decide)
  have t20 : ((2 : Int32) = 0) = False := eq_false (by decide)
  have t21 : ((2 : Int32) = 1) = False := eq_false (by decide)
  have t22 : ((2 : Int32) = 2) = True := eq_true rfl
  have t30 : ((3 : Int32) = 0) = False := eq_false (by decide)
  have t31 : ((3 : Int32) = 1) = False := eq_false (by decide)
  have t32 : ((3 : Int32) = 2) = False := eq_false (by decide)
  have t33 : ((3 : Int32) = 3) = True := eq_true rfl
  have t23 : ((2 : Int32) = 3) = False := eq_false (by decide)
  have fin : ∀ (r' : Nat → Nat) (I' : Nat → Nat → Int32), f_X8_doByDraws 1 (zI B I) = some (zI B I') → XS s r' I' → (∀ i j, ¬ (s ≤ i ∧ i ≤ s + 4) → I' i j = I3 i j) → ∃ I', f_X8_doByDraws 1 (zI B I) = some (zI B I') ∧ XS s r' I' ∧ I' 1 12 = nI (nx (nx (nx sd))) ∧ ∀ i j, ¬ ((s ≤ i ∧ i ≤ s + 4) ∨ (i = 1 ∧ j = 12)) → I' i j = I i j := by
    intro r' I' q1 q2 q3
    refine ⟨I', q1, q2, by rw [q3 1 12 (by clear hs ht; omega), k3], fun i j q => by rw [q3 i j (by clear hs ht; omega), o3 i j (by clear hs ht; omega)]⟩
  have ec : e = 0 ∨ e = 1 ∨ e = 2 ∨ e = 3 := by clear hs ht; omega
  rcases ec with rfl | rfl | rfl | rfl
  · rw [show nI 0 = (0 : Int32) from rfl] at g3
    rcases Bool.eq_false_or_eq_true (rCan r p w) with hc | hc
    · rw [hc, ite_t] at c1
      obtain ⟨I', d1, d2, d3⟩ := X_speak hs h3 hr hp5 hw8 hc
      refine fin _ I' ?_ (by unfold rDw; rw [if_pos rfl, hc, if_pos rfl]; exact d2) (fun i j q => by rw [d3 i (by clear hs ht; omega)])
      simp only [f_X8_doByDraws, nb1, x1, x2, x3, x4, x5, cond_true, oR_eq, oI_eq, zac_zI, Option.bind_some, f1, f2, g1, g2, g3, b2_some, ↓reduceIte, t00, t10, c1, d1]
    · rw [hc, ite_f] at c1
      refine fin _ I3 ?_ (by unfold rDw; rw [if_pos rfl, hc]; exact h3) (fun i j q => rfl)
      simp only [f_X8_doByDraws, nb1, x1, x2, x3, x4, x5, cond_true, oR_eq, oI_eq, zac_zI, Option.bind_some, f1, f2, g1, g2, g3, b2_some, ↓reduceIte, t00, t01, t02, t03, c1]
  · rw [show nI 1 = (1 : Int32) from rfl] at g3
    by_cases hc : r (13 + w) = 0
    · refine fin _ I3 ?_ (by unfold rDw; rw [if_neg (by omega), if_pos rfl, if_neg (by clear hs ht; omega)]; exact h3) (fun i j q => rfl)
      have z1' := z1.mpr hc
      have z1' := eq_true z1'
      simp only [f_X8_doByDraws, nb1, x1, x2, x3, x4, x5, cond_true, oR_eq, oI_eq, zac_zI, Option.bind_some, f1, f2, g1, g2, g3, b2_some, ↓reduceIte, t10, t11, t12, t13, m2, c2, z1']
    · obtain ⟨I', d1, d2, d3⟩ := X_store (v := 1) hs h3 hr hp5 hw8 (by clear hs ht; omega)
      rw [show nI 1 = (1 : Int32) from rfl] at d1
      refine fin _ I' ?_ (by unfold rDw; rw [if_neg (by omega), if_pos rfl, if_pos (by clear hs ht; omega)]; exact d2) d3
      have z1' := eq_false (fun q => hc (z1.mp q))
      simp only [f_X8_doByDraws, nb1, x1, x2, x3, x4, x5, cond_true, oR_eq, oI_eq, zac_zI, Option.bind_some, f1, f2, g1, g2, g3, b2_some, ↓reduceIte, t10, t11, m2, c2, z1', d1]
  · rw [show nI 2 = (2 : Int32) from rfl] at g3
    rcases Bool.eq_false_or_eq_true (rGoB r p (T 3 (2 * w))) with hc | hc
    · rw [hc, ite_t] at c4
      obtain ⟨I', d1, d2, -, d3⟩ := X_go hs h3 hr hp5 hS0 hc
      refine fin _ I' ?_ (by unfold rDw; rw [if_neg (by omega), if_neg (by omega), if_pos rfl, hc, if_pos rfl]; exact d2) (fun i j q => by rw [d3 i (by clear hs ht; omega)])
      simp only [f_X8_doByDraws, nb1, x1, x2, x3, x4, x5, cond_true, oR_eq, oI_eq, zac_zI, Option.bind_some, f1, f2, g1, g2, g3, b2_some, ↓reduceIte, t20, t21, t22, t10, c3, c4, d1]
    · rw [hc, ite_f] at c4
      refine fin _ I3 ?_ (by unfold rDw; rw [if_neg (by omega), if_neg (by omega), if_pos rfl, hc]; exact h3) (fun i j q => rfl)
      simp only [f_X8_doByDraws, nb1, x1, x2, x3, x4, x5, cond_true, oR_eq, oI_eq, zac_zI, Option.bind_some, f1, f2, g1, g2, g3, b2_some, ↓reduceIte, t20, t21, t22, t23, t00, c3, c4]
  · rw [show nI 3 = (3 : Int32) from rfl] at g3
    by_cases hc : T 4 w = 0
    · refine fin _ I3 ?_ (by unfold rDw; rw [if_neg (by omega), if_neg (by omega), if_neg (by omega), if_neg (by clear hs ht; omega)]; exact h3) (fun i j q => rfl)
      have z2' := eq_true (z2.mpr hc)
      simp only [f_X8_doByDraws, nb1, x1, x2, x3, x4, x5, cond_true, oR_eq, oI_eq, zac_zI, Option.bind_some, f1, f2, g1, g2, g3, b2_some, ↓reduceIte, t30, t31, t32, t33, c5, z2']
    · obtain ⟨I', d1, d2, d3⟩ := X_gesture hs h3 hr
      refine fin _ I' ?_ (by unfold rDw; rw [if_neg (by omega), if_neg (by omega), if_neg (by omega), if_pos hc]; exact d2) (fun i j q => by rw [d3 i (by clear hs ht; omega)])
      have z2' := eq_false (fun q => hc (z2.mp q))
      simp only [f_X8_doByDraws, nb1, x1, x2, x3, x4, x5, cond_true, oR_eq, oI_eq, zac_zI, Option.bind_some, f1, f2, g1, g2, g3, b2_some, ↓reduceIte, t30, t31, t32, t33, c5, z2', d1]
end DRW
