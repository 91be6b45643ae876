/-! the reference's day -/
theorem rI_go {r : Nat → Nat} {p S : Nat} (hp : p < 5) : ∀ m i r, i + m = 8 → rI r → rI (itr (goS p S) m i r) := by
  intro m
  induction m with
  | zero => intro i r _ h; exact h
  | succ m ih =>
    intro i r hi h
    simp only [itr]
    refine ih _ _ (by omega) ?_
    unfold goS
    split
    · exact h.says hp (by omega)
    · exact h
theorem rI_mR' {T : Nat → Nat → Nat} {r : Nat → Nat} {p w : Nat} (h : rI r) (hp : p < 5) (hw : w < 8) : rI (mR' T r p w) := by
  unfold mR'
  split
  · exact h.says hp hw
  · split
    · exact rI_go (r := r) hp 8 0 r (by omega) h
    · split
      · exact rI_go (r := r) hp 8 0 r (by omega) h
      · split
        · exact h.up (by omega) (by omega) cnt_le
        · exact h
theorem rI_mR {T : Nat → Nat → Nat} {r : Nat → Nat} {n : Nat} (h : rI r) (hT : TI T) (hn : n < T 0 3) : rI (mR' T r (T 6 (4 * n)) (T 6 (4 * n + 1))) := by
  have hN := hT.2.2.2.2.2.2.2.2.1 n hn
  have hp5 := hT.2.2.1
  have hw8 := hT.2.1
  exact rI_mR' h (by omega) (by omega)
theorem rI_rNd {T : Nat → Nat → Nat} {r : Nat → Nat} {n : Nat} (h : rI r) (hT : TI T) (hn : n < T 0 3) : rI (rNd T n r) := by
  have h1 := rI_mR h hT hn
  unfold rNd
  split
  · exact h1.up (by omega) (by omega) cnt_le
  · exact (h1.up (by omega) (by omega) cnt_le).up (by omega) (by omega) cnt_le
def cM (T : Nat → Nat → Nat) (d : Nat) : Nat → Nat → (Nat → Nat) → Nat
  | 0, _, _ => 0
  | m + 1, i, r => (if T 6 (4 * i + 2) = d then (if mB T r (T 6 (4 * i)) (T 6 (4 * i + 1)) then 1 else 0) else 0) + cM T d m (i + 1) (dS T d i r)
section YDY
variable {B : zM} {a p w S n : Nat} {r : Nat → Nat} {T : Nat → Nat → Nat} {I : Nat → Nat → Int32}
theorem Y_person (hy : isY B) (hY : YT T I) (hn : n < T 0 3) (h8 : T 0 3 ≤ 8) : f_X9_person 144 (nI n) (zI B I) = some (nI (T 6 (4 * n))) := by
  have e := (hY.2.2.2.2.2 n hn).1
  simp (disch := omega) only [f_X9_person, show Nat.ble 1 144 = true from rfl, hy, cond_true, oR_eq, Option.bind_some, nl4, pk_mul, aI_eq, if_pos, e]
theorem Y_wordOf (hy : isY B) (hY : YT T I) (hn : n < T 0 3) (h8 : T 0 3 ≤ 8) : f_X9_wordOf 144 (nI n) (zI B I) = some (nI (T 6 (4 * n + 1))) := by
  have e := (hY.2.2.2.2.2 n hn).2.1
  simp (disch := omega) only [f_X9_wordOf, show Nat.ble 1 144 = true from rfl, hy, cond_true, oR_eq, Option.bind_some, nl4, nl1, pk_mul, nI_add, aI_eq, if_pos, e]
theorem Y_dayOf (hy : isY B) (hY : YT T I) (hn : n < T 0 3) (h8 : T 0 3 ≤ 8) : f_X9_dayOf 144 (nI n) (zI B I) = some (nI (T 6 (4 * n + 2))) := by
  have e := (hY.2.2.2.2.2 n hn).2.2.1
  simp (disch := omega) only [f_X9_dayOf, show Nat.ble 1 144 = true from rfl, hy, cond_true, oR_eq, Option.bind_some, nl4, nl2, pk_mul, nI_add, aI_eq, if_pos, e]
theorem Y_worthOf (hy : isY B) (hY : YT T I) (hn : n < T 0 3) (h8 : T 0 3 ≤ 8) : f_X9_worthOf 144 (nI n) (zI B I) = some (nI (T 6 (4 * n + 3))) := by
  have e := (hY.2.2.2.2.2 n hn).2.2.2
  simp (disch := omega) only [f_X9_worthOf, show Nat.ble 1 144 = true from rfl, hy, cond_true, oR_eq, Option.bind_some, nl4, nl3, pk_mul, nI_add, aI_eq, if_pos, e]
theorem Y_meets_st {i m : Nat} (hy : isY B) (ha : isRow B a) (h : YS a r I) (hr : rI r) (hY : YT T I) (hT : TI T) (hp : p < 5) (hw : w < 8) (hi : i < 2) : L_X9_meets_35 (m + 1) 144 a (nI p) (nI w) (nI i) (zI B I) = if rGoB r p (T 3 (2 * w + i)) then (f_X9_goes a (nI p) (nI (T 3 (2 * w + i))) (zI B I)).bind (fun M => some (.inl (1, M))) else L_X9_meets_35 m 144 a (nI p) (nI w) (nI (i + 1)) (zI B I) := by
  have hS := hT.2.2.2.2.2.2.2.1 (2 * w + i) (by omega)
  have e := hY.2.2.1 (2 * w + i) (by omega)
  have c : ¬ (2 : Int32) ≤ nI i := by rw [nl2]; exact fun q => absurd ((nI_leI (by omega) (by omega)).mp q) (by omega)
  simp only [L_X9_meets_35, if_neg c]
  simp (disch := omega) only [oR_eq, hy, cond_true, Option.bind_some, nl2, pk_mul, nI_add, aI_eq, if_pos, e, Y_canGo ha h hr hp (show T 3 (2 * w + i) < 1024 by omega)]
  rcases Bool.eq_false_or_eq_true (rGoB r p (T 3 (2 * w + i))) with hb | hb
  · rw [if_pos hb, if_neg (by decide), if_pos hb]
  · rw [hb, show nI i + 1 = nI (i + 1) from nI_1 i]
    rfl
theorem Y_meets (hy : isY B) (ha : isRow B a) (hx : a = 145 ∨ a = 146) (h : YS a r I) (hr : rI r) (hY : YT T I) (hT : TI T) (hn : n < T 0 3) : ∃ I', f_X9_meets 144 a (nI n) (zI B I) = some (if mB T r (T 6 (4 * n)) (T 6 (4 * n + 1)) then 1 else 0, zI B I') ∧ YS a (mR' T r (T 6 (4 * n)) (T 6 (4 * n + 1))) I' ∧ Fr a a I I' := by
  have hT3 := hT.2.2.2.1
  have hN := hT.2.2.2.2.2.2.2.2.1 n hn
  have hp5 := hT.2.2.1
  have hw8 := hT.2.1
  simp only [f_X9_meets, show Nat.ble 1 144 = true from rfl, ha, hy, zac_zI, cond_true, Y_person hy hY hn hT3, Y_wordOf hy hY hn hT3, Option.bind_some]
  generalize hP : T 6 (4 * n) = p at *
  generalize hW : T 6 (4 * n + 1) = w at *
  have hp : p < 5 := by omega
  have hw : w < 8 := by omega
  have h0 : T 3 (2 * w) < 1024 := by have := hT.2.2.2.2.2.2.2.1 (2 * w) (by omega); omega
  have h1 : T 3 (2 * w + 1) < 1024 := by have := hT.2.2.2.2.2.2.2.1 (2 * w + 1) (by omega); omega
  simp only [Y_canSay ha h hr hp hw, Option.bind_some]
  rcases Bool.eq_false_or_eq_true (rCan r p w) with hc | hc
  · obtain ⟨I1, e1, x1, f1⟩ := Y_says ha h hr hp hw hc
    refine ⟨I1, ?_, by simp only [mR', hc, if_true]; exact x1, f1⟩
    rw [if_pos hc, if_neg (by decide), e1]
    simp only [hc, if_true, Option.bind_some, mB, Bool.true_or]
  · obtain ⟨z, hz⟩ : ∃ z, zN = z + 1 + 1 + 1 := ⟨1099511627773, by decide⟩
    rw [hc]
    simp only [Bool.false_eq_true, if_false, if_true]
    rw [hz, nl0, Y_meets_st hy ha h hr hY hT hp hw (show 0 < 2 by omega), Y_meets_st hy ha h hr hY hT hp hw (show 0 + 1 < 2 by omega)]
    simp only [Nat.add_zero, Nat.zero_add]
    rcases Bool.eq_false_or_eq_true (rGoB r p (T 3 (2 * w))) with g0 | g0
    · obtain ⟨I1, e1, x1, f1⟩ := Y_goes ha h hr hp h0 g0
      refine ⟨I1, ?_, by simp only [mR', hc, g0, if_true, Bool.false_eq_true, if_false]; exact x1, f1⟩
      simp only [g0, if_true, e1, Option.bind_some, bs_inl, mB, hc, Bool.true_or, Bool.or_true]
    · rcases Bool.eq_false_or_eq_true (rGoB r p (T 3 (2 * w + 1))) with g1 | g1
      · obtain ⟨I1, e1, x1, f1⟩ := Y_goes ha h hr hp h1 g1
        refine ⟨I1, ?_, by simp only [mR', hc, g0, g1, if_true, Bool.false_eq_true, if_false]; exact x1, f1⟩
        simp only [g0, g1, if_true, Bool.false_eq_true, if_false, e1, Option.bind_some, bs_inl, mB, hc, Bool.true_or, Bool.or_true]
      · have eL : L_X9_meets_35 (z + 1) 144 a (nI p) (nI w) (nI (1 + 1)) (zI B I) = some (.inr (zI B I)) := by
          simp only [L_X9_meets_35]
          rw [if_pos (by decide)]
        have e4 := hY.2.2.2.1 w hw
        have b4 := hT.2.2.2.2.2.1 w
        simp (disch := omega) only [g0, g1, Bool.false_eq_true, if_false, eL, bs_inr, oR_eq, hy, cond_true, Option.bind_some, aZ_eq, if_pos, e4]
        by_cases c4 : T 4 w = 0
        · refine ⟨I, ?_, by simp only [mR', hc, g0, g1, c4, Bool.false_eq_true, if_false, ne_eq, not_true]; exact h, Fr.rf⟩
          rw [c4, if_pos rfl]
          simp [mB, hc, g0, g1, c4, zb]
          rfl
        · have e5 := h 4 (by omega)
          have hb4 := hr.2.2.2.2.2.2
          have c5 : ¬ nI (T 4 w) = nI 0 := fun q => c4 ((nI_eq (by omega) (by omega)).mp q)
          have x1 := h.put (j := 4) (v := cnt (r 4) 1)
          refine ⟨_, ?_, by simp only [mR', hc, g0, g1, c4, Bool.false_eq_true, if_false, ne_eq, not_false_eq_true, if_true]; exact x1, Fr.up (i := a) (Nat.le_refl _) (Nat.le_refl _)⟩
          have e6 : va_up I a (upd (I a) 4 (nI (cnt (r 4) 1))) 151 w = nI (T 4 w) := by rw [va_up, if_neg (by omega)]; exact e4
          have c6 : T 4 w = 1 := by omega
          rw [if_neg c5]
          simp (disch := omega) only [nl4, aI_eq, ha, if_pos, e5, Option.bind_some, Y_up1, sI_eq, oR_eq, hy, cond_true, aZ_eq, e6, c6]
          simp [mB, hc, g0, g1, c6, zb]
          rfl
theorem Y_goOn_lp (hy : isY B) (ha : isRow B a) (hx : a = 145 ∨ a = 146) (hT : TI T) (h0 : 0 < T 0 0) {d : Nat} : ∀ m i n q r I, i + m = T 0 3 → m < n → YS a r I → rI r → YT T I → r 0 % T 0 0 = d → ∃ I', L_X9_goOn_4 n 144 a (nI q) (nI i) (zI B I) = some (nI (q + cM T d m i r), zI B I') ∧ YS a (itr (dS T d) m i r) I' ∧ Fr a a I I' := by
  intro m
  have hT3 := hT.2.2.2.1
  have hT0 := hT.1
  induction m with
  | zero =>
    intro i n q r I hi hn h hr hY hd
    obtain ⟨n, rfl⟩ := Nat.exists_eq_succ_of_ne_zero (show n ≠ 0 by omega)
    refine ⟨I, ?_, h, Fr.rf⟩
    simp only [Nat.succ_eq_add_one, L_X9_goOn_4, oI_eq, hy, cond_true, Option.bind_some, hY.1.2.2.2]
    rw [if_pos ((nI_leI (by omega) (by omega)).mpr (by omega))]
    rfl
  | succ m ih =>
    intro i n q r I hi hn h hr hY hd
    obtain ⟨n, rfl⟩ := Nat.exists_eq_succ_of_ne_zero (show n ≠ 0 by omega)
    have hin : i < T 0 3 := by omega
    have hc : ¬ nI (T 0 3) ≤ nI i := fun q => absurd ((nI_leI (by omega) (by omega)).mp q) (by omega)
    have hN := hT.2.2.2.2.2.2.2.2.1 i hin
    have e0 := h 0 (by omega)
    have hb0 := hr.2.2.1
    have hdl : d < T 0 0 := by rw [← hd]; exact Nat.mod_lt _ h0
    have erm : rm (nI (r 0)) (nI (T 0 0)) = some (nI d) := by
      unfold rm
      rw [if_neg (by rw [nl0]; exact fun q => absurd ((nI_eq (by omega) (by omega)).mp q) (by omega)), pk_rem (by omega) (by omega) (by omega), hd]
    simp only [Nat.succ_eq_add_one, L_X9_goOn_4, oI_eq, zac_zI, hy, cond_true, Option.bind_some, hY.1.2.2.2, if_neg hc, Y_dayOf hy hY hin hT3]
    rw [nl0]
    simp (disch := omega) only [aI_eq, ha, if_pos, e0, Option.bind_some, hY.1.1, erm, itr, cM, show nI i + 1 = nI (i + 1) from nI_1 i]
    by_cases c : T 6 (4 * i + 2) = d
    · have ed : dS T d i r = rNd T i r := by unfold dS; rw [if_pos c]
      rw [if_pos (by rw [c]), if_pos c, ed]
      obtain ⟨I1, q1, x1, f1⟩ := Y_meets hy ha hx h hr hY hT hin
      have hY1 := hY.same (YTs.fr f1 (by omega))
      have r1 : rI (mR' T r (T 6 (4 * i)) (T 6 (4 * i + 1))) := rI_mR hr hT hin
      have e3 := x1 3 (by omega)
      have b3 := r1.2.2.2.2.2.1
      rw [q1, b2_some]
      rcases Bool.eq_false_or_eq_true (mB T r (T 6 (4 * i)) (T 6 (4 * i + 1))) with hb | hb
      · have e1 := x1 1 (by omega)
        have b1 := r1.2.2.2.1
        have x2 := x1.put (j := 1) (v := cnt (mR' T r (T 6 (4 * i)) (T 6 (4 * i + 1)) 1) 1)
        have x3 := x2.put (j := 3) (v := mR' T r (T 6 (4 * i)) (T 6 (4 * i + 1)) 3)
        have e3' := x2 3 (by omega)
        rw [show va_up (mR' T r (T 6 (4 * i)) (T 6 (4 * i + 1))) 1 (cnt (mR' T r (T 6 (4 * i)) (T 6 (4 * i + 1)) 1) 1) 3 = mR' T r (T 6 (4 * i)) (T 6 (4 * i + 1)) 3 by rw [va_up, if_neg (by omega)]] at e3'
        have ex : va_up (va_up (mR' T r (T 6 (4 * i)) (T 6 (4 * i + 1))) 1 (cnt (mR' T r (T 6 (4 * i)) (T 6 (4 * i + 1)) 1) 1)) 3 (mR' T r (T 6 (4 * i)) (T 6 (4 * i + 1)) 3) = rNd T i r := by
          unfold rNd
          rw [if_pos hb]
          funext k
          by_cases ek : k = 3
          · subst ek; simp [va_up]
          · simp [va_up, ek]
        rw [ex] at x3
        have f3 : Fr a a I1 _ := (Fr.up (i := a) (I := I1) (f := upd (I1 a) 1 (nI (cnt (mR' T r (T 6 (4 * i)) (T 6 (4 * i + 1)) 1) 1))) (Nat.le_refl _) (Nat.le_refl _)).tr (Fr.up (i := a) (f := upd (va_up I1 a (upd (I1 a) 1 (nI (cnt (mR' T r (T 6 (4 * i)) (T 6 (4 * i + 1)) 1) 1))) a) 3 (nI (mR' T r (T 6 (4 * i)) (T 6 (4 * i + 1)) 3))) (Nat.le_refl _) (Nat.le_refl _))
        have hd3 : rNd T i r 0 % T 0 0 = d := by rw [rNd_0]; exact hd
        have rn : rI (rNd T i r) := rI_rNd hr hT hin
        obtain ⟨I2, q2, y2, f2⟩ := ih (i + 1) n (q + 1) (rNd T i r) _ (by omega) (by omega) x3 rn (hY1.same (YTs.fr f3 (by omega))) hd3
        refine ⟨I2, ?_, y2, (f1.tr f3).tr f2⟩
        rw [if_pos hb, if_neg (by decide), if_pos hb]
        rw [nl1, nl3]
        simp (disch := omega) only [aI_eq, ha, if_pos, e1, Option.bind_some, Y_up, sI_eq, e3', cnt0, nI_add]
        rw [q2, Nat.add_assoc]
      · have e2 := x1 2 (by omega)
        have b2' := r1.2.2.2.2.1
        have x2 := x1.put (j := 2) (v := cnt (mR' T r (T 6 (4 * i)) (T 6 (4 * i + 1)) 2) 1)
        have e3' := x2 3 (by omega)
        rw [show va_up (mR' T r (T 6 (4 * i)) (T 6 (4 * i + 1))) 2 (cnt (mR' T r (T 6 (4 * i)) (T 6 (4 * i + 1)) 2) 1) 3 = mR' T r (T 6 (4 * i)) (T 6 (4 * i + 1)) 3 by rw [va_up, if_neg (by omega)]] at e3'
        have x3 := x2.put (j := 3) (v := cnt (mR' T r (T 6 (4 * i)) (T 6 (4 * i + 1)) 3) (T 6 (4 * i + 3)))
        have ex : va_up (va_up (mR' T r (T 6 (4 * i)) (T 6 (4 * i + 1))) 2 (cnt (mR' T r (T 6 (4 * i)) (T 6 (4 * i + 1)) 2) 1)) 3 (cnt (mR' T r (T 6 (4 * i)) (T 6 (4 * i + 1)) 3) (T 6 (4 * i + 3))) = rNd T i r := by
          unfold rNd
          rw [hb, if_neg (by decide)]
        rw [ex] at x3
        have f21 : Fr a a I1 (va_up I1 a (upd (I1 a) 2 (nI (cnt (mR' T r (T 6 (4 * i)) (T 6 (4 * i + 1)) 2) 1)))) := Fr.up (i := a) (Nat.le_refl _) (Nat.le_refl _)
        have hY2 := hY1.same (YTs.fr f21 (by omega))
        have f3 : Fr a a _ _ := f21.tr (Fr.up (i := a) (f := upd (va_up I1 a (upd (I1 a) 2 (nI (cnt (mR' T r (T 6 (4 * i)) (T 6 (4 * i + 1)) 2) 1))) a) 3 (nI (cnt (mR' T r (T 6 (4 * i)) (T 6 (4 * i + 1)) 3) (T 6 (4 * i + 3))))) (Nat.le_refl _) (Nat.le_refl _))
        have hd3 : rNd T i r 0 % T 0 0 = d := by rw [rNd_0]; exact hd
        have rn : rI (rNd T i r) := rI_rNd hr hT hin
        obtain ⟨I2, q2, y2, f2⟩ := ih (i + 1) n q (rNd T i r) _ (by omega) (by omega) x3 rn (hY1.same (YTs.fr f3 (by omega))) hd3
        refine ⟨I2, ?_, y2, (f1.tr f3).tr f2⟩
        rw [hb]
        simp only [Bool.false_eq_true, if_false, if_true]
        rw [nl2, nl3]
        simp (disch := omega) only [aI_eq, ha, if_pos, e2, Option.bind_some, Y_up1, sI_eq, e3', zac_zI, hy, cond_true, Y_worthOf hy hY2 hin hT3, Y_up, nI_add]
        rw [Nat.add_zero, q2, Nat.zero_add]
        rw [if_pos (show (0 : Int32) = nI 0 from rfl)]
    · have ed : dS T d i r = r := by unfold dS; rw [if_neg c]
      rw [if_neg (fun q => c ((nI_eq (by omega) (by omega)).mp q)), if_neg c, ed, Nat.zero_add]
      exact ih (i + 1) n q r I (by omega) (by omega) h hr hY hd
end YDY
