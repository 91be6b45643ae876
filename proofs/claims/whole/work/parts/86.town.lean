/-! town -/
def bR (B : zM) (a : Nat) (f : Nat → Nat) : zM := (B.1, B.2.1, B.2.2.1, va_up (mR B) a f)
theorem pR_eq {B : zM} {I : Nat → Nat → Int32} {i ci n k r : Nat} : pR (zI B I) i ci n k r = bif zac B i ci n && Nat.ble 1 r then some (zI (bR B i (va_up (mR B i) k r)) I) else none := rfl
theorem mR_bR {B : zM} {a i : Nat} {f : Nat → Nat} (h : i ≠ a) : mR (bR B a f) i = mR B i := by
  show va_up (mR B) a f i = mR B i
  rw [va_up, if_neg h]
theorem mR_bRs {B : zM} {a : Nat} {f : Nat → Nat} : mR (bR B a f) a = f := by
  show va_up (mR B) a f a = f
  rw [va_up, if_pos rfl]
theorem zlI_bR {B : zM} {i : Nat} {f : Nat → Nat} : zlI (bR B 1 f) i = zlI B i := by
  unfold zlI
  rw [mR_bR (show 1002 ≠ 1 by decide)]
  rfl
theorem zac_bR {B : zM} {i ci n a : Nat} {f : Nat → Nat} : zac (bR B a f) i ci n = zac B i ci n := rfl
theorem zln_bR {B : zM} {i k a : Nat} {f : Nat → Nat} : zln (bR B a f) k i = zln B k i := rfl
theorem aN_bR {B : zM} {i : Nat} {f : Nat → Nat} {I : Nat → Nat → Int32} : aN (zI (bR B 1 f) I) i = aN (zI B I) i := by
  unfold aN
  rw [zlI_zI, zlI_zI, zlI_bR]
  rfl
theorem aQ_bR {B : zM} {i k : Nat} {x : Int32} {f : Nat → Nat} {I : Nat → Nat → Int32} (h : i ≠ 1) : aQ (zI (bR B 1 f) I) i k x = aQ (zI B I) i k x := by
  unfold aQ
  rw [mR_zI, mR_zI, mR_bR h]
  rfl
theorem isSt_bR {B : zM} {s : Nat} {f : Nat → Nat} (hx : s ≠ 1) (h : isSt B s) : isSt (bR B 1 f) s := by
  unfold isSt at h ⊢
  simp only [mR_bR hx, zlI_bR, zac_bR, zln_bR, aN_bR]
  exact h
theorem isTw_bR {B : zM} {t : Nat} {f : Nat → Nat} (hx : t ≠ 1) (h : isTw B t) : isTw (bR B 1 f) t := by
  unfold isTw at h ⊢
  simp only [mR_bR hx, zlI_bR, zac_bR, zln_bR, aN_bR]
  exact h
def bSw (B : zM) (t w : Nat) : zM := bR (bR B 1 (va_up (mR B 1) 1 t)) 1 (va_up (va_up (mR B 1) 1 t) 2 w)
theorem bSw_1 {B : zM} {t w k : Nat} (h1 : k ≠ 1) (h2 : k ≠ 2) : mR (bSw B t w) 1 k = mR B 1 k := by
  unfold bSw
  rw [mR_bRs, va_up, if_neg h2, va_up, if_neg h1]
theorem isX_sw {B : zM} {t w : Nat} (h : isX B) : isX (bSw B t w) := by
  unfold isX at h ⊢
  rw [bSw_1 (k := 0) (by decide) (by decide), bSw_1 (k := 5) (by decide) (by decide), bSw_1 (k := 6) (by decide) (by decide), bSw_1 (k := 7) (by decide) (by decide), bSw_1 (k := 8) (by decide) (by decide), bSw_1 (k := 9) (by decide) (by decide), bSw_1 (k := 10) (by decide) (by decide), bSw_1 (k := 11) (by decide) (by decide)]
  unfold bSw
  simp (disch := decide) only [mR_bR, zlI_bR, zac_bR, zln_bR]
  exact h
theorem isY_sw {B : zM} {t w : Nat} (h : isY B) : isY (bSw B t w) := by
  unfold isY at h ⊢
  unfold bSw
  simp (disch := decide) only [mR_bR, zlI_bR, zac_bR, zln_bR]
  exact h
theorem GB.sw {B : zM} {tw s u : Nat} (h : GB B tw s u) : GB (bSw B (17 - tw) tw) (17 - tw) s u := by
  obtain ⟨hx, hy, ht, m1, htw, hs, m3, hs2, hu, m4, hu2, hP, hQ, i1, i2, q1, q2, r1, r2, ht2, m2⟩ := h
  have b1 : mR (bSw B (17 - tw) tw) 1 1 = 17 - tw := by unfold bSw; rw [mR_bRs, va_up, if_neg (by decide), va_up, if_pos rfl]
  have b2 : mR (bSw B (17 - tw) tw) 1 2 = tw := by unfold bSw; rw [mR_bRs, va_up, if_pos rfl]
  have w1 : 17 - (17 - tw) = tw := by rcases htw with rfl | rfl <;> rfl
  have t1 : 17 - tw ≠ 1 := by rcases htw with rfl | rfl <;> decide
  have t2 : tw ≠ 1 := by rcases htw with rfl | rfl <;> decide
  refine ⟨isX_sw hx, isY_sw hy, isTw_bR t1 (isTw_bR t1 ht2), b1, by rcases htw with rfl | rfl <;> decide, isSt_bR (by rw [hs2]; decide) (isSt_bR (by rw [hs2]; decide) hs), by rw [bSw_1 (by decide) (by decide)]; exact m3, hs2, isSt_bR (by rw [hu2]; decide) (isSt_bR (by rw [hu2]; decide) hu), by rw [bSw_1 (by decide) (by decide)]; exact m4, hu2, fun j hj => isSt_bR (by clear hx hy ht hs hu hP hQ i1 i2 q1 q2 ht2; omega) (isSt_bR (by clear hx hy ht hs hu hP hQ i1 i2 q1 q2 ht2; omega) (hP j hj)), fun I j hj => ?_, isSt_bR (by decide) (isSt_bR (by decide) i1), isSt_bR (by decide) (isSt_bR (by decide) i2), fun I => ?_, fun I => ?_, ?_, ?_, by rw [w1]; exact isTw_bR t2 (isTw_bR t2 ht), by rw [w1]; exact b2⟩
  · unfold bSw; rw [aQ_bR (by decide), aQ_bR (by decide)]; exact hQ I j hj
  · unfold bSw; rw [aQ_bR (by decide), aQ_bR (by decide)]; exact q1 I
  · unfold bSw; rw [aQ_bR (by decide), aQ_bR (by decide)]; exact q2 I
  · unfold bSw; rw [mR_bR (by decide), mR_bR (by decide)]; exact r1
  · unfold bSw; rw [mR_bR (by decide), mR_bR (by decide)]; exact r2
section TWN
variable {B : zM} {tw s u t tl a lo n c : Nat} {X : Nat → Nat} {D : Nat → Nat → Nat} {I : Nat → Nat → Int32} {r : Nat → Nat}
def BR (I : Nat → Nat → Int32) : Prop := ∀ p, p < 5 → I 160 p = 0 ∨ I 160 p = 1
theorem GB.bk (h : GB B tw s u) : mR B 1 9 = 127 ∧ zac B 127 0 3 = true := by
  have hx := h.1
  exact ⟨by simp only [hx], by simp only [hx]⟩
theorem X_91 (hB : GB B tw s u) : L_X8_town_91 zN 1 (nI 0) (zI B I) = some (zI B (cu (cu I 132 2 0) 138 2 0)) := by
  obtain ⟨a1, a2, a3, -, a5, -⟩ := hB.im (i := 0) (by omega)
  obtain ⟨-, -, b3, -, b5, -⟩ := hB.im (i := 1) (by omega)
  obtain ⟨z, hz⟩ : ∃ z, zN = z + 1 + 1 + 1 := ⟨1099511627773, by decide⟩
  have c0 : ¬ (2 : Int32) ≤ nI 0 := by decide
  have c1 : ¬ (2 : Int32) ≤ nI 1 := by decide
  have c2 : (2 : Int32) ≤ nI 2 := by decide
  rw [hz, L_X8_town_91, if_neg c0]
  simp only [oR_eq, a2, a1, cond_true, Option.bind_some, a3, pZ_cu (Or.inl rfl), a5, Nat.mul_zero, Nat.add_zero]
  rw [show nI 0 + 1 = nI 1 from rfl, L_X8_town_91, if_neg c1]
  simp only [oR_eq, a2, a1, cond_true, Option.bind_some, b3, pZ_cu (Or.inl rfl), b5, Nat.mul_one]
  rw [show nI 1 + 1 = nI 2 from rfl, L_X8_town_91, if_pos c2]
/-- the town, told to the class -/
theorem X_town (hB : GB B tw s u) (hT : TXt tl X I) (h : XS s r I) :
    (∃ q I1, (pL X tl tl D0 (sk X tl 0)).1 = some q ∧ f_X8_town 1 (zI B I) = some ((-10) - nI q.1, zI B I1) ∧ I1 2 1 = 0 ∧ I1 2 3 = nI q.2 ∧ ∀ i j, ¬ (i = 2 ∨ (17 - tw ≤ i ∧ i ≤ 17 - tw + 8)) → I1 i j = I i j) ∨
    (∃ D I1, (pL X tl tl D0 (sk X tl 0)).1 = none ∧ (pL X tl tl D0 (sk X tl 0)).2 = D ∧ SD D ∧ f_X8_town 1 (zI B I) = some (nI (D 0 1), zI (bSw B (17 - tw) tw) I1) ∧ XD (17 - tw) D I1 ∧ XS s (rBeg D) I1 ∧ I1 2 1 = 0 ∧ I1 2 3 = -1 ∧ I1 32 2 = 0 ∧ I1 123 3 = 0 ∧ I1 127 2 = 0 ∧ I1 132 2 = 0 ∧ I1 138 2 = 0 ∧ ∀ i j, ¬ (i = 2 ∨ (17 - tw ≤ i ∧ i ≤ 17 - tw + 8) ∨ (s ≤ i ∧ i ≤ s + 4) ∨ (i = 32 ∧ j = 2) ∨ (i = 123 ∧ j = 3) ∨ (i = 127 ∧ j = 2) ∨ ((i = 132 ∨ i = 138) ∧ j = 2)) → I1 i j = I i j) := by
  have hB2 := hB.sw
  have htw := hB.hw
  have hs2 := hB.hs
  obtain ⟨x1, x2, x3, x4, x5, x6, x7, x8, x9, -⟩ := hB.hx
  obtain ⟨k1, k2, -⟩ := hB.tx
  have m2 : mR B 1 2 = 17 - tw := hB.2.2.2.2.2.2.2.2.2.2.2.2.2.2.2.2.2.2.2.2
  have ht : isTw B (17 - tw) := hB.2.2.2.2.2.2.2.2.2.2.2.2.2.2.2.2.2.2.2.1
  have hs' : isSt (bSw B (17 - tw) tw) s := hB2.2.2.2.2.2.1
  have ht' : isTw (bSw B (17 - tw) tw) (17 - tw) := hB2.2.2.1
  have t0 : Nat.ble 1 tw = true := hB.tl.2.2.2.2.2.2.2.2
  have t1 := (TWf ht).1
  obtain ⟨b, I1, a1, a2, a3, a4⟩ := X_ri hB ht (by clear ht ht' hs' hB2; omega) hT
  obtain ⟨y1, y2, y3, y4, y5, y6, y7, -⟩ := hB2.hx
  obtain ⟨z1, z2, -⟩ := hB2.ks
  obtain ⟨z3, z4⟩ := hB2.bk
  have h91 := fun I => X_91 (I := I) hB2
  clear ht
  obtain ⟨J1, hJ⟩ : ∃ J, J = cu I1 2 1 0 := ⟨_, rfl⟩
  have oJ : ∀ i j, ¬ (i = 2 ∧ j = 1) → J1 i j = I1 i j := fun i j q => by rw [hJ]; exact cu_o (by clear ht' hs' hB2; omega)
  have j21 : J1 2 1 = 0 := by rw [hJ, cu_s]
  cases hP : (pL X tl tl D0 (sk X tl 0)).1 with
  | some q =>
    rw [hP] at a2
    obtain ⟨⟨e2, e3, q1, q4⟩, -⟩ := a2
    have f2 : J1 2 2 = nI q.1 := by rw [oJ _ _ (by clear ht' hs' hB2; omega)]; exact e2
    have f0 : ¬ nI q.1 = 0 := fun e => absurd ((nI_z (by clear ht' hs' hB2; omega)).mp e) (by clear ht' hs' hB2; omega)
    refine Or.inl ⟨q, J1, rfl, ?_, j21, by rw [oJ _ _ (by clear ht' hs' hB2; omega)]; exact e3, fun i j qq => by rw [oJ i j (by clear ht' hs' hB2; omega), a4 i j (by clear ht' hs' hB2; omega)]⟩
    clear ht' hs' hB2
    simp only [f_X8_town, f_X6_empty, nb1, show Nat.ble 1 2 = true from rfl, x1, k1, k2, m2, oR_eq, oI_eq, pI_cu, zac_zI, cond_true, Option.bind_some, a1, ← hJ, f2, if_neg f0]
  | none =>
    rw [hP] at a2
    obtain ⟨hS, hX⟩ := a3 hP
    obtain ⟨⟨e2, e3⟩, -⟩ := a2
    have f2 : J1 2 2 = 0 := by rw [oJ _ _ (by clear ht' hs' hB2; omega)]; exact e2
    generalize hD : (pL X tl tl D0 (sk X tl 0)).2 = D at *
    have hXJ : XD (17 - tw) D J1 := hX.fr (by clear ht' hs' hB2; omega) (fun i j q => oJ i j (by clear ht' hs' hB2; omega))
    have hXS : XS s r J1 := h.fp (fun i j p1 p2 => by rw [oJ i j (by clear ht' hs' hB2; omega), a4 i j (by clear ht' hs' hB2; omega)])
    obtain ⟨J2, b1, b2, b3⟩ := X_begin hs' ht' (by clear ht' hs' hB2; omega) hS.1.2.1 hXJ.1.1.2.1 hXJ.2 hXS
    obtain ⟨J3, h3⟩ : ∃ J, J = cu (cu (cu (cu (cu J2 32 2 0) 123 3 0) 127 2 0) 132 2 0) 138 2 0 := ⟨_, rfl⟩
    clear ht' hs' hB2
    have o3 : ∀ i j, ¬ ((i = 32 ∧ j = 2) ∨ (i = 123 ∧ j = 3) ∨ (i = 127 ∧ j = 2) ∨ ((i = 132 ∨ i = 138) ∧ j = 2)) → J3 i j = J2 i j := fun i j q => by rw [h3, cu_o (by omega), cu_o (by omega), cu_o (by omega), cu_o (by omega), cu_o (by omega)]
    have hX3 : XD (17 - tw) D J3 := by
      obtain ⟨⟨⟨e0, e1, e2, e3, e4, e5, e6⟩, g2, g3, g4⟩, g7⟩ := hXJ
      have o : ∀ i j, 17 - tw ≤ i → i ≤ 17 - tw + 8 → J3 i j = J1 i j := fun i j p1 p2 => by rw [o3 i j (by omega), b3 i j (by omega)]
      refine ⟨⟨⟨?_, ?_, ?_, ?_, ?_, ?_, ?_⟩, fun w hw => ?_, fun k hk => ?_, fun n hn => ?_⟩, fun w hw => ?_⟩
      · rw [o _ _ (by omega) (by omega)]; exact e0
      · rw [o _ _ (by omega) (by omega)]; exact e1
      · rw [o _ _ (by omega) (by omega)]; exact e2
      · rw [o _ _ (by omega) (by omega)]; exact e3
      · rw [o _ _ (by omega) (by omega)]; exact e4
      · rw [o _ _ (by omega) (by omega)]; exact e5
      · rw [o _ _ (by omega) (by omega)]; exact e6
      · rw [o _ _ (by omega) (by omega), o _ _ (by omega) (by omega)]; exact g2 w hw
      · rw [o _ _ (by omega) (by omega)]; exact g3 k hk
      · rw [o _ _ (by omega) (by omega), o _ _ (by omega) (by omega), o _ _ (by omega) (by omega), o _ _ (by omega) (by omega)]; exact g4 n hn
      · rw [o _ _ (by omega) (by omega)]; exact g7 w hw
    have v1 : J3 (17 - tw) 1 = nI (D 0 1) := hX3.1.1.2.1
    have p1 : pR (zI B J1) 1 8 13 1 (17 - tw) = some (zI (bR B 1 (va_up (mR B 1) 1 (17 - tw))) J1) := by rw [pR_eq, x1, t1]; rfl
    have p2 : pR (zI (bR B 1 (va_up (mR B 1) 1 (17 - tw))) J1) 1 8 13 2 tw = some (zI (bSw B (17 - tw) tw) J1) := by rw [pR_eq, zac_bR, x1, t0, mR_bRs]; rfl
    refine Or.inr ⟨D, J3, rfl, rfl, hS, ?_, hX3, b2.fp (fun i j q1 q2 => o3 i j (by omega)), by rw [o3 _ _ (by omega), b3 _ _ (by omega)]; exact j21, by rw [o3 _ _ (by omega), b3 _ _ (by omega), oJ _ _ (by omega)]; exact e3, ?_, ?_, ?_, ?_, ?_, fun i j q => by rw [o3 i j (by omega), b3 i j (by omega), oJ i j (by omega), a4 i j (by omega)]⟩
    · rw [show nI 0 = (0 : Int32) from rfl] at h91
      simp only [f_X8_town, f_X6_empty, f_X3_forget, f_X2_clear, f_X0_clear, nb1, show Nat.ble 1 2 = true from rfl, show Nat.ble 1 32 = true from rfl, show Nat.ble 1 123 = true from rfl, show Nat.ble 1 127 = true from rfl, x1, x2, k1, k2, m2, t0, oR_eq, oI_eq, pI_cu, zac_zI, cond_true, Option.bind_some, a1, ← hJ, f2, if_pos, p1, p2, y1, y2, y3, y4, y6, y7, b1, z1, z2, z3, z4, h91, ← h3, y5, v1]
    · rw [h3]; repeat (first | rw [cu_s] | rw [cu_o (by omega)])
    · rw [h3]; repeat (first | rw [cu_s] | rw [cu_o (by omega)])
    · rw [h3]; repeat (first | rw [cu_s] | rw [cu_o (by omega)])
    · rw [h3]; repeat (first | rw [cu_s] | rw [cu_o (by omega)])
    · rw [h3]; repeat (first | rw [cu_s] | rw [cu_o (by omega)])
end TWN
