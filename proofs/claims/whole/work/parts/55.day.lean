/-! day -/
theorem mR'_le {T : Nat → Nat → Nat} {r : Nat → Nat} {p w k : Nat} (hw : w < 8) (h : 5 ≤ k) (h2 : k < 21 ∨ 29 ≤ k) : mR' T r p w k ≤ r k := by
  unfold mR'
  split
  · exact rSays_le hw h2
  · split
    · exact rGo_le h2
    · split
      · exact rGo_le h2
      · split
        · unfold rPt; rw [va_up, if_neg (by omega)]; exact Nat.le_refl _
        · exact Nat.le_refl _
theorem cnt_1 {a : Nat} : cnt a 1 ≤ a + 1 := by unfold cnt; split <;> omega
theorem rNd_1 {T : Nat → Nat → Nat} {n : Nat} {r : Nat → Nat} : rNd T n r 1 ≤ r 1 + 1 := by
  unfold rNd
  split
  · rw [va_up, if_pos rfl, mR'_0 (by omega) (by omega)]; exact cnt_1
  · rw [va_up, if_neg (by omega), va_up, if_neg (by omega), mR'_0 (by omega) (by omega)]; omega
theorem rNd_le {T : Nat → Nat → Nat} {n k : Nat} {r : Nat → Nat} (hT : TI T) (hn : n < T 0 3) (h : 29 ≤ k) : rNd T n r k ≤ r k := by
  have hN := hT.2.2.2.2.2.2.2.2.1 n hn
  have hw8 := hT.2.1
  have := mR'_le (T := T) (r := r) (p := T 6 (4 * n)) (w := T 6 (4 * n + 1)) (k := k) (by omega) (by omega) (by omega)
  unfold rNd
  split
  · rw [va_up, if_neg (by omega)]; exact this
  · rw [va_up, if_neg (by omega), va_up, if_neg (by omega)]; exact this
theorem dS_all {T : Nat → Nat → Nat} {d : Nat} (hT : TI T) : ∀ m i r, i + m = T 0 3 → rI r → rI (itr (dS T d) m i r) ∧ itr (dS T d) m i r 1 ≤ r 1 + m ∧ ∀ k, 29 ≤ k → itr (dS T d) m i r k ≤ r k := by
  intro m
  induction m with
  | zero => intro i r _ h; exact ⟨h, Nat.le_refl _, fun k _ => Nat.le_refl _⟩
  | succ m ih =>
    intro i r hi h
    simp only [itr]
    have hd : rI (dS T d i r) ∧ dS T d i r 1 ≤ r 1 + 1 ∧ ∀ k, 29 ≤ k → dS T d i r k ≤ r k := by
      unfold dS
      split
      · exact ⟨rI_rNd h hT (by omega), rNd_1, fun k hk => rNd_le hT (by omega) hk⟩
      · exact ⟨h, by omega, fun k _ => Nat.le_refl _⟩
    obtain ⟨h1, h2, h3⟩ := ih (i + 1) (dS T d i r) (by omega) hd.1
    exact ⟨h1, by have := hd.2.1; omega, fun k hk => Nat.le_trans (h3 k hk) (hd.2.2 k hk)⟩
theorem rYear_le {r : Nat → Nat} {k : Nat} (h : 29 ≤ k) : rYear r k ≤ r k := by
  unfold rYear
  rw [if_neg (by omega)]
  split <;> omega
theorem rYear_0 {r : Nat → Nat} {k : Nat} (h : k < 13) : rYear r k = r k := by
  unfold rYear
  rw [if_neg (by omega), if_neg (by omega)]
theorem rDay_all {T : Nat → Nat → Nat} {r : Nat → Nat} (hT : TI T) (h : rI r) (hb : r 0 < 19000) : rI (rDay T r) ∧ rDay T r 0 = r 0 + 1 ∧ rDay T r 1 ≤ r 1 + 8 ∧ ∀ k, 29 ≤ k → rDay T r k ≤ r k := by
  obtain ⟨h1, h2, h3⟩ := dS_all (d := r 0 % T 0 0) hT (T 0 3) 0 r (by omega) h
  have g0 := dS_0 (T := T) (d := r 0 % T 0 0) (T 0 3) 0 r
  have hT3 := hT.2.2.2.1
  have hr2 : rI (va_up (itr (dS T (r 0 % T 0 0)) (T 0 3) 0 r) 0 (itr (dS T (r 0 % T 0 0)) (T 0 3) 0 r 0 + 1)) := h1.cnts (fun k hk => by rw [va_up, if_neg (by omega)]) (by simp only [va_up, if_true]; omega) (by rw [va_up, if_neg (by omega)]; exact h1.2.2.2.1) (by rw [va_up, if_neg (by omega)]; exact h1.2.2.2.2.1) (by rw [va_up, if_neg (by omega)]; exact h1.2.2.2.2.2.1) (by rw [va_up, if_neg (by omega)]; exact h1.2.2.2.2.2.2)
  unfold rDay
  simp only []
  split
  · refine ⟨hr2.year, ?_, ?_, fun k hk => Nat.le_trans (rYear_le hk) ?_⟩
    · rw [rYear_0 (by omega), va_up, if_pos rfl, g0]
    · rw [rYear_0 (by omega), va_up, if_neg (by omega)]; omega
    · rw [va_up, if_neg (by omega)]; exact h3 k hk
  · refine ⟨hr2, ?_, ?_, fun k hk => ?_⟩
    · rw [va_up, if_pos rfl, g0]
    · rw [va_up, if_neg (by omega)]; omega
    · rw [va_up, if_neg (by omega)]; exact h3 k hk
def rDs (T : Nat → Nat → Nat) : Nat → (Nat → Nat) → Nat → Nat
  | 0, r => r
  | m + 1, r => rDs T m (rDay T r)
theorem rDs_all {T : Nat → Nat → Nat} (hT : TI T) : ∀ m r, rI r → r 0 + m < 19000 → rI (rDs T m r) ∧ rDs T m r 0 = r 0 + m ∧ rDs T m r 1 ≤ r 1 + 8 * m ∧ ∀ k, 29 ≤ k → rDs T m r k ≤ r k := by
  intro m
  induction m with
  | zero => intro r h _; exact ⟨h, rfl, Nat.le_refl _, fun k _ => Nat.le_refl _⟩
  | succ m ih =>
    intro r h hb
    obtain ⟨a1, a2, a3, a4⟩ := rDay_all hT h (by omega)
    obtain ⟨b1, b2, b3, b4⟩ := ih (rDay T r) a1 (by omega)
    refine ⟨b1, by simp only [rDs]; omega, by simp only [rDs]; omega, fun k hk => Nat.le_trans (b4 k hk) (a4 k hk)⟩
theorem rB.days {T : Nat → Nat → Nat} {np c m : Nat} {r : Nat → Nat} (hT : TI T) (h : rB np c r) (hm : m ≤ 60) (h9 : r 0 ≤ 9000) : rB np (c + 1) (rDs T m r) := by
  obtain ⟨a1, a2, a3, a4⟩ := rDs_all hT m r h.1 (by omega)
  refine ⟨a1, by omega, by have := h.2.2.1; omega, fun q v h1 h2 h3 => ?_⟩
  have := h.2.2.2 q v h1 h2 h3
  have := a4 (29 + (8 * q + v)) (by omega)
  omega
section DAY
variable {B : zM} {tw s u np c : Nat} {T : Nat → Nat → Nat} {r : Nat → Nat} {I : Nat → Nat → Int32} {x : Int32}
theorem GB.hx (h : GB B tw s u) : zac B 1 8 13 = true ∧ mR B 1 1 = tw ∧ mR B 1 3 = s ∧ zac B s 5 9 = true ∧ zac B tw 7 15 = true ∧ mR B 1 5 = 32 ∧ zac B 32 3 3 = true ∧ mR B 1 4 = u ∧ zac B u 5 9 = true ∧ u = 27 := by
  obtain ⟨hx, hy, ht, m1, htw, hs, m3, -, hu, m4, hu', -⟩ := h
  exact ⟨by simp only [hx], m1, m3, by simp only [hs], by simp only [ht], by simp only [hx], by simp only [hx], m4, by simp only [hu], hu'⟩
theorem GB.hy' (h : GB B tw s u) : zac B 144 9 58 = true ∧ mR B 144 0 = 145 ∧ mR B 144 1 = 146 ∧ zlI B 145 = 69 ∧ zln B 10 145 = 69 ∧ zlI B 146 = 69 ∧ zln B 10 146 = 69 ∧ isRow B 145 ∧ isRow B 146 := by
  have hy := h.2.1
  exact ⟨by simp only [hy], by simp only [hy], by simp only [hy], by simp only [hy], by simp only [hy], by simp only [hy], by simp only [hy], row145 hy, row146 hy⟩
theorem X_day_lp (hB : GB B tw s u) (hT : TI T) (h0 : 0 < T 0 0) {k : Nat} (hk : k ≤ 60) : ∀ m i n r I, i + m = k → m < n → XS s r I → rI r → XT tw T I → r 0 + m < 19000 → ∃ I', L_X8_day_25 n 1 (nI k) (nI i) (zI B I) = some (zI B I') ∧ XS s (rDs T m r) I' ∧ Fr s (s + 4) I I' := by
  have htw := hB.hw
  have hse := hB.hs
  obtain ⟨x1, x2, x3, x4, x5, -⟩ := hB.hx
  intro m
  induction m with
  | zero =>
    intro i n r I hi hn h hr hX hb
    obtain ⟨n, rfl⟩ := Nat.exists_eq_succ_of_ne_zero (show n ≠ 0 by omega)
    have c1 : nI k ≤ nI i := (nI_leI (by omega) (by omega)).mpr (by omega)
    refine ⟨I, ?_, h, Fr.rf⟩
    simp only [L_X8_day_25, if_pos c1]
  | succ m ih =>
    intro i n r I hi hn h hr hX hb
    obtain ⟨n, rfl⟩ := Nat.exists_eq_succ_of_ne_zero (show n ≠ 0 by omega)
    have c1 : ¬ nI k ≤ nI i := fun q => absurd ((nI_leI (by omega) (by omega)).mp q) (by omega)
    obtain ⟨I1, a1, a2, a3, a4⟩ := X_passDay hB.2.2.2.2.2.1 hB.2.2.1 (by omega) h hr hX hT h0 (by omega)
    obtain ⟨-, d2, -⟩ := rDay_all hT hr (by omega)
    obtain ⟨I2, b1, b2, b3⟩ := ih (i + 1) n (rDay T r) I1 (by omega) (by omega) a2 a3 (hX.fr a4 (by omega)) (by omega)
    refine ⟨I2, ?_, b2, a4.tr b3⟩
    simp only [L_X8_day_25, if_neg c1, x1, x2, x3, x4, cond_true, oR_eq, zac_zI, Option.bind_some, a1, nI_1, b1]
theorem Y_day_lp (hB : GB B tw s u) (hT : TI T) (h0 : 0 < T 0 0) {k : Nat} (hk : k ≤ 60) : ∀ m i n r I, i + m = k → m < n → YS 145 r I → rI r → YT T I → r 0 + m < 19000 → ∃ I', L_X9_day_47 n 144 (nI k) (nI i) (zI B I) = some (zI B I') ∧ YS 145 (rDs T m r) I' ∧ Fr 145 145 I I' := by
  obtain ⟨x1, x2, x3, x4, x5, x6, x7, x8, x9⟩ := hB.hy'
  intro m
  induction m with
  | zero =>
    intro i n r I hi hn h hr hX hb
    obtain ⟨n, rfl⟩ := Nat.exists_eq_succ_of_ne_zero (show n ≠ 0 by omega)
    have c1 : nI k ≤ nI i := (nI_leI (by omega) (by omega)).mpr (by omega)
    refine ⟨I, ?_, h, Fr.rf⟩
    simp only [L_X9_day_47, if_pos c1]
  | succ m ih =>
    intro i n r I hi hn h hr hX hb
    obtain ⟨n, rfl⟩ := Nat.exists_eq_succ_of_ne_zero (show n ≠ 0 by omega)
    have c1 : ¬ nI k ≤ nI i := fun q => absurd ((nI_leI (by omega) (by omega)).mp q) (by omega)
    obtain ⟨I1, a1, a2, a4⟩ := Y_goOn hB.2.1 x8 (Or.inl rfl) h hr hX hT h0 (by omega)
    obtain ⟨d1, d2, -⟩ := rDay_all hT hr (by omega)
    obtain ⟨I2, b1, b2, b3⟩ := ih (i + 1) n (rDay T r) I1 (by omega) (by omega) a2 d1 (hX.same (YTs.fr a4 (by omega))) (by omega)
    refine ⟨I2, ?_, b2, a4.tr b3⟩
    simp only [L_X9_day_47, if_neg c1, x1, x2, cond_true, oR_eq, zac_zI, Option.bind_some, a1, b2_some, nI_1, b1]
/-- may days pass? 0, or why not -/
def rfd (T : Nat → Nat → Nat) (r : Nat → Nat) (x : Int32) : Int32 := if btw x 1 60 then if T 0 0 = 0 then -1000000003 else if r 0 ≤ 9000 then 0 else -1000000004 else -1000000002
theorem X_rfd (hB : GB B tw s u) (hT : gT tw T I) (hN : gN s np c r I) : f_X8_refusalOfDays 1 x (zI B I) = some (rfd T r x) := by
  obtain ⟨x1, x2, x3, x4, x5, -⟩ := hB.hx
  have e0 := hT.2.2.1.1.1
  have b0 := hT.1.1
  have e1 := hN.1.sc (j := 0) (by omega)
  have e1 : I s 4 = nI (r 0) := e1
  have b1 := hN.2.2.2.1
  have z0 := nI_z (v := T 0 0) (by omega)
  have z1 : nI (r 0) ≤ 9000 ↔ r 0 ≤ 9000 := nI_leI (b := 9000) (by omega) (by omega)
  have hh := fun (α : Type) (u v : α) => x_btw' (x := x) (a := 1) (b := 60) (u := u) (v := v) (by omega) (by omega)
  simp only [f_X8_refusalOfDays, nb1, x1, x2, x3, x4, x5, cond_true, oR_eq, oI_eq, Option.bind_some, e0, e1, z0, z1]
  refine (hh _ _ _).trans ?_
  unfold rfd
  split
  · split
    · rfl
    · split <;> rfl
  · rfl
theorem w_day (h : CR B I c) : W2 B I c (f_X8_day 1 x (zI B I)) (f_X9_day 144 x) := by
  have h' := h
  obtain ⟨tw, s, u, T, r, pa, pn, P, kf, K, tl, X, kn, kw, kd, kb, en, ew, el, sd, hB, hT, hN, hP, hI, hX, hK, hBk, hS⟩ := h
  have q1 := X_rfd (x := x) hB hT hN
  have q5 := fun M => Y_btw (x := x) (a := 1) (b := 60) (M := M) (y := 1) (z := 60) rfl rfl (by omega) (by omega)
  obtain ⟨x1, x2, x3, x4, x5, x6, x7, -⟩ := hB.hx
  obtain ⟨y1, y2, y3, y4, y5, -⟩ := hB.hy'
  have hse := hB.hs
  have htw := hB.hw
  have b0 := hT.1.1
  have br := hN.2.2.2.1
  have z0 := nI_z (v := T 0 0) (by omega)
  have z1 : nI (r 0) ≤ 9000 ↔ r 0 ≤ 9000 := nI_leI (b := 9000) (by omega) (by omega)
  have n3 : ¬ (-1000000003 : Int32) = 0 := by decide
  have n4 : ¬ (-1000000004 : Int32) = 0 := by decide
  have n2 : ¬ (-1000000002 : Int32) = 0 := by decide
  rcases Bool.eq_false_or_eq_true (btw x 1 60) with hb | hb
  · rw [hb, ite_t] at q5
    obtain ⟨v, hv1, hv, rfl⟩ := btw_t hb (by omega)
    by_cases hd : T 0 0 = 0
    · have hr : rfd T r (nI v) = -1000000003 := by unfold rfd; rw [hb, if_pos rfl, if_pos hd]
      rw [hr] at q1
      have e5 := hT.2.2.2.1.1
      refine W_no h' (v := -1000000003) ?_ ?_
      · simp only [f_X8_day, nb1, x1, cond_true, zac_zI, Option.bind_some, q1, if_neg n3]
      · simp only [f_X9_day, nb144, y1, cond_true, oI_eq, Option.bind_some, q5, if_neg ne10, e5, z0, if_pos hd]
    · by_cases h9 : r 0 ≤ 9000
      · have hr : rfd T r (nI v) = 0 := by unfold rfd; rw [hb, if_pos rfl, if_neg hd, if_pos h9]
        rw [hr] at q1
        obtain ⟨I1, a1, a2, a3, a4, a5, a6⟩ := act hB hT hN hP hI hX hK hBk
        obtain ⟨I2, d1, d2, d3⟩ := X_day_lp hB hT.1 (by omega) hv v 0 zN r I1 (by omega) (by unfold zN; omega) a2 hN.2.2.1 a3.2.2.1 (by omega)
        have e1 : I2 s 4 = nI (rDs T v r 0) := d2.sc (j := 0) (by omega)
        obtain ⟨t2, y2', k2, g2, I3, c1, c2, c3, c4, c5, c6⟩ := a6 I2 (fun i j q => by rw [d3 i (by omega)])
        obtain ⟨I4, f1, f2, f3⟩ := Y_day_lp hB hT.1 (by omega) hv v 0 zN r I3 (by omega) (by unfold zN; omega) c2 hN.2.2.1 c3.2.2.2 (by omega)
        have k1 : I2 1 12 = I1 1 12 := by rw [d3 1 (by omega)]
        obtain ⟨hC, k4⟩ := c6 I4 (rDs T v r) sd (fun i j q => by rw [f3 i (by omega)]) d2 f2 (hN.2.2.days hT.1 hv h9) ⟨hS.1, by rw [f3 1 (by omega), c5, k1, a5]; exact hS.2.1, by rw [f3 144 (by omega), c4]; exact hS.2.2⟩
        have e5 := t2.2.2.2.1.1
        have v0 : aI (zI B I2) 145 0 = some (nI (r 0)) := aI_at (B := B) (k := 0) (by omega) (by rw [y4]; omega) (y2' 0 (by omega))
        have v1 : aI (zI B I4) 145 0 = some (nI (rDs T v r 0)) := aI_at (B := B) (k := 0) (by omega) (by rw [y4]; omega) (f2 0 (by omega))
        rw [show nI 0 = (0 : Int32) from rfl] at d1 f1
        refine W_mk (v := nI (rDs T v r 0)) (I1 := I2) (I2 := I4) ?_ ?_ hC k2 k4
        · simp only [f_X8_day, nb1, x1, x3, x4, x6, x7, cond_true, oR_eq, oI_eq, zac_zI, Option.bind_some, q1, if_pos, a1, d1, e1]
        · simp only [f_X9_day, nb144, y1, y2, cond_true, oR_eq, oI_eq, zac_zI, Option.bind_some, q5, if_neg ne10, e5, z0, if_neg hd, v0, z1, if_pos h9, c1, f1, v1]
      · have hr : rfd T r (nI v) = -1000000004 := by unfold rfd; rw [hb, if_pos rfl, if_neg hd, if_neg h9]
        rw [hr] at q1
        have e5 := hT.2.2.2.1.1
        have v0 : aI (zI B I) 145 0 = some (nI (r 0)) := aI_at (B := B) (k := 0) (by omega) (by rw [y4]; omega) (hN.2.1 0 (by omega))
        refine W_no h' (v := -1000000004) ?_ ?_
        · simp only [f_X8_day, nb1, x1, cond_true, zac_zI, Option.bind_some, q1, if_neg n4]
        · simp only [f_X9_day, nb144, y1, y2, cond_true, oI_eq, oR_eq, Option.bind_some, q5, if_neg ne10, e5, z0, if_neg hd, v0, z1, if_neg h9]
  · rw [hb, ite_f] at q5
    have hr : rfd T r x = -1000000002 := by unfold rfd; rw [hb]; rfl
    rw [hr] at q1
    refine W_no h' (v := -1000000002) ?_ ?_
    · simp only [f_X8_day, nb1, x1, cond_true, zac_zI, Option.bind_some, q1, if_neg n2]
    · simp only [f_X9_day, nb144, y1, cond_true, oI_eq, Option.bind_some, q5, if_pos]
end DAY
