/-! tried: runsOut, willBe -/
def scr (i j : Nat) : Prop := (27 ≤ i ∧ i ≤ 31) ∨ (115 ≤ i ∧ i ≤ 122) ∨ i = 130 ∨ i = 131 ∨ i = 146 ∨ (i = 144 ∧ (j = 35 ∨ j = 41 ∨ j = 42 ∨ j = 44 ∨ j = 45)) ∨ (162 ≤ i ∧ i ≤ 170)
theorem F_scr {I I2 : Nat → Nat → Int32} {tw s : Nat} (htw : tw = 4 ∨ tw = 13) (hs : s = 22) (hf : ∀ i j, ¬ scr i j → I2 i j = I i j) : (∀ i j, cT tw i j → I2 i j = I i j) ∧ (∀ i j, cN s i → I2 i j = I i j) ∧ (∀ i j, cP' i j → I2 i j = I i j) ∧ (∀ i j, cI i → I2 i j = I i j) ∧ (∀ i j, cX i j → I2 i j = I i j) ∧ (∀ i j, cK i j → I2 i j = I i j) ∧ (∀ i j, cB i j → I2 i j = I i j) ∧ (∀ i j, cS i j → I2 i j = I i j) ∧ (∀ z, (1000 ≤ z ∨ z = 160) → I2 z = I z) :=
  ⟨fun i j q => hf i j (by unfold cT at q; unfold scr; omega), fun i j q => hf i j (by unfold cN at q; unfold scr; omega), fun i j q => hf i j (by unfold cP' at q; unfold scr; omega), fun i j q => hf i j (by unfold cI at q; unfold scr; omega), fun i j q => hf i j (by unfold cX at q; unfold scr; omega), fun i j q => hf i j (by unfold cK at q; unfold scr; omega), fun i j q => hf i j (by unfold cB at q; unfold scr; omega), fun i j q => hf i j (by unfold cS at q; unfold scr; omega), fun z hz => funext fun j => hf z j (by unfold scr; omega)⟩
theorem CR_scr {B : zM} {I I2 : Nat → Nat → Int32} {c : Nat} (h : CR B I c) (hf : ∀ i j, ¬ scr i j → I2 i j = I i j) : CR B I2 c ∧ (∀ z, (1000 ≤ z ∨ z = 160) → I2 z = I z) := by
  obtain ⟨tw, s, u, T, r, pa, pn, P, kf, K, tl, X, kn, kw, kd, kb, en, ew, el, sd, hB, hT, hN, hP, hI, hX, hK, hBk, hS⟩ := h
  obtain ⟨f1, f2, f3, f4, f5, f6, f7, f8, f9⟩ := F_scr hB.hw hB.hs hf
  exact ⟨⟨tw, s, u, T, r, pa, pn, P, kf, K, tl, X, kn, kw, kd, kb, en, ew, el, sd, hB, hT.fr f1, hN.fr f2, hP.fr f3, hI.fr f4, hX.fr f5, hK.fr f6, hBk.fr f7, hS.fr f8⟩, f9⟩
/-- a call that writes what nobody reads later -/
theorem W_scr {B : zM} {I I1 I2 : Nat → Nat → Int32} {c : Nat} {v : Int32} {a : Option (Int32 × zM)} {g : zM → Option (Int32 × zM)} (hC : CR B I c) (h1 : a = some (v, zI B I1)) (h2 : g (zI B I1) = some (v, zI B I2)) (k1 : ∀ i j, ¬ scr i j → I1 i j = I i j) (k2 : ∀ i j, ¬ scr i j → I2 i j = I1 i j) : W2 B I c a g := by
  obtain ⟨a1, a2⟩ := CR_scr hC k1
  obtain ⟨b1, b2⟩ := CR_scr a1 k2
  exact W_mk h1 h2 (b1.up (Nat.le_succ c)) a2 (fun z hz => by rw [b2 z hz, a2 z hz])
def rnO (T : Nat → Nat → Nat) (w : Nat) : Nat → Nat → (Nat → Nat) → Int32 ⊕ Unit
  | 0, _, _ => .inr ()
  | m + 1, i, r => if r (13 + w) = 0 then .inl (nI i) else rnO T w m (i + 1) (rDay T r)
def wth {α : Type} (M : α) : Int32 ⊕ Unit → (Int32 × α) ⊕ α
  | .inl v => .inl (v, M)
  | .inr _ => .inr M
def cW (T : Nat → Nat → Nat) : Nat → (Nat → Nat) → Nat
  | 0, _ => 0
  | m + 1, r => cM T (r 0 % T 0 0) (T 0 3) 0 r + cW T m (rDay T r)
theorem cnt_p {a : Nat} (h : a + 1 < 999999) : cnt a 1 = a + 1 := by unfold cnt; rw [if_pos h]
theorem dS_1 {T : Nat → Nat → Nat} {d : Nat} : ∀ m i r, r 1 + m < 999999 → itr (dS T d) m i r 1 = r 1 + cM T d m i r := by
  intro m
  induction m with
  | zero => intro i r _; rfl
  | succ m ih =>
    intro i r h
    simp only [itr, cM]
    have key : dS T d i r 1 = r 1 + (if T 6 (4 * i + 2) = d then (if mB T r (T 6 (4 * i)) (T 6 (4 * i + 1)) then 1 else 0) else 0) := by
      unfold dS
      split
      · unfold rNd
        split
        · rw [va_up, if_pos rfl, mR'_0 (by omega) (by omega), cnt_p (by omega)]
        · rw [va_up, if_neg (by omega), va_up, if_neg (by omega), mR'_0 (by omega) (by omega), Nat.add_zero]
      · rfl
    have kb : dS T d i r 1 ≤ r 1 + 1 := by
      rw [key]
      split
      · split <;> omega
      · omega
    rw [ih (i + 1) _ (by omega), key]
    omega
theorem rDay_1 {T : Nat → Nat → Nat} {r : Nat → Nat} (hT : TI T) (h : r 1 + 8 < 999999) : rDay T r 1 = r 1 + cM T (r 0 % T 0 0) (T 0 3) 0 r := by
  have hT3 := hT.2.2.2.1
  have e := dS_1 (T := T) (d := r 0 % T 0 0) (T 0 3) 0 r (by omega)
  unfold rDay
  try simp only []
  split
  · rw [rYear_0 (by omega), va_up, if_neg (by omega), e]
  · rw [va_up, if_neg (by omega), e]
theorem rDs_1 {T : Nat → Nat → Nat} (hT : TI T) : ∀ m r, rI r → r 0 + m < 19000 → r 1 + 8 * m < 999999 → rDs T m r 1 = r 1 + cW T m r := by
  intro m
  induction m with
  | zero => intro r _ _ _; rfl
  | succ m ih =>
    intro r h hb h1
    obtain ⟨a1, a2, a3, a4⟩ := rDay_all hT h (by omega)
    simp only [rDs, cW]
    rw [ih (rDay T r) a1 (by omega) (by omega), rDay_1 hT (by omega), Nat.add_assoc]
section TRI
variable {B : zM} {tw s u np c w : Nat} {T : Nat → Nat → Nat} {r q : Nat → Nat} {I : Nat → Nat → Int32} {x : Int32}
theorem Y_lay_lp (hB : GB B tw s u) : ∀ m i n I, i + m = 69 → m < n → YS 145 r I → ∃ I', L_X9_layTried_2 n 144 (nI i) (zI B I) = some (zI B I') ∧ (∀ k, i ≤ k → k < 69 → I' 146 k = nI (r k)) ∧ ∀ a k, ¬ (a = 146 ∧ i ≤ k) → I' a k = I a k := by
  obtain ⟨x1, x2, x3, l1, l2, l3, l4, -⟩ := hB.hy'
  intro m
  induction m with
  | zero =>
    intro i n I hi hn h
    obtain ⟨n, rfl⟩ := Nat.exists_eq_succ_of_ne_zero (show n ≠ 0 by omega)
    have c1 : (69 : Int32) ≤ nI i := (nI_leI (a := 69) (by omega) (by omega)).mpr (by omega)
    simp only [L_X9_layTried_2, if_pos c1]
    exact ⟨I, rfl, fun k h1 h2 => absurd h1 (by omega), fun _ _ _ => rfl⟩
  | succ m ih =>
    intro i n I hi hn h
    obtain ⟨n, rfl⟩ := Nat.exists_eq_succ_of_ne_zero (show n ≠ 0 by omega)
    have c1 : ¬ (69 : Int32) ≤ nI i := fun q => absurd ((nI_leI (a := 69) (by omega) (by omega)).mp q) (by omega)
    have a1 := aI_at (B := B) (k := i) (by omega) (by rw [l1]; omega) (h i (by omega))
    have s1 : sI (zI B I) 146 (nI i) (nI (r i)) = some (zI B (cu I 146 i (nI (r i)))) := sI_cu (by omega) (by rw [l4]; omega)
    obtain ⟨I', g1, g2, g3⟩ := ih (i + 1) n (cu I 146 i (nI (r i))) (by omega) (by omega) (fun k hk => by rw [cu_o (by omega)]; exact h k hk)
    refine ⟨I', ?_, ?_, ?_⟩
    · simp only [L_X9_layTried_2, if_neg c1, x1, x2, x3, cond_true, oR_eq, oI_eq, Option.bind_some, a1, s1, nI_1, g1]
    · intro k k1 k2
      by_cases k3 : k = i
      · subst k3
        rw [g3 146 _ (by omega), cu_s]
      · exact g2 k (by omega) k2
    · intro a k hn
      rw [g3 a k (by omega), cu_o (by omega)]
theorem Y_lay (hB : GB B tw s u) (h : YS 145 r I) : ∃ I', f_X9_layTried 144 (zI B I) = some (zI B I') ∧ YS 146 r I' ∧ ∀ i j, i ≠ 146 → I' i j = I i j := by
  obtain ⟨I', a1, a2, a3⟩ := Y_lay_lp hB 69 0 zN I (by omega) (by unfold zN; omega) h
  rw [show nI 0 = (0 : Int32) from rfl] at a1
  refine ⟨I', ?_, fun k hk => a2 k (by omega) hk, fun i j hn => a3 i j (by omega)⟩
  simp only [f_X9_layTried, nb144, cond_true, a1, Option.bind_some]
theorem X_ro_lp (hB : GB B tw s u) (hT : TI T) (h0 : 0 < T 0 0) (hw : w < 8) {k : Nat} (hk : k ≤ 99) : ∀ m i n r I, i + m = k → m < n → XS u r I → rI r → XT tw T I → r 0 + m < 19000 → ∃ I', L_X8_runsOut_37 n 1 (nI w) (nI k) (nI i) (zI B I) = some (wth (zI B I') (rnO T w m i r)) ∧ Fr u (u + 4) I I' := by
  have htw := hB.hw
  obtain ⟨x1, x2, x3, x4, x5, x6, x7, x8, x9, x10⟩ := hB.hx
  have hu := hB.2.2.2.2.2.2.2.2.1
  have l2 : zlI B (u + 2) = 8 := by simp only [hu]
  have m2 : mR B u 1 = u + 2 := by simp only [hu]
  clear hu
  intro m
  induction m with
  | zero =>
    intro i n r I hi hn h hr hX hb
    obtain ⟨n, rfl⟩ := Nat.exists_eq_succ_of_ne_zero (show n ≠ 0 by omega)
    have c1 : nI k ≤ nI i := (nI_leI (by omega) (by omega)).mpr (by omega)
    refine ⟨I, ?_, Fr.rf⟩
    simp only [L_X8_runsOut_37, if_pos c1, rnO, wth]
  | succ m ih =>
    intro i n r I hi hn h hr hX hb
    obtain ⟨n, rfl⟩ := Nat.exists_eq_succ_of_ne_zero (show n ≠ 0 by omega)
    have c1 : ¬ nI k ≤ nI i := fun q => absurd ((nI_leI (by omega) (by omega)).mp q) (by omega)
    have a0 := aI_at (B := B) (by omega) (by rw [l2]; omega) (h.le hw)
    have bl := (hr.b (p := 0) (by omega) hw).2.1
    have z1 := nI_z (v := r (13 + w)) (by omega)
    by_cases hz : r (13 + w) = 0
    · refine ⟨I, ?_, Fr.rf⟩
      simp only [L_X8_runsOut_37, if_neg c1, x1, x8, x9, m2, cond_true, oR_eq, Option.bind_some, a0, z1, if_pos hz, rnO, wth]
    · obtain ⟨I1, a1, a2, a3, a4⟩ := X_passDay hB.2.2.2.2.2.2.2.2.1 hB.2.2.1 (by omega) h hr hX hT h0 (by omega)
      obtain ⟨-, d2, -⟩ := rDay_all hT hr (by omega)
      obtain ⟨I2, b1, b3⟩ := ih (i + 1) n (rDay T r) I1 (by omega) (by omega) a2 a3 (hX.fr a4 (by omega)) (by omega)
      refine ⟨I2, ?_, a4.tr b3⟩
      simp only [L_X8_runsOut_37, if_neg c1, x1, x2, x8, x9, m2, cond_true, oR_eq, zac_zI, Option.bind_some, a0, z1, if_neg hz, a1, nI_1, b1, rnO]
theorem Y_ro_lp (hB : GB B tw s u) (hT : TI T) (h0 : 0 < T 0 0) (hw : w < 8) {k : Nat} (hk : k ≤ 99) (hk1 : 1 ≤ k) : ∀ m i n r I, i + m = k → m < n → YS 146 r I → rI r → YT T I → r 0 + m < 19000 → ∃ I', L_X9_runsOut_29 n 144 (nI w) (nI (k - 1)) (nI i) (zI B I) = some (wth (zI B I') (rnO T w m i r)) ∧ Fr 146 146 I I' := by
  obtain ⟨x1, x2, x3, l1, l2, l3, l4, x8, x9⟩ := hB.hy'
  intro m
  induction m with
  | zero =>
    intro i n r I hi hn h hr hX hb
    obtain ⟨n, rfl⟩ := Nat.exists_eq_succ_of_ne_zero (show n ≠ 0 by omega)
    have c1 : nI (k - 1) < nI i := (nI_ltI (by omega) (by omega)).mpr (by omega)
    refine ⟨I, ?_, Fr.rf⟩
    simp only [L_X9_runsOut_29, if_pos c1, rnO, wth]
  | succ m ih =>
    intro i n r I hi hn h hr hX hb
    obtain ⟨n, rfl⟩ := Nat.exists_eq_succ_of_ne_zero (show n ≠ 0 by omega)
    have c1 : ¬ nI (k - 1) < nI i := fun q => absurd ((nI_ltI (by omega) (by omega)).mp q) (by omega)
    have c2 : ¬ 99 < nI i := fun q => absurd ((nI_ltI (a := 99) (by omega) (by omega)).mp q) (by omega)
    have a0 := aI_at (B := B) (by omega) (by rw [l3]; omega) (h (13 + w) (by omega))
    have bl := (hr.b (p := 0) (by omega) hw).2.1
    have z1 := nI_z (v := r (13 + w)) (by omega)
    have p13 : (13 : Int32) + nI w = nI (13 + w) := nI_add 13 w
    by_cases hz : r (13 + w) = 0
    · refine ⟨I, ?_, Fr.rf⟩
      simp only [L_X9_runsOut_29, if_neg c1, if_neg c2, x1, x3, cond_true, oR_eq, Option.bind_some, p13, a0, z1, if_pos hz, rnO, wth]
    · obtain ⟨I1, a1, a2, a4⟩ := Y_goOn hB.2.1 x9 (Or.inr rfl) h hr hX hT h0 (by omega)
      obtain ⟨d1, d2, -⟩ := rDay_all hT hr (by omega)
      obtain ⟨I2, b1, b3⟩ := ih (i + 1) n (rDay T r) I1 (by omega) (by omega) a2 d1 (hX.same (YTs.fr a4 (by omega))) (by omega)
      refine ⟨I2, ?_, a4.tr b3⟩
      simp only [L_X9_runsOut_29, if_neg c1, if_neg c2, x1, x3, cond_true, oR_eq, zac_zI, Option.bind_some, p13, a0, z1, if_neg hz, a1, b2_some, nI_1, b1, rnO]
theorem w_runsOut (h : CR B I c) : W2 B I c (f_X8_runsOut 1 x (zI B I)) (f_X9_runsOut 144 x) := by
  have h' := h
  obtain ⟨tw, s, u, T, r, pa, pn, P, kf, K, tl, X, kn, kw, kd, kb, en, ew, el, sd, hB, hT, hN, hP, hI, hX, hK, hBk, hS⟩ := h
  have q3 := X_isWord (x := x) hB hT
  have q4 := fun {J} (hJ : gT tw T J) => Y_isWord (x := x) hB hJ
  have b1 := hT.1.2.1
  have b0 := hT.1.1
  have hse := hB.hs
  have htw := hB.hw
  obtain ⟨x1, x2, x3, x4, x5, x6, x7, x8, x9, x10⟩ := hB.hx
  obtain ⟨y1, y2, y3, -⟩ := hB.hy'
  rcases Bool.eq_false_or_eq_true (wd x (T 0 1)) with hw' | hw'
  · rw [hw', ite_t] at q3
    simp only [hw', if_true] at q4
    obtain ⟨w, hw1, rfl⟩ := wd_t hw' (by omega)
    have hw8 : w < 8 := by omega
    have hr := hN.2.2.1
    have br := hN.2.2.2.1
    have h0 : 0 < T 0 0 := by
      have := hT.2.1.1
      omega
    have hd : dN T r < T 0 0 := by
      unfold dN
      rw [if_neg (by omega)]
      exact Nat.mod_lt _ h0
    obtain ⟨J, a1, a2, a3⟩ := X_copy hB.2.2.2.2.2.1 hB.2.2.2.2.2.2.2.2.1 (by omega) hN.1
    have o1 : ∀ i j, ¬ scr i j → J i j = I i j := fun i j q => by rw [a3 i (by unfold scr at q; omega)]
    obtain ⟨f1, f2, -⟩ := F_scr htw hse o1
    have t1 := X_today hB (hT.fr f1) (hN.fr f2)
    have e0 : J tw 0 = nI (T 0 0) := (hT.fr f1).2.2.1.1.1
    have sb : nI (T 0 0) - nI (dN T r) = nI (T 0 0 - dN T r) := nI_sb (by omega)
    obtain ⟨I1, c1, c2⟩ := X_ro_lp hB hT.1 h0 hw8 (k := T 0 0 - dN T r) (by omega) (T 0 0 - dN T r) 0 zN r J (by omega) (by unfold zN; omega) a2 hr (hT.fr f1).2.2.1 (by omega)
    rw [show nI 0 = (0 : Int32) from rfl] at c1
    have o2 : ∀ i j, ¬ scr i j → I1 i j = I i j := fun i j q => by rw [c2 i (by unfold scr at q; omega), o1 i j q]
    obtain ⟨f3, f4, -⟩ := F_scr htw hse o2
    have q4' := q4 (hT.fr f3)
    obtain ⟨J2, d1, d2, d3⟩ := Y_lay hB (hN.fr f4).2.1
    have o3 : ∀ i j, ¬ scr i j → J2 i j = I i j := fun i j q => by rw [d3 i j (by unfold scr at q; omega), o2 i j q]
    obtain ⟨f5, f6, -⟩ := F_scr htw hse o3
    have t2 := Y_dayNow hB (hT.fr f5) (hN.fr f6)
    have e2 : J2 144 5 = nI (T 0 0) := (hT.fr f5).2.2.2.1.1
    have sb2 : nI (T 0 0) - 1 - nI (dN T r) = nI (T 0 0 - dN T r - 1) := by
      rw [nl1, nI_sb (by omega), nI_sb (by omega)]
      congr 1
      omega
    obtain ⟨I2, g1, g2⟩ := Y_ro_lp hB hT.1 h0 hw8 (k := T 0 0 - dN T r) (by omega) (by omega) (T 0 0 - dN T r) 0 zN r J2 (by omega) (by unfold zN; omega) d2 hr (hT.fr f5).2.2.2 (by omega)
    rw [show nI 0 = (0 : Int32) from rfl] at g1
    obtain ⟨v, hv⟩ : ∃ v : Int32, v = match rnO T w (T 0 0 - dN T r) 0 r with | .inl v => v | .inr _ => -1 := ⟨_, rfl⟩
    refine W_scr (v := v) (I1 := I1) (I2 := I2) h' ?_ ?_ o2 (fun i j q => by rw [g2 i (by unfold scr at q; omega), d3 i j (by unfold scr at q; omega)])
    · simp only [f_X8_runsOut, nb1, x1, x2, x3, x5, x8, x9, cond_true, oR_eq, oI_eq, zac_zI, Option.bind_some, q3, if_neg ne10, a1, e0, t1, sb, c1, hv]
      cases rnO T w (T 0 0 - dN T r) 0 r with
      | inl v => rfl
      | inr v => rfl
    · simp only [f_X9_runsOut, nb144, y1, cond_true, oR_eq, oI_eq, zac_zI, Option.bind_some, q4', if_neg ne10, d1, e2, t2, sb2, g1, hv]
      cases rnO T w (T 0 0 - dN T r) 0 r with
      | inl v => rfl
      | inr v => rfl
  · rw [hw', ite_f] at q3
    simp only [hw', Bool.false_eq_true, if_false] at q4
    have q4' := q4 hT
    refine W_no h' (v := -1000000001) ?_ ?_
    · simp only [f_X8_runsOut, nb1, x1, cond_true, zac_zI, Option.bind_some, q3, if_pos]
    · simp only [f_X9_runsOut, nb144, y1, cond_true, zac_zI, Option.bind_some, q4', if_pos]
theorem X_wb_lp (hB : GB B tw s u) (hT : TI T) (h0 : 0 < T 0 0) {k : Nat} (hk : k ≤ 99) : ∀ m i n r I, i + m = k → m < n → XS u r I → rI r → XT tw T I → r 0 + m < 19000 → ∃ I', L_X8_willBe_40 n 1 (nI k) (nI i) (zI B I) = some (zI B I') ∧ XS u (rDs T m r) I' ∧ Fr u (u + 4) I I' := by
  have htw := hB.hw
  obtain ⟨x1, x2, x3, x4, x5, x6, x7, x8, x9, x10⟩ := hB.hx
  intro m
  induction m with
  | zero =>
    intro i n r I hi hn h hr hX hb
    obtain ⟨n, rfl⟩ := Nat.exists_eq_succ_of_ne_zero (show n ≠ 0 by omega)
    have c1 : nI k ≤ nI i := (nI_leI (by omega) (by omega)).mpr (by omega)
    refine ⟨I, ?_, h, Fr.rf⟩
    simp only [L_X8_willBe_40, if_pos c1]
  | succ m ih =>
    intro i n r I hi hn h hr hX hb
    obtain ⟨n, rfl⟩ := Nat.exists_eq_succ_of_ne_zero (show n ≠ 0 by omega)
    have c1 : ¬ nI k ≤ nI i := fun q => absurd ((nI_leI (by omega) (by omega)).mp q) (by omega)
    obtain ⟨I1, a1, a2, a3, a4⟩ := X_passDay hB.2.2.2.2.2.2.2.2.1 hB.2.2.1 (by omega) h hr hX hT h0 (by omega)
    obtain ⟨-, d2, -⟩ := rDay_all hT hr (by omega)
    obtain ⟨I2, b1, b2, b3⟩ := ih (i + 1) n (rDay T r) I1 (by omega) (by omega) a2 a3 (hX.fr a4 (by omega)) (by omega)
    refine ⟨I2, ?_, b2, a4.tr b3⟩
    simp only [L_X8_willBe_40, if_neg c1, x1, x2, x8, x9, cond_true, oR_eq, zac_zI, Option.bind_some, a1, nI_1, b1]
theorem Y_wb_lp (hB : GB B tw s u) (hT : TI T) (h0 : 0 < T 0 0) {k : Nat} (hk : k ≤ 99) : ∀ m i n q r I, i + m = k → m < n → YS 146 r I → rI r → YT T I → r 0 + m < 19000 → ∃ I', L_X9_willBe_34 n 144 (nI k) (nI q) (nI i) (zI B I) = some (nI (q + cW T m r), zI B I') ∧ Fr 146 146 I I' := by
  obtain ⟨x1, x2, x3, l1, l2, l3, l4, x8, x9⟩ := hB.hy'
  intro m
  induction m with
  | zero =>
    intro i n q r I hi hn h hr hX hb
    obtain ⟨n, rfl⟩ := Nat.exists_eq_succ_of_ne_zero (show n ≠ 0 by omega)
    have c1 : nI k ≤ nI i := (nI_leI (by omega) (by omega)).mpr (by omega)
    refine ⟨I, ?_, Fr.rf⟩
    simp only [L_X9_willBe_34, if_pos c1, cW, Nat.add_zero]
  | succ m ih =>
    intro i n q r I hi hn h hr hX hb
    obtain ⟨n, rfl⟩ := Nat.exists_eq_succ_of_ne_zero (show n ≠ 0 by omega)
    have c1 : ¬ nI k ≤ nI i := fun q => absurd ((nI_leI (by omega) (by omega)).mp q) (by omega)
    obtain ⟨I1, a1, a2, a4⟩ := Y_goOn hB.2.1 x9 (Or.inr rfl) h hr hX hT h0 (by omega)
    obtain ⟨d1, d2, -⟩ := rDay_all hT hr (by omega)
    obtain ⟨I2, b1, b3⟩ := ih (i + 1) n (q + cM T (r 0 % T 0 0) (T 0 3) 0 r) (rDay T r) I1 (by omega) (by omega) a2 d1 (hX.same (YTs.fr a4 (by omega))) (by omega)
    refine ⟨I2, ?_, a4.tr b3⟩
    simp only [L_X9_willBe_34, if_neg c1, x1, x3, cond_true, oR_eq, zac_zI, Option.bind_some, a1, b2_some, nI_1, nI_add, b1, cW, Nat.add_assoc]
theorem w_willBe (h : CR B I c) (hc : c ≤ 64) : W2 B I c (f_X8_willBe 1 x (zI B I)) (f_X9_willBe 144 x) := by
  have h' := h
  obtain ⟨tw, s, u, T, r, pa, pn, P, kf, K, tl, X, kn, kw, kd, kb, en, ew, el, sd, hB, hT, hN, hP, hI, hX, hK, hBk, hS⟩ := h
  have q5 := fun M => Y_btw (x := x) (a := 1) (b := 99) (M := M) (y := 1) (z := 99) rfl rfl (by omega) (by omega)
  have b1 := hT.1.2.1
  have b0 := hT.1.1
  have hse := hB.hs
  have htw := hB.hw
  obtain ⟨x1, x2, x3, x4, x5, x6, x7, x8, x9, x10⟩ := hB.hx
  obtain ⟨y1, y2, y3, -⟩ := hB.hy'
  have z0 := nI_z (v := T 0 0) (by omega)
  have hr := hN.2.2.1
  have br := hN.2.2.2.1
  have br1 := hN.2.2.2.2.1
  rcases Bool.eq_false_or_eq_true (btw x 1 99) with hb | hb
  · rw [hb, ite_t] at q5
    obtain ⟨v, hv1, hv, rfl⟩ := btw_t hb (by omega)
    have c1' : ¬ nI v < 1 := fun q => absurd ((nI_ltI (b := 1) (by omega) (by omega)).mp q) (by omega)
    have c2' : nI v ≤ 99 := (nI_leI (b := 99) (by omega) (by omega)).mpr hv
    have e0 := hT.2.2.1.1.1
    by_cases hd : T 0 0 = 0
    · have e5 := hT.2.2.2.1.1
      refine W_no h' (v := -1000000003) ?_ ?_
      · simp only [f_X8_willBe, nb1, x1, x2, x5, cond_true, oR_eq, oI_eq, zac_zI, Option.bind_some, if_neg c1', if_pos c2', e0, z0, if_pos hd]
      · simp only [f_X9_willBe, nb144, y1, cond_true, oI_eq, Option.bind_some, q5, if_neg ne10, e5, z0, if_pos hd]
    · obtain ⟨J, a1, a2, a3⟩ := X_copy hB.2.2.2.2.2.1 hB.2.2.2.2.2.2.2.2.1 (by omega) hN.1
      have o1 : ∀ i j, ¬ scr i j → J i j = I i j := fun i j q => by rw [a3 i (by unfold scr at q; omega)]
      obtain ⟨f1, f2, -⟩ := F_scr htw hse o1
      obtain ⟨I1, c1, c3, c2⟩ := X_wb_lp hB hT.1 (by omega) hv v 0 zN r J (by omega) (by unfold zN; omega) a2 hr (hT.fr f1).2.2.1 (by omega)
      rw [show nI 0 = (0 : Int32) from rfl] at c1
      have o2 : ∀ i j, ¬ scr i j → I1 i j = I i j := fun i j q => by rw [c2 i (by unfold scr at q; omega), o1 i j q]
      obtain ⟨f3, f4, -⟩ := F_scr htw hse o2
      obtain ⟨J2, d1, d2, d3⟩ := Y_lay hB (hN.fr f4).2.1
      have o3 : ∀ i j, ¬ scr i j → J2 i j = I i j := fun i j q => by rw [d3 i j (by unfold scr at q; omega), o2 i j q]
      obtain ⟨f5, f6, -⟩ := F_scr htw hse o3
      have e5 : I1 144 5 = nI (T 0 0) := (hT.fr f3).2.2.2.1.1
      obtain ⟨I2, g1, g2⟩ := Y_wb_lp hB hT.1 (by omega) hv v 0 zN 0 r J2 (by omega) (by unfold zN; omega) d2 hr (hT.fr f5).2.2.2 (by omega)
      rw [show nI 0 = (0 : Int32) from rfl, Nat.zero_add] at g1
      have k1 : I1 u 5 = nI (rDs T v r 1) := c3.sc (j := 1) (by omega)
      have k2 : I1 s 5 = nI (r 1) := (hN.fr f4).1.sc (j := 1) (by omega)
      have k3 := rDs_1 hT.1 v r hr (by omega) (by omega)
      have sb : nI (rDs T v r 1) - nI (r 1) = nI (cW T v r) := by
        rw [nI_sb (by omega), k3]
        congr 1
        omega
      refine W_scr (v := nI (cW T v r)) (I1 := I1) (I2 := I2) h' ?_ ?_ o2 (fun i j q => by rw [g2 i (by unfold scr at q; omega), d3 i j (by unfold scr at q; omega)])
      · simp only [f_X8_willBe, nb1, x1, x2, x3, x4, x5, x8, x9, cond_true, oR_eq, oI_eq, zac_zI, Option.bind_some, if_neg c1', if_pos c2', e0, z0, if_neg hd, a1, c1, k1, k2, sb]
      · simp only [f_X9_willBe, nb144, y1, cond_true, oR_eq, oI_eq, zac_zI, Option.bind_some, q5, if_neg ne10, e5, z0, if_neg hd, d1, g1, b2_some]
  · rw [hb, ite_f] at q5
    refine W_no h' (v := -1000000002) ?_ ?_
    · rcases btw_n hb (by omega) (by omega) with h1 | ⟨h1, h2, -⟩
      · have h1 : x < 1 := h1
        simp only [f_X8_willBe, nb1, cond_true, if_pos h1]
      · have h1 : ¬ x < 1 := h1
        have h2 : ¬ x ≤ 99 := h2
        simp only [f_X8_willBe, nb1, cond_true, if_neg h1, if_neg h2]
    · simp only [f_X9_willBe, nb144, cond_true, Option.bind_some, q5, if_pos]
end TRI
