/-! a day passes -/
def z0 (k : Nat) (r : Nat → Nat) : Nat → Nat := va_up r k 0
def l0 (w : Nat) (r : Nat → Nat) : Nat → Nat := va_up r (13 + w) (r (5 + w))
def rYear (r : Nat → Nat) : Nat → Nat := fun k => if 13 ≤ k ∧ k < 21 then r (k - 8) else if 29 ≤ k ∧ k < 69 then 0 else r k
theorem itr_z0 : ∀ m i r, itr z0 m i r = fun k => if i ≤ k ∧ k < i + m then 0 else r k := by
  intro m
  induction m with
  | zero => intro i r; funext k; simp only [itr]; rw [if_neg (by omega)]
  | succ m ih =>
    intro i r
    simp only [itr]
    rw [ih]
    funext k
    by_cases e : k = i
    · subst e; rw [if_neg (by omega), if_pos (by omega)]; simp [z0, va_up]
    · by_cases c : i + 1 ≤ k ∧ k < i + 1 + m
      · rw [if_pos c, if_pos (by omega)]
      · rw [if_neg c, if_neg (by omega)]; simp [z0, va_up, e]
theorem itr_l0 : ∀ m i r, i + m ≤ 8 → itr l0 m i r = fun k => if 13 + i ≤ k ∧ k < 13 + i + m then r (k - 8) else r k := by
  intro m
  induction m with
  | zero => intro i r _; funext k; simp only [itr]; rw [if_neg (by omega)]
  | succ m ih =>
    intro i r hi
    simp only [itr]
    rw [ih _ _ (by omega)]
    funext k
    by_cases e : k = 13 + i
    · subst e; rw [if_neg (by omega), if_pos (by omega)]; simp only [l0, va_up, if_true]; rw [show 13 + i - 8 = 5 + i by omega]
    · by_cases c : 13 + (i + 1) ≤ k ∧ k < 13 + (i + 1) + m
      · rw [if_pos c, if_pos (by omega)]; simp only [l0, va_up]; rw [if_neg (by omega)]
      · rw [if_neg c, if_neg (by omega)]; simp [l0, va_up, e]
theorem rYear_itr (r : Nat → Nat) : itr z0 40 29 (itr l0 8 0 r) = rYear r := by
  rw [itr_z0, itr_l0 _ _ _ (by omega)]
  funext k
  simp only [rYear]
  by_cases c : 29 ≤ k ∧ k < 69
  · rw [if_pos (by omega), if_neg (by omega), if_pos c]
  · rw [if_neg (by omega)]
    by_cases c2 : 13 ≤ k ∧ k < 21
    · rw [if_pos (by omega), if_pos c2]
    · rw [if_neg (by omega), if_neg c2, if_neg c]
theorem rI.year {r : Nat → Nat} (h : rI r) : rI (rYear r) := by
  refine ⟨fun w hw => ?_, fun w hw => ?_, h.2.2.1, h.2.2.2.1, h.2.2.2.2.1, h.2.2.2.2.2.1, h.2.2.2.2.2.2⟩
  · have a := h.1 w hw
    have e0 : rYear r (13 + w) = r (5 + w) := by unfold rYear; rw [if_pos (by omega)]; congr 1; omega
    have e1 : rYear r (29 + w) = 0 := by unfold rYear; rw [if_neg (by omega), if_pos (by omega)]
    have e2 : rYear r (37 + w) = 0 := by unfold rYear; rw [if_neg (by omega), if_pos (by omega)]
    have e3 : rYear r (45 + w) = 0 := by unfold rYear; rw [if_neg (by omega), if_pos (by omega)]
    have e4 : rYear r (53 + w) = 0 := by unfold rYear; rw [if_neg (by omega), if_pos (by omega)]
    have e5 : rYear r (61 + w) = 0 := by unfold rYear; rw [if_neg (by omega), if_pos (by omega)]
    have e6 : rYear r (5 + w) = r (5 + w) := by unfold rYear; rw [if_neg (by omega), if_neg (by omega)]
    rw [e0, e1, e2, e3, e4, e5, e6]
    omega
  · have e6 : rYear r (21 + w) = r (21 + w) := by unfold rYear; rw [if_neg (by omega), if_neg (by omega)]
    rw [e6]
    exact h.2.1 w hw
def rNd (T : Nat → Nat → Nat) (n : Nat) (r : Nat → Nat) : Nat → Nat :=
  if mB T r (T 6 (4 * n)) (T 6 (4 * n + 1)) then va_up (mR' T r (T 6 (4 * n)) (T 6 (4 * n + 1))) 1 (cnt (mR' T r (T 6 (4 * n)) (T 6 (4 * n + 1)) 1) 1)
  else va_up (va_up (mR' T r (T 6 (4 * n)) (T 6 (4 * n + 1))) 2 (cnt (mR' T r (T 6 (4 * n)) (T 6 (4 * n + 1)) 2) 1)) 3 (cnt (mR' T r (T 6 (4 * n)) (T 6 (4 * n + 1)) 3) (T 6 (4 * n + 3)))
def dS (T : Nat → Nat → Nat) (d n : Nat) (r : Nat → Nat) : Nat → Nat := if T 6 (4 * n + 2) = d then rNd T n r else r
def rDay (T : Nat → Nat → Nat) (r : Nat → Nat) : Nat → Nat :=
  let r1 := itr (dS T (r 0 % T 0 0)) (T 0 3) 0 r
  if (r1 0 + 1) % T 0 0 = 0 then rYear (va_up r1 0 (r1 0 + 1)) else va_up r1 0 (r1 0 + 1)
theorem rSays_0 {r : Nat → Nat} {p w k : Nat} (hk : k < 13) : rSays r p w k = r k := rSays_o (by omega) (by omega) (by omega)
theorem rGo_0 {r : Nat → Nat} {p S k : Nat} (hk : k < 13) : rGo r p S k = r k := by
  have key : ∀ m i r, itr (goS p S) m i r k = r k := by
    intro m
    induction m with
    | zero => intros; rfl
    | succ m ih =>
      intro i r
      simp only [itr]
      rw [ih]
      unfold goS
      split
      · exact rSays_0 hk
      · rfl
  exact key 8 0 r
theorem mR'_0 {T : Nat → Nat → Nat} {r : Nat → Nat} {p w k : Nat} (hk : k < 13) (h4 : k ≠ 4) : mR' T r p w k = r k := by
  unfold mR'
  split
  · exact rSays_0 hk
  · split
    · exact rGo_0 hk
    · split
      · exact rGo_0 hk
      · split
        · unfold rPt; rw [va_up, if_neg h4]
        · rfl
theorem rNd_0 {T : Nat → Nat → Nat} {n : Nat} {r : Nat → Nat} : rNd T n r 0 = r 0 := by
  unfold rNd
  split
  · rw [va_up, if_neg (by omega)]; exact mR'_0 (by omega) (by omega)
  · rw [va_up, if_neg (by omega), va_up, if_neg (by omega)]; exact mR'_0 (by omega) (by omega)
theorem dS_0 {T : Nat → Nat → Nat} {d : Nat} : ∀ m i r, itr (dS T d) m i r 0 = r 0 := by
  intro m
  induction m with
  | zero => intros; rfl
  | succ m ih =>
    intro i r
    simp only [itr]
    rw [ih]
    unfold dS
    split
    · exact rNd_0
    · rfl
section XDY
variable {B : zM} {s t p w n : Nat} {r : Nat → Nat} {T : Nat → Nat → Nat} {I : Nat → Nat → Int32}
theorem X_meetOrLose (hs : isSt B s) (ht : isTw B t) (hx : t + 8 < s ∨ s + 4 < t) (h : XS s r I) (hr : rI r) (hX : XT t T I) (hT : TI T) (hn : n < T 0 3) : ∃ I', f_X5_meetOrLose s t (nI n) (zI B I) = some (zI B I') ∧ XS s (rNd T n r) I' ∧ rI (rNd T n r) ∧ Fr s (s + 4) I I' := by
  have hT3 := hT.2.2.2.1
  have hN := hT.2.2.2.2.2.2.2.2.1 n hn
  have hp5 := hT.2.2.1
  have hw8 := hT.2.1
  have e1 := hX.2.2.2 n hn
  obtain ⟨I1, q1, x1, r1, f1⟩ := X_meets (p := T 6 (4 * n)) (w := T 6 (4 * n + 1)) hs ht hx h hr hX hT (by omega) (by omega)
  have hX1 := hX.fr f1 (by omega)
  have e3 := hX1.2.2.2 n hn
  simp (disch := omega) only [f_X5_meetOrLose, zac_zI, ht, hs, cond_true, oR_eq, oI_eq, Option.bind_some, aI_eq, if_pos, e1.1, e1.2.1, q1, b2_some]
  rcases Bool.eq_false_or_eq_true (mB T r (T 6 (4 * n)) (T 6 (4 * n + 1))) with hb | hb
  · have a5 := x1.sc (j := 1) (by omega)
    have hbd := r1.2.2.2.1
    refine ⟨_, ?_, by unfold rNd; rw [if_pos hb]; exact x1.pSc (j := 1) (by omega), by unfold rNd; rw [if_pos hb]; exact r1.up (by omega) (by omega) cnt_le, f1.tr (Fr.up (i := s) (Nat.le_refl _) (by omega))⟩
    rw [if_pos hb, if_neg (by decide)]
    simp (disch := omega) only [a5, X_counted1, Option.bind_some, pI_eq, hs, cond_true]
  · have a6 := x1.sc (j := 2) (by omega)
    have hbd := r1.2.2.2.2.1
    have hbd3 := r1.2.2.2.2.2.1
    have x2 := x1.pSc (j := 2) (v := cnt (mR' T r (T 6 (4 * n)) (T 6 (4 * n + 1)) 2) 1) (by omega)
    have a7 := x2.sc (j := 3) (by omega)
    rw [show va_up (mR' T r (T 6 (4 * n)) (T 6 (4 * n + 1))) 2 (cnt (mR' T r (T 6 (4 * n)) (T 6 (4 * n + 1)) 2) 1) 3 = mR' T r (T 6 (4 * n)) (T 6 (4 * n + 1)) 3 by rw [va_up, if_neg (by omega)]] at a7
    have x3 := x2.pSc (j := 3) (v := cnt (mR' T r (T 6 (4 * n)) (T 6 (4 * n + 1)) 3) (T 6 (4 * n + 3))) (by omega)
    have f2 : Fr s (s + 4) I1 (va_up I1 s (upd (I1 s) (4 + 2) (nI (cnt (mR' T r (T 6 (4 * n)) (T 6 (4 * n + 1)) 2) 1)))) := Fr.up (i := s) (Nat.le_refl _) (by omega)
    have e4 := (hX1.fr f2 (by omega)).2.2.2 n hn
    refine ⟨_, ?_, by unfold rNd; rw [hb, if_neg (by decide)]; exact x3, by unfold rNd; rw [hb, if_neg (by decide)]; exact (r1.up (by omega) (by omega) cnt_le).up (by omega) (by omega) cnt_le, (f1.tr f2).tr (Fr.up (i := s) (Nat.le_refl _) (by omega))⟩
    rw [hb]
    simp (disch := omega) only [Bool.false_eq_true, if_false, if_true, a6, X_counted1, Option.bind_some, pI_eq, oI_eq, oR_eq, hs, ht, cond_true, a7, aI_eq, if_pos, e4.2.2.2, X_counted]
theorem X_passDay_lp {d : Nat} (hs : isSt B s) (ht : isTw B t) (hx : t + 8 < s ∨ s + 4 < t) (hT : TI T) (hd : d < 1000) : ∀ m i n r I, i + m = T 0 3 → m < n → XS s r I → rI r → XT t T I → ∃ I', L_X5_passDay_11 n s t (nI d) (nI i) (zI B I) = some (zI B I') ∧ XS s (itr (dS T d) m i r) I' ∧ rI (itr (dS T d) m i r) ∧ Fr s (s + 4) I I' := by
  intro m
  have hT3 := hT.2.2.2.1
  have hT0 := hT.1
  induction m with
  | zero =>
    intro i n r I hi hn h hr hX
    obtain ⟨n, rfl⟩ := Nat.exists_eq_succ_of_ne_zero (show n ≠ 0 by omega)
    have hi : i = T 0 3 := by omega
    refine ⟨I, ?_, h, hr, Fr.rf⟩
    simp only [Nat.succ_eq_add_one, L_X5_passDay_11, oI_eq, ht, cond_true, Option.bind_some, hX.1.2.2.2.2.1]
    rw [if_pos ((nI_leI (by omega) (by omega)).mpr (by omega))]
  | succ m ih =>
    intro i n r I hi hn h hr hX
    obtain ⟨n, rfl⟩ := Nat.exists_eq_succ_of_ne_zero (show n ≠ 0 by omega)
    have hc : ¬ nI (T 0 3) ≤ nI i := fun q => absurd ((nI_leI (by omega) (by omega)).mp q) (by omega)
    have e1 := (hX.2.2.2 i (by omega)).2.2.1
    have hN := (hT.2.2.2.2.2.2.2.2.1 i (by omega)).2.2.1
    simp (disch := omega) only [Nat.succ_eq_add_one, L_X5_passDay_11, oI_eq, oR_eq, ht, cond_true, Option.bind_some, hX.1.2.2.2.2.1, if_neg hc, aI_eq, if_pos, e1, itr]
    by_cases c : T 6 (4 * i + 2) = d
    · rw [if_pos (by rw [c])]
      have e : dS T d i r = rNd T i r := by unfold dS; rw [if_pos c]
      rw [e]
      obtain ⟨I1, q1, x1, r1, f1⟩ := X_meetOrLose hs ht hx h hr hX hT (show i < T 0 3 by omega)
      obtain ⟨I2, q2, x2, r2, f2⟩ := ih (i + 1) n (rNd T i r) I1 (by omega) (by omega) x1 r1 (hX.fr f1 (by omega))
      refine ⟨I2, ?_, x2, r2, f1.tr f2⟩
      simp only [zac_zI, hs, cond_true, q1, Option.bind_some]
      rw [nl1, nI_add, q2]
    · rw [if_neg (fun q => c ((nI_eq (by omega) (by omega)).mp q))]
      have e : dS T d i r = r := by unfold dS; rw [if_neg c]
      rw [e, nl1, nI_add]
      exact ih (i + 1) n r I (by omega) (by omega) h hr hX
theorem X_beginYear_lp1 (hs : isSt B s) : ∀ m i n r I, i + m = 8 → m < n → XS s r I → ∃ I', L_X5_beginYear_2 n s (nI i) (zI B I) = some (zI B I') ∧ XS s (itr l0 m i r) I' ∧ Fr s (s + 4) I I' := by
  intro m
  induction m with
  | zero =>
    intro i n r I hi hn h
    obtain ⟨n, rfl⟩ := Nat.exists_eq_succ_of_ne_zero (show n ≠ 0 by omega)
    have hi : i = 8 := by omega
    subst hi
    refine ⟨I, ?_, h, Fr.rf⟩
    simp only [Nat.succ_eq_add_one, L_X5_beginYear_2]
    rw [if_pos (by decide)]
  | succ m ih =>
    intro i n r I hi hn h
    obtain ⟨n, rfl⟩ := Nat.exists_eq_succ_of_ne_zero (show n ≠ 0 by omega)
    have hc : ¬ (8 : Int32) ≤ nI i := by rw [nl8]; exact fun q => absurd ((nI_leI (by omega) (by omega)).mp q) (by omega)
    have e := h.li (show i < 8 by omega)
    obtain ⟨I2, q2, x2, f2⟩ := ih (i + 1) n (l0 i r) _ (by omega) (by omega) (h.pLe (v := r (5 + i)) (show i < 8 by omega))
    refine ⟨I2, ?_, x2, (Fr.up (i := s + 2) (by omega) (by omega)).tr f2⟩
    simp (disch := omega) only [Nat.succ_eq_add_one, L_X5_beginYear_2, if_neg hc, oR_eq, hs, cond_true, Option.bind_some, aI_eq, if_pos, e, sI_eq, nl1, nI_add, q2]
theorem X_beginYear_lp2 (hs : isSt B s) : ∀ m i n r I, i + m = 40 → m < n → XS s r I → ∃ I', L_X5_beginYear_28 n s (nI i) (zI B I) = some (zI B I') ∧ XS s (itr z0 m (29 + i) r) I' ∧ Fr s (s + 4) I I' := by
  intro m
  induction m with
  | zero =>
    intro i n r I hi hn h
    obtain ⟨n, rfl⟩ := Nat.exists_eq_succ_of_ne_zero (show n ≠ 0 by omega)
    have hi : i = 40 := by omega
    subst hi
    refine ⟨I, ?_, h, Fr.rf⟩
    simp only [Nat.succ_eq_add_one, L_X5_beginYear_28, oR_eq, hs, cond_true, Option.bind_some]
    rw [if_pos (by decide)]
  | succ m ih =>
    intro i n r I hi hn h
    obtain ⟨n, rfl⟩ := Nat.exists_eq_succ_of_ne_zero (show n ≠ 0 by omega)
    have hc : ¬ nI 40 ≤ nI i := fun q => absurd ((nI_leI (by omega) (by omega)).mp q) (by omega)
    obtain ⟨I2, q2, x2, f2⟩ := ih (i + 1) n (z0 (29 + i) r) _ (by omega) (by omega) (h.pHo (v := 0) (show i < 40 by omega))
    refine ⟨I2, ?_, x2, (Fr.up (i := s + 4) (by omega) (by omega)).tr f2⟩
    simp (disch := omega) only [Nat.succ_eq_add_one, L_X5_beginYear_28, oR_eq, hs, cond_true, Option.bind_some, if_neg hc, nl0, if_pos, sI_eq, nl1, nI_add, q2]
theorem X_beginYear (hs : isSt B s) (h : XS s r I) : ∃ I', f_X5_beginYear s (zI B I) = some (zI B I') ∧ XS s (rYear r) I' ∧ Fr s (s + 4) I I' := by
  obtain ⟨I1, q1, x1, f1⟩ := X_beginYear_lp1 hs 8 0 zN r I (by omega) (by decide) h
  obtain ⟨I2, q2, x2, f2⟩ := X_beginYear_lp2 hs 40 0 zN _ I1 (by omega) (by decide) x1
  rw [Nat.add_zero, rYear_itr] at x2
  refine ⟨I2, ?_, x2, f1.tr f2⟩
  simp only [f_X5_beginYear, hs, cond_true, nl0, q1, q2, Option.bind_some]
theorem X_passDay (hs : isSt B s) (ht : isTw B t) (hx : t + 8 < s ∨ s + 4 < t) (h : XS s r I) (hr : rI r) (hX : XT t T I) (hT : TI T) (h0 : 0 < T 0 0) (hb : r 0 < 19000) : ∃ I', f_X5_passDay s t (zI B I) = some (zI B I') ∧ XS s (rDay T r) I' ∧ rI (rDay T r) ∧ Fr s (s + 4) I I' := by
  have e4 := h.sc (j := 0) (by omega)
  have d1 := (X_dayOfYear (g := r 0) ht hX hT (by omega)).resolve_right (by omega)
  have hlt : r 0 % T 0 0 < 1000 := by have := Nat.mod_lt (r 0) h0; have := hT.1; omega
  obtain ⟨I1, q1, x1, r1, f1⟩ := X_passDay_lp hs ht hx hT hlt (T 0 3) 0 zN r I (by omega) (Nat.lt_of_le_of_lt hT.2.2.2.1 (by decide)) h hr hX
  have g0 := dS_0 (T := T) (d := r 0 % T 0 0) (T 0 3) 0 r
  have e5 := x1.sc (j := 0) (by omega)
  have x2 := x1.pSc (j := 0) (v := itr (dS T (r 0 % T 0 0)) (T 0 3) 0 r 0 + 1) (by omega)
  have f2 : Fr s (s + 4) I1 (va_up I1 s (upd (I1 s) (4 + 0) (nI (itr (dS T (r 0 % T 0 0)) (T 0 3) 0 r 0 + 1)))) := Fr.up (i := s) (Nat.le_refl _) (by omega)
  have e6 := x2.sc (j := 0) (by omega)
  rw [show va_up (itr (dS T (r 0 % T 0 0)) (T 0 3) 0 r) 0 (itr (dS T (r 0 % T 0 0)) (T 0 3) 0 r 0 + 1) 0 = itr (dS T (r 0 % T 0 0)) (T 0 3) 0 r 0 + 1 by simp [va_up]] at e6
  have hX2 := (hX.fr f1 (by omega)).fr f2 (by omega)
  have d2 := (X_dayOfYear (g := itr (dS T (r 0 % T 0 0)) (T 0 3) 0 r 0 + 1) ht hX2 hT (by omega)).resolve_right (by omega)
  have hr2 : rI (va_up (itr (dS T (r 0 % T 0 0)) (T 0 3) 0 r) 0 (itr (dS T (r 0 % T 0 0)) (T 0 3) 0 r 0 + 1)) := r1.cnts (fun k hk => by rw [va_up, if_neg (by omega)]) (by simp only [va_up, if_true]; omega) (by rw [va_up, if_neg (by omega)]; exact r1.2.2.2.1) (by rw [va_up, if_neg (by omega)]; exact r1.2.2.2.2.1) (by rw [va_up, if_neg (by omega)]; exact r1.2.2.2.2.2.1) (by rw [va_up, if_neg (by omega)]; exact r1.2.2.2.2.2.2)
  simp only [Nat.add_zero] at e4 e5 e6 x2 f2 d2
  simp (disch := omega) only [f_X5_passDay, hs, ht, cond_true, oI_eq, zac_zI, Option.bind_some, e4, d1, nl0, q1, e5, nl1, nI_add, pI_eq, e6, d2]
  by_cases c : (itr (dS T (r 0 % T 0 0)) (T 0 3) 0 r 0 + 1) % T 0 0 = 0
  · obtain ⟨I3, q3, x3, f3⟩ := X_beginYear hs x2
    refine ⟨I3, ?_, ?_, ?_, (f1.tr f2).tr f3⟩
    · rw [if_pos (by rw [c]), q3]; rfl
    · unfold rDay; simp only []; rw [if_pos c]; exact x3
    · unfold rDay; simp only []; rw [if_pos c]; exact hr2.year
  · refine ⟨_, ?_, ?_, ?_, f1.tr f2⟩
    rotate_left
    · unfold rDay; simp only []; rw [if_neg c]; exact x2
    · unfold rDay; simp only []; rw [if_neg c]; exact hr2
    · rw [if_neg (fun q => c ((nI_eq (Nat.lt_of_le_of_lt (Nat.mod_le _ _) (by omega)) (by omega)).mp q))]
end XDY
