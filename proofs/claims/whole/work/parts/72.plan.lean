/-! plan: the reference's small steps -/
theorem eW_gt {b x : Nat} (hb : b < 100000) (hx : x < 100000) : nI x < eW b ↔ x + 1 < b := by
  by_cases h : b = 0
  · subst h
    rw [eW_0]
    refine ⟨fun q => ?_, fun q => absurd q (by omega)⟩
    rw [Int32.lt_iff_toInt_lt, nI_toInt (by omega), show (-1 : Int32).toInt = -1 from rfl] at q
    omega
  · unfold eW
    rw [if_neg h, nI_ltI (by omega) (by omega)]
    omega
theorem m1_mul (x : Int32) : (-1 : Int32) * x = -x := by rw [Int32.neg_mul, Int32.one_mul]
def PYf (T : Nat → Nat → Nat) (d N : Nat) (S0 : Nat → Nat) (I : Nat → Nat → Int32) : Prop := I 144 35 = nI N ∧ (∀ j, j < N → I 163 j = nI (lsP T d (T 0 3) j)) ∧ (∀ j, j ≤ N → I 164 j = nI (sm (wtP T d) (N - j) j)) ∧ (∀ v, v < 8 → I 167 v = nI (S0 v)) ∧ YT T I
def BSy (N : Nat) (s : Nat × Nat × (Nat → Nat)) (I : Nat → Nat → Int32) : Prop := I 144 44 = eW s.1 ∧ I 144 45 = nI s.2.1 ∧ (0 < s.1 → ∀ j, j < N → I 168 j = nI (s.2.2 j))
def USy (S0 sp : Nat → Nat) (I : Nat → Nat → Int32) : Prop := ∀ v, v < 8 → I 166 v = nI (S0 v - sp v) ∧ sp v ≤ S0 v
def fyP (a j : Nat) : Prop := a = 165 ∨ a = 166 ∨ a = 168 ∨ (a = 144 ∧ (j = 41 ∨ j = 42 ∨ j = 44 ∨ j = 45))
theorem PYf.fr {T : Nat → Nat → Nat} {d N : Nat} {S0 : Nat → Nat} {I I' : Nat → Nat → Int32} (h : PYf T d N S0 I) (hf : ∀ a j, ¬ fyP a j → I' a j = I a j) : PYf T d N S0 I' := by
  obtain ⟨h1, h2, h3, h4, h5⟩ := h
  have e : ∀ a, a = 148 ∨ a = 149 ∨ a = 150 ∨ a = 151 ∨ a = 152 ∨ a = 153 → I' a = I a := fun a ha => funext fun j => hf a j (by unfold fyP; omega)
  exact ⟨by rw [hf _ _ (by unfold fyP; omega)]; exact h1, fun j hj => by rw [hf _ _ (by unfold fyP; omega)]; exact h2 j hj, fun j hj => by rw [hf _ _ (by unfold fyP; omega)]; exact h3 j hj, fun j hj => by rw [hf _ _ (by unfold fyP; omega)]; exact h4 j hj, h5.same ⟨hf _ _ (by unfold fyP; omega), hf _ _ (by unfold fyP; omega), hf _ _ (by unfold fyP; omega), hf _ _ (by unfold fyP; omega), e _ (by omega), e _ (by omega), e _ (by omega), e _ (by omega), e _ (by omega), e _ (by omega)⟩⟩
section PLY
variable {B : zM} {tw s0 u0 N d k b v S : Nat} {T : Nat → Nat → Nat} {S0 sp : Nat → Nat} {I : Nat → Nat → Int32}
theorem GB.py (h : GB B tw s0 u0) : mR B 144 36 = 163 ∧ mR B 144 37 = 164 ∧ mR B 144 38 = 165 ∧ mR B 144 39 = 166 ∧ mR B 144 40 = 167 ∧ mR B 144 43 = 168 ∧ zlI B 163 = 8 ∧ zln B 10 163 = 8 ∧ zlI B 164 = 9 ∧ zln B 10 164 = 9 ∧ zlI B 165 = 9 ∧ zln B 10 165 = 9 ∧ zlI B 166 = 8 ∧ zln B 10 166 = 8 ∧ zlI B 167 = 8 ∧ zln B 10 167 = 8 ∧ zlI B 168 = 8 ∧ zln B 10 168 = 8 ∧ mR B 144 14 = 153 ∧ zlI B 153 = 32 ∧ mR B 144 11 = 150 ∧ zlI B 150 = 16 ∧ mR B 144 12 = 151 ∧ zln B 11 151 = 8 := by
  have hy := h.2.1
  exact ⟨by simp only [hy], by simp only [hy], by simp only [hy], by simp only [hy], by simp only [hy], by simp only [hy], by simp only [hy], by simp only [hy], by simp only [hy], by simp only [hy], by simp only [hy], by simp only [hy], by simp only [hy], by simp only [hy], by simp only [hy], by simp only [hy], by simp only [hy], by simp only [hy], by simp only [hy], by simp only [hy], by simp only [hy], by simp only [hy], by simp only [hy], by simp only [hy]⟩
theorem Y_wof (hB : GB B tw s0 u0) (hT : TI T) (hY : YT T I) {n : Nat} (hn : n < T 0 3) : f_X9_wordOf 144 (nI n) (zI B I) = some (nI (T 6 (4 * n + 1))) ∧ f_X9_worthOf 144 (nI n) (zI B I) = some (nI (T 6 (4 * n + 3))) := by
  obtain ⟨y1, -⟩ := hB.hy'
  obtain ⟨-, -, -, -, -, -, -, -, -, -, -, -, -, -, -, -, -, -, m1, m2, -⟩ := hB.py
  have b3 := hT.2.2.2.1
  have a1 := aI_at (B := B) (I := I) (by omega) (by rw [m2]; omega) (hY.2.2.2.2.2 n hn).2.1
  have a2 := aI_at (B := B) (I := I) (by omega) (by rw [m2]; omega) (hY.2.2.2.2.2 n hn).2.2.2
  have p1 : (4 : Int32) * nI n + 1 = nI (4 * n + 1) := by rw [nl4, nl1, pk_mul, nI_add]
  have p3 : (4 : Int32) * nI n + 3 = nI (4 * n + 3) := by rw [nl4, nl3, pk_mul, nI_add]
  constructor
  · simp only [f_X9_wordOf, nb144, y1, m1, cond_true, oR_eq, Option.bind_some, p1, a1]
  · simp only [f_X9_worthOf, nb144, y1, m1, cond_true, oR_eq, Option.bind_some, p3, a2]
theorem Y_wb (hB : GB B tw s0 u0) (hT : TI T) (hP : PYf T d (qn T d (T 0 3)) S0 I) (hk : k < qn T d (T 0 3)) (hb : b < 5) : f_X9_wordsBy 144 (nI k) (nI b) (zI B I) = some (nI (stP T (wdP T d k) b)) := by
  obtain ⟨y1, -⟩ := hB.hy'
  obtain ⟨n1, -, -, -, -, -, l1, -, -, -, -, -, -, -, -, -, -, -, m1, m2, m3, m4, -⟩ := hB.py
  obtain ⟨n8, nw, -⟩ := pl_ok hT (d := d)
  have hL := (lsP_of hk).1
  have a1 := aI_at (B := B) (I := I) (by omega) (by rw [l1]; omega) (hP.2.1 k hk)
  have g := (Y_wof hB hT hP.2.2.2.2 hL).1
  have hw := (nw k hk).1
  have e : T 6 (4 * lsP T d (T 0 3) k + 1) = wdP T d k := rfl
  rw [e] at g
  have sh := one_sh (wdP T d k) hw
  have hY := hP.2.2.2.2
  have z1 : nI b = 1 ↔ b = 1 := nI_eq (b := 1) (by omega) (by omega)
  have z2 : nI b = 2 ↔ b = 2 := nI_eq (b := 2) (by omega) (by omega)
  have z3 : nI b = 3 ↔ b = 3 := nI_eq (b := 3) (by omega) (by omega)
  simp only [f_X9_wordsBy, nb144, y1, n1, m3, cond_true, oR_eq, zac_zI, Option.bind_some, a1, g, z1, z2, z3, sh]
  by_cases c1 : b = 1
  · rw [if_pos c1]; subst c1; rfl
  · rw [if_neg c1]
    by_cases c2 : b = 2
    · subst c2
      have a2 := aI_at (B := B) (I := I) (by omega) (by rw [m4]; omega) (hY.2.2.1 (2 * wdP T d k) (by omega))
      have p2 : (2 : Int32) * nI (wdP T d k) + nI 2 - 2 = nI (2 * wdP T d k) := by rw [nl2, pk_mul, nI_add, nI_sb (by omega)]; rfl
      rw [if_pos rfl, p2, a2]; rfl
    · rw [if_neg c2]
      by_cases c3 : b = 3
      · subst c3
        have a2 := aI_at (B := B) (I := I) (by omega) (by rw [m4]; omega) (hY.2.2.1 (2 * wdP T d k + 1) (by omega))
        have p2 : (2 : Int32) * nI (wdP T d k) + nI 3 - 2 = nI (2 * wdP T d k + 1) := by rw [nl2, pk_mul, nI_add, nI_sb (by omega)]; rfl
        rw [if_pos rfl, p2, a2]; rfl
      · rw [if_neg c3]
        unfold stP
        rw [if_neg c1, if_neg c2, if_neg c3]
        rfl
theorem Y_ft_lp (hB : GB B tw s0 u0) (hU : USy S0 sp I) (h7 : ∀ v, v < 8 → I 167 v = nI (S0 v)) (hS0 : ∀ v, S0 v ≤ 1000) (hS : S < 1024) : ∀ m i n (bb : Bool), i + m = 8 → m < n → L_X9_fits_51 n 144 (nI S) (if bb = true then 1 else 0) (nI i) (zI B I) = some (if (bb && fAll sp S m i) = true then 1 else 0) := by
  obtain ⟨y1, -⟩ := hB.hy'
  obtain ⟨-, -, -, n4, n5, -, -, -, -, -, -, -, l1, -, l2, -⟩ := hB.py
  intro m
  induction m with
  | zero =>
    intro i n bb hi hn
    obtain ⟨n, rfl⟩ := Nat.exists_eq_succ_of_ne_zero (show n ≠ 0 by omega)
    have c1 : (8 : Int32) ≤ nI i := (nI_leI (a := 8) (by omega) (by omega)).mpr (by omega)
    rw [show fAll sp S 0 i = true from rfl, Bool.and_true]
    simp only [L_X9_fits_51, if_pos c1]
  | succ m ih =>
    intro i n bb hi hn
    obtain ⟨n, rfl⟩ := Nat.exists_eq_succ_of_ne_zero (show n ≠ 0 by omega)
    have c1 : ¬ (8 : Int32) ≤ nI i := fun q => absurd ((nI_leI (a := 8) (by omega) (by omega)).mp q) (by omega)
    have e := Y_has (M := zI B I) hS (show i < 8 by omega)
    obtain ⟨u1, u2⟩ := hU i (by omega)
    have hs0 := hS0 i
    have a1 := aI_at (B := B) (I := I) (by omega) (by rw [l1]; omega) u1
    have a2 := aI_at (B := B) (I := I) (by omega) (by rw [l2]; omega) (h7 i (by omega))
    have z1 : nI (S0 i) ≤ nI (S0 i - sp i) ↔ S0 i ≤ S0 i - sp i := nI_leI (by omega) (by omega)
    have j0 := ih (i + 1) n false (by omega) (by omega)
    have j1 := ih (i + 1) n true (by omega) (by omega)
    rw [Bool.false_and, ite_f] at j0
    rw [Bool.true_and, ite_t] at j1
    cases bb with
    | false =>
      rw [Bool.false_and, ite_f, L_X9_fits_51, if_neg c1, if_pos rfl, nI_1, j0]
    | true =>
      rw [Bool.true_and, ite_t]
      rcases Bool.eq_false_or_eq_true (hasB S i) with hb | hb
      · rw [hb, ite_t] at e
        by_cases k : 0 < sp i
        · rw [fAll_t hb k]
          simp only [L_X9_fits_51, if_neg c1, if_neg ne10, e, y1, n4, n5, cond_true, oR_eq, Option.bind_some, a1, a2, z1]
          rw [if_neg (by omega), nI_1, j1]
        · rw [fAll_f hb k]
          simp only [L_X9_fits_51, if_neg c1, if_neg ne10, e, y1, n4, n5, cond_true, oR_eq, Option.bind_some, a1, a2, z1]
          rw [if_pos (by omega), nI_1, j0]
          rfl
      · rw [hb, ite_f] at e
        rw [fAll_n hb]
        simp only [L_X9_fits_51, if_neg c1, if_neg ne10, e, Option.bind_some, if_pos]
        rw [nI_1, j1]
theorem Y_ft (hB : GB B tw s0 u0) (hT : TI T) (hP : PYf T d (qn T d (T 0 3)) S0 I) (hU : USy S0 sp I) (hS0 : ∀ v, S0 v ≤ 1000) (hk : k < qn T d (T 0 3)) (hb : b < 5) : f_X9_fits 144 (nI k) (nI b) (zI B I) = some (if afP T sp (wdP T d k) b = true then 1 else 0) := by
  obtain ⟨y1, -⟩ := hB.hy'
  obtain ⟨n1, -, -, -, -, -, l1, -, -, -, -, -, -, -, -, -, -, -, m1, m2, m3, m4, m5, m6⟩ := hB.py
  obtain ⟨n8, nw, -⟩ := pl_ok hT (d := d)
  have hw := (nw k hk).1
  have hL := (lsP_of hk).1
  have g := Y_wb hB hT hP hk hb
  have hSt := stP_lt (b := b) hT hw
  have f1 := Y_ft_lp hB hU hP.2.2.2.1 hS0 (S := stP T (wdP T d k) b) (by omega) 8 0 zN true (by omega) (by unfold zN; omega)
  have f0 := Y_ft_lp hB hU hP.2.2.2.1 hS0 (S := stP T (wdP T d k) b) (by omega) 8 0 zN false (by omega) (by unfold zN; omega)
  rw [Bool.true_and, ite_t, show nI 0 = (0 : Int32) from rfl] at f1
  rw [Bool.false_and, ite_f, show nI 0 = (0 : Int32) from rfl] at f0
  have a1 := aI_at (B := B) (I := I) (by omega) (by rw [l1]; omega) (hP.2.1 k hk)
  have g2 := (Y_wof hB hT hP.2.2.2.2 hL).1
  have e : T 6 (4 * lsP T d (T 0 3) k + 1) = wdP T d k := rfl
  rw [e] at g2
  have a2 := aZ_at (B := B) (I := I) (by omega) (by rw [m6]; omega) (hP.2.2.2.2.2.2.2.1 (wdP T d k) hw)
  have z0 : nI b = 0 ↔ b = 0 := nI_eq (b := 0) (by omega) (by omega)
  have z4 : nI b = 4 ↔ b = 4 := nI_eq (b := 4) (by omega) (by omega)
  have zS := nI_z (v := stP T (wdP T d k) b) (by omega)
  have b4 := hT.2.2.2.2.2.1 (wdP T d k)
  have zp := nI_z (v := T 4 (wdP T d k)) (by omega)
  have zbx : ∀ q : Bool, zb (if q = true then (1 : Int32) else 0) = some (if q = true then 1 else 0) := fun q => by cases q <;> rfl
  unfold afP
  simp only [f_X9_fits, nb144, y1, n1, m5, cond_true, oR_eq, zac_zI, Option.bind_some, g, f1, f0, zbx, zb_f, a1, g2, a2, z0, z4, zS, zp]
  by_cases c0 : b = 0
  · rw [if_pos c0]; subst c0; rfl
  · rw [if_neg c0]
    by_cases c4 : b = 4
    · rw [if_pos c4]
      subst c4
      have ok : okP T (wdP T d k) 4 = decide (T 4 (wdP T d k) ≠ 0) := rfl
      by_cases h : T 4 (wdP T d k) = 0
      · rw [if_pos h, ok, decide_eq_false (fun q => q h)]; rfl
      · rw [if_neg h, ok, decide_eq_true h, Bool.true_and]
    · rw [if_neg c4]
      have hb' : b = 1 ∨ b = 2 ∨ b = 3 := by omega
      have ok : okP T (wdP T d k) b = decide (stP T (wdP T d k) b ≠ 0) := by
        rcases hb' with rfl | rfl | rfl
        · have : stP T (wdP T d k) 1 ≠ 0 := by
            show 2 ^ wdP T d k ≠ 0
            exact Nat.ne_of_gt (Nat.pos_of_ne_zero (by simp))
          rw [decide_eq_true this]; rfl
        · rfl
        · rfl
      by_cases h : stP T (wdP T d k) b = 0
      · rw [if_pos h, ok, decide_eq_false (fun q => q h)]; rfl
      · rw [if_neg h, ok, decide_eq_true h, Bool.true_and]
theorem Y_us_lp (hB : GB B tw s0 u0) {f1 f2 : Nat → Nat} {y x z : Int32} (hS : S < 1024) (h : ∀ v, v < 8 → hasB S v = true → nI (f1 v) + y = nI (f2 v)) (h0 : ∀ v, v < 8 → hasB S v = false → f1 v = f2 v) : ∀ m i n I, i + m = 8 → m < n → (∀ v, v < 8 → I 166 v = nI (if v < i then f2 v else f1 v)) → ∃ I', L_X9_use_11 n 144 x z y (nI S) (nI i) (zI B I) = some (zI B I') ∧ (∀ v, v < 8 → I' 166 v = nI (f2 v)) ∧ ∀ a j, a ≠ 166 → I' a j = I a j := by
  obtain ⟨y1, -⟩ := hB.hy'
  obtain ⟨-, -, -, n4, -, -, -, -, -, -, -, -, l1, l2, -⟩ := hB.py
  intro m
  induction m with
  | zero =>
    intro i n I hi hn hI
    obtain ⟨n, rfl⟩ := Nat.exists_eq_succ_of_ne_zero (show n ≠ 0 by omega)
    have c1 : (8 : Int32) ≤ nI i := (nI_leI (a := 8) (by omega) (by omega)).mpr (by omega)
    refine ⟨I, ?_, fun v hv => by rw [hI v hv, if_pos (by omega)], fun _ _ _ => rfl⟩
    simp only [L_X9_use_11, if_pos c1]
  | succ m ih =>
    intro i n I hi hn hI
    obtain ⟨n, rfl⟩ := Nat.exists_eq_succ_of_ne_zero (show n ≠ 0 by omega)
    have c1 : ¬ (8 : Int32) ≤ nI i := fun q => absurd ((nI_leI (a := 8) (by omega) (by omega)).mp q) (by omega)
    have e := Y_has (M := zI B I) hS (show i < 8 by omega)
    have hi1 := hI i (by omega)
    rw [if_neg (by omega)] at hi1
    have a1 := aI_at (B := B) (I := I) (by omega) (by rw [l1]; omega) hi1
    have s1 : sI (zI B I) 166 (nI i) (nI (f2 i)) = some (zI B (cu I 166 i (nI (f2 i)))) := sI_cu (by omega) (by rw [l2]; omega)
    obtain ⟨I', g1, g2, g3⟩ := ih (i + 1) n (cu I 166 i (nI (f2 i))) (by omega) (by omega) (fun v hv => by
      by_cases ev : v = i
      · subst ev; rw [cu_s, if_pos (by omega)]
      · rw [cu_o (Or.inr ev), hI v hv]
        by_cases k : v < i
        · rw [if_pos k, if_pos (by omega)]
        · rw [if_neg k, if_neg (by omega)])
    refine ⟨I', ?_, g2, fun a j q => by rw [g3 a j q, cu_o (Or.inl q)]⟩
    rcases Bool.eq_false_or_eq_true (hasB S i) with hb | hb
    · rw [hb, ite_t] at e
      have e2 := h i (by omega) hb
      simp only [L_X9_use_11, if_neg c1, e, y1, n4, cond_true, oR_eq, Option.bind_some, a1, if_neg ne10, e2, s1, nI_1, g1]
    · rw [hb, ite_f] at e
      have e2 : nI (f1 i) + 0 = nI (f2 i) := by rw [Int32.add_zero, h0 i (by omega) hb]
      simp only [L_X9_use_11, if_neg c1, e, y1, n4, cond_true, oR_eq, Option.bind_some, a1, if_pos, e2, s1, nI_1, g1]
/-- one use more -/
theorem Y_use (hB : GB B tw s0 u0) (hT : TI T) (hP : PYf T d (qn T d (T 0 3)) S0 I) (hk : k < qn T d (T 0 3)) (hb : b < 5) {f1 f2 : Nat → Nat} {y : Int32} {w c w' c' : Nat} (h : ∀ v, v < 8 → hasB (stP T (wdP T d k) b) v = true → nI (f1 v) + y = nI (f2 v)) (h0 : ∀ v, v < 8 → hasB (stP T (wdP T d k) b) v = false → f1 v = f2 v) (h1 : ∀ v, v < 8 → I 166 v = nI (f1 v)) (e41 : I 144 41 = nI w) (e42 : I 144 42 = nI c) (hc : nI c + y * nI (pcm (stP T (wdP T d k) b) 8 0) = nI c') (hw : nI w + (if b = 0 then 0 else y * nI (wtP T d k)) = nI w') : ∃ I', f_X9_use 144 (nI k) (nI b) y (zI B I) = some (zI B I') ∧ (∀ v, v < 8 → I' 166 v = nI (f2 v)) ∧ I' 144 41 = nI w' ∧ I' 144 42 = nI c' ∧ ∀ a j, ¬ (a = 166 ∨ (a = 144 ∧ (j = 41 ∨ j = 42))) → I' a j = I a j := by
  obtain ⟨y1, -⟩ := hB.hy'
  obtain ⟨n1, -, -, -, -, -, l1, -⟩ := hB.py
  obtain ⟨n8, nw, -⟩ := pl_ok hT (d := d)
  have hwk := (nw k hk).1
  have hL := (lsP_of hk).1
  have g := Y_wb hB hT hP hk hb
  have hSt := stP_lt (b := b) hT hwk
  obtain ⟨J1, a1, a2, a3⟩ := Y_us_lp (x := nI k) (z := nI b) (y := y) hB (S := stP T (wdP T d k) b) (by omega) h h0 8 0 zN I (by omega) (by unfold zN; omega) (fun v hv => by rw [if_neg (by omega)]; exact h1 v hv)
  rw [show nI 0 = (0 : Int32) from rfl] at a1
  have bt := Y_bits (S := stP T (wdP T d k) b) (M := zI B J1) (by omega)
  obtain ⟨J2, hJ2⟩ : ∃ J, J = cu J1 144 42 (nI c') := ⟨_, rfl⟩
  obtain ⟨J3, hJ3⟩ : ∃ J, J = cu J2 144 41 (nI w') := ⟨_, rfl⟩
  have e1 : J1 144 42 = nI c := by rw [a3 144 42 (by omega), e42]
  have e2 : J2 144 41 = nI w := by rw [hJ2, cu_o (by omega), a3 144 41 (by omega), e41]
  have o2 : ∀ a j, ¬ (a = 166 ∨ (a = 144 ∧ (j = 41 ∨ j = 42))) → J2 a j = I a j := fun a j q => by rw [hJ2, cu_o (by omega), a3 a j (by omega)]
  have v1 := aI_at (B := B) (I := J2) (i := 163) (k := k) (v := nI (lsP T d (T 0 3) k)) (by omega) (by rw [l1]; omega) (by rw [o2 163 k (by omega)]; exact hP.2.1 k hk)
  have hY2 : YT T J2 := hP.2.2.2.2.same ⟨o2 _ _ (by omega), o2 _ _ (by omega), o2 _ _ (by omega), o2 _ _ (by omega), funext fun j => o2 _ j (by omega), funext fun j => o2 _ j (by omega), funext fun j => o2 _ j (by omega), funext fun j => o2 _ j (by omega), funext fun j => o2 _ j (by omega), funext fun j => o2 _ j (by omega)⟩
  have g2 := (Y_wof hB hT hY2 hL).2
  have e : T 6 (4 * lsP T d (T 0 3) k + 3) = wtP T d k := rfl
  rw [e] at g2
  have z0 : nI b = 0 ↔ b = 0 := nI_eq (b := 0) (by omega) (by omega)
  refine ⟨J3, ?_, fun v hv => by rw [hJ3, cu_o (by omega), hJ2, cu_o (by omega)]; exact a2 v hv, by rw [hJ3, cu_s], by rw [hJ3, cu_o (by omega), hJ2, cu_s], fun a j q => by rw [hJ3, cu_o (by omega), o2 a j q]⟩
  by_cases hb0 : b = 0
  · rw [if_pos hb0] at hw
    simp only [f_X9_use, nb144, y1, cond_true, oR_eq, oI_eq, pI_cu, zac_zI, Option.bind_some, g, a1, e1, bt, hc, ← hJ2, e2, z0, if_pos hb0, hw, ← hJ3]
  · rw [if_neg hb0] at hw
    simp only [f_X9_use, nb144, y1, n1, cond_true, oR_eq, oI_eq, pI_cu, zac_zI, Option.bind_some, g, a1, e1, bt, hc, ← hJ2, e2, z0, if_neg hb0, v1, g2, hw, ← hJ3]
theorem Y_cp_lp (hB : GB B tw s0 u0) {t : Nat → Nat} (hN : N ≤ 8) : ∀ m i n I, i + m = N → m < n → I 144 35 = nI N → (∀ j, j < N → I 165 j = nI (t j)) → (∀ j, j < i → I 168 j = nI (t j)) → ∃ I', L_X9_comparePlan_51 n 144 (nI i) (zI B I) = some (zI B I') ∧ (∀ j, j < N → I' 168 j = nI (t j)) ∧ ∀ a j, a ≠ 168 → I' a j = I a j := by
  obtain ⟨y1, -⟩ := hB.hy'
  obtain ⟨-, -, n3, -, -, n6, -, -, -, -, l1, -, -, -, -, -, l2, l3, -⟩ := hB.py
  intro m
  induction m with
  | zero =>
    intro i n I hi hn h7 hp hI
    obtain ⟨n, rfl⟩ := Nat.exists_eq_succ_of_ne_zero (show n ≠ 0 by omega)
    have c1 : nI N ≤ nI i := (nI_leI (by omega) (by omega)).mpr (by omega)
    refine ⟨I, ?_, fun j hj => hI j (by omega), fun _ _ _ => rfl⟩
    simp only [L_X9_comparePlan_51, y1, cond_true, oI_eq, Option.bind_some, h7, if_pos c1]
  | succ m ih =>
    intro i n I hi hn h7 hp hI
    obtain ⟨n, rfl⟩ := Nat.exists_eq_succ_of_ne_zero (show n ≠ 0 by omega)
    have c1 : ¬ nI N ≤ nI i := fun q => absurd ((nI_leI (by omega) (by omega)).mp q) (by omega)
    have a1 := aI_at (B := B) (I := I) (by omega) (by rw [l1]; omega) (hp i (by omega))
    have s1 : sI (zI B I) 168 (nI i) (nI (t i)) = some (zI B (cu I 168 i (nI (t i)))) := sI_cu (by omega) (by rw [l3]; omega)
    obtain ⟨I', g1, g2, g3⟩ := ih (i + 1) n (cu I 168 i (nI (t i))) (by omega) (by omega) (by rw [cu_o (by omega), h7]) (fun j hj => by rw [cu_o (by omega)]; exact hp j hj) (fun j hj => by
      by_cases e : j = i
      · subst e; rw [cu_s]
      · rw [cu_o (by omega)]; exact hI j (by omega))
    refine ⟨I', ?_, g2, fun a j q => by rw [g3 a j q, cu_o (Or.inl q)]⟩
    simp only [L_X9_comparePlan_51, y1, n3, n6, cond_true, oI_eq, oR_eq, Option.bind_some, h7, if_neg c1, a1, s1, nI_1, g1]
theorem Y_cp (hB : GB B tw s0 u0) {t : Nat → Nat} {s : Nat × Nat × (Nat → Nat)} {w c : Nat} (hN : N ≤ 8) (h7 : I 144 35 = nI N) (hp : ∀ j, j < N → I 165 j = nI (t j)) (hb : BSy N s I) (hs : sBd s) (hw : w ≤ 6000) (hc : c ≤ 6000) (e41 : I 144 41 = nI w) (e42 : I 144 42 = nI c) : ∃ I', f_X9_comparePlan 144 (zI B I) = some (zI B I') ∧ BSy N (tkP s (w, c, t)) I' ∧ ∀ a j, ¬ (a = 168 ∨ (a = 144 ∧ (j = 44 ∨ j = 45))) → I' a j = I a j := by
  obtain ⟨y1, -⟩ := hB.hy'
  obtain ⟨e1, e2, e3⟩ := id hb
  have z1 := eW_lt (b := s.1) (w := w) (by unfold sBd at hs; omega) (by omega)
  have z2 := eW_eq (b := s.1) (w := w) (by unfold sBd at hs; omega) (by omega)
  have z3 : nI s.2.1 ≤ nI c ↔ s.2.1 ≤ c := nI_leI (by unfold sBd at hs; omega) (by omega)
  obtain ⟨J1, hJ1⟩ : ∃ J, J = cu I 144 44 (nI w) := ⟨_, rfl⟩
  obtain ⟨J2, hJ2⟩ : ∃ J, J = cu J1 144 45 (nI c) := ⟨_, rfl⟩
  have f1 : J1 144 42 = nI c := by rw [hJ1, cu_o (by omega), e42]
  have o2 : ∀ a j, ¬ (a = 144 ∧ (j = 44 ∨ j = 45)) → J2 a j = I a j := fun a j q => by rw [hJ2, cu_o (by omega), hJ1, cu_o (by omega)]
  obtain ⟨J3, d1, d2, d3⟩ := Y_cp_lp (t := t) hB hN N 0 zN J2 (by omega) (by unfold zN; omega) (by rw [o2 144 35 (by omega), h7]) (fun j hj => by rw [o2 165 j (by omega)]; exact hp j hj) (fun j hj => absurd hj (by omega))
  rw [show nI 0 = (0 : Int32) from rfl] at d1
  have new : BSy N (w + 1, c, t) J3 := ⟨by rw [d3 144 44 (by omega), hJ2, cu_o (by omega), hJ1, cu_s, eW_s], by rw [d3 144 45 (by omega), hJ2, cu_s], fun _ j hj => d2 j hj⟩
  have hf : ∀ a j, ¬ (a = 168 ∨ (a = 144 ∧ (j = 44 ∨ j = 45))) → J3 a j = I a j := fun a j q => by rw [d3 a j (by omega), o2 a j (by omega)]
  by_cases k1 : s.1 < w + 1
  · rw [tkP_t (l := (w, c, t)) (Or.inl k1)]
    refine ⟨J3, ?_, new, hf⟩
    simp only [f_X9_comparePlan, nb144, y1, cond_true, oI_eq, pI_cu, Option.bind_some, e41, e1, z1, if_pos k1, ← hJ1, f1, ← hJ2, d1]
  · by_cases k2 : s.1 = w + 1
    · by_cases k3 : s.2.1 ≤ c
      · rw [tkP_f (l := (w, c, t)) (by unfold btP; simp only []; omega)]
        refine ⟨I, ?_, hb, fun _ _ _ => rfl⟩
        simp only [f_X9_comparePlan, nb144, y1, cond_true, oI_eq, pI_cu, Option.bind_some, e41, e42, e1, e2, z1, if_neg k1, z2, if_pos k2, z3, if_pos k3]
      · rw [tkP_t (l := (w, c, t)) (Or.inr ⟨k2, by simp only []; omega⟩)]
        refine ⟨J3, ?_, new, hf⟩
        simp only [f_X9_comparePlan, nb144, y1, cond_true, oI_eq, pI_cu, Option.bind_some, e41, e42, e1, e2, z1, if_neg k1, z2, if_pos k2, z3, if_neg k3, ← hJ1, f1, ← hJ2, d1]
    · rw [tkP_f (l := (w, c, t)) (by unfold btP; simp only []; omega)]
      refine ⟨I, ?_, hb, fun _ _ _ => rfl⟩
      simp only [f_X9_comparePlan, nb144, y1, cond_true, oI_eq, pI_cu, Option.bind_some, e41, e1, z1, if_neg k1, z2, if_neg k2]
end PLY
