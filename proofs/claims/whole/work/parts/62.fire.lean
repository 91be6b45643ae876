/-! fire -/
def mx (a b i : Nat) : Nat := if 1000 * i + b < a then a else 1000 * i + b
def onS (a b : Nat) : Nat → Nat → Nat
  | 0, _ => 0
  | m + 1, i => mx a b i + onS a b m (i + 1)
def onm (a b : Nat) : Nat := onS a b 6 1 / 6
def fireN : Nat → Nat → Nat
  | 0, _ => 0
  | _ + 1, 0 => 0
  | t + 1, j + 1 => onm (fireN t (j + 1)) (fireN t j)
theorem fireN_0 : ∀ t, fireN t 0 = 0 := by
  intro t
  cases t <;> rfl
theorem mx_le {a b i v : Nat} (h : i ≤ 6) (ha : a ≤ v + 6000) (hb : b ≤ v) : mx a b i ≤ v + 6000 := by
  unfold mx
  split <;> omega
theorem onS_le {a b v : Nat} (ha : a ≤ v + 6000) (hb : b ≤ v) : ∀ m i, i + m ≤ 7 → onS a b m i ≤ (v + 6000) * m := by
  intro m
  induction m with
  | zero => intro i _; exact Nat.zero_le _
  | succ m ih =>
    intro i h
    have h1 := ih (i + 1) (by omega)
    have h2 := mx_le (a := a) (b := b) (i := i) (v := v) (by omega) ha hb
    simp only [onS]
    rw [Nat.mul_succ]
    omega
theorem fireN_le : ∀ t j, fireN t j ≤ 6000 * t := by
  intro t
  induction t with
  | zero => intro j; exact Nat.zero_le _
  | succ t ih =>
    intro j
    cases j with
    | zero => exact Nat.zero_le _
    | succ j =>
      have h1 := ih (j + 1)
      have h2 := ih j
      have h3 := onS_le (a := fireN t (j + 1)) (b := fireN t j) (v := 6000 * t) (by omega) h2 6 1 (by omega)
      simp only [fireN, onm]
      omega
section FIR
variable {B : zM} {tw s u c t : Nat} {I : Nat → Nat → Int32} {x y z : Int32}
theorem X_on_lp {M : zM} {a b : Nat} (ha : a < 1000000) (hb : b < 1000000) : ∀ m i n q, i + m = 7 → m < n → L_X8_oneNightMore_4 n (nI a) (nI b) (nI q) (nI i) M = some (nI (q + onS a b m i)) := by
  intro m
  induction m with
  | zero =>
    intro i n q hi hn
    obtain ⟨n, rfl⟩ := Nat.exists_eq_succ_of_ne_zero (show n ≠ 0 by omega)
    have c1 : (6 : Int32) < nI i := (nI_ltI (a := 6) (by omega) (by omega)).mpr (by omega)
    simp only [L_X8_oneNightMore_4, if_pos c1, onS, Nat.add_zero]
  | succ m ih =>
    intro i n q hi hn
    obtain ⟨n, rfl⟩ := Nat.exists_eq_succ_of_ne_zero (show n ≠ 0 by omega)
    have c1 : ¬ (6 : Int32) < nI i := fun q => absurd ((nI_ltI (a := 6) (by omega) (by omega)).mp q) (by omega)
    have p1 : (1000 : Int32) * nI i + nI b = nI (1000 * i + b) := by rw [show (1000 : Int32) = nI 1000 from rfl, pk_mul, nI_add]
    have z1 : nI (1000 * i + b) < nI a ↔ 1000 * i + b < a := nI_ltI (by omega) (by omega)
    have e : (if nI (1000 * i + b) < nI a then nI a else nI (1000 * i + b)) = nI (mx a b i) := by
      unfold mx
      by_cases k : 1000 * i + b < a
      · rw [if_pos k, if_pos (z1.mpr k)]
      · rw [if_neg k, if_neg (fun q => k (z1.mp q))]
    simp only [L_X8_oneNightMore_4, if_neg c1, p1, e, nI_add, nI_1]
    rw [ih (i + 1) n _ (by omega) (by omega)]
    simp only [onS, Nat.add_assoc]
theorem dv_6 {v : Nat} (h : v < 2147483648) : dv (nI v) 6 = some (nI (v / 6)) := by
  rw [show (6 : Int32) = nI 6 from rfl]
  exact dv_nI h (by omega) (by omega)
theorem X_on {M : zM} {a b v : Nat} (ha : a ≤ v + 6000) (hb : b ≤ v) (hv : v ≤ 120000) : f_X8_oneNightMore (nI a) (nI b) M = some (nI (onm a b)) := by
  have g := X_on_lp (M := M) (a := a) (b := b) (by omega) (by omega) 6 1 zN 0 (by omega) (by unfold zN; omega)
  rw [show nI 0 = (0 : Int32) from rfl, show nI 1 = (1 : Int32) from rfl, Nat.zero_add] at g
  have h3 := onS_le (a := a) (b := b) (v := v) ha hb 6 1 (by omega)
  have d := dv_6 (v := onS a b 6 1) (by omega)
  unfold f_X8_oneNightMore
  rw [g, Option.bind_some, d, Option.bind_some]
  rfl
theorem GB.fi (h : GB B tw s u) : mR B 1 11 = 131 ∧ zlI B 131 = 10 ∧ zln B 10 131 = 10 ∧ mR B 144 46 = 169 ∧ mR B 144 47 = 170 ∧ zlI B 169 = 10 ∧ zln B 10 169 = 10 ∧ zlI B 170 = 10 ∧ zln B 10 170 = 10 := by
  obtain ⟨hx, hy, -⟩ := h
  exact ⟨by simp only [hx], by simp only [hx], by simp only [hx], by simp only [hy], by simp only [hy], by simp only [hy], by simp only [hy], by simp only [hy], by simp only [hy]⟩
theorem X_f53 (hB : GB B tw s u) (ht : t ≤ 20) : ∀ j n I, j ≤ 9 → j < n → (∀ m, m ≤ j → I 131 m = nI (fireN t m)) → ∃ I', L_X8_fire_53 n 1 x y z (nI j) (zI B I) = some (zI B I') ∧ (∀ m, m ≤ j → I' 131 m = nI (fireN (t + 1) m)) ∧ ∀ a k, ¬ (a = 131 ∧ k ≤ j) → I' a k = I a k := by
  obtain ⟨x1, -⟩ := hB.hx
  obtain ⟨k1, k2, k3, -⟩ := hB.fi
  intro j
  induction j with
  | zero =>
    intro n I hj hn h
    obtain ⟨n, rfl⟩ := Nat.exists_eq_succ_of_ne_zero (show n ≠ 0 by omega)
    have c1 : nI 0 ≤ (0 : Int32) := by decide
    refine ⟨I, ?_, fun m hm => ?_, fun _ _ _ => rfl⟩
    · simp only [L_X8_fire_53, if_pos c1]
    · have := h m hm
      rw [show m = 0 by omega, fireN_0] at this ⊢
      exact this
  | succ j ih =>
    intro n I hj hn h
    obtain ⟨n, rfl⟩ := Nat.exists_eq_succ_of_ne_zero (show n ≠ 0 by omega)
    have c1 : ¬ nI (j + 1) ≤ (0 : Int32) := fun q => absurd ((nI_l0 (by omega)).mp q) (by omega)
    have a1 := aI_at (B := B) (I := I) (by omega) (by rw [k2]; omega) (h (j + 1) (by omega))
    have a2 := aI_at (B := B) (I := I) (by omega) (by rw [k2]; omega) (h j (by omega))
    have b1 := fireN_le t (j + 1)
    have b2 := fireN_le t j
    have g := X_on (M := zI B I) (a := fireN t (j + 1)) (b := fireN t j) (v := 6000 * t) (by omega) b2 (by omega)
    obtain ⟨I1, hI1⟩ : ∃ J, J = cu I 131 (j + 1) (nI (onm (fireN t (j + 1)) (fireN t j))) := ⟨_, rfl⟩
    have s1 : sI (zI B I) 131 (nI (j + 1)) (nI (onm (fireN t (j + 1)) (fireN t j))) = some (zI B I1) := by rw [sI_cu (by omega) (by rw [k3]; omega), hI1]
    have p1 : nI (j + 1) - 1 = nI j := by rw [nl1, nI_sb (by omega)]; rfl
    have p2 : nI (j + 1) + (-1) = nI j := pk_m1 j
    obtain ⟨I', g1, g2, g3⟩ := ih n I1 (by omega) (by omega) (fun m hm => by rw [hI1, cu_o (by omega)]; exact h m (by omega))
    refine ⟨I', ?_, fun m hm => ?_, fun a k hn => ?_⟩
    · simp only [L_X8_fire_53, if_neg c1, x1, k1, cond_true, oR_eq, Option.bind_some, a1, p1, a2, g, s1, p2, g1]
    · by_cases e : m = j + 1
      · subst e
        rw [g3 131 _ (by omega), hI1, cu_s]
        rfl
      · exact g2 m (by omega)
    · rw [g3 a k (by omega), hI1, cu_o (by omega)]
theorem X_f45 (hB : GB B tw s u) {k N : Nat} (hk : k ≤ 9) (hN : N ≤ 20) : ∀ m i n I, i + m = N → m < n → (∀ q, q ≤ k → I 131 q = nI (fireN i q)) → ∃ I', L_X8_fire_45 n 1 (nI k) (nI N) (nI i) (zI B I) = some (zI B I') ∧ (∀ q, q ≤ k → I' 131 q = nI (fireN N q)) ∧ ∀ a q, a ≠ 131 → I' a q = I a q := by
  intro m
  induction m with
  | zero =>
    intro i n I hi hn h
    obtain ⟨n, rfl⟩ := Nat.exists_eq_succ_of_ne_zero (show n ≠ 0 by omega)
    have c1 : nI N ≤ nI i := (nI_leI (by omega) (by omega)).mpr (by omega)
    refine ⟨I, ?_, fun q hq => ?_, fun _ _ _ => rfl⟩
    · simp only [L_X8_fire_45, if_pos c1]
    · rw [h q hq, show i = N by omega]
  | succ m ih =>
    intro i n I hi hn h
    obtain ⟨n, rfl⟩ := Nat.exists_eq_succ_of_ne_zero (show n ≠ 0 by omega)
    have c1 : ¬ nI N ≤ nI i := fun q => absurd ((nI_leI (by omega) (by omega)).mp q) (by omega)
    obtain ⟨I1, a1, a2, a3⟩ := X_f53 (x := nI k) (y := nI N) (z := nI i) hB (t := i) (by omega) k zN I hk (by unfold zN; omega) h
    obtain ⟨I2, b1, b2, b3⟩ := ih (i + 1) n I1 (by omega) (by omega) a2
    refine ⟨I2, ?_, b2, fun a q hn => by rw [b3 a q hn, a3 a q (by omega)]⟩
    simp only [L_X8_fire_45, if_neg c1, a1, Option.bind_some, nI_1, b1]
theorem X_f25 (hB : GB B tw s u) {k : Nat} (hk : k ≤ 9) : ∀ m i n I, i + m = k + 1 → m < n → (∀ q, q < i → I 131 q = 0) → ∃ I', L_X8_fire_25 n 1 (nI k) z (nI i) (zI B I) = some (zI B I') ∧ (∀ q, q ≤ k → I' 131 q = 0) ∧ ∀ a q, a ≠ 131 → I' a q = I a q := by
  obtain ⟨x1, -⟩ := hB.hx
  obtain ⟨k1, k2, k3, -⟩ := hB.fi
  intro m
  induction m with
  | zero =>
    intro i n I hi hn h
    obtain ⟨n, rfl⟩ := Nat.exists_eq_succ_of_ne_zero (show n ≠ 0 by omega)
    have c1 : nI k < nI i := (nI_ltI (by omega) (by omega)).mpr (by omega)
    refine ⟨I, ?_, fun q hq => h q (by omega), fun _ _ _ => rfl⟩
    simp only [L_X8_fire_25, if_pos c1]
  | succ m ih =>
    intro i n I hi hn h
    obtain ⟨n, rfl⟩ := Nat.exists_eq_succ_of_ne_zero (show n ≠ 0 by omega)
    have c1 : ¬ nI k < nI i := fun q => absurd ((nI_ltI (by omega) (by omega)).mp q) (by omega)
    have s1 : sI (zI B I) 131 (nI i) 0 = some (zI B (cu I 131 i 0)) := sI_cu (by omega) (by rw [k3]; omega)
    obtain ⟨I2, b1, b2, b3⟩ := ih (i + 1) n (cu I 131 i 0) (by omega) (by omega) (fun q hq => by
      by_cases e : q = i
      · subst e; rw [cu_s]
      · rw [cu_o (by omega)]; exact h q (by omega))
    refine ⟨I2, ?_, b2, fun a q hn => by rw [b3 a q hn, cu_o (by omega)]⟩
    simp only [L_X8_fire_25, if_neg c1, x1, k1, cond_true, oR_eq, Option.bind_some, s1, nI_1, b1]
theorem Y_f29 (hB : GB B tw s u) : ∀ m i n I, i + m = 10 → m < n → (∀ q, q < i → I 169 q = 0) → ∃ I', L_X9_fire_29 n 144 y z (nI i) (zI B I) = some (zI B I') ∧ (∀ q, q < 10 → I' 169 q = 0) ∧ ∀ a q, a ≠ 169 → I' a q = I a q := by
  obtain ⟨y1, -⟩ := hB.hy'
  obtain ⟨-, -, -, k1, k2, k3, k4, -⟩ := hB.fi
  intro m
  induction m with
  | zero =>
    intro i n I hi hn h
    obtain ⟨n, rfl⟩ := Nat.exists_eq_succ_of_ne_zero (show n ≠ 0 by omega)
    have c1 : (10 : Int32) ≤ nI i := (nI_leI (a := 10) (by omega) (by omega)).mpr (by omega)
    refine ⟨I, ?_, fun q hq => h q (by omega), fun _ _ _ => rfl⟩
    simp only [L_X9_fire_29, if_pos c1]
  | succ m ih =>
    intro i n I hi hn h
    obtain ⟨n, rfl⟩ := Nat.exists_eq_succ_of_ne_zero (show n ≠ 0 by omega)
    have c1 : ¬ (10 : Int32) ≤ nI i := fun q => absurd ((nI_leI (a := 10) (by omega) (by omega)).mp q) (by omega)
    have s1 : sI (zI B I) 169 (nI i) 0 = some (zI B (cu I 169 i 0)) := sI_cu (by omega) (by rw [k4]; omega)
    obtain ⟨I2, b1, b2, b3⟩ := ih (i + 1) n (cu I 169 i 0) (by omega) (by omega) (fun q hq => by
      by_cases e : q = i
      · subst e; rw [cu_s]
      · rw [cu_o (by omega)]; exact h q (by omega))
    refine ⟨I2, ?_, b2, fun a q hn => by rw [b3 a q hn, cu_o (by omega)]⟩
    simp only [L_X9_fire_29, if_neg c1, y1, k1, cond_true, oR_eq, Option.bind_some, s1, nI_1, b1]
theorem Y_f58 (hB : GB B tw s u) : ∀ m i n I, i + m = 10 → m < n → (∀ q, q < 10 → I 169 q = nI (fireN t q)) → (∀ q, q < i → I 170 q = nI (fireN t q)) → ∃ I', L_X9_fire_58 n 144 x y z (nI i) (zI B I) = some (zI B I') ∧ (∀ q, q < 10 → I' 170 q = nI (fireN t q)) ∧ ∀ a q, a ≠ 170 → I' a q = I a q := by
  obtain ⟨y1, -⟩ := hB.hy'
  obtain ⟨-, -, -, k1, k2, k3, k4, k5, k6⟩ := hB.fi
  intro m
  induction m with
  | zero =>
    intro i n I hi hn h h2
    obtain ⟨n, rfl⟩ := Nat.exists_eq_succ_of_ne_zero (show n ≠ 0 by omega)
    have c1 : (10 : Int32) ≤ nI i := (nI_leI (a := 10) (by omega) (by omega)).mpr (by omega)
    refine ⟨I, ?_, fun q hq => h2 q (by omega), fun _ _ _ => rfl⟩
    simp only [L_X9_fire_58, if_pos c1]
  | succ m ih =>
    intro i n I hi hn h h2
    obtain ⟨n, rfl⟩ := Nat.exists_eq_succ_of_ne_zero (show n ≠ 0 by omega)
    have c1 : ¬ (10 : Int32) ≤ nI i := fun q => absurd ((nI_leI (a := 10) (by omega) (by omega)).mp q) (by omega)
    have a1 := aI_at (B := B) (I := I) (by omega) (by rw [k3]; omega) (h i (by omega))
    have s1 : sI (zI B I) 170 (nI i) (nI (fireN t i)) = some (zI B (cu I 170 i (nI (fireN t i)))) := sI_cu (by omega) (by rw [k6]; omega)
    obtain ⟨I2, b1, b2, b3⟩ := ih (i + 1) n (cu I 170 i (nI (fireN t i))) (by omega) (by omega) (fun q hq => by rw [cu_o (by omega)]; exact h q hq) (fun q hq => by
      by_cases e : q = i
      · subst e; rw [cu_s]
      · rw [cu_o (by omega)]; exact h2 q (by omega))
    refine ⟨I2, ?_, b2, fun a q hn => by rw [b3 a q hn, cu_o (by omega)]⟩
    simp only [L_X9_fire_58, if_neg c1, y1, k1, k2, cond_true, oR_eq, Option.bind_some, a1, s1, nI_1, b1]
theorem Y_on_lp (hB : GB B tw s u) {j a b : Nat} (hj : j + 1 < 10) (ha : I 170 (j + 1) = nI a) (hb : I 170 j = nI b) (la : a < 1000000) (lb : b < 1000000) : ∀ m i n q, i + m = 7 → m < n → L_X9_fire_101 n 144 x y z (nI (j + 1)) (nI q) (nI i) (zI B I) = some (nI (q + onS a b m i)) := by
  obtain ⟨y1, -⟩ := hB.hy'
  obtain ⟨-, -, -, k1, k2, k3, k4, k5, k6⟩ := hB.fi
  have p2 : nI (j + 1) - 1 = nI j := by rw [nl1, nI_sb (by omega)]; rfl
  have a1 := aI_at (B := B) (I := I) (by omega) (by rw [k5]; omega) ha
  have a2 := aI_at (B := B) (I := I) (by omega) (by rw [k5]; omega) hb
  intro m
  induction m with
  | zero =>
    intro i n q hi hn
    obtain ⟨n, rfl⟩ := Nat.exists_eq_succ_of_ne_zero (show n ≠ 0 by omega)
    have c1 : (6 : Int32) < nI i := (nI_ltI (a := 6) (by omega) (by omega)).mpr (by omega)
    simp only [L_X9_fire_101, if_pos c1, onS, Nat.add_zero]
  | succ m ih =>
    intro i n q hi hn
    obtain ⟨n, rfl⟩ := Nat.exists_eq_succ_of_ne_zero (show n ≠ 0 by omega)
    have c1 : ¬ (6 : Int32) < nI i := fun q => absurd ((nI_ltI (a := 6) (by omega) (by omega)).mp q) (by omega)
    have p1 : (1000 : Int32) * nI i + nI b = nI (1000 * i + b) := by rw [show (1000 : Int32) = nI 1000 from rfl, pk_mul, nI_add]
    have z1 : nI (1000 * i + b) ≤ nI a ↔ 1000 * i + b ≤ a := nI_leI (by omega) (by omega)
    have i1 := fun q => ih (i + 1) n q (by omega) (by omega)
    simp only [L_X9_fire_101, if_neg c1, y1, k2, p2, cond_true, oR_eq, Option.bind_some, a1, a2, p1, z1, nI_add, nI_1, i1, onS, mx]
    by_cases k : 1000 * i + b < a
    · rw [if_pos (by omega), if_pos k, Nat.add_assoc]
    · rw [if_neg k]
      by_cases k0 : 1000 * i + b ≤ a
      · rw [if_pos k0, show 1000 * i + b = a by omega, Nat.add_assoc]
      · rw [if_neg k0, Nat.add_assoc q]
theorem Y_f88 (hB : GB B tw s u) (ht : t ≤ 20) : ∀ m i n I, i + m = 9 → m < n → (∀ q, q < 10 → I 170 q = nI (fireN t q)) → (∀ q, q ≤ i → I 169 q = nI (fireN (t + 1) q)) → ∃ I', L_X9_fire_88 n 144 x y z (nI (i + 1)) (zI B I) = some (zI B I') ∧ (∀ q, q < 10 → I' 169 q = nI (fireN (t + 1) q)) ∧ ∀ a q, a ≠ 169 → I' a q = I a q := by
  obtain ⟨y1, -⟩ := hB.hy'
  obtain ⟨-, -, -, k1, k2, k3, k4, k5, k6⟩ := hB.fi
  intro m
  induction m with
  | zero =>
    intro i n I hi hn h h2
    obtain ⟨n, rfl⟩ := Nat.exists_eq_succ_of_ne_zero (show n ≠ 0 by omega)
    have c1 : (10 : Int32) ≤ nI (i + 1) := (nI_leI (a := 10) (by omega) (by omega)).mpr (by omega)
    refine ⟨I, ?_, fun q hq => h2 q (by omega), fun _ _ _ => rfl⟩
    simp only [L_X9_fire_88, if_pos c1]
  | succ m ih =>
    intro i n I hi hn h h2
    obtain ⟨n, rfl⟩ := Nat.exists_eq_succ_of_ne_zero (show n ≠ 0 by omega)
    have c1 : ¬ (10 : Int32) ≤ nI (i + 1) := fun q => absurd ((nI_leI (a := 10) (by omega) (by omega)).mp q) (by omega)
    have b1 := fireN_le t (i + 1)
    have b2 := fireN_le t i
    have g := Y_on_lp (x := x) (y := y) (z := z) hB (j := i) (by omega) (h (i + 1) (by omega)) (h i (by omega)) (by omega) (by omega) 6 1 zN 0 (by omega) (by unfold zN; omega)
    rw [show nI 0 = (0 : Int32) from rfl, show nI 1 = (1 : Int32) from rfl, Nat.zero_add] at g
    have h3 := onS_le (a := fireN t (i + 1)) (b := fireN t i) (v := 6000 * t) (by omega) b2 6 1 (by omega)
    have d := dv_6 (v := onS (fireN t (i + 1)) (fireN t i) 6 1) (by omega)
    obtain ⟨I1, hI1⟩ : ∃ J, J = cu I 169 (i + 1) (nI (onS (fireN t (i + 1)) (fireN t i) 6 1 / 6)) := ⟨_, rfl⟩
    have s1 : sI (zI B I) 169 (nI (i + 1)) (nI (onS (fireN t (i + 1)) (fireN t i) 6 1 / 6)) = some (zI B I1) := by rw [sI_cu (by omega) (by rw [k4]; omega), hI1]
    obtain ⟨I2, e1, e2, e3⟩ := ih (i + 1) n I1 (by omega) (by omega) (fun q hq => by rw [hI1, cu_o (by omega)]; exact h q hq) (fun q hq => by
      by_cases e : q = i + 1
      · subst e; rw [hI1, cu_s]; rfl
      · rw [hI1, cu_o (by omega)]; exact h2 q (by omega))
    refine ⟨I2, ?_, e2, fun a q hn => by rw [e3 a q hn, hI1, cu_o (by omega)]⟩
    simp only [L_X9_fire_88, if_neg c1, y1, k1, cond_true, oR_eq, Option.bind_some, g, d, s1, nI_1, e1]
theorem Y_f50 (hB : GB B tw s u) {N : Nat} (hN : N ≤ 20) : ∀ m i n I, i + m = N → m < n → (∀ q, q < 10 → I 169 q = nI (fireN i q)) → ∃ I', L_X9_fire_50 n 144 x (nI N) (nI i) (zI B I) = some (zI B I') ∧ (∀ q, q < 10 → I' 169 q = nI (fireN N q)) ∧ ∀ a q, ¬ (a = 169 ∨ a = 170) → I' a q = I a q := by
  intro m
  induction m with
  | zero =>
    intro i n I hi hn h
    obtain ⟨n, rfl⟩ := Nat.exists_eq_succ_of_ne_zero (show n ≠ 0 by omega)
    have c1 : nI N ≤ nI i := (nI_leI (by omega) (by omega)).mpr (by omega)
    refine ⟨I, ?_, fun q hq => ?_, fun _ _ _ => rfl⟩
    · simp only [L_X9_fire_50, if_pos c1]
    · rw [h q hq, show i = N by omega]
  | succ m ih =>
    intro i n I hi hn h
    obtain ⟨n, rfl⟩ := Nat.exists_eq_succ_of_ne_zero (show n ≠ 0 by omega)
    have c1 : ¬ nI N ≤ nI i := fun q => absurd ((nI_leI (by omega) (by omega)).mp q) (by omega)
    obtain ⟨I1, a1, a2, a3⟩ := Y_f58 (x := x) (y := nI N) (z := nI i) (t := i) hB 10 0 zN I (by omega) (by unfold zN; omega) h (fun q hq => absurd hq (by omega))
    obtain ⟨I2, b1, b2, b3⟩ := Y_f88 (x := x) (y := nI N) (z := nI i) (t := i) hB (by omega) 9 0 zN I1 (by omega) (by unfold zN; omega) a2 (fun q hq => by
      have e := h 0 (by omega)
      rw [show q = 0 by omega, a3 169 0 (by omega), e, fireN_0, fireN_0])
    rw [show nI 0 = (0 : Int32) from rfl] at a1
    rw [show nI (0 + 1) = (1 : Int32) from rfl] at b1
    obtain ⟨I3, e1, e2, e3⟩ := ih (i + 1) n I2 (by omega) (by omega) b2
    refine ⟨I3, ?_, e2, fun a q hn => by rw [e3 a q hn, b3 a q (by omega), a3 a q (by omega)]⟩
    simp only [L_X9_fire_50, if_neg c1, a1, b1, Option.bind_some, nI_1, e1]
theorem w_fire (h : CR B I c) : W2 B I c (f_X8_fire 1 x y (zI B I)) (f_X9_fire 144 x y) := by
  have h' := h
  obtain ⟨tw, s, u, T, r, pa, pn, P, kf, K, tl, X, kn, kw, kd, kb, en, ew, el, sd, hB, hT, hN, hP, hI, hX, hK, hBk, hS⟩ := h
  have q1 := fun M => Y_btw (x := x) (a := 0) (b := 9) (M := M) (y := 0) (z := 9) rfl rfl (by omega) (by omega)
  have q2 := fun M => Y_btw (x := y) (a := 0) (b := 20) (M := M) (y := 0) (z := 20) rfl rfl (by omega) (by omega)
  obtain ⟨x1, -⟩ := hB.hx
  obtain ⟨y1, -⟩ := hB.hy'
  obtain ⟨k1, k2, k3, k4, k5, k6, k7, k8, k9⟩ := hB.fi
  rcases Bool.eq_false_or_eq_true (btw x 0 9) with hb | hb
  · rw [hb, ite_t] at q1
    obtain ⟨k, -, hk, rfl⟩ := btw_t hb (by omega)
    have c1 : ¬ nI k < 0 := nI_pos (by omega)
    have c2 : ¬ 9 < nI k := fun q => absurd ((nI_ltI (a := 9) (by omega) (by omega)).mp q) (by omega)
    rcases Bool.eq_false_or_eq_true (btw y 0 20) with hb2 | hb2
    · rw [hb2, ite_t] at q2
      obtain ⟨N, -, hN, rfl⟩ := btw_t hb2 (by omega)
      have c3 : ¬ nI N < 0 := nI_pos (by omega)
      have c4 : nI N ≤ 20 := (nI_leI (b := 20) (by omega) (by omega)).mpr hN
      obtain ⟨J, a1, a2, a3⟩ := X_f25 (z := nI N) hB hk (k + 1) 0 zN I (by omega) (by unfold zN; omega) (fun q hq => absurd hq (by omega))
      obtain ⟨I1, b1, b2, b3⟩ := X_f45 hB hk hN N 0 zN J (by omega) (by unfold zN; omega) (fun q hq => by rw [a2 q hq]; rfl)
      obtain ⟨J2, d1, d2, d3⟩ := Y_f29 (y := nI k) (z := nI N) hB 10 0 zN I1 (by omega) (by unfold zN; omega) (fun q hq => absurd hq (by omega))
      obtain ⟨I2, e1, e2, e3⟩ := Y_f50 (x := nI k) hB hN N 0 zN J2 (by omega) (by unfold zN; omega) (fun q hq => by rw [d2 q hq]; rfl)
      rw [show nI 0 = (0 : Int32) from rfl] at a1 b1 d1 e1
      have v1 := aI_at (B := B) (I := I1) (by omega) (by rw [k2]; omega) (b2 k (Nat.le_refl _))
      have v2 := aI_at (B := B) (I := I2) (by omega) (by rw [k6]; omega) (e2 k (by omega))
      refine W_scr (v := nI (fireN N k)) (I1 := I1) (I2 := I2) h' ?_ ?_ (fun i j q => by rw [b3 i j (by unfold scr at q; omega), a3 i j (by unfold scr at q; omega)]) (fun i j q => by rw [e3 i j (by unfold scr at q; omega), d3 i j (by unfold scr at q; omega)])
      · simp only [f_X8_fire, nb1, x1, k1, cond_true, oR_eq, zac_zI, Option.bind_some, if_neg c1, if_neg c2, if_neg c3, if_pos c4, a1, b1, v1]
      · simp only [f_X9_fire, nb144, y1, k4, cond_true, oR_eq, zac_zI, Option.bind_some, q1, q2, if_neg ne10, d1, e1, v2]
    · rw [hb2, ite_f] at q2
      refine W_no h' (v := -1000000002) ?_ ?_
      · rcases btw_n hb2 (by omega) (by omega) with h1 | ⟨h1, h2, h3⟩
        · have h1 : y < 0 := h1
          simp only [f_X8_fire, nb1, cond_true, if_neg c1, if_neg c2, if_pos h1]
        · have h1 : ¬ y < 0 := h1
          have h2 : ¬ y ≤ 20 := h2
          simp only [f_X8_fire, nb1, cond_true, if_neg c1, if_neg c2, if_neg h1, if_neg h2]
      · simp only [f_X9_fire, nb144, cond_true, Option.bind_some, q1, q2, if_neg ne10, if_pos]
  · rw [hb, ite_f] at q1
    refine W_no h' (v := -1000000002) ?_ ?_
    · rcases btw_n hb (by omega) (by omega) with h1 | ⟨h1, h2, h3⟩
      · have h1 : x < 0 := h1
        simp only [f_X8_fire, nb1, cond_true, if_pos h1]
      · have h1 : ¬ x < 0 := h1
        have h3 : 9 < x := h3
        simp only [f_X8_fire, nb1, cond_true, if_neg h1, if_pos h3]
    · simp only [f_X9_fire, nb144, cond_true, Option.bind_some, q1, if_pos]
end FIR
