/-! the game begins anew -/
def lmD (D : Nat → Nat → Nat) (w : Nat) : Nat := if w < D 0 1 then D 7 w else 0
def rBeg (D : Nat → Nat → Nat) : Nat → Nat := fun k => if k < 5 then 0 else if k < 13 then lmD D (k - 5) else if k < 21 then lmD D (k - 13) else 0
def rBg2 (D : Nat → Nat → Nat) (r : Nat → Nat) : Nat → Nat := fun k => if k < 5 then 0 else if k < 13 then lmD D (k - 5) else if 21 ≤ k ∧ k < 29 then 0 else r k
theorem rBg2_y {D : Nat → Nat → Nat} {r : Nat → Nat} {k : Nat} (hk : k < 69) : rYear (rBg2 D r) k = rBeg D k := by
  unfold rYear rBg2 rBeg
  by_cases h1 : k < 5
  · rw [if_neg (by omega), if_neg (by omega), if_pos h1, if_pos h1]
  · by_cases h2 : k < 13
    · rw [if_neg (by omega), if_neg (by omega), if_neg h1, if_pos h2, if_neg h1, if_pos h2]
    · by_cases h3 : k < 21
      · rw [if_pos (by omega), if_neg (by omega), if_pos (by omega), if_neg h1, if_neg h2, if_pos h3, show k - 8 - 5 = k - 13 by omega]
      · by_cases h4 : k < 29
        · rw [if_neg (by omega), if_neg (by omega), if_neg h1, if_neg h2, if_pos (by omega), if_neg h1, if_neg h2, if_neg h3]
        · rw [if_neg (by omega), if_pos (by omega), if_neg h1, if_neg h2, if_neg h3]
theorem lmD_le {D : Nat → Nat → Nat} (hS : SD D) (w : Nat) : lmD D w ≤ 99 := by
  unfold lmD
  split
  · exact hS.2.2.2.1 w (by assumption)
  · omega
theorem rBeg_i {D : Nat → Nat → Nat} {w : Nat} (hw : w < 8) : rBeg D (5 + w) = lmD D w ∧ rBeg D (13 + w) = lmD D w := by
  unfold rBeg
  rw [if_neg (by omega), if_pos (by omega), if_neg (by omega), if_neg (by omega), if_pos (by omega), show 5 + w - 5 = w by omega, show 13 + w - 13 = w by omega]
  exact ⟨rfl, rfl⟩
theorem rBeg_0 {D : Nat → Nat → Nat} {k : Nat} (h : k < 5 ∨ 21 ≤ k) : rBeg D k = 0 := by
  unfold rBeg
  rcases h with h | h
  · rw [if_pos h]
  · rw [if_neg (by omega), if_neg (by omega), if_neg (by omega)]
theorem rBeg_B {D : Nat → Nat → Nat} (hS : SD D) {np c : Nat} : rB np c (rBeg D) := by
  refine ⟨⟨fun w hw => ?_, fun w hw => by rw [rBeg_0 (by omega)]; omega, by rw [rBeg_0 (by omega)]; omega, by rw [rBeg_0 (by omega)]; omega, by rw [rBeg_0 (by omega)]; omega, by rw [rBeg_0 (by omega)]; omega, by rw [rBeg_0 (by omega)]; omega⟩, by rw [rBeg_0 (by omega)]; omega, by rw [rBeg_0 (by omega)]; omega, fun p w h1 h2 hw => rBeg_0 (by omega)⟩
  have := lmD_le hS w
  rw [(rBeg_i hw).1, (rBeg_i hw).2, rBeg_0 (k := 29 + w) (by omega), rBeg_0 (k := 37 + w) (by omega), rBeg_0 (k := 45 + w) (by omega), rBeg_0 (k := 53 + w) (by omega), rBeg_0 (k := 61 + w) (by omega)]
  omega
section BEG
variable {B : zM} {tw s u t tl a lo n : Nat} {X : Nat → Nat} {D : Nat → Nat → Nat} {I : Nat → Nat → Int32} {r : Nat → Nat}
theorem STf (hs : isSt B s) : Nat.ble 1 s = true ∧ zac B s 5 9 = true ∧ mR B s 0 = s + 1 ∧ mR B s 2 = s + 3 ∧ zln B 10 (s + 1) = 8 ∧ zln B 10 (s + 3) = 8 := ⟨by simp only [hs], by simp only [hs], by simp only [hs], by simp only [hs], by simp only [hs], by simp only [hs]⟩
theorem X_bg_lp (hs : isSt B s) (ht : isTw B t) (hx : t + 8 < s) (h8 : D 0 1 ≤ 8) : ∀ m k n I, k + m = 8 → m < n → I t 1 = nI (D 0 1) → (∀ w, w < D 0 1 → I (t + 1) w = nI (D 7 w)) → (∀ j, j < k → I (s + 1) j = nI (lmD D j) ∧ I (s + 3) j = 0) → ∃ I', L_X5_begin_27 n s t (nI k) (zI B I) = some (zI B I') ∧ (∀ j, j < 8 → I' (s + 1) j = nI (lmD D j) ∧ I' (s + 3) j = 0) ∧ ∀ i j, i ≠ s + 1 → i ≠ s + 3 → I' i j = I i j := by
  obtain ⟨s0, s1, s2, s3, s4, s5⟩ := STf hs
  have t3 := (TWf ht).2.2.1
  have t7 := (TWf ht).2.2.2.1
  obtain ⟨-, -, -, -, -, -, -, -, -, -, -, -, -, -, -, -, -, -, -, -, -, l1⟩ := TWf ht
  clear hs ht
  intro m
  induction m with
  | zero =>
    intro k n I hk hn h1 h2 h
    obtain ⟨n, rfl⟩ := Nat.exists_eq_succ_of_ne_zero (show n ≠ 0 by omega)
    refine ⟨I, ?_, fun j hj => h j (by omega), fun _ _ _ _ => rfl⟩
    have c1 : 8 ≤ nI k := (nI_leI (a := 8) (by omega) (by omega)).mpr (by omega)
    rw [L_X5_begin_27, if_pos c1]
  | succ m ih =>
    intro k n I hk hn h1 h2 h
    obtain ⟨n, rfl⟩ := Nat.exists_eq_succ_of_ne_zero (show n ≠ 0 by omega)
    have c1 : ¬ 8 ≤ nI k := fun q => absurd ((nI_leI (a := 8) (by omega) (by omega)).mp q) (by omega)
    have c2 : nI (D 0 1) ≤ nI k ↔ D 0 1 ≤ k := nI_leI (by omega) (by omega)
    obtain ⟨J1, hJ1⟩ : ∃ J, J = cu I (s + 1) k (nI (lmD D k)) := ⟨_, rfl⟩
    obtain ⟨J2, hJ2⟩ : ∃ J, J = cu J1 (s + 3) k 0 := ⟨_, rfl⟩
    have w1 : sI (zI B I) (s + 1) (nI k) (nI (lmD D k)) = some (zI B J1) := by rw [sI_cu (by omega) (by rw [s4]; omega), hJ1]
    have w2 : sI (zI B J1) (s + 3) (nI k) 0 = some (zI B J2) := by rw [sI_cu (by omega) (by rw [s5]; omega), hJ2]
    have o2 : ∀ i j, ¬ ((i = s + 1 ∨ i = s + 3) ∧ j = k) → J2 i j = I i j := fun i j q => by rw [hJ2, cu_o (by omega), hJ1, cu_o (by omega)]
    obtain ⟨I', g1, g2, g3⟩ := ih (k + 1) n J2 (by omega) (by omega) (by rw [o2 _ _ (by omega)]; exact h1) (fun w hw => by rw [o2 _ _ (by omega)]; exact h2 w hw) (fun j hj => by
      by_cases e : j = k
      · rw [e, hJ2, cu_s, cu_o (by omega), hJ1, cu_s]
        exact ⟨rfl, rfl⟩
      · rw [o2 _ _ (by omega), o2 _ _ (by omega)]; exact h j (by omega))
    refine ⟨I', ?_, g2, fun i j q1 q2 => by rw [g3 i j q1 q2, o2 i j (by omega)]⟩
    rw [L_X5_begin_27, if_neg c1]
    by_cases k1 : D 0 1 ≤ k
    · have e : lmD D k = 0 := by unfold lmD; rw [if_neg (by omega)]
      rw [e, show nI 0 = (0 : Int32) from rfl] at w1
      simp only [oR_eq, oI_eq, s1, t3, cond_true, Option.bind_some, h1, c2, if_pos k1, s2, s3, w1, w2, nI_1, g1]
    · have e : lmD D k = D 7 k := by unfold lmD; rw [if_pos (by omega)]
      rw [e] at w1
      have v1 := aI_at (B := B) (I := I) (i := t + 1) (k := k) (by omega) (by rw [l1]; omega) (h2 k (by omega))
      simp only [oR_eq, oI_eq, s1, t3, t7, cond_true, Option.bind_some, h1, c2, if_neg k1, s2, s3, v1, w1, w2, nI_1, g1]
theorem X_begin (hs : isSt B s) (ht : isTw B t) (hx : t + 8 < s) (h8 : D 0 1 ≤ 8) (h1 : I t 1 = nI (D 0 1)) (h2 : ∀ w, w < D 0 1 → I (t + 1) w = nI (D 7 w)) (h : XS s r I) : ∃ I', f_X5_begin s t (zI B I) = some (zI B I') ∧ XS s (rBeg D) I' ∧ ∀ i j, ¬ (s ≤ i ∧ i ≤ s + 4) → I' i j = I i j := by
  obtain ⟨s0, s1, s2, s3, s4, s5⟩ := STf hs
  have t1 := (TWf ht).1
  obtain ⟨J, hJ⟩ : ∃ J, J = cu (cu (cu (cu (cu I s 4 0) s 5 0) s 6 0) s 7 0) s 8 0 := ⟨_, rfl⟩
  have oJ : ∀ i j, i ≠ s → J i j = I i j := fun i j q => by
    clear hs ht
    rw [hJ, cu_o (by omega), cu_o (by omega), cu_o (by omega), cu_o (by omega), cu_o (by omega)]
  have zJ : ∀ j, j < 5 → J s (4 + j) = 0 := fun j hj => by
    clear hs ht
    rcases (show j = 0 ∨ j = 1 ∨ j = 2 ∨ j = 3 ∨ j = 4 by omega) with rfl | rfl | rfl | rfl | rfl
    all_goals rw [hJ]
    all_goals repeat (first | rw [cu_s] | rw [cu_o (by omega)])
  obtain ⟨J2, a1, a2, a3⟩ := X_bg_lp hs ht hx h8 8 0 zN J (by clear hs ht; omega) (by unfold zN; clear hs ht; omega) (by rw [oJ _ _ (by clear hs ht; omega)]; exact h1) (fun w hw => by rw [oJ _ _ (by clear hs ht; omega)]; exact h2 w hw) (fun j hj => absurd hj (by clear hs ht; omega))
  have h3 : XS s (rBg2 D r) J2 := by
    clear hs ht
    intro k hk
    have hh := h k hk
    unfold zxi zxk at hh ⊢
    unfold rBg2
    by_cases k1 : k < 5
    · rw [if_pos k1, if_pos k1, if_pos k1, a3 _ _ (by omega) (by omega)]
      exact zJ k k1
    · by_cases k2 : k < 13
      · rw [if_neg k1, if_pos k2, if_neg k1, if_pos k2, if_neg k1, if_pos k2]
        exact (a2 _ (by omega)).1
      · by_cases k3 : k < 21
        · rw [if_neg k1, if_neg k2, if_pos k3, if_neg k1, if_neg k2, if_pos k3] at hh ⊢
          rw [if_neg k1, if_neg k2, if_neg (by omega), a3 _ _ (by omega) (by omega), oJ _ _ (by omega)]
          exact hh
        · by_cases k4 : k < 29
          · rw [if_neg k1, if_neg k2, if_neg k3, if_pos k4, if_neg k1, if_neg k2, if_neg k3, if_pos k4, if_neg k1, if_neg k2, if_pos (by omega)]
            exact (a2 _ (by omega)).2
          · rw [if_neg k1, if_neg k2, if_neg k3, if_neg k4, if_neg k1, if_neg k2, if_neg k3, if_neg k4] at hh ⊢
            rw [if_neg k1, if_neg k2, if_neg (by omega), a3 _ _ (by omega) (by omega), oJ _ _ (by omega)]
            exact hh
  obtain ⟨I', b1, b2, b3⟩ := X_beginYear hs h3
  refine ⟨I', ?_, fun k hk => by rw [← rBg2_y (r := r) hk]; exact b2 k hk, fun i j q => ?_⟩
  · clear hs ht
    rw [show nI 0 = (0 : Int32) from rfl] at a1
    simp only [f_X5_begin, s0, s1, t1, cond_true, pI_cu, zac_zI, Option.bind_some, ← hJ, a1, b1]
  · clear hs ht
    rw [b3 i (by omega), a3 _ _ (by omega) (by omega), oJ _ _ (by omega)]
/-! the reference's copies -/
theorem GB.hw2 (h : GB B tw s u) : mR B 144 9 = 148 ∧ mR B 144 10 = 149 ∧ mR B 144 11 = 150 ∧ mR B 144 12 = 151 ∧ mR B 144 13 = 152 ∧ mR B 144 14 = 153 ∧ zln B 10 148 = 8 ∧ zln B 10 149 = 8 ∧ zln B 10 150 = 16 ∧ zln B 11 151 = 8 ∧ zln B 11 152 = 5 ∧ zln B 10 153 = 32 ∧ zlI B 155 = 8 ∧ zlI B 156 = 8 ∧ zlI B 157 = 8 ∧ zlI B 161 = 32 := by
  have hy := h.2.1
  exact ⟨by simp only [hy], by simp only [hy], by simp only [hy], by simp only [hy], by simp only [hy], by simp only [hy], by simp only [hy], by simp only [hy], by simp only [hy], by simp only [hy], by simp only [hy], by simp only [hy], by simp only [hy], by simp only [hy], by simp only [hy], by simp only [hy]⟩
theorem Y_77 (hB : GB B tw s u) : ∀ m k n I, k + m = 69 → m < n → (∀ j, j < k → I 145 j = 0) → ∃ I', L_X9_town_77 n 144 (nI k) (zI B I) = some (zI B I') ∧ (∀ j, j < 69 → I' 145 j = 0) ∧ ∀ i j, i ≠ 145 → I' i j = I i j := by
  obtain ⟨y1, m0, -, -, z145, -⟩ := hB.hy'
  intro m
  induction m with
  | zero =>
    intro k n I hk hn h
    obtain ⟨n, rfl⟩ := Nat.exists_eq_succ_of_ne_zero (show n ≠ 0 by omega)
    refine ⟨I, ?_, fun j hj => h j (by omega), fun _ _ _ => rfl⟩
    have c1 : 69 ≤ nI k := (nI_leI (a := 69) (by omega) (by omega)).mpr (by omega)
    rw [L_X9_town_77, if_pos c1]
  | succ m ih =>
    intro k n I hk hn h
    obtain ⟨n, rfl⟩ := Nat.exists_eq_succ_of_ne_zero (show n ≠ 0 by omega)
    have c1 : ¬ 69 ≤ nI k := fun q => absurd ((nI_leI (a := 69) (by omega) (by omega)).mp q) (by omega)
    obtain ⟨J, hJ⟩ : ∃ J, J = cu I 145 k 0 := ⟨_, rfl⟩
    have s1 : sI (zI B I) 145 (nI k) 0 = some (zI B J) := by rw [sI_cu (by omega) (by rw [z145]; omega), hJ]
    obtain ⟨I', g1, g2, g3⟩ := ih (k + 1) n J (by omega) (by omega) (fun j hj => by
      rw [hJ]
      by_cases e : j = k
      · rw [e, cu_s]
      · rw [cu_o (by omega)]; exact h j (by omega))
    refine ⟨I', ?_, g2, fun i j q => by rw [g3 i j q, hJ, cu_o (by omega)]⟩
    rw [L_X9_town_77, if_neg c1]
    simp only [oR_eq, y1, m0, cond_true, Option.bind_some, s1, nI_1, g1]
theorem Y_191 (hB : GB B tw s u) {J : Nat → Nat → Int32} : ∀ m k n I, k + m = 16 → m < n → (∀ j, j < k → I 150 j = J 158 j) → (∀ i j, i ≠ 150 → I i j = J i j) → ∃ I', L_X9_town_191 n 144 (nI k) (zI B I) = some (zI B I') ∧ (∀ j, j < 16 → I' 150 j = J 158 j) ∧ ∀ i j, i ≠ 150 → I' i j = J i j := by
  obtain ⟨y1, -⟩ := hB.hy'
  obtain ⟨-, -, -, m29, -, -, -, -, -, -, -, l158, -⟩ := hB.hz
  obtain ⟨-, -, m11, -, -, -, -, -, z150, -⟩ := hB.hw2
  intro m
  induction m with
  | zero =>
    intro k n I hk hn h hf
    obtain ⟨n, rfl⟩ := Nat.exists_eq_succ_of_ne_zero (show n ≠ 0 by omega)
    refine ⟨I, ?_, fun j hj => h j (by omega), hf⟩
    have c1 : 16 ≤ nI k := (nI_leI (a := 16) (by omega) (by omega)).mpr (by omega)
    rw [L_X9_town_191, if_pos c1]
  | succ m ih =>
    intro k n I hk hn h hf
    obtain ⟨n, rfl⟩ := Nat.exists_eq_succ_of_ne_zero (show n ≠ 0 by omega)
    have c1 : ¬ 16 ≤ nI k := fun q => absurd ((nI_leI (a := 16) (by omega) (by omega)).mp q) (by omega)
    obtain ⟨J1, hJ⟩ : ∃ K, K = cu I 150 k (J 158 k) := ⟨_, rfl⟩
    have v1 := aI_at (B := B) (I := I) (i := 158) (k := k) (v := J 158 k) (by omega) (by rw [l158]; omega) (hf _ _ (by omega))
    have s1 : sI (zI B I) 150 (nI k) (J 158 k) = some (zI B J1) := by rw [sI_cu (by omega) (by rw [z150]; omega), hJ]
    obtain ⟨I', g1, g2, g3⟩ := ih (k + 1) n J1 (by omega) (by omega) (fun j hj => by
      rw [hJ]
      by_cases e : j = k
      · rw [e, cu_s]
      · rw [cu_o (by omega)]; exact h j (by omega)) (fun i j q => by rw [hJ, cu_o (by omega)]; exact hf i j q)
    refine ⟨I', ?_, g2, g3⟩
    rw [L_X9_town_191, if_neg c1]
    simp only [oR_eq, y1, m11, m29, cond_true, Option.bind_some, v1, s1, nI_1, g1]
theorem Y_217 (hB : GB B tw s u) {J : Nat → Nat → Int32} (hJb : ∀ j, j < 5 → J 160 j = 0 ∨ J 160 j = 1) : ∀ m k n I, k + m = 5 → m < n → (∀ j, j < k → I 152 j = J 160 j) → (∀ i j, i ≠ 152 → I i j = J i j) → ∃ I', L_X9_town_217 n 144 (nI k) (zI B I) = some (zI B I') ∧ (∀ j, j < 5 → I' 152 j = J 160 j) ∧ ∀ i j, i ≠ 152 → I' i j = J i j := by
  obtain ⟨y1, -⟩ := hB.hy'
  obtain ⟨-, -, -, -, -, m31, -, -, -, -, -, -, -, z160, -⟩ := hB.hz
  obtain ⟨-, -, -, -, m13, -, -, -, -, -, z152, -⟩ := hB.hw2
  intro m
  induction m with
  | zero =>
    intro k n I hk hn h hf
    obtain ⟨n, rfl⟩ := Nat.exists_eq_succ_of_ne_zero (show n ≠ 0 by omega)
    refine ⟨I, ?_, fun j hj => h j (by omega), hf⟩
    have c1 : 5 ≤ nI k := (nI_leI (a := 5) (by omega) (by omega)).mpr (by omega)
    rw [L_X9_town_217, if_pos c1]
  | succ m ih =>
    intro k n I hk hn h hf
    obtain ⟨n, rfl⟩ := Nat.exists_eq_succ_of_ne_zero (show n ≠ 0 by omega)
    have c1 : ¬ 5 ≤ nI k := fun q => absurd ((nI_leI (a := 5) (by omega) (by omega)).mp q) (by omega)
    obtain ⟨J1, hJ⟩ : ∃ K, K = cu I 152 k (J 160 k) := ⟨_, rfl⟩
    have v1 := aZ_at (B := B) (I := I) (i := 160) (k := k) (v := J 160 k) (by omega) (by rw [z160]; omega) (hf _ _ (by omega))
    have s1 : sZ (zI B I) 152 (nI k) (J 160 k) = some (zI B J1) := by rw [sZ_cu (by omega) (hJb k (by omega)) (by rw [z152]; omega), hJ]
    obtain ⟨I', g1, g2, g3⟩ := ih (k + 1) n J1 (by omega) (by omega) (fun j hj => by
      rw [hJ]
      by_cases e : j = k
      · rw [e, cu_s]
      · rw [cu_o (by omega)]; exact h j (by omega)) (fun i j q => by rw [hJ, cu_o (by omega)]; exact hf i j q)
    refine ⟨I', ?_, g2, g3⟩
    rw [L_X9_town_217, if_neg c1]
    simp only [oR_eq, y1, m13, m31, cond_true, Option.bind_some, v1, s1, nI_1, g1]
theorem Y_242 (hB : GB B tw s u) {J : Nat → Nat → Int32} : ∀ m k n I, k + m = 32 → m < n → (∀ j, j < k → I 153 j = J 161 j) → (∀ i j, i ≠ 153 → I i j = J i j) → ∃ I', L_X9_town_242 n 144 (nI k) (zI B I) = some (zI B I') ∧ (∀ j, j < 32 → I' 153 j = J 161 j) ∧ ∀ i j, i ≠ 153 → I' i j = J i j := by
  obtain ⟨y1, -⟩ := hB.hy'
  obtain ⟨-, -, -, -, -, -, m32, -⟩ := hB.hz
  obtain ⟨-, -, -, -, -, m14, -, -, -, -, -, z153, -, -, -, l161⟩ := hB.hw2
  intro m
  induction m with
  | zero =>
    intro k n I hk hn h hf
    obtain ⟨n, rfl⟩ := Nat.exists_eq_succ_of_ne_zero (show n ≠ 0 by omega)
    refine ⟨I, ?_, fun j hj => h j (by omega), hf⟩
    have c1 : 32 ≤ nI k := (nI_leI (a := 32) (by omega) (by omega)).mpr (by omega)
    rw [L_X9_town_242, if_pos c1]
  | succ m ih =>
    intro k n I hk hn h hf
    obtain ⟨n, rfl⟩ := Nat.exists_eq_succ_of_ne_zero (show n ≠ 0 by omega)
    have c1 : ¬ 32 ≤ nI k := fun q => absurd ((nI_leI (a := 32) (by omega) (by omega)).mp q) (by omega)
    obtain ⟨J1, hJ⟩ : ∃ K, K = cu I 153 k (J 161 k) := ⟨_, rfl⟩
    have v1 := aI_at (B := B) (I := I) (i := 161) (k := k) (v := J 161 k) (by omega) (by rw [l161]; omega) (hf _ _ (by omega))
    have s1 : sI (zI B I) 153 (nI k) (J 161 k) = some (zI B J1) := by rw [sI_cu (by omega) (by rw [z153]; omega), hJ]
    obtain ⟨I', g1, g2, g3⟩ := ih (k + 1) n J1 (by omega) (by omega) (fun j hj => by
      rw [hJ]
      by_cases e : j = k
      · rw [e, cu_s]
      · rw [cu_o (by omega)]; exact h j (by omega)) (fun i j q => by rw [hJ, cu_o (by omega)]; exact hf i j q)
    refine ⟨I', ?_, g2, g3⟩
    rw [L_X9_town_242, if_neg c1]
    simp only [oR_eq, y1, m14, m32, cond_true, Option.bind_some, v1, s1, nI_1, g1]
def cW98 (D : Nat → Nat → Nat) (J I : Nat → Nat → Int32) (k : Nat) : Prop := (∀ j, j < k → I 145 (5 + j) = nI (lmD D j) ∧ I 145 (13 + j) = nI (lmD D j) ∧ I 148 j = J 156 j ∧ I 149 j = J 157 j ∧ I 151 j = J 159 j) ∧ ∀ i j, ¬ ((i = 145 ∧ 5 ≤ j ∧ j < 21) ∨ i = 148 ∨ i = 149 ∨ i = 151) → I i j = J i j
theorem Y_98 (hB : GB B tw s u) {J : Nat → Nat → Int32} (h8 : D 0 1 ≤ 8) (j6 : J 144 6 = nI (D 0 1)) (j155 : ∀ w, w < D 0 1 → J 155 w = nI (D 7 w)) (jb : ∀ w, w < 8 → J 159 w = 0 ∨ J 159 w = 1) : ∀ m k n I, k + m = 8 → m < n → cW98 D J I k → ∃ I', L_X9_town_98 n 144 (nI k) (zI B I) = some (zI B I') ∧ cW98 D J I' 8 := by
  obtain ⟨y1, m0, -, l145, z145, -⟩ := hB.hy'
  obtain ⟨m26, m27, m28, -, m30, -, -, -, -, -, -, -, z159, -⟩ := hB.hz
  obtain ⟨m9, m10, -, m12, -, -, z148, z149, -, z151, -, -, l155, l156, l157, -⟩ := hB.hw2
  intro m
  induction m with
  | zero =>
    intro k n I hk hn h
    obtain ⟨n, rfl⟩ := Nat.exists_eq_succ_of_ne_zero (show n ≠ 0 by omega)
    refine ⟨I, ?_, by rw [show k = 8 by omega] at h; exact h⟩
    have c1 : 8 ≤ nI k := (nI_leI (a := 8) (by omega) (by omega)).mpr (by omega)
    rw [L_X9_town_98, if_pos c1]
  | succ m ih =>
    intro k n I hk hn h
    obtain ⟨n, rfl⟩ := Nat.exists_eq_succ_of_ne_zero (show n ≠ 0 by omega)
    obtain ⟨hP, hf⟩ := h
    have c1 : ¬ 8 ≤ nI k := fun q => absurd ((nI_leI (a := 8) (by omega) (by omega)).mp q) (by omega)
    have c2 : nI (D 0 1) ≤ nI k ↔ D 0 1 ≤ k := nI_leI (by omega) (by omega)
    have i5 : (5 : Int32) + nI k = nI (5 + k) := by rw [nl5, nI_add]
    have i13 : (13 : Int32) + nI k = nI (13 + k) := by rw [nl13, nI_add]
    obtain ⟨K1, h1⟩ : ∃ K, K = cu I 145 (5 + k) (nI (lmD D k)) := ⟨_, rfl⟩
    obtain ⟨K2, h2⟩ : ∃ K, K = cu K1 145 (13 + k) (nI (lmD D k)) := ⟨_, rfl⟩
    obtain ⟨K3, h3⟩ : ∃ K, K = cu K2 148 k (J 156 k) := ⟨_, rfl⟩
    obtain ⟨K4, h4⟩ : ∃ K, K = cu K3 149 k (J 157 k) := ⟨_, rfl⟩
    obtain ⟨K5, h5⟩ : ∃ K, K = cu K4 151 k (J 159 k) := ⟨_, rfl⟩
    have e6 : I 144 6 = nI (D 0 1) := by rw [hf _ _ (by omega)]; exact j6
    have w1 : sI (zI B I) 145 (nI (5 + k)) (nI (lmD D k)) = some (zI B K1) := by rw [sI_cu (by omega) (by rw [z145]; omega), h1]
    have v1 := aI_at (B := B) (I := K1) (i := 145) (k := 5 + k) (v := nI (lmD D k)) (by omega) (by rw [l145]; omega) (by rw [h1, cu_s])
    have w2 : sI (zI B K1) 145 (nI (13 + k)) (nI (lmD D k)) = some (zI B K2) := by rw [sI_cu (by omega) (by rw [z145]; omega), h2]
    have v2 := aI_at (B := B) (I := K2) (i := 156) (k := k) (v := J 156 k) (by omega) (by rw [l156]; omega) (by rw [h2, cu_o (by omega), h1, cu_o (by omega)]; exact hf _ _ (by omega))
    have w3 : sI (zI B K2) 148 (nI k) (J 156 k) = some (zI B K3) := by rw [sI_cu (by omega) (by rw [z148]; omega), h3]
    have v3 := aI_at (B := B) (I := K3) (i := 157) (k := k) (v := J 157 k) (by omega) (by rw [l157]; omega) (by rw [h3, cu_o (by omega), h2, cu_o (by omega), h1, cu_o (by omega)]; exact hf _ _ (by omega))
    have w4 : sI (zI B K3) 149 (nI k) (J 157 k) = some (zI B K4) := by rw [sI_cu (by omega) (by rw [z149]; omega), h4]
    have v4 := aZ_at (B := B) (I := K4) (i := 159) (k := k) (v := J 159 k) (by omega) (by rw [z159]; omega) (by rw [h4, cu_o (by omega), h3, cu_o (by omega), h2, cu_o (by omega), h1, cu_o (by omega)]; exact hf _ _ (by omega))
    have w5 : sZ (zI B K4) 151 (nI k) (J 159 k) = some (zI B K5) := by rw [sZ_cu (by omega) (jb k (by omega)) (by rw [z151]; omega), h5]
    have o5 : ∀ i j, ¬ ((i = 145 ∧ (j = 5 + k ∨ j = 13 + k)) ∨ ((i = 148 ∨ i = 149 ∨ i = 151) ∧ j = k)) → K5 i j = I i j := fun i j q => by rw [h5, cu_o (by omega), h4, cu_o (by omega), h3, cu_o (by omega), h2, cu_o (by omega), h1, cu_o (by omega)]
    obtain ⟨I', g1, g2⟩ := ih (k + 1) n K5 (by omega) (by omega) ⟨fun j hj => by
      by_cases e : j = k
      · rw [e]
        refine ⟨?_, ?_, ?_, ?_, ?_⟩
        · rw [h5, cu_o (by omega), h4, cu_o (by omega), h3, cu_o (by omega), h2, cu_o (by omega), h1, cu_s]
        · rw [h5, cu_o (by omega), h4, cu_o (by omega), h3, cu_o (by omega), h2, cu_s]
        · rw [h5, cu_o (by omega), h4, cu_o (by omega), h3, cu_s]
        · rw [h5, cu_o (by omega), h4, cu_s]
        · rw [h5, cu_s]
      · have q := hP j (by omega)
        by_cases e2 : 13 + j = 5 + k
        · omega
        · by_cases e3 : 5 + j = 13 + k
          · omega
          · rw [o5 _ _ (by omega), o5 _ _ (by omega), o5 _ _ (by omega), o5 _ _ (by omega), o5 _ _ (by omega)]; exact q, fun i j q => by rw [o5 i j (by omega)]; exact hf i j q⟩
    refine ⟨I', ?_, g2⟩
    rw [L_X9_town_98, if_neg c1]
    by_cases k1 : D 0 1 ≤ k
    · have e : lmD D k = 0 := by unfold lmD; rw [if_neg (by omega)]
      rw [e, show nI 0 = (0 : Int32) from rfl] at w1 v1 w2
      simp only [oR_eq, oI_eq, y1, m0, cond_true, Option.bind_some, e6, c2, if_pos k1, i5, w1, v1, i13, w2, m9, m27, v2, w3, m10, m28, v3, w4, m12, m30, v4, w5, nI_1, g1]
    · have e : lmD D k = D 7 k := by unfold lmD; rw [if_pos (by omega)]
      rw [e] at w1 v1 w2
      have v0 := aI_at (B := B) (I := I) (i := 155) (k := k) (v := nI (D 7 k)) (by omega) (by rw [l155]; omega) (by rw [hf _ _ (by omega)]; exact j155 k (by omega))
      simp only [oR_eq, oI_eq, y1, m0, m26, cond_true, Option.bind_some, e6, c2, if_neg k1, i5, v0, w1, v1, i13, w2, m9, m27, v2, w3, m10, m28, v3, w4, m12, m30, v4, w5, nI_1, g1]
end BEG
