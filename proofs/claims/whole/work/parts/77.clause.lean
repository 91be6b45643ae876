/-! clauses: what they come to; the class's additions to a town -/
def u2 (D : Nat → Nat → Nat) (i k v : Nat) : Nat → Nat → Nat := va_up D i (va_up (D i) k v)
theorem u2_s {D : Nat → Nat → Nat} {i k v : Nat} : u2 D i k v i k = v := by unfold u2; rw [va_up, if_pos rfl, va_up, if_pos rfl]
theorem u2_o {D : Nat → Nat → Nat} {i k v a b : Nat} (h : a ≠ i ∨ b ≠ k) : u2 D i k v a b = D a b := by
  unfold u2
  by_cases e : a = i
  · subst e; rw [va_up, if_pos rfl, va_up, if_neg (by omega)]
  · rw [va_up, if_neg e]
def aWord (D : Nat → Nat → Nat) (l c h : Nat) : Nat → Nat → Nat := u2 (u2 (u2 (u2 D 7 (D 0 1) l) 1 (D 0 1) c) 2 (D 0 1) h) 0 1 (D 0 1 + 1)
def aPers (D : Nat → Nat → Nat) (b : Nat) : Nat → Nat → Nat := u2 (u2 D 5 (D 0 2) b) 0 2 (D 0 2 + 1)
def aNeed (D : Nat → Nat → Nat) (p w d v : Nat) : Nat → Nat → Nat := u2 (u2 (u2 (u2 (u2 D 6 (4 * D 0 3) p) 6 (4 * D 0 3 + 1) w) 6 (4 * D 0 3 + 2) d) 6 (4 * D 0 3 + 3) v) 0 3 (D 0 3 + 1)
def aWay (D : Nat → Nat → Nat) (w S : Nat) : Nat → Nat → Nat := if D 3 (2 * w) = 0 then u2 (u2 D 3 (2 * w) S) 0 4 (D 0 4 + 1) else if D 3 (2 * w + 1) = 0 then u2 (u2 D 3 (2 * w + 1) S) 0 4 (D 0 4 + 1) else D
def XD (t : Nat) (D : Nat → Nat → Nat) (I : Nat → Nat → Int32) : Prop := XT t D I ∧ ∀ w, w < D 0 1 → I (t + 1) w = nI (D 7 w)
def SD (D : Nat → Nat → Nat) : Prop := TI D ∧ D 0 4 ≤ 10 ∧ D 0 4 = nz (D 3) 16 0 ∧ (∀ w, w < D 0 1 → D 7 w ≤ 99) ∧ (D 0 0 = 0 → D 0 1 = 0 ∧ D 0 2 = 0) ∧ ∀ p, D 0 2 ≤ p → D 5 p = 0
theorem bts_o {f g : Nat → Nat} : ∀ n, (∀ j, j < n → f j = g j) → bts f n = bts g n := by
  intro n
  induction n with
  | zero => intro _; rfl
  | succ n ih => intro h; simp only [bts]; rw [ih (fun j hj => h j (by omega)), h n (by omega)]
theorem bts_up {f : Nat → Nat} {k v : Nat} (h0 : f k = 0) : ∀ n, k < n → bts (va_up f k v) n = bts f n + v * 2 ^ k := by
  intro n
  induction n with
  | zero => intro h; exact absurd h (Nat.not_lt_zero _)
  | succ n ih =>
    intro h
    simp only [bts]
    by_cases e : k = n
    · subst e
      rw [bts_o (g := f) k (fun j hj => by rw [va_up, if_neg (by omega)]), va_up, if_pos rfl, h0]
      omega
    · rw [ih (by omega), va_up, if_neg (fun q => e q.symm)]
      omega
theorem or_bits : ∀ w, w < 8 → ∀ S, S < 256 → S / 2 ^ w % 2 = 0 → nI S ||| ((1 : Int32) <<< (nI w &&& 31)) = nI (S + 1 * 2 ^ w) := by decide +kernel
section CLX
variable {B : zM} {tw s u t : Nat} {D : Nat → Nat → Nat} {I : Nat → Nat → Int32}
theorem TWf (ht : isTw B t) : Nat.ble 1 t = true ∧ t + 8 < 1000 ∧ zac B t 7 15 = true ∧ mR B t 7 = t + 1 ∧ mR B t 8 = t + 2 ∧ mR B t 9 = t + 3 ∧ mR B t 10 = t + 4 ∧ mR B t 11 = t + 5 ∧ mR B t 12 = t + 6 ∧ mR B t 13 = t + 7 ∧ mR B t 14 = t + 8 ∧ zlI B (t + 4) = 16 ∧ zln B 10 (t + 1) = 8 ∧ zln B 10 (t + 2) = 8 ∧ zln B 10 (t + 3) = 8 ∧ zln B 10 (t + 4) = 16 ∧ zln B 10 (t + 5) = 8 ∧ zln B 10 (t + 6) = 8 ∧ zln B 10 (t + 7) = 8 ∧ zln B 10 (t + 8) = 8 ∧ (∀ I, aN (zI B I) (t + 4) = some (nI 16)) ∧ zlI B (t + 1) = 8 :=
  ⟨by simp only [ht], by simp only [ht], by simp only [ht], by simp only [ht], by simp only [ht], by simp only [ht], by simp only [ht], by simp only [ht], by simp only [ht], by simp only [ht], by simp only [ht], by simp only [ht], by simp only [ht], by simp only [ht], by simp only [ht], by simp only [ht], by simp only [ht], by simp only [ht], by simp only [ht], by simp only [ht], fun I => by simp only [ht], by simp only [ht]⟩
theorem X_aWord (ht : isTw B t) (h : XD t D I) (hn : D 0 1 < 8) {l c r : Nat} : ∃ I', f_X7_addWord t (nI l) (nI c) (nI r) (zI B I) = some (zI B I') ∧ XD t (aWord D l c r) I' ∧ ∀ i j, ¬ (t ≤ i ∧ i ≤ t + 8) → I' i j = I i j := by
  obtain ⟨t1, t2, t3, m7, m8, m9, -, -, -, -, -, -, n1, n2, n3, -⟩ := TWf ht
  clear ht
  obtain ⟨⟨⟨e0, e1, e2, e3, e4, e5, e6⟩, h2, h3, h4⟩, h7⟩ := h
  obtain ⟨J1, hJ1⟩ : ∃ J, J = cu I (t + 1) (D 0 1) (nI l) := ⟨_, rfl⟩
  obtain ⟨J2, hJ2⟩ : ∃ J, J = cu J1 (t + 2) (D 0 1) (nI c) := ⟨_, rfl⟩
  obtain ⟨J3, hJ3⟩ : ∃ J, J = cu J2 (t + 3) (D 0 1) (nI r) := ⟨_, rfl⟩
  obtain ⟨J4, hJ4⟩ : ∃ J, J = cu J3 t 1 (nI (D 0 1 + 1)) := ⟨_, rfl⟩
  have s1 : sI (zI B I) (t + 1) (nI (D 0 1)) (nI l) = some (zI B J1) := by rw [sI_cu (by omega) (by rw [n1]; omega), hJ1]
  have s2 : sI (zI B J1) (t + 2) (nI (D 0 1)) (nI c) = some (zI B J2) := by rw [sI_cu (by omega) (by rw [n2]; omega), hJ2]
  have s3 : sI (zI B J2) (t + 3) (nI (D 0 1)) (nI r) = some (zI B J3) := by rw [sI_cu (by omega) (by rw [n3]; omega), hJ3]
  have f1 : J1 t 1 = nI (D 0 1) := by rw [hJ1, cu_o (by omega), e1]
  have f2 : J2 t 1 = nI (D 0 1) := by rw [hJ2, cu_o (by omega), f1]
  have f3 : J3 t 1 = nI (D 0 1) := by rw [hJ3, cu_o (by omega), f2]
  have c1 : ¬ 8 ≤ nI (D 0 1) := fun q => absurd ((nI_leI (a := 8) (by omega) (by omega)).mp q) (by omega)
  have w0 : ∀ a b, ¬ ((a = 7 ∨ a = 1 ∨ a = 2) ∧ b = D 0 1) → ¬ (a = 0 ∧ b = 1) → aWord D l c r a b = D a b := fun a b q1 q2 => by unfold aWord; rw [u2_o (by omega), u2_o (by omega), u2_o (by omega), u2_o (by omega)]
  have w1 : aWord D l c r 0 1 = D 0 1 + 1 := by unfold aWord; rw [u2_s]
  have o : ∀ i j, ¬ ((i = t + 1 ∨ i = t + 2 ∨ i = t + 3) ∧ j = D 0 1) → ¬ (i = t ∧ j = 1) → J4 i j = I i j := fun i j q1 q2 => by rw [hJ4, cu_o (by omega), hJ3, cu_o (by omega), hJ2, cu_o (by omega), hJ1, cu_o (by omega)]
  have x1 : J4 (t + 1) (D 0 1) = nI l := by rw [hJ4, cu_o (by omega), hJ3, cu_o (by omega), hJ2, cu_o (by omega), hJ1, cu_s]
  have x2 : J4 (t + 2) (D 0 1) = nI c := by rw [hJ4, cu_o (by omega), hJ3, cu_o (by omega), hJ2, cu_s]
  have x3 : J4 (t + 3) (D 0 1) = nI r := by rw [hJ4, cu_o (by omega), hJ3, cu_s]
  have y1 : aWord D l c r 7 (D 0 1) = l := by unfold aWord; rw [u2_o (by omega), u2_o (by omega), u2_o (by omega), u2_s]
  have y2 : aWord D l c r 1 (D 0 1) = c := by unfold aWord; rw [u2_o (by omega), u2_o (by omega), u2_s]
  have y3 : aWord D l c r 2 (D 0 1) = r := by unfold aWord; rw [u2_o (by omega), u2_s]
  have b4 : aWord D l c r 4 = D 4 := funext fun j => w0 4 j (by omega) (by omega)
  have b5 : aWord D l c r 5 = D 5 := funext fun j => w0 5 j (by omega) (by omega)
  refine ⟨J4, ?_, ⟨⟨⟨?_, ?_, ?_, ?_, ?_, ?_, ?_⟩, fun w hw => ?_, fun k hk => ?_, fun n hn => ?_⟩, fun w hw => ?_⟩, fun i j q => o i j (by omega) (by omega)⟩
  · simp only [f_X7_addWord, t1, t3, m7, m8, m9, cond_true, oI_eq, oR_eq, pI_cu, Option.bind_some, e1, if_neg c1, s1, f1, s2, f2, s3, f3, nI_1, ← hJ4]
  · rw [o t 0 (by omega) (by omega), w0 0 0 (by omega) (by omega), e0]
  · rw [w1, hJ4, cu_s]
  · rw [o t 2 (by omega) (by omega), w0 0 4 (by omega) (by omega), e2]
  · rw [o t 3 (by omega) (by omega), w0 0 2 (by omega) (by omega), e3]
  · rw [o t 4 (by omega) (by omega), w0 0 3 (by omega) (by omega), e4]
  · rw [o t 5 (by omega) (by omega), b4, e5]
  · rw [o t 6 (by omega) (by omega), b5, e6]
  · rw [w1] at hw
    by_cases e : w = D 0 1
    · subst e; exact ⟨by rw [x2, y2], by rw [x3, y3]⟩
    · rw [o _ _ (by omega) (by omega), o _ _ (by omega) (by omega), w0 1 w (by omega) (by omega), w0 2 w (by omega) (by omega)]
      exact h2 w (by omega)
  · rw [o _ _ (by omega) (by omega), w0 3 k (by omega) (by omega)]
    exact h3 k hk
  · rw [w0 0 3 (by omega) (by omega)] at hn
    rw [o _ _ (by omega) (by omega), o _ _ (by omega) (by omega), o _ _ (by omega) (by omega), o _ _ (by omega) (by omega), w0 6 _ (by omega) (by omega), w0 6 _ (by omega) (by omega), w0 6 _ (by omega) (by omega), w0 6 _ (by omega) (by omega)]
    exact h4 n hn
  · rw [w1] at hw
    by_cases e : w = D 0 1
    · subst e; rw [x1, y1]
    · rw [o _ _ (by omega) (by omega), w0 7 w (by omega) (by omega)]
      exact h7 w (by omega)
theorem X_aPers (ht : isTw B t) (hS : SD D) (h : XD t D I) (hn : D 0 2 < 5) {b : Nat} (hb : b ≤ 1) : ∃ I', f_X7_addPerson t (nI b) (zI B I) = some (zI B I') ∧ XD t (aPers D b) I' ∧ ∀ i j, ¬ (t ≤ i ∧ i ≤ t + 8) → I' i j = I i j := by
  obtain ⟨t1, t2, t3, -⟩ := TWf ht
  clear ht
  obtain ⟨⟨⟨e0, e1, e2, e3, e4, e5, e6⟩, h2, h3, h4⟩, h7⟩ := h
  have hz := hS.2.2.2.2.2 (D 0 2) (Nat.le_refl _)
  have hbt := bts5 hS.1.2.2.2.2.2.2.1 (w := D 0 2) hn
  have e7 : bts (aPers D b 5) 5 = bts (D 5) 5 + b * 2 ^ D 0 2 := by
    have : aPers D b 5 = va_up (D 5) (D 0 2) b := by
      funext j
      unfold aPers
      rw [u2_o (by omega)]
      unfold u2
      rw [va_up, if_pos rfl]
    rw [this]
    exact bts_up hz 5 hn
  obtain ⟨J1, hJ1⟩ : ∃ J, J = cu I t 6 (nI (bts (aPers D b 5) 5)) := ⟨_, rfl⟩
  obtain ⟨J2, hJ2⟩ : ∃ J, J = cu J1 t 3 (nI (D 0 2 + 1)) := ⟨_, rfl⟩
  have f1 : J1 t 3 = nI (D 0 2) := by rw [hJ1, cu_o (by omega), e3]
  have c1 : ¬ 5 ≤ nI (D 0 2) := fun q => absurd ((nI_leI (a := 5) (by omega) (by omega)).mp q) (by omega)
  have w0 : ∀ a j, a ≠ 5 → ¬ (a = 0 ∧ j = 2) → aPers D b a j = D a j := fun a j q1 q2 => by unfold aPers; rw [u2_o (by omega), u2_o (by omega)]
  have w1 : aPers D b 0 2 = D 0 2 + 1 := by unfold aPers; rw [u2_s]
  have o : ∀ i j, ¬ (i = t ∧ (j = 6 ∨ j = 3)) → J2 i j = I i j := fun i j q => by rw [hJ2, cu_o (by omega), hJ1, cu_o (by omega)]
  have b4 : aPers D b 4 = D 4 := funext fun j => w0 4 j (by omega) (by omega)
  refine ⟨J2, ?_, ⟨⟨⟨?_, ?_, ?_, ?_, ?_, ?_, ?_⟩, fun w hw => ?_, fun k hk => ?_, fun n hn => ?_⟩, fun w hw => ?_⟩, fun i j q => o i j (by omega)⟩
  · have zb' := nI_z (v := b) (by omega)
    by_cases k : b = 0
    · subst k
      have e8 : nI (bts (D 5) 5) ||| 0 = nI (bts (aPers D 0 5) 5) := by rw [Int32.or_zero, e7, Nat.zero_mul, Nat.add_zero]
      simp only [f_X7_addPerson, t1, t3, cond_true, oI_eq, pI_cu, Option.bind_some, e3, if_neg c1, e6, zb', if_pos, e8, ← hJ1, f1, nI_1, ← hJ2]
    · have hb1 : b = 1 := by omega
      subst hb1
      have e8 : nI (bts (D 5) 5) ||| ((1 : Int32) <<< (nI (D 0 2) &&& 31)) = nI (bts (aPers D 1 5) 5) := by
        rw [or_bits (D 0 2) (by omega) _ (by omega) (by rw [hbt.2, hz]), e7]
      simp only [f_X7_addPerson, t1, t3, cond_true, oI_eq, pI_cu, Option.bind_some, e3, if_neg c1, e6, zb', if_neg k, e8, ← hJ1, f1, nI_1, ← hJ2]
  · rw [o t 0 (by omega), w0 0 0 (by omega) (by omega), e0]
  · rw [o t 1 (by omega), w0 0 1 (by omega) (by omega), e1]
  · rw [o t 2 (by omega), w0 0 4 (by omega) (by omega), e2]
  · rw [w1, hJ2, cu_s]
  · rw [o t 4 (by omega), w0 0 3 (by omega) (by omega), e4]
  · rw [o t 5 (by omega), b4, e5]
  · rw [hJ2, cu_o (by omega), hJ1, cu_s]
  · rw [w0 0 1 (by omega) (by omega)] at hw
    rw [o _ _ (by omega), o _ _ (by omega), w0 1 w (by omega) (by omega), w0 2 w (by omega) (by omega)]
    exact h2 w hw
  · rw [o _ _ (by omega), w0 3 k (by omega) (by omega)]
    exact h3 k hk
  · rw [w0 0 3 (by omega) (by omega)] at hn
    rw [o _ _ (by omega), o _ _ (by omega), o _ _ (by omega), o _ _ (by omega), w0 6 _ (by omega) (by omega), w0 6 _ (by omega) (by omega), w0 6 _ (by omega) (by omega), w0 6 _ (by omega) (by omega)]
    exact h4 n hn
  · rw [w0 0 1 (by omega) (by omega)] at hw
    rw [o _ _ (by omega), w0 7 w (by omega) (by omega)]
    exact h7 w hw
theorem X_aNeed (ht : isTw B t) (h : XD t D I) (hn : D 0 3 < 8) {p w d v : Nat} : ∃ I', f_X7_addNeed t (nI p) (nI w) (nI d) (nI v) (zI B I) = some (zI B I') ∧ XD t (aNeed D p w d v) I' ∧ ∀ i j, ¬ (t ≤ i ∧ i ≤ t + 8) → I' i j = I i j := by
  obtain ⟨t1, t2, t3, -, -, -, -, m11, m12, m13, m14, -, -, -, -, -, n5, n6, n7, n8, -⟩ := TWf ht
  clear ht
  obtain ⟨⟨⟨e0, e1, e2, e3, e4, e5, e6⟩, h2, h3, h4⟩, h7⟩ := h
  obtain ⟨J1, hJ1⟩ : ∃ J, J = cu I (t + 5) (D 0 3) (nI p) := ⟨_, rfl⟩
  obtain ⟨J2, hJ2⟩ : ∃ J, J = cu J1 (t + 6) (D 0 3) (nI w) := ⟨_, rfl⟩
  obtain ⟨J3, hJ3⟩ : ∃ J, J = cu J2 (t + 7) (D 0 3) (nI d) := ⟨_, rfl⟩
  obtain ⟨J4, hJ4⟩ : ∃ J, J = cu J3 (t + 8) (D 0 3) (nI v) := ⟨_, rfl⟩
  obtain ⟨J5, hJ5⟩ : ∃ J, J = cu J4 t 4 (nI (D 0 3 + 1)) := ⟨_, rfl⟩
  have s1 : sI (zI B I) (t + 5) (nI (D 0 3)) (nI p) = some (zI B J1) := by rw [sI_cu (by omega) (by rw [n5]; omega), hJ1]
  have s2 : sI (zI B J1) (t + 6) (nI (D 0 3)) (nI w) = some (zI B J2) := by rw [sI_cu (by omega) (by rw [n6]; omega), hJ2]
  have s3 : sI (zI B J2) (t + 7) (nI (D 0 3)) (nI d) = some (zI B J3) := by rw [sI_cu (by omega) (by rw [n7]; omega), hJ3]
  have s4 : sI (zI B J3) (t + 8) (nI (D 0 3)) (nI v) = some (zI B J4) := by rw [sI_cu (by omega) (by rw [n8]; omega), hJ4]
  have f1 : J1 t 4 = nI (D 0 3) := by rw [hJ1, cu_o (by omega), e4]
  have f2 : J2 t 4 = nI (D 0 3) := by rw [hJ2, cu_o (by omega), f1]
  have f3 : J3 t 4 = nI (D 0 3) := by rw [hJ3, cu_o (by omega), f2]
  have f4 : J4 t 4 = nI (D 0 3) := by rw [hJ4, cu_o (by omega), f3]
  have c1 : ¬ 8 ≤ nI (D 0 3) := fun q => absurd ((nI_leI (a := 8) (by omega) (by omega)).mp q) (by omega)
  have w0 : ∀ a b, ¬ (a = 6 ∧ 4 * D 0 3 ≤ b ∧ b < 4 * D 0 3 + 4) → ¬ (a = 0 ∧ b = 3) → aNeed D p w d v a b = D a b := fun a b q1 q2 => by unfold aNeed; rw [u2_o (by omega), u2_o (by omega), u2_o (by omega), u2_o (by omega), u2_o (by omega)]
  have w1 : aNeed D p w d v 0 3 = D 0 3 + 1 := by unfold aNeed; rw [u2_s]
  have o : ∀ i j, ¬ ((i = t + 5 ∨ i = t + 6 ∨ i = t + 7 ∨ i = t + 8) ∧ j = D 0 3) → ¬ (i = t ∧ j = 4) → J5 i j = I i j := fun i j q1 q2 => by rw [hJ5, cu_o (by omega), hJ4, cu_o (by omega), hJ3, cu_o (by omega), hJ2, cu_o (by omega), hJ1, cu_o (by omega)]
  have x1 : J5 (t + 5) (D 0 3) = nI p := by rw [hJ5, cu_o (by omega), hJ4, cu_o (by omega), hJ3, cu_o (by omega), hJ2, cu_o (by omega), hJ1, cu_s]
  have x2 : J5 (t + 6) (D 0 3) = nI w := by rw [hJ5, cu_o (by omega), hJ4, cu_o (by omega), hJ3, cu_o (by omega), hJ2, cu_s]
  have x3 : J5 (t + 7) (D 0 3) = nI d := by rw [hJ5, cu_o (by omega), hJ4, cu_o (by omega), hJ3, cu_s]
  have x4 : J5 (t + 8) (D 0 3) = nI v := by rw [hJ5, cu_o (by omega), hJ4, cu_s]
  have y1 : aNeed D p w d v 6 (4 * D 0 3) = p := by unfold aNeed; rw [u2_o (by omega), u2_o (by omega), u2_o (by omega), u2_o (by omega), u2_s]
  have y2 : aNeed D p w d v 6 (4 * D 0 3 + 1) = w := by unfold aNeed; rw [u2_o (by omega), u2_o (by omega), u2_o (by omega), u2_s]
  have y3 : aNeed D p w d v 6 (4 * D 0 3 + 2) = d := by unfold aNeed; rw [u2_o (by omega), u2_o (by omega), u2_s]
  have y4 : aNeed D p w d v 6 (4 * D 0 3 + 3) = v := by unfold aNeed; rw [u2_o (by omega), u2_s]
  have b4 : aNeed D p w d v 4 = D 4 := funext fun j => w0 4 j (by omega) (by omega)
  have b5 : aNeed D p w d v 5 = D 5 := funext fun j => w0 5 j (by omega) (by omega)
  refine ⟨J5, ?_, ⟨⟨⟨?_, ?_, ?_, ?_, ?_, ?_, ?_⟩, fun q hw => ?_, fun k hk => ?_, fun n hn => ?_⟩, fun q hw => ?_⟩, fun i j q => o i j (by omega) (by omega)⟩
  · simp only [f_X7_addNeed, t1, t3, m11, m12, m13, m14, cond_true, oI_eq, oR_eq, pI_cu, Option.bind_some, e4, if_neg c1, s1, f1, s2, f2, s3, f3, s4, f4, nI_1, ← hJ5]
  · rw [o t 0 (by omega) (by omega), w0 0 0 (by omega) (by omega), e0]
  · rw [o t 1 (by omega) (by omega), w0 0 1 (by omega) (by omega), e1]
  · rw [o t 2 (by omega) (by omega), w0 0 4 (by omega) (by omega), e2]
  · rw [o t 3 (by omega) (by omega), w0 0 2 (by omega) (by omega), e3]
  · rw [w1, hJ5, cu_s]
  · rw [o t 5 (by omega) (by omega), b4, e5]
  · rw [o t 6 (by omega) (by omega), b5, e6]
  · rw [w0 0 1 (by omega) (by omega)] at hw
    rw [o _ _ (by omega) (by omega), o _ _ (by omega) (by omega), w0 1 q (by omega) (by omega), w0 2 q (by omega) (by omega)]
    exact h2 q hw
  · rw [o _ _ (by omega) (by omega), w0 3 k (by omega) (by omega)]
    exact h3 k hk
  · rw [w1] at hn
    by_cases e : n = D 0 3
    · subst e; rw [x1, x2, x3, x4, y1, y2, y3, y4]; exact ⟨rfl, rfl, rfl, rfl⟩
    · rw [o _ _ (by omega) (by omega), o _ _ (by omega) (by omega), o _ _ (by omega) (by omega), o _ _ (by omega) (by omega), w0 6 _ (by omega) (by omega), w0 6 _ (by omega) (by omega), w0 6 _ (by omega) (by omega), w0 6 _ (by omega) (by omega)]
      exact h4 n (by omega)
  · rw [w0 0 1 (by omega) (by omega)] at hw
    rw [o _ _ (by omega) (by omega), w0 7 q (by omega) (by omega)]
    exact h7 q hw
theorem XD_way (h : XD t D I) {k S : Nat} (hk : k < 16) : XD t (u2 (u2 D 3 k S) 0 4 (D 0 4 + 1)) (cu (cu I (t + 4) k (nI S)) t 2 (nI (D 0 4 + 1))) := by
  obtain ⟨⟨⟨e0, e1, e2, e3, e4, e5, e6⟩, h2, h3, h4⟩, h7⟩ := h
  have w0 : ∀ a b, ¬ (a = 3 ∧ b = k) → ¬ (a = 0 ∧ b = 4) → u2 (u2 D 3 k S) 0 4 (D 0 4 + 1) a b = D a b := fun a b q1 q2 => by rw [u2_o (by omega), u2_o (by omega)]
  have o : ∀ i j, ¬ (i = t + 4 ∧ j = k) → ¬ (i = t ∧ j = 2) → cu (cu I (t + 4) k (nI S)) t 2 (nI (D 0 4 + 1)) i j = I i j := fun i j q1 q2 => by rw [cu_o (by omega), cu_o (by omega)]
  have b4 : u2 (u2 D 3 k S) 0 4 (D 0 4 + 1) 4 = D 4 := funext fun j => w0 4 j (by omega) (by omega)
  have b5 : u2 (u2 D 3 k S) 0 4 (D 0 4 + 1) 5 = D 5 := funext fun j => w0 5 j (by omega) (by omega)
  refine ⟨⟨⟨?_, ?_, ?_, ?_, ?_, ?_, ?_⟩, fun w hw => ?_, fun q hq => ?_, fun n hn => ?_⟩, fun w hw => ?_⟩
  · rw [o t 0 (by omega) (by omega), w0 0 0 (by omega) (by omega), e0]
  · rw [o t 1 (by omega) (by omega), w0 0 1 (by omega) (by omega), e1]
  · rw [cu_s, u2_s]
  · rw [o t 3 (by omega) (by omega), w0 0 2 (by omega) (by omega), e3]
  · rw [o t 4 (by omega) (by omega), w0 0 3 (by omega) (by omega), e4]
  · rw [o t 5 (by omega) (by omega), b4, e5]
  · rw [o t 6 (by omega) (by omega), b5, e6]
  · rw [w0 0 1 (by omega) (by omega)] at hw
    rw [o _ _ (by omega) (by omega), o _ _ (by omega) (by omega), w0 1 w (by omega) (by omega), w0 2 w (by omega) (by omega)]
    exact h2 w hw
  · by_cases e : q = k
    · subst e; rw [cu_o (by omega), cu_s, u2_o (by omega), u2_s]
    · rw [o _ _ (by omega) (by omega), w0 3 q (by omega) (by omega)]
      exact h3 q hq
  · rw [w0 0 3 (by omega) (by omega)] at hn
    rw [o _ _ (by omega) (by omega), o _ _ (by omega) (by omega), o _ _ (by omega) (by omega), o _ _ (by omega) (by omega), w0 6 _ (by omega) (by omega), w0 6 _ (by omega) (by omega), w0 6 _ (by omega) (by omega), w0 6 _ (by omega) (by omega)]
    exact h4 n hn
  · rw [w0 0 1 (by omega) (by omega)] at hw
    rw [o _ _ (by omega) (by omega), w0 7 w (by omega) (by omega)]
    exact h7 w hw
theorem X_aWay (ht : isTw B t) (hS : SD D) (h : XD t D I) {w S : Nat} (hw : w < 8) : ∃ I', f_X7_addWay t (nI w) (nI S) (zI B I) = some (zI B I') ∧ XD t (aWay D w S) I' ∧ ∀ i j, ¬ (t ≤ i ∧ i ≤ t + 8) → I' i j = I i j := by
  obtain ⟨t1, t2, t3, -, -, -, m10, -, -, -, -, l4, -, -, -, n4, -, -, -, -, a4, -⟩ := TWf ht
  clear ht
  have h' := h
  obtain ⟨⟨⟨e0, e1, e2, e3, e4, e5, e6⟩, h2, h3, h4⟩, h7⟩ := h
  have hb := hS.1.2.2.2.2.2.2.2.1
  have b0 := hb (2 * w) (by omega)
  have b1 := hb (2 * w + 1) (by omega)
  have p0 : nI w * 2 + nI 0 = nI (2 * w) := by rw [nl2, pk_mul, nI_add, Nat.mul_comm, Nat.add_zero]
  have p1 : nI w * 2 + nI 1 = nI (2 * w + 1) := by rw [nl2, pk_mul, nI_add, Nat.mul_comm]
  have c0 : ¬ nI (2 * w) < 0 := nI_pos (by omega)
  have c1 : ¬ nI (2 * w + 1) < 0 := nI_pos (by omega)
  have d0 : ¬ nI 16 ≤ nI (2 * w) := fun q => absurd ((nI_leI (by omega) (by omega)).mp q) (by omega)
  have d1 : ¬ nI 16 ≤ nI (2 * w + 1) := fun q => absurd ((nI_leI (by omega) (by omega)).mp q) (by omega)
  have v0 := aI_at (B := B) (I := I) (by omega) (by rw [l4]; omega) (h3 (2 * w) (by omega))
  have v1 := aI_at (B := B) (I := I) (by omega) (by rw [l4]; omega) (h3 (2 * w + 1) (by omega))
  have z0 := nI_z (v := D 3 (2 * w)) (by omega)
  have z1 := nI_z (v := D 3 (2 * w + 1)) (by omega)
  obtain ⟨z, hz⟩ : ∃ z, zN = z + 1 + 1 + 1 := ⟨1099511627773, by decide⟩
  have g2 : L_X7_addWay_2 (z + 1) t (nI w) (nI S) (nI 2) (zI B I) = some (.inr (zI B I)) := by
    simp only [L_X7_addWay_2]
    rw [if_pos (by decide)]
  have x0 : ¬ (2 : Int32) ≤ nI 0 := by decide
  have x1 : ¬ (2 : Int32) ≤ nI 1 := by decide
  unfold aWay
  by_cases k0 : D 3 (2 * w) = 0
  · obtain ⟨J1, hJ1⟩ : ∃ J, J = cu I (t + 4) (2 * w) (nI S) := ⟨_, rfl⟩
    have s1 : sI (zI B I) (t + 4) (nI (2 * w)) (nI S) = some (zI B J1) := by rw [sI_cu (by omega) (by rw [n4]; omega), hJ1]
    have f1 : J1 t 2 = nI (D 0 4) := by rw [hJ1, cu_o (by omega), e2]
    rw [if_pos k0]
    refine ⟨cu J1 t 2 (nI (D 0 4 + 1)), ?_, by rw [hJ1]; exact XD_way h' (by omega), fun i j q => by rw [cu_o (by omega), hJ1, cu_o (by omega)]⟩
    have g0 : L_X7_addWay_2 zN t (nI w) (nI S) (nI 0) (zI B I) = some (.inl (zI B (cu J1 t 2 (nI (D 0 4 + 1))))) := by
      rw [hz]
      simp only [L_X7_addWay_2, if_neg x0, p0, if_neg c0, t3, m10, cond_true, oR_eq, oI_eq, pI_cu, Option.bind_some, a4, if_neg d0, v0, z0, if_pos k0, s1, f1, nI_1]
    rw [show nI 0 = (0 : Int32) from rfl] at g0
    simp only [f_X7_addWay, t1, cond_true, g0, bs_inl]
  · rw [if_neg k0]
    by_cases k1 : D 3 (2 * w + 1) = 0
    · obtain ⟨J1, hJ1⟩ : ∃ J, J = cu I (t + 4) (2 * w + 1) (nI S) := ⟨_, rfl⟩
      have s1 : sI (zI B I) (t + 4) (nI (2 * w + 1)) (nI S) = some (zI B J1) := by rw [sI_cu (by omega) (by rw [n4]; omega), hJ1]
      have f1 : J1 t 2 = nI (D 0 4) := by rw [hJ1, cu_o (by omega), e2]
      rw [if_pos k1]
      refine ⟨cu J1 t 2 (nI (D 0 4 + 1)), ?_, by rw [hJ1]; exact XD_way h' (by omega), fun i j q => by rw [cu_o (by omega), hJ1, cu_o (by omega)]⟩
      have g1 : L_X7_addWay_2 (z + 1 + 1) t (nI w) (nI S) (nI 1) (zI B I) = some (.inl (zI B (cu J1 t 2 (nI (D 0 4 + 1))))) := by
        rw [L_X7_addWay_2, if_neg x1, p1, if_neg c1]
        simp only [t3, m10, cond_true, oR_eq, oI_eq, pI_cu, Option.bind_some, a4, if_neg d1, v1, z1, if_pos k1, s1, f1, nI_1]
      have g0 : L_X7_addWay_2 zN t (nI w) (nI S) (nI 0) (zI B I) = some (.inl (zI B (cu J1 t 2 (nI (D 0 4 + 1))))) := by
        rw [hz, L_X7_addWay_2, if_neg x0, p0, if_neg c0]
        simp only [t3, m10, cond_true, oR_eq, oI_eq, pI_cu, Option.bind_some, a4, if_neg d0, v0, z0, if_neg k0]
        rw [show nI 0 + 1 = nI 1 from rfl, g1]
      rw [show nI 0 = (0 : Int32) from rfl] at g0
      simp only [f_X7_addWay, t1, cond_true, g0, bs_inl]
    · rw [if_neg k1]
      refine ⟨I, ?_, h', fun _ _ _ => rfl⟩
      have g1 : L_X7_addWay_2 (z + 1 + 1) t (nI w) (nI S) (nI 1) (zI B I) = some (.inr (zI B I)) := by
        rw [L_X7_addWay_2, if_neg x1, p1, if_neg c1]
        simp only [t3, m10, cond_true, oR_eq, oI_eq, pI_cu, Option.bind_some, a4, if_neg d1, v1, z1, if_neg k1]
        rw [show nI 1 + 1 = nI 2 from rfl, g2]
      have g0 : L_X7_addWay_2 zN t (nI w) (nI S) (nI 0) (zI B I) = some (.inr (zI B I)) := by
        rw [hz, L_X7_addWay_2, if_neg x0, p0, if_neg c0]
        simp only [t3, m10, cond_true, oR_eq, oI_eq, pI_cu, Option.bind_some, a4, if_neg d0, v0, z0, if_neg k0]
        rw [show nI 0 + 1 = nI 1 from rfl, g1]
      rw [show nI 0 = (0 : Int32) from rfl] at g0
      simp only [f_X7_addWay, t1, cond_true, g0, bs_inr]
end CLX
