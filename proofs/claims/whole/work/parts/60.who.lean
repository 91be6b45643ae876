/-! who -/
def hnd (T : Nat → Nat → Nat) (p w d : Nat) : Nat → Nat → Bool
  | 0, _ => false
  | m + 1, i => decide (T 6 (4 * i) = p ∧ T 6 (4 * i + 1) = w ∧ T 6 (4 * i + 2) = d) || hnd T p w d m (i + 1)
def wsB (T : Nat → Nat → Nat) (p w d : Nat) : Bool := if T 5 p = 0 then !hnd T p w d (T 0 3) 0 else hnd T p w d (T 0 3) 0
def ftB (T : Nat → Nat → Nat) (kw kd kb : Nat → Nat) (p : Nat) : Nat → Nat → Bool
  | 0, _ => true
  | m + 1, i => decide ((if wsB T p (kw i) (kd i) then 1 else 0) = kb i) && ftB T kw kd kb p m (i + 1)
theorem hnd_t {T : Nat → Nat → Nat} {p w d m i : Nat} (h : T 6 (4 * i) = p ∧ T 6 (4 * i + 1) = w ∧ T 6 (4 * i + 2) = d) : hnd T p w d (m + 1) i = true := by
  rw [hnd, decide_eq_true h, Bool.true_or]
theorem hnd_f {T : Nat → Nat → Nat} {p w d m i : Nat} (h : ¬ (T 6 (4 * i) = p ∧ T 6 (4 * i + 1) = w ∧ T 6 (4 * i + 2) = d)) : hnd T p w d (m + 1) i = hnd T p w d m (i + 1) := by
  rw [hnd, decide_eq_false h, Bool.false_or]
theorem ftB_t {T : Nat → Nat → Nat} {kw kd kb : Nat → Nat} {p m i : Nat} (h : (if wsB T p (kw i) (kd i) then 1 else 0) = kb i) : ftB T kw kd kb p (m + 1) i = ftB T kw kd kb p m (i + 1) := by
  rw [ftB, decide_eq_true h, Bool.true_and]
theorem ftB_f {T : Nat → Nat → Nat} {kw kd kb : Nat → Nat} {p m i : Nat} (h : ¬ (if wsB T p (kw i) (kd i) then 1 else 0) = kb i) : ftB T kw kd kb p (m + 1) i = false := by
  rw [ftB, decide_eq_false h, Bool.false_and]
theorem wsB_0 {T : Nat → Nat → Nat} {p w d : Nat} (h : T 5 p = 0) : wsB T p w d = !hnd T p w d (T 0 3) 0 := by unfold wsB; rw [if_pos h]
theorem wsB_1 {T : Nat → Nat → Nat} {p w d : Nat} (h : ¬ T 5 p = 0) : wsB T p w d = hnd T p w d (T 0 3) 0 := by unfold wsB; rw [if_neg h]
def fitN (b : Nat → Bool) : Nat → Nat → Nat → Nat
  | 0, _, A => A
  | m + 1, i, A => fitN b m (i + 1) (if b i then A + 2 ^ i else A)
theorem fitN_t {b : Nat → Bool} {m i A : Nat} (h : b i = true) : fitN b (m + 1) i A = fitN b m (i + 1) (A + 2 ^ i) := by rw [fitN, h]; rfl
theorem fitN_f {b : Nat → Bool} {m i A : Nat} (h : b i = false) : fitN b (m + 1) i A = fitN b m (i + 1) A := by rw [fitN, h]; rfl
theorem fitN_lt {b : Nat → Bool} : ∀ m i A, A < 2 ^ i → fitN b m i A < 2 ^ (i + m) := by
  intro m
  induction m with
  | zero => intro i A h; exact h
  | succ m ih =>
    intro i A h
    simp only [fitN]
    have e : 2 ^ (i + 1) = 2 ^ i + 2 ^ i := by rw [Nat.pow_succ]; omega
    rw [show i + (m + 1) = i + 1 + m by omega]
    refine ih (i + 1) _ ?_
    split <;> omega
theorem or_bit : ∀ i, i < 8 → ∀ A, A < 2 ^ i → nI A ||| (1 <<< (nI i &&& 31)) = nI (A + 2 ^ i) := by decide +kernel
theorem zb_t : zb (1 : Int32) = some 1 := rfl
theorem zb_f : zb (0 : Int32) = some 0 := rfl
section WHO
variable {B : zM} {tw s u c np p w d n kn : Nat} {T : Nat → Nat → Nat} {r kw kd kb : Nat → Nat} {I : Nat → Nat → Int32} {x y : Int32}
theorem GB.tl (h : GB B tw s u) : mR B tw 11 = tw + 5 ∧ mR B tw 12 = tw + 6 ∧ mR B tw 13 = tw + 7 ∧ mR B tw 14 = tw + 8 ∧ zlI B (tw + 5) = 8 ∧ zlI B (tw + 6) = 8 ∧ zlI B (tw + 7) = 8 ∧ zlI B (tw + 8) = 8 ∧ Nat.ble 1 tw = true := by
  have ht := h.2.2.1
  exact ⟨by simp only [ht], by simp only [ht], by simp only [ht], by simp only [ht], by simp only [ht], by simp only [ht], by simp only [ht], by simp only [ht], by simp only [ht]⟩
theorem X_ws_lp (hB : GB B tw s u) (hT : gT tw T I) (hp : p < 1000) (hw : w < 1000) (hd : d < 1000) {z : Int32} (hz : z = 0 ∨ z = 1) : ∀ m i n, i + m = T 0 3 → m < n → L_X7_wouldHaveSaid_21 n tw (nI p) (nI w) (nI d) z (nI i) (zI B I) = some (if hnd T p w d m i then .inl z else .inr ()) := by
  have b3 := hT.1.2.2.2.1
  have e4 := hT.2.2.1.1.2.2.2.2.1
  obtain ⟨x1, x2, x3, x4, x5, -⟩ := hB.hx
  obtain ⟨t1, t2, t3, t4, t5, t6, t7, t8, t9⟩ := hB.tl
  have b0 := hT.1.1
  have b1 := hT.1.2.1
  have b2 := hT.1.2.2.1
  have hzb : zb z = some z := by rcases hz with rfl | rfl <;> rfl
  intro m
  induction m with
  | zero =>
    intro i n hi hn
    obtain ⟨n, rfl⟩ := Nat.exists_eq_succ_of_ne_zero (show n ≠ 0 by omega)
    have c1 : nI (T 0 3) ≤ nI i := (nI_leI (by omega) (by omega)).mpr (by omega)
    simp only [L_X7_wouldHaveSaid_21, x5, cond_true, oI_eq, Option.bind_some, e4, if_pos c1, hnd]
    rfl
  | succ m ih =>
    intro i n hi hn
    obtain ⟨n, rfl⟩ := Nat.exists_eq_succ_of_ne_zero (show n ≠ 0 by omega)
    have c1 : ¬ nI (T 0 3) ≤ nI i := fun q => absurd ((nI_leI (by omega) (by omega)).mp q) (by omega)
    have hi' : i < T 0 3 := by omega
    have bn := hT.1.2.2.2.2.2.2.2.2.1 i hi'
    have u1 := aI_at (B := B) (by omega) (by rw [t5]; omega) (hT.2.2.1.2.2.2 i hi').1
    have u2 := aI_at (B := B) (by omega) (by rw [t6]; omega) (hT.2.2.1.2.2.2 i hi').2.1
    have u3 := aI_at (B := B) (by omega) (by rw [t7]; omega) (hT.2.2.1.2.2.2 i hi').2.2.1
    have z1 : (nI (T 6 (4 * i)) = nI p) ↔ T 6 (4 * i) = p := nI_eq (by omega) (by omega)
    have z2 : (nI (T 6 (4 * i + 1)) = nI w) ↔ T 6 (4 * i + 1) = w := nI_eq (by omega) (by omega)
    have z3 : (nI (T 6 (4 * i + 2)) = nI d) ↔ T 6 (4 * i + 2) = d := nI_eq (by omega) (by omega)
    have i1 := ih (i + 1) n (by omega) (by omega)
    simp only [L_X7_wouldHaveSaid_21, x5, t1, t2, t3, cond_true, oI_eq, oR_eq, Option.bind_some, e4, if_neg c1, u1, u2, u3, z1, z2, z3, hzb, nI_1, i1]
    by_cases k1 : T 6 (4 * i) = p
    · by_cases k2 : T 6 (4 * i + 1) = w
      · by_cases k3 : T 6 (4 * i + 2) = d
        · rw [if_pos k1, if_pos k2, if_pos k3, hnd_t ⟨k1, k2, k3⟩]; rfl
        · rw [if_pos k1, if_pos k2, if_neg k3, hnd_f (fun q => k3 q.2.2)]
      · rw [if_pos k1, if_neg k2, hnd_f (fun q => k2 q.2.1)]
    · rw [if_neg k1, hnd_f (fun q => k1 q.1)]
theorem X_ws (hB : GB B tw s u) (hT : gT tw T I) (hp : p < T 0 2) (hw : w < 1000) (hd : d < 1000) : f_X7_wouldHaveSaid tw (nI p) (nI w) (nI d) (zI B I) = some (if wsB T p w d then 1 else 0) := by
  have b2 := hT.1.2.2.1
  have b3 := hT.1.2.2.2.1
  obtain ⟨x1, x2, x3, x4, x5, -⟩ := hB.hx
  have t9 := hB.tl.2.2.2.2.2.2.2.2
  have e6 := hT.2.2.1.1.2.2.2.2.2.2
  have hb := bts5 hT.1.2.2.2.2.2.2.1 (w := p) (by omega)
  have h1 := hT.1.2.2.2.2.2.2.1 p
  have g0 := X_ws_lp hB hT (p := p) (w := w) (d := d) (by omega) hw hd (Or.inl rfl) (T 0 3) 0 zN (by omega) (by unfold zN; omega)
  have g1 := X_ws_lp hB hT (p := p) (w := w) (d := d) (by omega) hw hd (Or.inr rfl) (T 0 3) 0 zN (by omega) (by unfold zN; omega)
  have zz : nI 0 = (0 : Int32) := rfl
  rw [zz] at g0 g1
  have e7 : (nI (bts (T 5) 5) >>> (nI p &&& 31)) &&& 1 = nI (T 5 p) := by rw [nI_bit (by omega) (by omega), hb.2]
  have z0 := nI_z (v := T 5 p) (by omega)
  simp only [f_X7_wouldHaveSaid, t9, x5, cond_true, oI_eq, Option.bind_some, e6, e7, z0, g0, g1]
  by_cases k : T 5 p = 0
  · rw [if_pos k, wsB_0 k]
    cases hnd T p w d (T 0 3) 0 <;> rfl
  · rw [if_neg k, wsB_1 k]
    cases hnd T p w d (T 0 3) 0 <;> rfl
theorem Y_ws_lp (hB : GB B tw s u) (hT : gT tw T I) (hp : p < 1000) (hw : w < 1000) (hd : d < 1000) : ∀ m i n (b : Bool), i + m = T 0 3 → m < n → L_X9_wouldSay_6 n 144 (nI p) (nI w) (nI d) (if b then 1 else 0) (nI i) (zI B I) = some (if b || hnd T p w d m i then 1 else 0) := by
  have b3 := hT.1.2.2.2.1
  have e4 := hT.2.2.2.1.2.2.2
  obtain ⟨y1, y2, -⟩ := hB.hy'
  obtain ⟨-, -, -, -, l7, -⟩ := hB.lt
  have b0 := hT.1.1
  have b1 := hT.1.2.1
  have b2 := hT.1.2.2.1
  have y3 : mR B 144 14 = 153 := by have hy := hB.2.1; simp only [hy]
  intro m
  induction m with
  | zero =>
    intro i n b hi hn
    obtain ⟨n, rfl⟩ := Nat.exists_eq_succ_of_ne_zero (show n ≠ 0 by omega)
    have c1 : nI (T 0 3) ≤ nI i := (nI_leI (by omega) (by omega)).mpr (by omega)
    simp only [L_X9_wouldSay_6, y1, cond_true, oI_eq, Option.bind_some, e4, if_pos c1, hnd, Bool.or_false]
  | succ m ih =>
    intro i n b hi hn
    obtain ⟨n, rfl⟩ := Nat.exists_eq_succ_of_ne_zero (show n ≠ 0 by omega)
    have c1 : ¬ nI (T 0 3) ≤ nI i := fun q => absurd ((nI_leI (by omega) (by omega)).mp q) (by omega)
    have hi' : i < T 0 3 := by omega
    have bn := hT.1.2.2.2.2.2.2.2.2.1 i hi'
    have u1 := aI_at (B := B) (by omega) (by rw [l7]; omega) (hT.2.2.2.2.2.2.2.2 i hi').1
    have u2 := aI_at (B := B) (by omega) (by rw [l7]; omega) (hT.2.2.2.2.2.2.2.2 i hi').2.1
    have u3 := aI_at (B := B) (by omega) (by rw [l7]; omega) (hT.2.2.2.2.2.2.2.2 i hi').2.2.1
    have p1 : (4 : Int32) * nI i = nI (4 * i) := by rw [nl4, pk_mul]
    have p2 : nI (4 * i) + (2 : Int32) = nI (4 * i + 2) := nI_add (4 * i) 2
    have z1 : (nI (T 6 (4 * i)) = nI p) ↔ T 6 (4 * i) = p := nI_eq (by omega) (by omega)
    have z2 : (nI (T 6 (4 * i + 1)) = nI w) ↔ T 6 (4 * i + 1) = w := nI_eq (by omega) (by omega)
    have z3 : (nI (T 6 (4 * i + 2)) = nI d) ↔ T 6 (4 * i + 2) = d := nI_eq (by omega) (by omega)
    have j0 := ih (i + 1) n false (by omega) (by omega)
    have j1 := ih (i + 1) n true (by omega) (by omega)
    simp only [Bool.false_eq_true, if_false, if_true, Bool.false_or, Bool.true_or] at j0 j1
    simp only [L_X9_wouldSay_6, f_X9_person, f_X9_wordOf, f_X9_dayOf, nb144, y1, y3, cond_true, oI_eq, oR_eq, zac_zI, Option.bind_some, e4, if_neg c1, p1, nI_1, p2, u1, u2, u3, z1, z2, z3, j0, j1]
    cases b
    · simp only [Bool.false_eq_true, if_false, if_true, Bool.false_or]
      by_cases k1 : T 6 (4 * i) = p
      · by_cases k2 : T 6 (4 * i + 1) = w
        · by_cases k3 : T 6 (4 * i + 2) = d
          · rw [if_pos k1, if_pos k2, if_pos k3, hnd_t ⟨k1, k2, k3⟩]; rfl
          · rw [if_pos k1, if_pos k2, if_neg k3, hnd_f (fun q => k3 q.2.2)]
        · rw [if_pos k1, if_neg k2, hnd_f (fun q => k2 q.2.1)]
      · rw [if_neg k1, hnd_f (fun q => k1 q.1)]
    · simp only [if_true, Bool.true_or, if_neg ne10]
theorem Y_ws (hB : GB B tw s u) (hT : gT tw T I) (hp : p < T 0 2) (hw : w < 1000) (hd : d < 1000) : f_X9_wouldSay 144 (nI p) (nI w) (nI d) (zI B I) = some (if wsB T p w d then 1 else 0) := by
  have b2 := hT.1.2.2.1
  have b3 := hT.1.2.2.2.1
  obtain ⟨y1, y2, -⟩ := hB.hy'
  have h1 := hT.1.2.2.2.2.2.2.1 p
  have y3 : mR B 144 13 = 152 := by have hy := hB.2.1; simp only [hy]
  have l3 : zln B 11 152 = 5 := by have hy := hB.2.1; simp only [hy]
  have g0 := Y_ws_lp hB hT (p := p) (w := w) (d := d) (by omega) hw hd (T 0 3) 0 zN false (by omega) (by unfold zN; omega)
  simp only [Bool.false_eq_true, if_false, Bool.false_or] at g0
  have zz : nI 0 = (0 : Int32) := rfl
  rw [zz] at g0
  have v0 := aZ_at (B := B) (by omega) (by rw [l3]; omega) (hT.2.2.2.2.2.2.2.1 p hp)
  simp only [f_X9_wouldSay, nb144, y1, y3, cond_true, oR_eq, Option.bind_some, g0, v0]
  by_cases k : T 5 p = 0
  · rw [wsB_0 k, k]
    cases hnd T p w d (T 0 3) 0 <;> rfl
  · rw [wsB_1 k, show T 5 p = 1 by omega]
    cases hnd T p w d (T 0 3) 0 <;> rfl
theorem GB.ks (h : GB B tw s u) : mR B 1 8 = 123 ∧ zac B 123 2 4 = true ∧ mR B 123 0 = 124 ∧ mR B 123 1 = 125 ∧ mR B 123 2 = 126 ∧ zlI B 124 = 6 ∧ zlI B 125 = 6 ∧ zln B 11 126 = 6 ∧ mR B 144 49 = 171 ∧ mR B 144 50 = 172 ∧ mR B 144 51 = 173 ∧ zlI B 171 = 6 ∧ zlI B 172 = 6 ∧ zln B 11 173 = 6 := by
  obtain ⟨hx, hy, -⟩ := h
  exact ⟨by simp only [hx], by simp only [hx], by simp only [hx], by simp only [hx], by simp only [hx], by simp only [hx], by simp only [hx], by simp only [hx], by simp only [hy], by simp only [hy], by simp only [hy], by simp only [hy], by simp only [hy], by simp only [hy]⟩
theorem b2n {b : Bool} {k : Nat} (hk : k ≤ 1) : ((if b then (1 : Int32) else 0) = nI k) ↔ (if b then 1 else 0) = k := by
  have : k = 0 ∨ k = 1 := by omega
  rcases this with rfl | rfl <;> cases b <;> decide
theorem X_fits_lp (hB : GB B tw s u) (hT : gT tw T I) (hK : gK T kn kw kd kb I) (hp : p < T 0 2) : ∀ m i n, i + m = kn → m < n → L_X2_fits_2 n 123 tw (nI p) (nI i) (zI B I) = some (if ftB T kw kd kb p m i then .inr () else .inl 0) := by
  obtain ⟨x1, x2, x3, x4, x5, -⟩ := hB.hx
  obtain ⟨k1, k2, k3, k4, k5, k6, k7, k8, -⟩ := hB.ks
  obtain ⟨hkn, e1, e2, e3⟩ := hK
  have b1 := hT.1.2.1
  intro m
  induction m with
  | zero =>
    intro i n hi hn
    obtain ⟨n, rfl⟩ := Nat.exists_eq_succ_of_ne_zero (show n ≠ 0 by omega)
    have c1 : nI kn ≤ nI i := (nI_leI (by omega) (by omega)).mpr (by omega)
    simp only [L_X2_fits_2, k2, cond_true, oI_eq, Option.bind_some, e1, if_pos c1, ftB, if_true]
  | succ m ih =>
    intro i n hi hn
    obtain ⟨n, rfl⟩ := Nat.exists_eq_succ_of_ne_zero (show n ≠ 0 by omega)
    have c1 : ¬ nI kn ≤ nI i := fun q => absurd ((nI_leI (by omega) (by omega)).mp q) (by omega)
    obtain ⟨⟨f1, -, f2⟩, ⟨f3, -, f4⟩, ⟨f5, -, f6⟩⟩ := e3 i (by omega)
    have u1 := aI_at (B := B) (by omega) (by rw [k6]; omega) f1
    have u2 := aI_at (B := B) (by omega) (by rw [k7]; omega) f3
    have u3 := aZ_at (B := B) (by omega) (by rw [k8]; omega) f5
    have g := X_ws hB hT hp (w := kw i) (d := kd i) (by omega) (by omega)
    have i1 := ih (i + 1) n (by omega) (by omega)
    have z1 := b2n (b := wsB T p (kw i) (kd i)) f6
    simp only [L_X2_fits_2, x5, k2, k3, k4, k5, cond_true, oI_eq, oR_eq, zac_zI, Option.bind_some, e1, if_neg c1, u1, u2, u3, g, z1, nI_1, i1]
    by_cases k : (if wsB T p (kw i) (kd i) then 1 else 0) = kb i
    · rw [if_pos k, ftB_t k]
    · rw [if_neg k, ftB_f k]; rfl
theorem X_fit_lp (hB : GB B tw s u) (hT : gT tw T I) (hK : gK T kn kw kd kb I) : ∀ m i n A, i + m = T 0 2 → m < n → A < 2 ^ i → L_X2_fitting_4 n 123 tw (nI A) (nI i) (zI B I) = some (nI (fitN (fun p => ftB T kw kd kb p kn 0) m i A)) := by
  obtain ⟨x1, x2, x3, x4, x5, -⟩ := hB.hx
  obtain ⟨k1, k2, -⟩ := hB.ks
  have t9 := hB.tl.2.2.2.2.2.2.2.2
  have b2 := hT.1.2.2.1
  have e3 := hT.2.2.1.1.2.2.2.1
  have hkn := hK.1
  intro m
  induction m with
  | zero =>
    intro i n A hi hn hA
    obtain ⟨n, rfl⟩ := Nat.exists_eq_succ_of_ne_zero (show n ≠ 0 by omega)
    have c1 : nI (T 0 2) ≤ nI i := (nI_leI (by omega) (by omega)).mpr (by omega)
    simp only [L_X2_fitting_4, x5, cond_true, oI_eq, Option.bind_some, e3, if_pos c1, fitN]
  | succ m ih =>
    intro i n A hi hn hA
    obtain ⟨n, rfl⟩ := Nat.exists_eq_succ_of_ne_zero (show n ≠ 0 by omega)
    have c1 : ¬ nI (T 0 2) ≤ nI i := fun q => absurd ((nI_leI (by omega) (by omega)).mp q) (by omega)
    have g := X_fits_lp hB hT hK (p := i) (by omega) kn 0 zN (by omega) (by unfold zN; omega)
    rw [show nI 0 = (0 : Int32) from rfl] at g
    have eo := or_bit i (by omega) A hA
    have ep : 2 ^ (i + 1) = 2 ^ i + 2 ^ i := by rw [Nat.pow_succ]; omega
    simp only [L_X2_fitting_4, f_X2_fits, show Nat.ble 1 123 = true from rfl, t9, x5, k2, cond_true, oI_eq, zac_zI, Option.bind_some, e3, if_neg c1, g, nI_1, eo]
    rcases Bool.eq_false_or_eq_true (ftB T kw kd kb i kn 0) with hc | hc
    · rw [fitN_t (b := fun p => ftB T kw kd kb p kn 0) hc]
      simp only [hc, if_true, bs_inr, Option.bind_some, if_neg ne10]
      exact ih (i + 1) n _ (by omega) (by omega) (by omega)
    · rw [fitN_f (b := fun p => ftB T kw kd kb p kn 0) hc]
      simp only [hc, Bool.false_eq_true, if_false, bs_inl, Option.bind_some, if_true]
      exact ih (i + 1) n _ (by omega) (by omega) (by omega)
/-- the set of persons that fit -/
def whoN (T : Nat → Nat → Nat) (kn : Nat) (kw kd kb : Nat → Nat) : Nat := fitN (fun p => ftB T kw kd kb p kn 0) (T 0 2) 0 0
theorem whoN_lt (hT : gT tw T I) : whoN T kn kw kd kb < 2 ^ T 0 2 ∧ whoN T kn kw kd kb < 32 := by
  have b2 := hT.1.2.2.1
  have h := fitN_lt (b := fun p => ftB T kw kd kb p kn 0) (T 0 2) 0 0 (by decide)
  rw [Nat.zero_add] at h
  have h5 : 2 ^ T 0 2 ≤ 2 ^ 5 := Nat.pow_le_pow_right (by omega) b2
  exact ⟨h, Nat.lt_of_lt_of_le h h5⟩
theorem X_fit (hB : GB B tw s u) (hT : gT tw T I) (hK : gK T kn kw kd kb I) : f_X2_fitting 123 tw (zI B I) = some (nI (whoN T kn kw kd kb)) := by
  have b2 := hT.1.2.2.1
  have t9 := hB.tl.2.2.2.2.2.2.2.2
  have g := X_fit_lp hB hT hK (T 0 2) 0 zN 0 (by omega) (by unfold zN; omega) (by decide)
  rw [show nI 0 = (0 : Int32) from rfl] at g
  simp only [f_X2_fitting, show Nat.ble 1 123 = true from rfl, t9, cond_true, g, Option.bind_some]
  rfl
theorem Y_fits_lp (hB : GB B tw s u) (hT : gT tw T I) (hK : gK T kn kw kd kb I) (hp : p < T 0 2) {z : Int32} : ∀ m i n (b : Bool), i + m = kn → m < n → L_X9_whoSaid_17 n 144 z (nI p) (if b then 1 else 0) (nI i) (zI B I) = some (if b && ftB T kw kd kb p m i then 1 else 0) := by
  obtain ⟨y1, y2, -⟩ := hB.hy'
  obtain ⟨-, -, -, -, -, -, -, -, k3, k4, k5, k6, k7, k8⟩ := hB.ks
  obtain ⟨hkn, e1, e2, e3⟩ := hK
  have b1 := hT.1.2.1
  intro m
  induction m with
  | zero =>
    intro i n b hi hn
    obtain ⟨n, rfl⟩ := Nat.exists_eq_succ_of_ne_zero (show n ≠ 0 by omega)
    have c1 : nI kn ≤ nI i := (nI_leI (by omega) (by omega)).mpr (by omega)
    simp only [L_X9_whoSaid_17, y1, cond_true, oI_eq, Option.bind_some, e2, if_pos c1, ftB, Bool.and_true]
  | succ m ih =>
    intro i n b hi hn
    obtain ⟨n, rfl⟩ := Nat.exists_eq_succ_of_ne_zero (show n ≠ 0 by omega)
    have c1 : ¬ nI kn ≤ nI i := fun q => absurd ((nI_leI (by omega) (by omega)).mp q) (by omega)
    obtain ⟨⟨-, f1, f2⟩, ⟨-, f3, f4⟩, ⟨-, f5, f6⟩⟩ := e3 i (by omega)
    have u1 := aI_at (B := B) (by omega) (by rw [k6]; omega) f1
    have u2 := aI_at (B := B) (by omega) (by rw [k7]; omega) f3
    have u3 := aZ_at (B := B) (by omega) (by rw [k8]; omega) f5
    have g := Y_ws hB hT hp (w := kw i) (d := kd i) (by omega) (by omega)
    have j0 := ih (i + 1) n false (by omega) (by omega)
    have j1 := ih (i + 1) n true (by omega) (by omega)
    simp only [Bool.false_eq_true, if_false, if_true, Bool.false_and, Bool.true_and] at j0 j1
    have z1 := b2n (b := wsB T p (kw i) (kd i)) f6
    simp only [L_X9_whoSaid_17, y1, k3, k4, k5, cond_true, oI_eq, oR_eq, zac_zI, Option.bind_some, e2, if_neg c1, u1, u2, u3, g, z1, nI_1, j0, j1]
    cases b
    · simp only [Bool.false_eq_true, if_false, if_true, Bool.false_and]
    · simp only [if_true, if_neg ne10, Bool.true_and]
      by_cases k : (if wsB T p (kw i) (kd i) then 1 else 0) = kb i
      · rw [if_pos k, ftB_t k]
      · rw [if_neg k, ftB_f k]; rfl
theorem Y_fit_lp (hB : GB B tw s u) (hT : gT tw T I) (hK : gK T kn kw kd kb I) : ∀ m i n A, i + m = T 0 2 → m < n → A < 2 ^ i → L_X9_whoSaid_4 n 144 (nI A) (nI i) (zI B I) = some (nI (fitN (fun p => ftB T kw kd kb p kn 0) m i A)) := by
  obtain ⟨y1, y2, -⟩ := hB.hy'
  have b2 := hT.1.2.2.1
  have e3 := hT.2.2.2.1.2.2.1
  have hkn := hK.1
  intro m
  induction m with
  | zero =>
    intro i n A hi hn hA
    obtain ⟨n, rfl⟩ := Nat.exists_eq_succ_of_ne_zero (show n ≠ 0 by omega)
    have c1 : nI (T 0 2) ≤ nI i := (nI_leI (by omega) (by omega)).mpr (by omega)
    simp only [L_X9_whoSaid_4, y1, cond_true, oI_eq, Option.bind_some, e3, if_pos c1, fitN]
  | succ m ih =>
    intro i n A hi hn hA
    obtain ⟨n, rfl⟩ := Nat.exists_eq_succ_of_ne_zero (show n ≠ 0 by omega)
    have c1 : ¬ nI (T 0 2) ≤ nI i := fun q => absurd ((nI_leI (by omega) (by omega)).mp q) (by omega)
    have g := Y_fits_lp hB hT hK (p := i) (by omega) (z := nI A) kn 0 zN true (by omega) (by unfold zN; omega)
    rw [show nI 0 = (0 : Int32) from rfl, ite_t, Bool.true_and] at g
    have eo := or_bit i (by omega) A hA
    have ep : 2 ^ (i + 1) = 2 ^ i + 2 ^ i := by rw [Nat.pow_succ]; omega
    simp only [L_X9_whoSaid_4, y1, cond_true, oI_eq, Option.bind_some, e3, if_neg c1, g, nI_1, eo, Int32.or_zero]
    rcases Bool.eq_false_or_eq_true (ftB T kw kd kb i kn 0) with hc | hc
    · rw [fitN_t (b := fun p => ftB T kw kd kb p kn 0) hc]
      simp only [hc, if_true, if_neg ne10]
      exact ih (i + 1) n _ (by omega) (by omega) (by omega)
    · rw [fitN_f (b := fun p => ftB T kw kd kb p kn 0) hc]
      simp only [hc, Bool.false_eq_true, if_false, if_true]
      exact ih (i + 1) n _ (by omega) (by omega) (by omega)
theorem Y_fit (hB : GB B tw s u) (hT : gT tw T I) (hK : gK T kn kw kd kb I) : f_X9_whoSaid 144 (zI B I) = some (nI (whoN T kn kw kd kb)) := by
  have b2 := hT.1.2.2.1
  have g := Y_fit_lp hB hT hK (T 0 2) 0 zN 0 (by omega) (by unfold zN; omega) (by decide)
  rw [show nI 0 = (0 : Int32) from rfl] at g
  simp only [f_X9_whoSaid, nb144, cond_true, g, Option.bind_some]
  rfl
theorem r_who (hB : GB B tw s u) (hT : gT tw T I) (hK : gK T kn kw kd kb I) : R2 (f_X8_who 1 (zI B I)) (f_X9_who 144 (zI B I)) := by
  have g1 := X_fit hB hT hK
  have g2 := Y_fit hB hT hK
  obtain ⟨x1, x2, x3, x4, x5, -⟩ := hB.hx
  obtain ⟨y1, y2, -⟩ := hB.hy'
  obtain ⟨k1, k2, -⟩ := hB.ks
  refine R_of (v := nI (whoN T kn kw kd kb)) ?_ ?_
  · simp only [f_X8_who, nb1, x1, x2, k1, k2, cond_true, oR_eq, zac_zI, Option.bind_some, g1]
  · simp only [f_X9_who, nb144, y1, cond_true, zac_zI, Option.bind_some, g2]
end WHO
