/-! rhymes -/
def rB2 (T : Nat → Nat → Nat) (r : Nat → Nat) (a b : Nat) : Bool := decide (T 2 a = T 2 b ∧ 0 < r (13 + a) ∧ 0 < r (13 + b))
section RM
variable {B : zM} {tw s u c np w p p2 n : Nat} {T : Nat → Nat → Nat} {r : Nat → Nat} {I : Nat → Nat → Int32} {x y : Int32}
theorem rhymes_in (hB : GB B tw s u) (hT : gT tw T I) (hN : gN s np c r I) (hp : p < T 0 1) : ∀ m i n q, i + m = T 0 1 → m < n → L_X8_rhymes_20 n 1 y (nI q) (nI p) (nI i) (zI B I) = some (sl2 (rB2 T r) y p m i q) ∧ L_X9_rhymes_17 n 144 y (nI q) (nI p) (nI i) (zI B I) = some (sl2 (rB2 T r) y p m i q) := by
  have b2 := hT.1.2.1
  have e3 := hT.2.2.1.1.2.1
  have f3 := hT.2.2.2.1.2.1
  intro m
  induction m with
  | zero =>
    intro i n q hi hn
    obtain ⟨n, rfl⟩ := Nat.exists_eq_succ_of_ne_zero (show n ≠ 0 by omega)
    have c1 : nI (T 0 1) ≤ nI i := (nI_leI (by omega) (by omega)).mpr (by omega)
    obtain ⟨hx, hy, ht, m1, -, hs, m3, -⟩ := hB
    simp only [L_X8_rhymes_20, L_X9_rhymes_17, hx, hy, m1, ht, cond_true, oR_eq, oI_eq, Option.bind_some, e3, f3, if_pos c1]
    exact ⟨rfl, rfl⟩
  | succ m ih =>
    intro i n q hi hn
    obtain ⟨n, rfl⟩ := Nat.exists_eq_succ_of_ne_zero (show n ≠ 0 by omega)
    have c1 : ¬ nI (T 0 1) ≤ nI i := fun q => absurd ((nI_leI (by omega) (by omega)).mp q) (by omega)
    have hi' : i < T 0 1 := by omega
    have i1 := fun q => (ih (i + 1) n q (by omega) (by omega)).1
    have i2 := fun q => (ih (i + 1) n q (by omega) (by omega)).2
    have p1 : (10 : Int32) * nI p + nI i = nI (10 * p + i) := by rw [nl10, pk_mul, nI_add]
    have p2 : (13 : Int32) + nI p = nI (13 + p) := nI_add 13 p
    have p3 : (13 : Int32) + nI i = nI (13 + i) := nI_add 13 i
    obtain ⟨-, -, l3, -, -, l6, l7, -, l9⟩ := hB.lt
    have t1 := (hT.1.2.2.2.2.2.2.2.2.2 p hp).2.2
    have t2 := (hT.1.2.2.2.2.2.2.2.2.2 i hi').2.2
    have b3 := (hN.2.2.1.b (p := 0) (w := p) (by omega) (by omega)).2.1
    have b4 := (hN.2.2.1.b (p := 0) (w := i) (by omega) (by omega)).2.1
    have a1 := aI_at (B := B) (by omega) (by rw [l3]; omega) (hT.2.2.1.2.1 p hp).2
    have a2 := aI_at (B := B) (by omega) (by rw [l3]; omega) (hT.2.2.1.2.1 i hi').2
    have a3 := aI_at (B := B) (by omega) (by rw [l7]; omega) (hN.1.le (w := p) (by omega))
    have a4 := aI_at (B := B) (by omega) (by rw [l7]; omega) (hN.1.le (w := i) (by omega))
    have d1 := aI_at (B := B) (by omega) (by rw [l9]; omega) (hT.2.2.2.2.1 p hp).2
    have d2 := aI_at (B := B) (by omega) (by rw [l9]; omega) (hT.2.2.2.2.1 i hi').2
    have d3 := aI_at (B := B) (by omega) (by rw [l6]; omega) (hN.2.1 (13 + p) (by omega))
    have d4 := aI_at (B := B) (by omega) (by rw [l6]; omega) (hN.2.1 (13 + i) (by omega))
    have z0 : nI (T 2 p) = nI (T 2 i) ↔ T 2 p = T 2 i := nI_eq (by omega) (by omega)
    have z1 := nI_l0 (v := r (13 + p)) (by omega)
    have z2 := nI_l0 (v := r (13 + i)) (by omega)
    obtain ⟨hx, hy, ht, m1, -, hs, m3, -⟩ := hB
    simp only [L_X8_rhymes_20, L_X9_rhymes_17, hx, hy, m1, m3, hs, ht, cond_true, oR_eq, oI_eq, zac_zI, Option.bind_some, e3, f3, if_neg c1, p1, p2, p3, a1, a2, a3, a4, d1, d2, d3, d4, z0, z1, z2, nI_1, i1, i2, sl2]
    clear hx hy ht hs hT hN
    by_cases k1 : T 2 p = T 2 i
    · by_cases k2 : r (13 + p) = 0
      · rw [if_pos k1, if_pos k2, if_neg (by simp [rB2]; omega)]
        exact ⟨rfl, rfl⟩
      · by_cases k3 : r (13 + i) = 0
        · rw [if_pos k1, if_neg k2, if_pos k3, if_neg (by simp [rB2]; omega)]
          exact ⟨rfl, rfl⟩
        · rw [if_pos k1, if_neg k2, if_neg k3, if_pos (show rB2 T r p i = true by simp [rB2]; omega)]
          by_cases d : nI q = y
          · simp only [if_pos d]; exact ⟨trivial, trivial⟩
          · simp only [if_neg d]; exact ⟨trivial, trivial⟩
    · rw [if_neg k1, if_neg (by simp [rB2]; omega)]
      exact ⟨rfl, rfl⟩
theorem rhymes_out (hB : GB B tw s u) (hT : gT tw T I) (hN : gN s np c r I) : ∀ m i n q, i + m = T 0 1 → m < n → q ≤ 8 * i → L_X8_rhymes_4 n 1 y (nI q) (nI i) (zI B I) = some (sl1 (rB2 T r) y 0 (fun i => i + 1) (fun i => T 0 1 - (i + 1)) m i (nI q)) ∧ L_X9_rhymes_4 n 144 y (nI q) (nI i) (zI B I) = some (sl1 (rB2 T r) y 0 (fun i => i + 1) (fun i => T 0 1 - (i + 1)) m i (nI q)) := by
  have b2 := hT.1.2.1
  have e3 := hT.2.2.1.1.2.1
  have f3 := hT.2.2.2.1.2.1
  intro m
  induction m with
  | zero =>
    intro i n q hi hn hq
    obtain ⟨n, rfl⟩ := Nat.exists_eq_succ_of_ne_zero (show n ≠ 0 by omega)
    have c1 : nI (T 0 1) ≤ nI i := (nI_leI (by omega) (by omega)).mpr (by omega)
    obtain ⟨hx, hy, ht, m1, -, hs, m3, -⟩ := hB
    simp only [L_X8_rhymes_4, L_X9_rhymes_4, hx, hy, m1, ht, cond_true, oR_eq, oI_eq, Option.bind_some, e3, f3, if_pos c1]
    exact ⟨rfl, rfl⟩
  | succ m ih =>
    intro i n q hi hn hq
    obtain ⟨n, rfl⟩ := Nat.exists_eq_succ_of_ne_zero (show n ≠ 0 by omega)
    have c1 : ¬ nI (T 0 1) ≤ nI i := fun q => absurd ((nI_leI (by omega) (by omega)).mp q) (by omega)
    obtain ⟨g1, g2⟩ := rhymes_in (y := y) hB hT hN (show i < T 0 1 by omega) (T 0 1 - (i + 1)) (i + 1) zN q (by omega) (by unfold zN; omega)
    have ee : (nI q).toInt.toNat = q := by rw [nI_toInt (by omega)]; omega
    have i1 := fun q h => (ih (i + 1) n q (by omega) (by omega) h).1
    have i2 := fun q h => (ih (i + 1) n q (by omega) (by omega) h).2
    have hl := sl2_r (b := rB2 T r) (k := y) (p := i) (T 0 1 - (i + 1)) (i + 1) q
    obtain ⟨hx, hy, ht, m1, -, hs, m3, -⟩ := hB
    simp only [L_X8_rhymes_4, L_X9_rhymes_4, hx, hy, m1, ht, cond_true, oR_eq, oI_eq, zac_zI, Option.bind_some, e3, f3, if_neg c1, nI_1, g1, g2, sl1, ee]
    clear hx hy ht hs hT hN
    cases hc : sl2 (rB2 T r) y i (T 0 1 - (i + 1)) (i + 1) q with
    | inl v => exact ⟨rfl, rfl⟩
    | inr v =>
      obtain ⟨q', h1, rfl⟩ := hl v hc
      simp only [bs_inr]
      exact ⟨i1 q' (by omega), i2 q' (by omega)⟩
theorem r_rhymes (hB : GB B tw s u) (hT : gT tw T I) (hN : gN s np c r I) : R2 (f_X8_rhymes 1 y (zI B I)) (f_X9_rhymes 144 y (zI B I)) := by
  have b1 := hT.1.2.1
  obtain ⟨g1, g2⟩ := rhymes_out (y := y) hB hT hN (T 0 1) 0 zN 0 (by omega) (by unfold zN; omega) (by omega)
  rw [show nI 0 = (0 : Int32) from rfl] at g1 g2
  simp only [f_X8_rhymes, f_X9_rhymes, nb1, nb144, cond_true, g1, g2]
  cases sl1 (rB2 T r) y 0 (fun i => i + 1) (fun i => T 0 1 - (i + 1)) (T 0 1) 0 0 with
  | inl v => exact ⟨v, rfl, rfl⟩
  | inr v =>
    simp only [bs_inr]
    exact R_if (fun _ => ⟨_, rfl, rfl⟩) (fun _ => ⟨_, rfl, rfl⟩)
end RM
