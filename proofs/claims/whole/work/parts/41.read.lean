/-! more, share -/
theorem df_l {a b : Nat} (ha : a < 1000000) (hb : b < 1000000) : 0 < nI a - nI b ↔ b < a := by
  rw [Int32.lt_iff_toInt_lt, pk_sub_toInt (by omega) (by omega), show (0 : Int32).toInt = 0 from rfl]
  omega
theorem df_e {a b : Nat} (ha : a < 1000000) (hb : b < 1000000) : nI a - nI b ≤ 0 ↔ a ≤ b := by
  rw [Int32.le_iff_toInt_le, pk_sub_toInt (by omega) (by omega), show (0 : Int32).toInt = 0 from rfl]
  omega
def mr (f g : Nat → Nat) : Nat → Nat → Nat
  | 0, _ => 0
  | m + 1, i => (f i - g i) + mr f g m (i + 1)
theorem mr_le {f g : Nat → Nat} (hf : ∀ i, f i ≤ 8) : ∀ m i, mr f g m i ≤ 8 * m := by
  intro m
  induction m with
  | zero => intro i; exact Nat.le_refl _
  | succ m ih =>
    intro i
    have := ih (i + 1)
    have := hf i
    simp only [mr]
    omega
def shr (f : Nat → Nat) (p : Nat) : Nat → Nat → Nat
  | 0, _ => 0
  | m + 1, i => (if f p < f i ∨ (f i = f p ∧ i < p) then 1 else 0) + shr f p m (i + 1)
theorem shr_le {f : Nat → Nat} {p : Nat} : ∀ m i, shr f p m i ≤ m := by
  intro m
  induction m with
  | zero => intro i; exact Nat.le_refl _
  | succ m ih =>
    intro i
    have := ih (i + 1)
    simp only [shr]
    split <;> omega
theorem dv_nI {a b : Nat} (ha : a < 2147483648) (hb : b < 2147483648) (h0 : 0 < b) : dv (nI a) (nI b) = some (nI (a / b)) := by
  have c2 : ¬ nI b = 0 := by rw [nl0]; exact fun q => absurd ((nI_eq (by omega) (by omega)).mp q) (by omega)
  unfold dv
  rw [if_neg c2, pk_div (by omega) (by omega) (by omega)]
section RM
variable {B : zM} {tw s u c np w p p2 n : Nat} {T : Nat → Nat → Nat} {r : Nat → Nat} {I : Nat → Nat → Int32} {x y : Int32}
theorem more_lp (hB : GB B tw s u) (hT : gT tw T I) (hN : gN s np c r I) (hw : w < 8) : ∀ m i n q z, i + m = T 0 2 → m < n → L_X8_more_15 n 1 (nI w) (nI q) (nI i) (zI B I) = some (nI (q + mr (fun p => ndc T (dN T r) p w (T 0 3) 0) (fun p => r (29 + (8 * p + w))) m i)) ∧ L_X9_more_24 n 144 (nI w) z (nI i) (zI B I) = some (z + nI (mr (fun p => ndc T (dN T r) p w (T 0 3) 0) (fun p => r (29 + (8 * p + w))) m i)) := by
  have b2 := hT.1.2.2.1
  have e3 := hT.2.2.1.1.2.2.2.1
  have f3 := hT.2.2.2.1.2.2.1
  have b3 := hT.1.2.2.2.1
  intro m
  induction m with
  | zero =>
    intro i n q z hi hn
    obtain ⟨n, rfl⟩ := Nat.exists_eq_succ_of_ne_zero (show n ≠ 0 by omega)
    have c1 : nI (T 0 2) ≤ nI i := (nI_leI (by omega) (by omega)).mpr (by omega)
    obtain ⟨hx, hy, ht, m1, -, hs, m3, -⟩ := hB
    simp only [L_X8_more_15, L_X9_more_24, hx, hy, m1, ht, cond_true, oR_eq, oI_eq, Option.bind_some, e3, f3, if_pos c1, mr, Nat.add_zero, show nI 0 = (0 : Int32) from rfl, Int32.add_zero]
    exact ⟨trivial, trivial⟩
  | succ m ih =>
    intro i n q z hi hn
    obtain ⟨n, rfl⟩ := Nat.exists_eq_succ_of_ne_zero (show n ≠ 0 by omega)
    have c1 : ¬ nI (T 0 2) ≤ nI i := fun q => absurd ((nI_leI (by omega) (by omega)).mp q) (by omega)
    have hp : i < 5 := by omega
    have i1 := fun q => (ih (i + 1) n q 0 (by omega) (by omega)).1
    have i2 := fun z => (ih (i + 1) n 0 z (by omega) (by omega)).2
    have n1 := X_nd hB hT hN hp hw
    have n2 := Y_nd hB hT hN hp hw
    have k1 := ndc_le (T := T) (d := dN T r) (p := i) (w := w) (T 0 3) 0
    have b1 := (hN.2.2.1.b hp hw).1
    obtain ⟨-, -, -, -, -, l6, -⟩ := hB.lt
    have a1 := aI_at (B := B) (by omega) (by rw [l6]; omega) (hN.2.1 (29 + (8 * i + w)) (by omega))
    have p1 : (29 : Int32) + 8 * nI i + nI w = nI (29 + (8 * i + w)) := by rw [nl29, nl8, pk_mul, nI_add, nI_add, Nat.add_assoc]
    have z1 := df_l (a := ndc T (dN T r) i w (T 0 3) 0) (b := r (29 + (8 * i + w))) (by omega) (by omega)
    have z2 := df_e (a := ndc T (dN T r) i w (T 0 3) 0) (b := r (29 + (8 * i + w))) (by omega) (by omega)
    obtain ⟨hx, hy, ht, m1, -, hs, m3, -⟩ := hB
    have h1 := X_hoardedBy hs hN.1 hp hw
    simp only [L_X8_more_15, L_X9_more_24, hx, hy, m1, m3, hs, ht, cond_true, oR_eq, oI_eq, zac_zI, Option.bind_some, e3, f3, if_neg c1, p1, a1, h1, n1, n2, z1, z2, nI_1, Int32.add_zero, i2, mr]
    clear hx hy ht hs hT hN
    by_cases k : r (29 + (8 * i + w)) < ndc T (dN T r) i w (T 0 3) 0
    · rw [if_pos k, if_neg (by omega), nI_sb (by omega), nI_add, i1, Nat.add_assoc, ← nI_add (ndc T (dN T r) i w (T 0 3) 0 - r (29 + (8 * i + w))), Int32.add_assoc]
      exact ⟨rfl, rfl⟩
    · rw [if_neg k, if_pos (by omega), Int32.add_zero, i1, show ndc T (dN T r) i w (T 0 3) 0 - r (29 + (8 * i + w)) = 0 by omega, Nat.zero_add]
      exact ⟨rfl, rfl⟩
theorem r_more (hB : GB B tw s u) (hT : gT tw T I) (hN : gN s np c r I) : R2 (f_X8_more 1 x (zI B I)) (f_X9_more 144 x (zI B I)) := by
  have q1 := X_isWord (x := x) hB hT
  have q2 := Y_isWord (x := x) hB hT
  have b1 := hT.1.2.1
  have b2 := hT.1.2.2.1
  have b3 := hT.1.2.2.2.1
  rcases Bool.eq_false_or_eq_true (wd x (T 0 1)) with hw | hw
  · rw [hw, ite_t] at q1 q2
    obtain ⟨w, hw1, rfl⟩ := wd_t hw (by omega)
    have hw8 : w < 8 := by omega
    have bl := (hN.2.2.1.b (p := 0) (by omega) hw8).2.1
    have hml := mr_le (f := fun p => ndc T (dN T r) p w (T 0 3) 0) (g := fun p => r (29 + (8 * p + w))) (fun i => Nat.le_trans (ndc_le (T 0 3) 0) b3) (T 0 2) 0
    obtain ⟨g1, g2⟩ := more_lp hB hT hN hw8 (T 0 2) 0 zN 0 (- nI (r (13 + w))) (by omega) (by unfold zN; omega)
    rw [show nI 0 = (0 : Int32) from rfl] at g1 g2
    rw [Nat.zero_add] at g1
    obtain ⟨S, hS⟩ : ∃ S, S = mr (fun p => ndc T (dN T r) p w (T 0 3) 0) (fun p => r (29 + (8 * p + w))) (T 0 2) 0 := ⟨_, rfl⟩
    rw [← hS] at g1 g2 hml
    obtain ⟨-, -, -, -, -, l6, l7, -⟩ := hB.lt
    have a1 := aI_at (B := B) (by omega) (by rw [l7]; omega) (hN.1.le hw8)
    have a2 := aI_at (B := B) (by omega) (by rw [l6]; omega) (hN.2.1 (13 + w) (by omega))
    have p3 : (13 : Int32) + nI w = nI (13 + w) := nI_add 13 w
    have z1 := df_l (a := S) (b := r (13 + w)) (by omega) (by omega)
    have z2 := df_e (a := S) (b := r (13 + w)) (by omega) (by omega)
    have ng : - nI (r (13 + w)) + nI S = nI S - nI (r (13 + w)) := by rw [Int32.sub_eq_add_neg, Int32.add_comm]
    obtain ⟨hx, hy, ht, m1, -, hs, m3, -⟩ := hB
    simp only [f_X8_more, f_X9_more, nb1, nb144, hx, hy, hs, m3, cond_true, oR_eq, zac_zI, Option.bind_some, q1, q2, if_neg ne10, p3, a1, a2, g1, g2, ng, z1, z2]
    clear hx hy ht hs hT hN
    by_cases k : r (13 + w) < S
    · rw [if_pos k, if_neg (by omega)]
      exact ⟨_, rfl, rfl⟩
    · rw [if_neg k, if_pos (by omega)]
      exact ⟨_, rfl, rfl⟩
  · rw [hw, ite_f] at q1 q2
    obtain ⟨hx, hy, ht, m1, -, hs, m3, -⟩ := hB
    simp only [f_X8_more, f_X9_more, nb1, nb144, hx, hy, cond_true, zac_zI, Option.bind_some, q1, q2, if_pos]
    exact ⟨_, rfl, rfl⟩
theorem share_lp (hB : GB B tw s u) (hT : gT tw T I) (hN : gN s np c r I) (hw : w < 8) (hp : p < 5) : ∀ m i n q, i + m = T 0 2 → m < n → L_X8_share_80 n 1 (nI p) (nI w) x y (nI (ndc T (dN T r) p w (T 0 3) 0)) (nI q) (nI i) (zI B I) = some (nI (q + shr (fun p => ndc T (dN T r) p w (T 0 3) 0) p m i)) ∧ L_X9_share_24 n 144 (nI p) (nI w) (nI q) (nI i) (zI B I) = some (nI (q + shr (fun p => ndc T (dN T r) p w (T 0 3) 0) p m i)) := by
  have b2 := hT.1.2.2.1
  have e3 := hT.2.2.1.1.2.2.2.1
  have f3 := hT.2.2.2.1.2.2.1
  have b3 := hT.1.2.2.2.1
  have m2 := Y_nd hB hT hN hp hw
  have k2 := ndc_le (T := T) (d := dN T r) (p := p) (w := w) (T 0 3) 0
  intro m
  induction m with
  | zero =>
    intro i n q hi hn
    obtain ⟨n, rfl⟩ := Nat.exists_eq_succ_of_ne_zero (show n ≠ 0 by omega)
    have c1 : nI (T 0 2) ≤ nI i := (nI_leI (by omega) (by omega)).mpr (by omega)
    obtain ⟨hx, hy, ht, m1, -, hs, m3, -⟩ := hB
    simp only [L_X8_share_80, L_X9_share_24, hx, hy, m1, ht, cond_true, oR_eq, oI_eq, Option.bind_some, e3, f3, if_pos c1, shr, Nat.add_zero]
    exact ⟨trivial, trivial⟩
  | succ m ih =>
    intro i n q hi hn
    obtain ⟨n, rfl⟩ := Nat.exists_eq_succ_of_ne_zero (show n ≠ 0 by omega)
    have c1 : ¬ nI (T 0 2) ≤ nI i := fun q => absurd ((nI_leI (by omega) (by omega)).mp q) (by omega)
    have hp2 : i < 5 := by omega
    have i1 := fun q => (ih (i + 1) n q (by omega) (by omega)).1
    have i2 := fun q => (ih (i + 1) n q (by omega) (by omega)).2
    have n1 := X_nd hB hT hN hp2 hw
    have n2 := Y_nd hB hT hN hp2 hw
    have k1 := ndc_le (T := T) (d := dN T r) (p := i) (w := w) (T 0 3) 0
    have z1 : nI (ndc T (dN T r) p w (T 0 3) 0) < nI (ndc T (dN T r) i w (T 0 3) 0) ↔ ndc T (dN T r) p w (T 0 3) 0 < ndc T (dN T r) i w (T 0 3) 0 := nI_ltI (by omega) (by omega)
    have z2 : nI (ndc T (dN T r) i w (T 0 3) 0) = nI (ndc T (dN T r) p w (T 0 3) 0) ↔ ndc T (dN T r) i w (T 0 3) 0 = ndc T (dN T r) p w (T 0 3) 0 := nI_eq (by omega) (by omega)
    have z3 : nI p ≤ nI i ↔ p ≤ i := nI_leI (by omega) (by omega)
    obtain ⟨hx, hy, ht, m1, -, hs, m3, -⟩ := hB
    simp only [L_X8_share_80, L_X9_share_24, hx, hy, m1, m3, hs, ht, cond_true, oR_eq, oI_eq, zac_zI, Option.bind_some, e3, f3, if_neg c1, m2, n1, n2, z1, z2, z3, nI_1, Int32.add_zero, i1, i2, shr]
    clear hx hy ht hs hT hN
    by_cases k : ndc T (dN T r) p w (T 0 3) 0 < ndc T (dN T r) i w (T 0 3) 0
    · rw [if_pos k, if_pos (Or.inl k), Nat.add_assoc]
      exact ⟨rfl, rfl⟩
    · rw [if_neg k]
      by_cases k3 : ndc T (dN T r) i w (T 0 3) 0 = ndc T (dN T r) p w (T 0 3) 0
      · rw [if_pos k3]
        by_cases k4 : p ≤ i
        · rw [if_pos k4, if_neg (by omega), Nat.zero_add]
          exact ⟨rfl, rfl⟩
        · rw [if_neg k4, if_pos (by omega), Nat.add_assoc]
          exact ⟨rfl, rfl⟩
      · rw [if_neg k3, if_neg (by omega), Nat.zero_add]
        exact ⟨rfl, rfl⟩
theorem r_share (hB : GB B tw s u) (hT : gT tw T I) (hN : gN s np c r I) : R2 (f_X8_share 1 x y (zI B I)) (f_X9_share 144 x y (zI B I)) := by
  have q1 := X_isPerson (x := x) hB hT
  have q2 := Y_isPerson (x := x) hB hT
  have q3 := X_isWord (x := y) hB hT
  have q4 := Y_isWord (x := y) hB hT
  have b1 := hT.1.2.1
  have b2 := hT.1.2.2.1
  have b3 := hT.1.2.2.2.1
  rcases Bool.eq_false_or_eq_true (wd x (T 0 2)) with hw | hw
  · rw [hw, ite_t] at q1 q2
    obtain ⟨p, hp1, rfl⟩ := wd_t hw (by omega)
    rcases Bool.eq_false_or_eq_true (wd y (T 0 1)) with hw' | hw'
    · rw [hw', ite_t] at q3 q4
      obtain ⟨w, hw1, rfl⟩ := wd_t hw' (by omega)
      have hw8 : w < 8 := by omega
      have hp5 : p < 5 := by omega
      have bl := (hN.2.2.1.b (p := 0) (by omega) hw8).2.1
      have hml := shr_le (f := fun p => ndc T (dN T r) p w (T 0 3) 0) (p := p) (T 0 2) 0
      obtain ⟨g1, g2⟩ := share_lp (x := nI (r (13 + w) / T 0 2)) (y := nI (r (13 + w) % T 0 2)) hB hT hN hw8 hp5 (T 0 2) 0 zN 0 (by omega) (by unfold zN; omega)
      rw [show nI 0 = (0 : Int32) from rfl, Nat.zero_add] at g1 g2
      obtain ⟨-, -, -, -, -, l6, l7, -⟩ := hB.lt
      have a1 := aI_at (B := B) (by omega) (by rw [l7]; omega) (hN.1.le hw8)
      have a2 := aI_at (B := B) (by omega) (by rw [l6]; omega) (hN.2.1 (13 + w) (by omega))
      have p3 : (13 : Int32) + nI w = nI (13 + w) := nI_add 13 w
      have d1 := dv_nI (a := r (13 + w)) (b := T 0 2) (by omega) (by omega) (by omega)
      have d2 := rm_nI (a := r (13 + w)) (b := T 0 2) (by omega) (by omega) (by omega)
      have e3 := hT.2.2.1.1.2.2.2.1
      have f3 := hT.2.2.2.1.2.2.1
      have z0 : ¬ nI (T 0 2) = 0 := fun q => absurd ((nI_z (by omega)).mp q) (by omega)
      have n1 := X_nd hB hT hN hp5 hw8
      obtain ⟨hx, hy, ht, m1, -, hs, m3, -⟩ := hB
      simp only [f_X8_share, f_X9_share, nb1, nb144, hx, hy, ht, hs, m1, m3, cond_true, oR_eq, oI_eq, zac_zI, Option.bind_some, q1, q2, q3, q4, if_neg ne10, e3, f3, if_neg z0, p3, a1, a2, d1, d2, n1, g1, g2, Int32.add_zero]
      exact R_if (fun _ => ⟨_, rfl, rfl⟩) (fun _ => ⟨_, rfl, rfl⟩)
    · rw [hw', ite_f] at q3 q4
      obtain ⟨hx, hy, ht, m1, -, hs, m3, -⟩ := hB
      simp only [f_X8_share, f_X9_share, nb1, nb144, hx, hy, cond_true, zac_zI, Option.bind_some, q1, q2, q3, q4, if_neg ne10, if_pos]
      exact ⟨_, rfl, rfl⟩
  · rw [hw, ite_f] at q1 q2
    obtain ⟨hx, hy, ht, m1, -, hs, m3, -⟩ := hB
    simp only [f_X8_share, f_X9_share, nb1, nb144, hx, hy, cond_true, zac_zI, Option.bind_some, q1, q2, if_pos]
    exact ⟨_, rfl, rfl⟩
end RM
