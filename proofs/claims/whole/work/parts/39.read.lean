/-! sells -/
def sB (T : Nat → Nat → Nat) (r : Nat → Nat) (p p2 w : Nat) : Bool := decide (r (13 + w) = 0 ∧ 0 < r (29 + (8 * p + w)) ∧ ndc T (dN T r) p w (T 0 3) 0 = 0 ∧ r (29 + (8 * p2 + w)) = 0 ∧ 0 < ndc T (dN T r) p2 w (T 0 3) 0)
theorem nI_l0 {v : Nat} (h : v < 2147483648) : nI v ≤ 0 ↔ v = 0 := by
  have := nI_leI (b := 0) h (by omega)
  rw [show nI 0 = (0 : Int32) from rfl] at this
  rw [this]
  omega
theorem nI_g0 {v : Nat} (h : v < 2147483648) : 0 < nI v ↔ 0 < v := nI_ltI (a := 0) (by omega) h
/-- the k-th of the pairs, or how many -/
def sl2 (b : Nat → Nat → Bool) (k : Int32) (p : Nat) : Nat → Nat → Nat → Int32 ⊕ Int32
  | 0, _, q => .inr (nI q)
  | m + 1, i, q => if b p i then if nI q = k then .inl (nI (10 * p + i)) else sl2 b k p m (i + 1) (q + 1) else sl2 b k p m (i + 1) q
theorem sl2_r {b : Nat → Nat → Bool} {k : Int32} {p : Nat} : ∀ m i q v, sl2 b k p m i q = .inr v → ∃ q', q' ≤ q + m ∧ v = nI q' := by
  intro m
  induction m with
  | zero => intro i q v h; simp only [sl2, Sum.inr.injEq] at h; exact ⟨q, by omega, h.symm⟩
  | succ m ih =>
    intro i q v h
    simp only [sl2] at h
    split at h
    · split at h
      · exact absurd h (by simp)
      · obtain ⟨q', h1, h2⟩ := ih _ _ _ h
        exact ⟨q', by omega, h2⟩
    · obtain ⟨q', h1, h2⟩ := ih _ _ _ h
      exact ⟨q', by omega, h2⟩
section RM
variable {B : zM} {tw s u c np w p p2 n : Nat} {T : Nat → Nat → Nat} {r : Nat → Nat} {I : Nat → Nat → Int32} {x y : Int32}
theorem X_wouldSell (hB : GB B tw s u) (hT : gT tw T I) (hN : gN s np c r I) (hp : p < 5) (hp2 : p2 < 5) (hw : w < 8) : f_X8_wouldSell 1 (nI p) (nI p2) (nI w) (zI B I) = some (if sB T r p p2 w then 1 else 0) := by
  have n1 := X_nd hB hT hN hp hw
  have n2 := X_nd hB hT hN hp2 hw
  have k1 := ndc_le (T := T) (d := dN T r) (p := p) (w := w) (T 0 3) 0
  have k2 := ndc_le (T := T) (d := dN T r) (p := p2) (w := w) (T 0 3) 0
  have b3 := hT.1.2.2.2.1
  have b1 := hN.2.2.1.b hp hw
  have b2 := hN.2.2.1.b hp2 hw
  obtain ⟨-, -, -, -, -, -, l2, -⟩ := hB.lt
  have a1 := aI_at (B := B) (by omega) (by rw [l2]; omega) (hN.1.le hw)
  have z1 := nI_z (v := r (13 + w)) (by omega)
  have z2 := nI_l0 (v := r (29 + (8 * p + w))) (by omega)
  have z3 := nI_z (v := ndc T (dN T r) p w (T 0 3) 0) (by omega)
  have z4 := nI_z (v := r (29 + (8 * p2 + w))) (by omega)
  have z5 := nI_l0 (v := ndc T (dN T r) p2 w (T 0 3) 0) (by omega)
  obtain ⟨hx, hy, ht, m1, -, hs, m3, -⟩ := hB
  have h1 := X_hoardedBy hs hN.1 hp hw
  have h2 := X_hoardedBy hs hN.1 hp2 hw
  simp only [f_X8_wouldSell, nb1, hx, hs, m3, cond_true, oR_eq, zac_zI, Option.bind_some, a1, h1, h2, n1, n2, z1, z2, z3, z4, z5, sB, decide_eq_true_eq]
  clear hx hy ht hs hT hN b1 b2
  repeat' split
  all_goals first | rfl | (exfalso; omega)
theorem Y_doSell (hB : GB B tw s u) (hT : gT tw T I) (hN : gN s np c r I) (hp : p < 5) (hp2 : p2 < 5) (hw : w < 8) : f_X9_doSell 144 (nI p) (nI p2) (nI w) (zI B I) = some (if sB T r p p2 w then 1 else 0) := by
  have n1 := Y_nd hB hT hN hp hw
  have n2 := Y_nd hB hT hN hp2 hw
  have k1 := ndc_le (T := T) (d := dN T r) (p := p) (w := w) (T 0 3) 0
  have k2 := ndc_le (T := T) (d := dN T r) (p := p2) (w := w) (T 0 3) 0
  have b3 := hT.1.2.2.2.1
  have b1 := hN.2.2.1.b hp hw
  have b2 := hN.2.2.1.b hp2 hw
  obtain ⟨-, -, -, -, -, l2, -⟩ := hB.lt
  have a1 := aI_at (B := B) (by omega) (by rw [l2]; omega) (hN.2.1 (13 + w) (by omega))
  have a2 := aI_at (B := B) (by omega) (by rw [l2]; omega) (hN.2.1 (29 + (8 * p + w)) (by omega))
  have a3 := aI_at (B := B) (by omega) (by rw [l2]; omega) (hN.2.1 (29 + (8 * p2 + w)) (by omega))
  have p0 : (13 : Int32) + nI w = nI (13 + w) := nI_add 13 w
  have p1 : (29 : Int32) + 8 * nI p + nI w = nI (29 + (8 * p + w)) := by rw [nl29, nl8, pk_mul, nI_add, nI_add, Nat.add_assoc]
  have p3 : (29 : Int32) + 8 * nI p2 + nI w = nI (29 + (8 * p2 + w)) := by rw [nl29, nl8, pk_mul, nI_add, nI_add, Nat.add_assoc]
  have z0 : nI p = nI p2 ↔ p = p2 := nI_eq (by omega) (by omega)
  have z1 := nI_z (v := r (13 + w)) (by omega)
  have z2 := nI_l0 (v := r (29 + (8 * p + w))) (by omega)
  have z3 := nI_z (v := ndc T (dN T r) p w (T 0 3) 0) (by omega)
  have z4 := nI_z (v := r (29 + (8 * p2 + w))) (by omega)
  have z5 := nI_l0 (v := ndc T (dN T r) p2 w (T 0 3) 0) (by omega)
  have zz : p = p2 → r (29 + (8 * p + w)) = r (29 + (8 * p2 + w)) := fun q => by rw [q]
  obtain ⟨hx, hy, ht, m1, -, hs, m3, -⟩ := hB
  simp only [f_X9_doSell, nb144, hy, cond_true, oR_eq, zac_zI, Option.bind_some, p0, p1, p3, a1, a2, a3, n1, n2, z0, z1, z2, z3, z4, z5, sB, decide_eq_true_eq]
  clear hx hy ht hs hT hN b1 b2
  by_cases e : p = p2
  · have := zz e
    rw [if_pos e, if_neg (by omega)]
  · rw [if_neg e]
    repeat' split
    all_goals first | rfl | (exfalso; omega)
theorem sells_in (hB : GB B tw s u) (hT : gT tw T I) (hN : gN s np c r I) (hw : w < 8) (hp : p < 5) : ∀ m i n q, i + m = T 0 2 → m < n → L_X8_sells_31 n 1 (nI w) y (nI q) (nI p) (nI i) (zI B I) = some (sl2 (fun p p2 => sB T r p p2 w) y p m i q) ∧ L_X9_sells_28 n 144 (nI w) y (nI q) (nI p) (nI i) (zI B I) = some (sl2 (fun p p2 => sB T r p p2 w) y p m i q) := by
  have b2 := hT.1.2.2.1
  have e3 := hT.2.2.1.1.2.2.2.1
  have f3 := hT.2.2.2.1.2.2.1
  intro m
  induction m with
  | zero =>
    intro i n q hi hn
    obtain ⟨n, rfl⟩ := Nat.exists_eq_succ_of_ne_zero (show n ≠ 0 by omega)
    have c1 : nI (T 0 2) ≤ nI i := (nI_leI (by omega) (by omega)).mpr (by omega)
    obtain ⟨hx, hy, ht, m1, -, hs, m3, -⟩ := hB
    simp only [L_X8_sells_31, L_X9_sells_28, hx, hy, m1, ht, cond_true, oR_eq, oI_eq, Option.bind_some, e3, f3, if_pos c1]
    exact ⟨rfl, rfl⟩
  | succ m ih =>
    intro i n q hi hn
    obtain ⟨n, rfl⟩ := Nat.exists_eq_succ_of_ne_zero (show n ≠ 0 by omega)
    have c1 : ¬ nI (T 0 2) ≤ nI i := fun q => absurd ((nI_leI (by omega) (by omega)).mp q) (by omega)
    have i1 := fun q => (ih (i + 1) n q (by omega) (by omega)).1
    have i2 := fun q => (ih (i + 1) n q (by omega) (by omega)).2
    have g1 := X_wouldSell hB hT hN hp (show i < 5 by omega) hw
    have g2 := Y_doSell hB hT hN hp (show i < 5 by omega) hw
    have p1 : (10 : Int32) * nI p + nI i = nI (10 * p + i) := by rw [nl10, pk_mul, nI_add]
    obtain ⟨hx, hy, ht, m1, -, hs, m3, -⟩ := hB
    rcases Bool.eq_false_or_eq_true (sB T r p i w) with hb | hb
    · rw [hb, ite_t] at g1 g2
      simp only [L_X8_sells_31, L_X9_sells_28, hx, hy, m1, ht, cond_true, oR_eq, oI_eq, zac_zI, Option.bind_some, e3, f3, if_neg c1, g1, g2, if_neg ne10, nI_1, i1, i2, p1, sl2, hb, if_true]
      by_cases d : nI q = y
      · simp only [if_pos d]; exact ⟨trivial, trivial⟩
      · simp only [if_neg d]; exact ⟨trivial, trivial⟩
    · rw [hb, ite_f] at g1 g2
      simp only [L_X8_sells_31, L_X9_sells_28, hx, hy, m1, ht, cond_true, oR_eq, oI_eq, zac_zI, Option.bind_some, e3, f3, if_neg c1, g1, g2, if_pos, nI_1, i1, i2, p1, sl2, hb, Bool.false_eq_true, if_false]
      exact ⟨trivial, trivial⟩
def sl1 (b : Nat → Nat → Bool) (k : Int32) (M : Nat) (st : Nat → Nat) (ln : Nat → Nat) : Nat → Nat → Int32 → Int32 ⊕ Int32
  | 0, _, q => .inr q
  | m + 1, i, q => match sl2 b k i (ln i) (st i) q.toInt.toNat with
    | .inl v => .inl v
    | .inr v => sl1 b k M st ln m (i + 1) v
theorem sells_out (hB : GB B tw s u) (hT : gT tw T I) (hN : gN s np c r I) (hw : w < 8) : ∀ m i n q, i + m = T 0 2 → m < n → q ≤ 8 * i → L_X8_sells_16 n 1 (nI w) y (nI q) (nI i) (zI B I) = some (sl1 (fun p p2 => sB T r p p2 w) y 0 (fun _ => 0) (fun _ => T 0 2) m i (nI q)) ∧ L_X9_sells_16 n 144 (nI w) y (nI q) (nI i) (zI B I) = some (sl1 (fun p p2 => sB T r p p2 w) y 0 (fun _ => 0) (fun _ => T 0 2) m i (nI q)) := by
  have b2 := hT.1.2.2.1
  have e3 := hT.2.2.1.1.2.2.2.1
  have f3 := hT.2.2.2.1.2.2.1
  intro m
  induction m with
  | zero =>
    intro i n q hi hn hq
    obtain ⟨n, rfl⟩ := Nat.exists_eq_succ_of_ne_zero (show n ≠ 0 by omega)
    have c1 : nI (T 0 2) ≤ nI i := (nI_leI (by omega) (by omega)).mpr (by omega)
    obtain ⟨hx, hy, ht, m1, -, hs, m3, -⟩ := hB
    simp only [L_X8_sells_16, L_X9_sells_16, hx, hy, m1, ht, cond_true, oR_eq, oI_eq, Option.bind_some, e3, f3, if_pos c1]
    exact ⟨rfl, rfl⟩
  | succ m ih =>
    intro i n q hi hn hq
    obtain ⟨n, rfl⟩ := Nat.exists_eq_succ_of_ne_zero (show n ≠ 0 by omega)
    have c1 : ¬ nI (T 0 2) ≤ nI i := fun q => absurd ((nI_leI (by omega) (by omega)).mp q) (by omega)
    obtain ⟨g1, g2⟩ := sells_in (y := y) hB hT hN hw (show i < 5 by omega) (T 0 2) 0 zN q (by omega) (by unfold zN; omega)
    rw [show nI 0 = (0 : Int32) from rfl] at g1 g2
    have ee : (nI q).toInt.toNat = q := by rw [nI_toInt (by omega)]; omega
    have i1 := fun q h => (ih (i + 1) n q (by omega) (by omega) h).1
    have i2 := fun q h => (ih (i + 1) n q (by omega) (by omega) h).2
    have hl := sl2_r (b := fun p p2 => sB T r p p2 w) (k := y) (p := i) (T 0 2) 0 q
    obtain ⟨hx, hy, ht, m1, -, hs, m3, -⟩ := hB
    simp only [L_X8_sells_16, L_X9_sells_16, hx, hy, m1, ht, cond_true, oR_eq, oI_eq, zac_zI, Option.bind_some, e3, f3, if_neg c1, g1, g2, nI_1, sl1, ee]
    clear hx hy ht hs hT hN
    cases hc : sl2 (fun p p2 => sB T r p p2 w) y i (T 0 2) 0 q with
    | inl v => exact ⟨rfl, rfl⟩
    | inr v =>
      obtain ⟨q', h1, rfl⟩ := hl v hc
      simp only [bs_inr]
      exact ⟨i1 q' (by omega), i2 q' (by omega)⟩
theorem r_sells (hB : GB B tw s u) (hT : gT tw T I) (hN : gN s np c r I) : R2 (f_X8_sells 1 x y (zI B I)) (f_X9_sells 144 x y (zI B I)) := by
  have q1 := X_isWord (x := x) hB hT
  have q2 := Y_isWord (x := x) hB hT
  have b1 := hT.1.2.1
  have b2 := hT.1.2.2.1
  rcases Bool.eq_false_or_eq_true (wd x (T 0 1)) with hw | hw
  · rw [hw, ite_t] at q1 q2
    obtain ⟨w, hw1, rfl⟩ := wd_t hw (by omega)
    obtain ⟨g1, g2⟩ := sells_out (y := y) hB hT hN (show w < 8 by omega) (T 0 2) 0 zN 0 (by omega) (by unfold zN; omega) (by omega)
    rw [show nI 0 = (0 : Int32) from rfl] at g1 g2
    obtain ⟨hx, hy, ht, m1, -, hs, m3, -⟩ := hB
    simp only [f_X8_sells, f_X9_sells, nb1, nb144, hx, hy, cond_true, zac_zI, Option.bind_some, q1, q2, if_neg ne10, g1, g2]
    cases sl1 (fun p p2 => sB T r p p2 w) y 0 (fun _ => 0) (fun _ => T 0 2) (T 0 2) 0 0 with
    | inl v => exact ⟨v, rfl, rfl⟩
    | inr v =>
      simp only [bs_inr]
      exact R_if (fun _ => ⟨_, rfl, rfl⟩) (fun _ => ⟨_, rfl, rfl⟩)
  · rw [hw, ite_f] at q1 q2
    obtain ⟨hx, hy, ht, m1, -, hs, m3, -⟩ := hB
    simp only [f_X8_sells, f_X9_sells, nb1, nb144, hx, hy, cond_true, zac_zI, Option.bind_some, q1, q2, if_pos]
    exact ⟨_, rfl, rfl⟩
end RM
