/-! the needs to come of a person and a word; more, share, sells -/
def ndc (T : Nat → Nat → Nat) (d p w : Nat) : Nat → Nat → Nat
  | 0, _ => 0
  | m + 1, i => (if T 6 (4 * i) = p then if T 6 (4 * i + 1) = w then if d ≤ T 6 (4 * i + 2) then 1 else 0 else 0 else 0) + ndc T d p w m (i + 1)
theorem ndc_le {T : Nat → Nat → Nat} {d p w : Nat} : ∀ m i, ndc T d p w m i ≤ m := by
  intro m
  induction m with
  | zero => intro i; exact Nat.le_refl _
  | succ m ih =>
    intro i
    have := ih (i + 1)
    simp only [ndc]
    split
    · split
      · split <;> omega
      · omega
    · omega
section RM
variable {B : zM} {tw s u c np w p p2 n : Nat} {T : Nat → Nat → Nat} {r : Nat → Nat} {I : Nat → Nat → Int32} {x y : Int32}
theorem GB.lt (h : GB B tw s u) : zlI B (tw + 5) = 8 ∧ zlI B (tw + 6) = 8 ∧ zlI B (tw + 3) = 8 ∧ zlI B (tw + 2) = 8 ∧ zlI B 153 = 32 ∧ zlI B 145 = 69 ∧ zlI B (s + 2) = 8 ∧ zlI B (s + 4) = 40 ∧ zlI B 149 = 8 := by
  obtain ⟨hx, hy, ht, m1, -, hs, m3, -⟩ := h
  simp only [hx, hy, ht, hs]
  exact ⟨trivial, trivial, trivial, trivial, trivial, trivial, trivial, trivial, trivial⟩
theorem X_toComeOf (hB : GB B tw s u) (hT : gT tw T I) (hN : gN s np c r I) (hn : n < T 0 3) (hw : w < 8) : f_X8_isToComeOf 1 (nI n) (nI w) (zI B I) = some (if T 6 (4 * n + 1) = w then if dN T r ≤ T 6 (4 * n + 2) then 1 else 0 else 0) := by
  have q5 := X_today hB hT hN
  have b3 := hT.1.2.2.2.1
  have b1 := (hT.1.2.2.2.2.2.2.2.2.1 n hn).2.1
  have b0 := hT.1.2.1
  obtain ⟨-, l6, -⟩ := hB.lt
  have u2 := aI_at (B := B) (by omega) (by rw [l6]; omega) (hT.2.2.1.2.2.2 n hn).2.1
  have cc : (nI (T 6 (4 * n + 1)) = nI w) ↔ T 6 (4 * n + 1) = w := nI_eq (by omega) (by omega)
  have hd := dN_lt (r := r) hT
  obtain ⟨hx, hy, ht, m1, -, hs, m3, -⟩ := hB
  have q6 := X_isToCome (d := dN T r) ht hT.2.2.1 hT.1 hn hd
  simp only [f_X8_isToComeOf, nb1, hx, m1, ht, cond_true, oR_eq, zac_zI, Option.bind_some, u2, q5, q6]
  by_cases c1 : T 6 (4 * n + 1) = w
  · rw [if_pos c1, if_pos (cc.mpr c1)]
    by_cases c2 : dN T r ≤ T 6 (4 * n + 2)
    · rw [if_pos c2, if_neg ne10]
    · rw [if_neg c2, if_pos rfl]
  · rw [if_neg c1, if_neg (fun q => c1 (cc.mp q))]
theorem Y_isOf (hB : GB B tw s u) (hT : gT tw T I) (hN : gN s np c r I) (hn : n < T 0 3) (hw : w < 8) : f_X9_isOf 144 (nI n) (nI w) (zI B I) = some (if T 6 (4 * n + 1) = w then if dN T r ≤ T 6 (4 * n + 2) then 1 else 0 else 0) := by
  have q6 := Y_isToCome hB hT hN hn
  have b3 := hT.1.2.2.2.1
  have b1 := (hT.1.2.2.2.2.2.2.2.2.1 n hn).2.1
  have b0 := hT.1.2.1
  obtain ⟨-, -, -, -, l7, -⟩ := hB.lt
  have u2 := aI_at (B := B) (by omega) (by rw [l7]; omega) (hT.2.2.2.2.2.2.2.2 n hn).2.1
  have cc : (nI (T 6 (4 * n + 1)) = nI w) ↔ T 6 (4 * n + 1) = w := nI_eq (by omega) (by omega)
  have p1 : (4 : Int32) * nI n + 1 = nI (4 * n + 1) := by rw [nl4, nl1, pk_mul, nI_add]
  obtain ⟨hx, hy, ht, m1, -, hs, m3, -⟩ := hB
  simp only [f_X9_isOf, f_X9_wordOf, nb144, hy, cond_true, oR_eq, zac_zI, Option.bind_some, p1, u2, q6]
  by_cases c1 : T 6 (4 * n + 1) = w
  · rw [if_pos c1, if_pos (cc.mpr c1)]
    by_cases c2 : dN T r ≤ T 6 (4 * n + 2)
    · rw [if_pos c2, if_neg ne10]
    · rw [if_neg c2, if_pos rfl]
  · rw [if_neg c1, if_neg (fun q => c1 (cc.mp q))]
theorem X_nd_lp (hB : GB B tw s u) (hT : gT tw T I) (hN : gN s np c r I) (hp : p < 5) (hw : w < 8) : ∀ m i n q, i + m = T 0 3 → m < n → L_X8_needsToCome_5 n 1 (nI p) (nI w) (nI q) (nI i) (zI B I) = some (nI (q + ndc T (dN T r) p w m i)) := by
  have b3 := hT.1.2.2.2.1
  have e4 := hT.2.2.1.1.2.2.2.2.1
  intro m
  induction m with
  | zero =>
    intro i n q hi hn
    obtain ⟨n, rfl⟩ := Nat.exists_eq_succ_of_ne_zero (show n ≠ 0 by omega)
    have c1 : nI (T 0 3) ≤ nI i := (nI_leI (by omega) (by omega)).mpr (by omega)
    obtain ⟨hx, hy, ht, m1, -, hs, m3, -⟩ := hB
    simp only [L_X8_needsToCome_5, hx, m1, ht, cond_true, oR_eq, oI_eq, Option.bind_some, e4, if_pos c1]
    rfl
  | succ m ih =>
    intro i n q hi hn
    obtain ⟨n, rfl⟩ := Nat.exists_eq_succ_of_ne_zero (show n ≠ 0 by omega)
    have c1 : ¬ nI (T 0 3) ≤ nI i := fun q => absurd ((nI_leI (by omega) (by omega)).mp q) (by omega)
    have hi' : i < T 0 3 := by omega
    have b1 := (hT.1.2.2.2.2.2.2.2.2.1 i hi').1
    have b2 := hT.1.2.2.1
    obtain ⟨l5, -⟩ := hB.lt
    have u2 := aI_at (B := B) (by omega) (by rw [l5]; omega) (hT.2.2.1.2.2.2 i hi').1
    have cc : (nI (T 6 (4 * i)) = nI p) ↔ T 6 (4 * i) = p := nI_eq (by omega) (by omega)
    have q6 := X_toComeOf hB hT hN hi' hw
    have i1 := fun q => ih (i + 1) n q (by omega) (by omega)
    obtain ⟨hx, hy, ht, m1, -, hs, m3, -⟩ := hB
    simp only [L_X8_needsToCome_5, hx, m1, ht, cond_true, oR_eq, oI_eq, zac_zI, Option.bind_some, e4, if_neg c1, u2, q6, nI_1, i1]
    simp only [ndc]
    by_cases d1 : T 6 (4 * i) = p
    · rw [if_pos d1, if_pos (cc.mpr d1)]
      by_cases d2 : T 6 (4 * i + 1) = w
      · rw [if_pos d2, if_pos d2]
        by_cases d3 : dN T r ≤ T 6 (4 * i + 2)
        · rw [if_pos d3, if_pos d3, if_neg ne10, Nat.add_assoc]
        · rw [if_neg d3, if_neg d3, if_pos rfl, Nat.zero_add]
      · rw [if_neg d2, if_neg d2, if_pos rfl, Nat.zero_add]
    · rw [if_neg d1, if_neg (fun q => d1 (cc.mp q)), Nat.zero_add]
theorem X_nd (hB : GB B tw s u) (hT : gT tw T I) (hN : gN s np c r I) (hp : p < 5) (hw : w < 8) : f_X8_needsToCome 1 (nI p) (nI w) (zI B I) = some (nI (ndc T (dN T r) p w (T 0 3) 0)) := by
  have b3 := hT.1.2.2.2.1
  have e := X_nd_lp hB hT hN hp hw (T 0 3) 0 zN 0 (by omega) (by unfold zN; omega)
  rw [show nI 0 = (0 : Int32) from rfl, Nat.zero_add] at e
  simp only [f_X8_needsToCome, nb1, cond_true, Option.bind_some, e]
theorem Y_nd_lp (hB : GB B tw s u) (hT : gT tw T I) (hN : gN s np c r I) (hp : p < 5) (hw : w < 8) : ∀ m i n q, i + m = T 0 3 → m < n → L_X9_needsOf_5 n 144 (nI p) (nI w) (nI q) (nI i) (zI B I) = some (nI (q + ndc T (dN T r) p w m i)) := by
  have b3 := hT.1.2.2.2.1
  have e4 := hT.2.2.2.1.2.2.2
  intro m
  induction m with
  | zero =>
    intro i n q hi hn
    obtain ⟨n, rfl⟩ := Nat.exists_eq_succ_of_ne_zero (show n ≠ 0 by omega)
    have c1 : nI (T 0 3) ≤ nI i := (nI_leI (by omega) (by omega)).mpr (by omega)
    obtain ⟨hx, hy, ht, m1, -, hs, m3, -⟩ := hB
    simp only [L_X9_needsOf_5, hy, cond_true, oR_eq, oI_eq, Option.bind_some, e4, if_pos c1]
    rfl
  | succ m ih =>
    intro i n q hi hn
    obtain ⟨n, rfl⟩ := Nat.exists_eq_succ_of_ne_zero (show n ≠ 0 by omega)
    have c1 : ¬ nI (T 0 3) ≤ nI i := fun q => absurd ((nI_leI (by omega) (by omega)).mp q) (by omega)
    have hi' : i < T 0 3 := by omega
    have b1 := (hT.1.2.2.2.2.2.2.2.2.1 i hi').1
    have b2 := hT.1.2.2.1
    obtain ⟨-, -, -, -, l7, -⟩ := hB.lt
    have u2 := aI_at (B := B) (by omega) (by rw [l7]; omega) (hT.2.2.2.2.2.2.2.2 i hi').1
    have cc : (nI (T 6 (4 * i)) = nI p) ↔ T 6 (4 * i) = p := nI_eq (by omega) (by omega)
    have q6 := Y_isOf hB hT hN hi' hw
    have i1 := fun q => ih (i + 1) n q (by omega) (by omega)
    have p1 : (4 : Int32) * nI i = nI (4 * i) := by rw [nl4, pk_mul]
    obtain ⟨hx, hy, ht, m1, -, hs, m3, -⟩ := hB
    simp only [L_X9_needsOf_5, f_X9_person, nb144, hy, cond_true, oR_eq, oI_eq, zac_zI, Option.bind_some, e4, if_neg c1, p1, u2, q6, Int32.add_zero, nI_1, i1]
    simp only [ndc]
    by_cases d2 : T 6 (4 * i + 1) = w
    · by_cases d3 : dN T r ≤ T 6 (4 * i + 2)
      · simp only [if_pos d2, if_pos d3, if_neg ne10]
        by_cases d1 : T 6 (4 * i) = p
        · rw [if_pos d1, if_pos (cc.mpr d1), Nat.add_assoc]
        · rw [if_neg d1, if_neg (fun q => d1 (cc.mp q)), Nat.zero_add]
      · simp only [if_pos d2, if_neg d3, if_pos]
        rw [ite_self, Nat.zero_add]
    · simp only [if_neg d2, if_pos]
      rw [ite_self, Nat.zero_add]
theorem Y_nd (hB : GB B tw s u) (hT : gT tw T I) (hN : gN s np c r I) (hp : p < 5) (hw : w < 8) : f_X9_needsOf 144 (nI p) (nI w) (zI B I) = some (nI (ndc T (dN T r) p w (T 0 3) 0)) := by
  have b3 := hT.1.2.2.2.1
  have e := Y_nd_lp hB hT hN hp hw (T 0 3) 0 zN 0 (by omega) (by unfold zN; omega)
  rw [show nI 0 = (0 : Int32) from rfl, Nat.zero_add] at e
  simp only [f_X9_needsOf, nb144, cond_true, Option.bind_some, e]
end RM
