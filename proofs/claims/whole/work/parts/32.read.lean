/-! fault, told, word, hoarded, need -/
def dN (T : Nat → Nat → Nat) (r : Nat → Nat) : Nat := if T 0 0 = 0 then 0 else r 0 % T 0 0
def nvr (r : Nat → Nat) : Nat → Nat → Int32 → Int32
  | 0, _, a => a
  | m + 1, i, a => if r (21 + i) = 0 then nvr r m (i + 1) (a ||| (1 <<< (nI i &&& 31))) else nvr r m (i + 1) a
def hsum (r : Nat → Nat) (w : Nat) : Nat → Nat → Nat
  | 0, _ => 0
  | m + 1, p => r (29 + (8 * p + w)) + hsum r w m (p + 1)
theorem hsum_add (r : Nat → Nat) (w : Nat) : ∀ a b p, hsum r w (a + b) p = hsum r w a p + hsum r w b (p + a) := by
  intro a
  induction a with
  | zero => intro b p; rw [Nat.zero_add, Nat.add_zero]; simp [hsum]
  | succ a ih =>
    intro b p
    rw [Nat.succ_add_eq_add_succ a b, Nat.add_succ]
    simp only [hsum]
    rw [ih, show p + 1 + a = p + (a + 1) by omega, Nat.add_assoc]
theorem hsum_0 {r : Nat → Nat} {w : Nat} : ∀ m p, (∀ q, p ≤ q → q < p + m → r (29 + (8 * q + w)) = 0) → hsum r w m p = 0 := by
  intro m
  induction m with
  | zero => intro p _; rfl
  | succ m ih =>
    intro p h
    simp only [hsum]
    rw [h p (by omega) (by omega), ih (p + 1) (fun q h1 h2 => h q (by omega) (by omega))]
theorem hsum_H {r : Nat → Nat} {w np : Nat} (h : rH np r) (hn : np ≤ 5) (hw : w < 8) : hsum r w 5 0 = hsum r w np 0 := by
  have e := hsum_add r w np (5 - np) 0
  rw [Nat.add_sub_cancel' hn] at e
  rw [e, hsum_0 (5 - np) (0 + np) (fun q h1 h2 => h q w (by omega) (by omega) hw), Nat.add_zero]
theorem hsum_le {r : Nat → Nat} {w : Nat} (hr : rI r) (hw : w < 8) : ∀ m p, p + m ≤ 5 → hsum r w m p ≤ 99 * m := by
  intro m
  induction m with
  | zero => intro p _; exact Nat.le_refl _
  | succ m ih =>
    intro p h
    simp only [hsum]
    have := (hr.b (p := p) (by omega) hw).1
    have := ih (p + 1) (by omega)
    omega
theorem rm_nI {a b : Nat} (ha : a < 2147483648) (hb : b < 2147483648) (h0 : 0 < b) : rm (nI a) (nI b) = some (nI (a % b)) := by
  have c2 : ¬ nI b = 0 := by rw [nl0]; exact fun q => absurd ((nI_eq (by omega) (by omega)).mp q) (by omega)
  unfold rm
  rw [if_neg c2, pk_rem (by omega) (by omega) (by omega)]
theorem nI_z {v : Nat} (h : v < 2147483648) : nI v = 0 ↔ v = 0 := by rw [nl0]; exact nI_eq h (by omega)
section RE
variable {B : zM} {tw s u c np w p n tl kn en pa pn a : Nat} {T : Nat → Nat → Nat} {r X kw kd kb ew el : Nat → Nat} {P : Nat → Nat → Nat} {I : Nat → Nat → Int32} {x y z : Int32}
theorem X_today (hB : GB B tw s u) (hT : gT tw T I) (hN : gN s np c r I) : f_X8_today 1 (zI B I) = some (nI (dN T r)) := by
  obtain ⟨hx, hy, ht, m1, htw, hs, m3, -⟩ := hB
  have e := hN.1.sc (j := 0) (by omega)
  have b := hN.2.2.2.1
  simp only [f_X8_today, nb1, hx, m1, ht, m3, hs, cond_true, oR_eq, oI_eq, zac_zI, Option.bind_some, e]
  by_cases h0 : T 0 0 = 0
  · rw [X_dayOfYear0 ht hT.2.2.1 h0, dN, if_pos h0]; rfl
  · rcases X_dayOfYear ht hT.2.2.1 hT.1 (g := r 0) (by omega) with q | q
    · rw [q, dN, if_neg h0]; rfl
    · exact absurd q h0
theorem Y_dayNow (hB : GB B tw s u) (hT : gT tw T I) (hN : gN s np c r I) : f_X9_dayNow 144 (zI B I) = some (nI (dN T r)) := by
  have hy := hB.2.1
  have e := hN.2.1 0 (by omega)
  have b := hN.2.2.2.1
  have e2 := hT.2.2.2.1.1
  have b2 := hT.1.1
  simp (disch := omega) only [f_X9_dayNow, nb144, hy, cond_true, oI_eq, oR_eq, Option.bind_some, e2, nl0, aI_eq, if_pos, e]
  by_cases h0 : T 0 0 = 0
  · rw [if_pos (by rw [h0]), dN, if_pos h0]
  · rw [if_neg (fun q => h0 ((nI_eq (by omega) (by omega)).mp q)), dN, if_neg h0, rm_nI (by omega) (by omega) (by omega)]
    rfl
theorem X_nv_lp (hx : isX B) (ht : isTw B tw) (m1 : mR B 1 1 = tw) (hs : isSt B s) (m3 : mR B 1 3 = s) (e1 : I tw 1 = nI (T 0 1)) (b : T 0 1 ≤ 8) (h : XS s r I) (hr : rI r) : ∀ m i n x, i + m = T 0 1 → m < n → L_X8_neverSaid_4 n 1 x (nI i) (zI B I) = some (nvr r m i x) := by
  intro m
  induction m with
  | zero =>
    intro i n x hi hn
    obtain ⟨n, rfl⟩ := Nat.exists_eq_succ_of_ne_zero (show n ≠ 0 by omega)
    simp only [L_X8_neverSaid_4, hx, m1, ht, cond_true, oR_eq, oI_eq, Option.bind_some, e1]
    rw [if_pos ((nI_leI (by omega) (by omega)).mpr (by omega))]
    rfl
  | succ m ih =>
    intro i n x hi hn
    obtain ⟨n, rfl⟩ := Nat.exists_eq_succ_of_ne_zero (show n ≠ 0 by omega)
    have e := h.sa (w := i) (by omega)
    have b2 := hr.2.1 i (by omega)
    simp (disch := omega) only [L_X8_neverSaid_4, hx, m1, m3, hs, ht, cond_true, oR_eq, oI_eq, Option.bind_some, e1, aI_eq, if_pos, e]
    rw [if_neg (fun q => absurd ((nI_leI (by omega) (by omega)).mp q) (by omega)), nI_1, ih (i + 1) n _ (by omega) (by omega), ih (i + 1) n _ (by omega) (by omega)]
    simp only [nvr]
    by_cases c : r (21 + i) = 0
    · rw [if_pos c, if_pos (by rw [c]; rfl)]
    · rw [if_neg c, if_neg (fun q => c ((nI_z (by omega)).mp q))]
theorem Y_nv_lp (hy : isY B) (e1 : I 144 6 = nI (T 0 1)) (b : T 0 1 ≤ 8) (h : YS 145 r I) (hr : rI r) : ∀ m i n x, i + m = T 0 1 → m < n → L_X9_told_4 n 144 y x (nI i) (zI B I) = some (nvr r m i x) := by
  intro m
  induction m with
  | zero =>
    intro i n x hi hn
    obtain ⟨n, rfl⟩ := Nat.exists_eq_succ_of_ne_zero (show n ≠ 0 by omega)
    simp only [L_X9_told_4, hy, cond_true, oR_eq, oI_eq, Option.bind_some, e1]
    rw [if_pos ((nI_leI (by omega) (by omega)).mpr (by omega))]
    rfl
  | succ m ih =>
    intro i n x hi hn
    obtain ⟨n, rfl⟩ := Nat.exists_eq_succ_of_ne_zero (show n ≠ 0 by omega)
    have e := h (21 + i) (by omega)
    have b2 := hr.2.1 i (by omega)
    simp (disch := omega) only [L_X9_told_4, hy, cond_true, oR_eq, oI_eq, Option.bind_some, e1, nl21, nI_add, aI_eq, if_pos, e]
    rw [if_neg (fun q => absurd ((nI_leI (by omega) (by omega)).mp q) (by omega)), nI_1, Int32.or_zero, ih (i + 1) n _ (by omega) (by omega), ih (i + 1) n _ (by omega) (by omega)]
    simp only [nvr]
    by_cases c : r (21 + i) = 0
    · rw [if_pos c, if_pos (by rw [c]; rfl)]
    · rw [if_neg c, if_neg (fun q => c ((nI_z (by omega)).mp q))]
theorem nz_le (f : Nat → Nat) : ∀ m i, nz f m i ≤ m := by
  intro m
  induction m with
  | zero => intro i; exact Nat.le_refl _
  | succ m ih =>
    intro i
    simp only [nz]
    have := ih (i + 1)
    split <;> omega
theorem Y_nz_lp (hy : isY B) (e1 : ∀ k, k < 16 → I 150 k = nI (T 3 k)) (b : ∀ k, k < 16 → T 3 k < 256) : ∀ m i n q, i + m = 16 → m < n → L_X9_told_45 n 144 y x (nI q) (nI i) (zI B I) = some (nI (q + nz (T 3) m i)) := by
  intro m
  induction m with
  | zero =>
    intro i n q hi hn
    obtain ⟨n, rfl⟩ := Nat.exists_eq_succ_of_ne_zero (show n ≠ 0 by omega)
    simp only [L_X9_told_45]
    rw [if_pos (show (16 : Int32) ≤ nI i from (nI_leI (a := 16) (by omega) (by omega)).mpr (by omega))]
    rfl
  | succ m ih =>
    intro i n q hi hn
    obtain ⟨n, rfl⟩ := Nat.exists_eq_succ_of_ne_zero (show n ≠ 0 by omega)
    have e := e1 i (by omega)
    have b2 := b i (by omega)
    have c1 : ¬ (16 : Int32) ≤ nI i := fun q => absurd ((nI_leI (a := 16) (by omega) (by omega)).mp q) (by omega)
    simp (disch := omega) only [L_X9_told_45, if_neg c1, hy, cond_true, oR_eq, oI_eq, Option.bind_some, aI_eq, if_pos, e]
    rw [Int32.add_zero, nI_1, nI_1, ih (i + 1) n _ (by omega) (by omega), ih (i + 1) n _ (by omega) (by omega)]
    simp only [nz]
    by_cases c : T 3 i = 0
    · rw [if_pos c, if_pos (by rw [c]; rfl), Nat.zero_add]
    · rw [if_neg c, if_neg (fun q => c ((nI_z (by omega)).mp q)), Nat.add_assoc]
theorem r_told (hB : GB B tw s u) (hT : gT tw T I) (hN : gN s np c r I) (hP : gP np c pa pn P I) (hX : gX tl X I) (hK : gK T kn kw kd kb I) (hBk : gB T en ew el I) : R2 (f_X8_told 1 x (zI B I)) (f_X9_told 144 x (zI B I)) := by
  have q1 := X_today hB hT hN
  have q2 := Y_dayNow hB hT hN
  have b1 := hT.1.2.1
  have hT' := hT
  obtain ⟨hx, hy, ht, m1, htw, hs, m3, -⟩ := hB
  obtain ⟨-, ⟨-, hw⟩, ⟨⟨x0, x1, x2, x3, x4, -⟩, -⟩, ⟨y0, y1, y2, y3⟩, -, y5, -⟩ := hT
  have q3 := X_nv_lp hx ht m1 hs m3 x1 b1 hN.1 hN.2.2.1 (T 0 1) 0 zN 0 (by omega) (by unfold zN; omega)
  have q4 := Y_nv_lp (y := x) hy y1 b1 hN.2.1 hN.2.2.1 (T 0 1) 0 zN 0 (by omega) (by unfold zN; omega)
  have q5 := Y_nz_lp (y := x) (x := nvr r (T 0 1) 0 0) hy y5 hT'.1.2.2.2.2.2.2.2.1 16 0 zN 0 (by omega) (by unfold zN; omega)
  rw [Nat.zero_add, ← hw] at q5
  rw [show nI 0 = (0 : Int32) from rfl] at q3 q4 q5
  have a0 := hN.1.sc (j := 0) (by omega)
  have a1 := hN.1.sc (j := 1) (by omega)
  have a2 := hN.1.sc (j := 2) (by omega)
  have a3 := hN.1.sc (j := 3) (by omega)
  have a4 := hN.1.sc (j := 4) (by omega)
  have d0 := hN.2.1 0 (by omega)
  have d1 := hN.2.1 1 (by omega)
  have d2 := hN.2.1 2 (by omega)
  have d3 := hN.2.1 3 (by omega)
  have d4 := hN.2.1 4 (by omega)
  have g0 : aI (zI B I) 145 0 = some (nI (r 0)) := by rw [nl0, aI_eq (by omega), if_pos (by rw [show zlI B 145 = 69 by simp only [hy]]; omega), d0]
  have g1 : aI (zI B I) 145 1 = some (nI (r 1)) := by rw [nl1, aI_eq (by omega), if_pos (by rw [show zlI B 145 = 69 by simp only [hy]]; omega), d1]
  have g2 : aI (zI B I) 145 2 = some (nI (r 2)) := by rw [nl2, aI_eq (by omega), if_pos (by rw [show zlI B 145 = 69 by simp only [hy]]; omega), d2]
  have g3 : aI (zI B I) 145 3 = some (nI (r 3)) := by rw [nl3, aI_eq (by omega), if_pos (by rw [show zlI B 145 = 69 by simp only [hy]]; omega), d3]
  have g4 : aI (zI B I) 145 4 = some (nI (r 4)) := by rw [nl4, aI_eq (by omega), if_pos (by rw [show zlI B 145 = 69 by simp only [hy]]; omega), d4]
  simp only [f_X8_told, f_X8_neverSaid, f_X9_told, nb1, nb144, hx, hy, m1, m3, ht, hs, cond_true, oR_eq, oI_eq, Option.bind_some, zac_zI, q1, q2, q3, q4, q5, x0, x1, x2, x3, x4, y0, y1, y2, y3, a0, a1, a2, a3, a4, g0, g1, g2, g3, g4, hX.2.1, hX.2.2.1, hK.2.1, hK.2.2.1, hBk.2.1, hBk.2.2.1, hP.2.2.2.1, hP.2.2.2.2.1]
  iterate 16 refine R_if (fun _ => ⟨_, rfl, rfl⟩) (fun _ => ?_)
  exact ⟨_, rfl, rfl⟩
theorem r_fault (hB : GB B tw s u) (hX : gX tl X I) : R2 (f_X8_fault 1 (zI B I)) (f_X9_fault 144 (zI B I)) := by
  obtain ⟨hx, hy, -⟩ := hB
  have e := hX.2.2.2.2
  refine ⟨I 2 3, ?_, ?_⟩
  · simp only [f_X8_fault, nb1, hx, cond_true, oR_eq, oI_eq, Option.bind_some]
  · simp only [f_X9_fault, nb144, hy, cond_true, oR_eq, oI_eq, Option.bind_some, e]
end RE
