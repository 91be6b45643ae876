/-! the text: the reference's letters, numbers, faults -/
def TYt (tl : Nat) (X : Nat → Nat) (I : Nat → Nat → Int32) : Prop := tl ≤ 240 ∧ True ∧ I 144 16 = nI tl ∧ ∀ j, j < tl → True ∧ I 154 j = nI (X j) ∧ X j ≤ 255
section TYT
variable {B : zM} {tw s u tl a lo n : Nat} {X : Nat → Nat} {I : Nat → Nat → Int32} {st : PSt} {hi : Int32}
theorem TYt.fr {I' : Nat → Nat → Int32} (h : TYt tl X I) (hf : ∀ i j, ((i = 2 ∧ j = 1) ∨ (i = 144 ∧ j = 16) ∨ i = 3 ∨ i = 154) → I' i j = I i j) : TYt tl X I' := ⟨h.1, trivial, by rw [hf 144 16 (by omega)]; exact h.2.2.1, fun j hj => by rw [hf 154 j (by omega)]; exact h.2.2.2 j hj⟩
theorem RS_n {I : Nat → Nat → Int32} : RS none a I ↔ I 144 18 = 0 ∧ I 144 19 = -1 ∧ I 144 17 = nI a := Iff.rfl
theorem Y_ln_lp (hB : GB B tw s u) : ∀ m a n I, a + m = tl → m < n → TYt tl X I → RS none a I → ∃ I', L_X9_letterNow_0 n 144 (zI B I) = some (zI B I') ∧ RS none (skp X m a) I' ∧ ∀ i j, ¬ (i = 144 ∧ j = 17) → I' i j = I i j := by
  obtain ⟨y1, -⟩ := hB.hy'
  obtain ⟨-, -, -, -, k3, k4⟩ := hB.tx
  intro m
  induction m with
  | zero =>
    intro a n I ha hn hT h
    obtain ⟨n, rfl⟩ := Nat.exists_eq_succ_of_ne_zero (show n ≠ 0 by omega)
    have := hT.1
    obtain ⟨h1, h2, h4⟩ := id h
    have c1 : nI tl ≤ nI a := (nI_leI (by omega) (by omega)).mpr (by omega)
    refine ⟨I, ?_, h, fun _ _ _ => rfl⟩
    simp only [L_X9_letterNow_0, y1, cond_true, oI_eq, Option.bind_some, h1, if_pos, h4, hT.2.2.1, if_pos c1]
  | succ m ih =>
    intro a n I ha hn hT h
    obtain ⟨n, rfl⟩ := Nat.exists_eq_succ_of_ne_zero (show n ≠ 0 by omega)
    have htl := hT.1
    obtain ⟨h1, h2, h4⟩ := id h
    have c1 : ¬ nI tl ≤ nI a := fun q => absurd ((nI_leI (by omega) (by omega)).mp q) (by omega)
    obtain ⟨-, t1, t2⟩ := hT.2.2.2 a (by omega)
    have a1 := aI_at (B := B) (I := I) (by omega) (by rw [k4]; omega) t1
    have z1 : nI (X a) = 32 ↔ X a = 32 := nI_eq (b := 32) (by omega) (by omega)
    by_cases hx : X a = 32
    · obtain ⟨J, hJ⟩ : ∃ J, J = cu I 144 17 (nI (a + 1)) := ⟨_, rfl⟩
      have o : ∀ i j, ¬ (i = 144 ∧ j = 17) → J i j = I i j := fun i j q => by rw [hJ, cu_o (by omega)]
      obtain ⟨I', g1, g2, g3⟩ := ih (a + 1) n J (by omega) (by omega) (hT.fr (fun i j q => o i j (by omega))) ⟨by rw [o 144 18 (by omega)]; exact h1, by rw [o 144 19 (by omega)]; exact h2, by rw [hJ, cu_s]⟩
      refine ⟨I', ?_, by rw [skp, if_pos hx]; exact g2, fun i j q => by rw [g3 i j q, o i j q]⟩
      simp only [L_X9_letterNow_0, y1, k3, cond_true, oI_eq, oR_eq, pI_cu, Option.bind_some, h1, if_pos, h4, hT.2.2.1, if_neg c1, a1, z1, if_pos hx, nI_1, ← hJ, g1]
    · refine ⟨I, ?_, by rw [skp, if_neg hx]; exact h, fun _ _ _ => rfl⟩
      simp only [L_X9_letterNow_0, y1, k3, cond_true, oI_eq, oR_eq, Option.bind_some, h1, if_pos, h4, hT.2.2.1, if_neg c1, a1, z1, if_neg hx]
theorem RS_f {q : Nat × Nat} (h : RS (some q) a I) : ¬ I 144 18 = 0 := by
  obtain ⟨h1, h2, h3, h4⟩ := h
  rw [h1]
  exact fun e => absurd ((nI_z (by omega)).mp e) (by omega)
/-- where the reference stands behind a look at the next letter -/
def skS (X : Nat → Nat) (tl : Nat) (st : PSt) (a : Nat) : Nat := match st with
  | none => sk X tl a
  | some _ => a
def ltS (X : Nat → Nat) (tl : Nat) (st : PSt) (a : Nat) : Int32 := match st with
  | none => if sk X tl a < tl then nI (X (sk X tl a)) else -1
  | some _ => -1
theorem Y_ln (hB : GB B tw s u) (hT : TYt tl X I) (ha : a ≤ tl) (h : RS st a I) : ∃ I', f_X9_letterNow 144 (zI B I) = some (ltS X tl st a, zI B I') ∧ RS st (skS X tl st a) I' ∧ ∀ i j, ¬ (i = 144 ∧ j = 17) → I' i j = I i j := by
  obtain ⟨y1, -⟩ := hB.hy'
  obtain ⟨-, -, -, -, k3, k4⟩ := hB.tx
  have htl := hT.1
  cases st with
  | none =>
    obtain ⟨J, g1, g2, g3⟩ := Y_ln_lp hB (tl - a) a zN I (by omega) (by unfold zN; omega) hT h
    obtain ⟨h1, h2, h4⟩ := id g2
    obtain ⟨s1, s2⟩ := sk_b (X := X) ha
    have e : skp X (tl - a) a = sk X tl a := rfl
    rw [e] at h4
    have t16 : J 144 16 = nI tl := by rw [g3 144 16 (by omega)]; exact hT.2.2.1
    refine ⟨J, ?_, g2, g3⟩
    unfold ltS
    simp only []
    by_cases k : sk X tl a < tl
    · have c1 : ¬ nI tl ≤ nI (sk X tl a) := fun q => absurd ((nI_leI (by omega) (by omega)).mp q) (by omega)
      have a1 := aI_at (B := B) (I := J) (i := 154) (k := sk X tl a) (v := nI (X (sk X tl a))) (by omega) (by rw [k4]; omega) (by rw [g3 154 _ (by omega)]; exact (hT.2.2.2 _ k).2.1)
      rw [if_pos k]
      simp only [f_X9_letterNow, nb144, y1, k3, cond_true, oI_eq, oR_eq, Option.bind_some, g1, h1, if_pos, h4, t16, if_neg c1, a1]
    · have c1 : nI tl ≤ nI (sk X tl a) := (nI_leI (by omega) (by omega)).mpr (by omega)
      rw [if_neg k]
      simp only [f_X9_letterNow, nb144, y1, k3, cond_true, oI_eq, oR_eq, Option.bind_some, g1, h1, if_pos, h4, t16, if_pos c1]
  | some q =>
    have hf := RS_f h
    obtain ⟨z, hz⟩ : ∃ z, zN = z + 1 := ⟨1099511627775, by decide⟩
    have g : L_X9_letterNow_0 zN 144 (zI B I) = some (zI B I) := by
      rw [hz]
      simp only [L_X9_letterNow_0, y1, cond_true, oI_eq, Option.bind_some, if_neg hf]
    refine ⟨I, ?_, h, fun _ _ _ => rfl⟩
    simp only [f_X9_letterNow, nb144, y1, cond_true, oI_eq, Option.bind_some, g, if_neg hf]
    rfl
theorem Y_bad (hB : GB B tw s u) {f p : Nat} (hf : 1 ≤ f) (hf4 : f ≤ 4) (h : RS st a I) {y : Int32} (hy : st = none → y = nI p) : ∃ I', f_X9_bad 144 (nI f) y (zI B I) = some (zI B I') ∧ RS (pO st f p) a I' ∧ ∀ i j, ¬ (i = 144 ∧ (j = 18 ∨ j = 19)) → I' i j = I i j := by
  obtain ⟨y1, -⟩ := hB.hy'
  cases st with
  | none =>
    obtain ⟨h1, h2, h4⟩ := h
    rw [hy rfl]
    refine ⟨cu (cu I 144 18 (nI f)) 144 19 (nI p), ?_, ⟨by rw [cu_o (by omega), cu_s], by rw [cu_s], hf, hf4⟩, fun i j q => by rw [cu_o (by omega), cu_o (by omega)]⟩
    simp only [f_X9_bad, nb144, y1, cond_true, oI_eq, pI_cu, Option.bind_some, h1, if_pos]
  | some q =>
    have hf := RS_f h
    refine ⟨I, ?_, h, fun _ _ _ => rfl⟩
    simp only [f_X9_bad, nb144, y1, cond_true, oI_eq, Option.bind_some, if_neg hf]
theorem isFig {v : Nat} {M : zM} (hv : v ≤ 255) : f_X9_isFigure (nI v) M = some (if decide (48 ≤ v ∧ v ≤ 57) = true then 1 else 0) := by
  have z1 : nI v < 48 ↔ v < 48 := nI_ltI (b := 48) (by omega) (by omega)
  have z2 : 57 < nI v ↔ 57 < v := nI_ltI (a := 57) (by omega) (by omega)
  simp only [f_X9_isFigure, z1, z2]
  by_cases k1 : v < 48
  · rw [if_pos k1, if_neg (by simp; omega)]
  · rw [if_neg k1]
    by_cases k2 : 57 < v
    · rw [if_pos k2, if_neg (by simp; omega)]
    · rw [if_neg k2, if_pos (by simp; omega)]
theorem isFig_m {M : zM} : f_X9_isFigure (-1) M = some 0 := by
  unfold f_X9_isFigure
  rw [if_pos (by decide)]
theorem Y_nu_lp (hB : GB B tw s u) {x y z : Int32} : ∀ m a n q I, a + m = tl → m < n → q ≤ 100000 → TYt tl X I → RS none a I → ∃ I', L_X9_number_32 n 144 x y z (nI q) (zI B I) = some (nI (vR X m a q), zI B I') ∧ RS none (fgs X m a) I' ∧ ∀ i j, ¬ (i = 144 ∧ j = 17) → I' i j = I i j := by
  obtain ⟨y1, -⟩ := hB.hy'
  obtain ⟨-, -, -, -, k3, k4⟩ := hB.tx
  intro m
  induction m with
  | zero =>
    intro a n q I ha hn hq hT h
    obtain ⟨n, rfl⟩ := Nat.exists_eq_succ_of_ne_zero (show n ≠ 0 by omega)
    have := hT.1
    obtain ⟨h1, h2, h4⟩ := id h
    have c1 : nI tl ≤ nI a := (nI_leI (by omega) (by omega)).mpr (by omega)
    refine ⟨I, ?_, h, fun _ _ _ => rfl⟩
    simp only [L_X9_number_32, y1, cond_true, oI_eq, Option.bind_some, h4, hT.2.2.1, if_pos c1, vR]
  | succ m ih =>
    intro a n q I ha hn hq hT h
    obtain ⟨n, rfl⟩ := Nat.exists_eq_succ_of_ne_zero (show n ≠ 0 by omega)
    have htl := hT.1
    obtain ⟨h1, h2, h4⟩ := id h
    have c1 : ¬ nI tl ≤ nI a := fun q => absurd ((nI_leI (by omega) (by omega)).mp q) (by omega)
    obtain ⟨-, t1, t2⟩ := hT.2.2.2 a (by omega)
    have a1 := aI_at (B := B) (I := I) (by omega) (by rw [k4]; omega) t1
    have hF := isFig (v := X a) (M := zI B I) t2
    rcases Bool.eq_false_or_eq_true (fgB X a) with hx | hx
    · have hx2 := of_decide_eq_true hx
      rw [show decide (48 ≤ X a ∧ X a ≤ 57) = true from hx, ite_t] at hF
      obtain ⟨J, hJ⟩ : ∃ J, J = cu I 144 17 (nI (a + 1)) := ⟨_, rfl⟩
      have o : ∀ i j, ¬ (i = 144 ∧ j = 17) → J i j = I i j := fun i j q => by rw [hJ, cu_o (by omega)]
      have hR : RS none (a + 1) J := ⟨by rw [o 144 18 (by omega)]; exact h1, by rw [o 144 19 (by omega)]; exact h2, by rw [hJ, cu_s]⟩
      have z9 : nI q ≤ 9999 ↔ q ≤ 9999 := nI_leI (b := 9999) (by omega) (by omega)
      rw [vR_t hx, fgs_t hx]
      by_cases k : q ≤ 9999
      · have e1 : (10 : Int32) * nI q + nI (X a) - 48 = nI (10 * q + X a - 48) := by
          rw [nl10, pk_mul, nI_add, show (48 : Int32) = nI 48 from rfl, nI_sb (by omega)]
        obtain ⟨I', g1, g2, g3⟩ := ih (a + 1) n (10 * q + X a - 48) J (by omega) (by omega) (by omega) (hT.fr (fun i j q => o i j (by omega))) hR
        rw [if_pos k]
        refine ⟨I', ?_, g2, fun i j q => by rw [g3 i j q, o i j q]⟩
        simp only [L_X9_number_32, y1, k3, cond_true, oI_eq, oR_eq, pI_cu, Option.bind_some, h4, hT.2.2.1, if_neg c1, a1, hF, if_neg ne10, z9, if_pos k, nI_1, ← hJ, e1, g1]
      · obtain ⟨I', g1, g2, g3⟩ := ih (a + 1) n q J (by omega) (by omega) hq (hT.fr (fun i j q => o i j (by omega))) hR
        rw [if_neg k]
        refine ⟨I', ?_, g2, fun i j q => by rw [g3 i j q, o i j q]⟩
        simp only [L_X9_number_32, y1, k3, cond_true, oI_eq, oR_eq, pI_cu, Option.bind_some, h4, hT.2.2.1, if_neg c1, a1, hF, if_neg ne10, z9, if_neg k, nI_1, ← hJ, g1]
    · rw [show decide (48 ≤ X a ∧ X a ≤ 57) = false from hx, ite_f] at hF
      rw [vR_f hx, fgs_f hx]
      refine ⟨I, ?_, h, fun _ _ _ => rfl⟩
      simp only [L_X9_number_32, y1, k3, cond_true, oI_eq, oR_eq, Option.bind_some, h4, hT.2.2.1, if_neg c1, a1, hF, if_pos]
theorem fgs_0 {X : Nat → Nat} {tl a : Nat} (ha : a < tl) : fgs X (tl - a) a = a ↔ fgB X a = false := by
  obtain ⟨m, hm⟩ : ∃ m, tl - a = m + 1 := ⟨tl - a - 1, by omega⟩
  rw [hm]
  rcases Bool.eq_false_or_eq_true (fgB X a) with h | h
  · rw [fgs_t h]
    have := fgs_b (X := X) m (a + 1)
    exact ⟨fun q => absurd q (by omega), fun q => by rw [h] at q; exact absurd q (by decide)⟩
  · rw [fgs_f h]
    exact ⟨fun _ => h, fun _ => rfl⟩
theorem in_pr {v lo n : Nat} {M : zM} (hv : v < 1000000) (hlo : lo < 1000) (hn : n < 1000) (hh : hi = nI n - 1) : f_X9_in (Int32.toInt64 (nI v)) (Int32.toInt64 (nI lo)) (Int32.toInt64 hi) M = some (if lo ≤ v ∧ v < n then 1 else 0) := by
  rw [Y_in, hh, nl1, pk_sub_toInt (by omega) (by omega), nI_toInt (by omega), nI_toInt (by omega)]
  by_cases h : lo ≤ v ∧ v < n
  · rw [if_pos h, if_pos (by omega)]
  · rw [if_neg h, if_neg (by omega)]
theorem Y_num (hB : GB B tw s u) (hT : TYt tl X I) (ha : a ≤ tl) (hC : RS st a I) (hh : hi = nI n - 1) (hlo : lo < 1000) (hn : n < 1000) : ∃ y I', f_X9_number 144 (nI lo) hi (zI B I) = some (y, zI B I') ∧ RS (pNum X tl st lo n a).1 (pNum X tl st lo n a).2.2.1 I' ∧ ((pNum X tl st lo n a).1 = none → y = nI (pNum X tl st lo n a).2.1) ∧ ∀ i j, ¬ (i = 144 ∧ 17 ≤ j ∧ j ≤ 19) → I' i j = I i j := by
  obtain ⟨y1, -⟩ := hB.hy'
  have htl := hT.1
  obtain ⟨J1, a1, a2, a3⟩ := Y_ln hB hT ha hC
  cases st with
  | some q =>
    have hy : I 144 17 = I 144 17 := rfl
    obtain ⟨J2, d1, d2, d3⟩ := Y_bad (f := 1) (p := 0) (y := J1 144 17) hB (by omega) (by omega) a2 (fun h => absurd h (by simp))
    rw [show nI 1 = (1 : Int32) from rfl] at d1
    have e1 : ltS X tl (some q) a = -1 := rfl
    rw [e1] at a1
    refine ⟨0, J2, ?_, d2, fun h => absurd h (by simp [pNum]), fun i j h => by rw [d3 i j (by omega), a3 i j (by omega)]⟩
    simp only [f_X9_number, nb144, y1, cond_true, oI_eq, zac_zI, Option.bind_some, a1, b2_some, isFig_m, if_pos, d1]
  | none =>
    obtain ⟨s1, s2⟩ := sk_b (X := X) ha
    have a2 : RS none (sk X tl a) J1 := a2
    have el : ltS X tl none a = if sk X tl a < tl then nI (X (sk X tl a)) else -1 := rfl
    rw [el] at a1
    simp only [pNum]
    unfold pN
    generalize hs : sk X tl a = q at *
    obtain ⟨h1, h2, h4⟩ := id a2
    have hT1 : TYt tl X J1 := hT.fr (fun i j h => a3 i j (by omega))
    by_cases kf : q < tl ∧ fgB X q = true
    · obtain ⟨kq, kf⟩ := kf
      rw [if_pos kq] at a1
      have hF := isFig (v := X q) (M := zI B J1) (hT.2.2.2 q kq).2.2
      rw [show decide (48 ≤ X q ∧ X q ≤ 57) = true from kf, ite_t] at hF
      have hne : ¬ fgs X (tl - q) q = q := fun h => by rw [fgs_0 kq, kf] at h; exact absurd h (by decide)
      obtain ⟨J3, d1, d2, d3⟩ := Y_nu_lp (x := nI lo) (y := hi) (z := nI q) hB (tl - q) q zN 0 J1 (by omega) (by unfold zN; omega) (by omega) hT1 a2
      rw [show nI 0 = (0 : Int32) from rfl] at d1
      have hv := vR_le (X := X) (tl - q) q 0 (by omega)
      obtain ⟨e1, e2⟩ := fgs_b (X := X) (tl - q) q
      have hvv : fgs X (tl - q) q - q ≤ 3 → vC X (tl - q) q 0 = vR X (tl - q) q 0 := fun h => v_eq (tl - q) q 0 0 (by decide) (by omega)
      generalize hvC : vC X (tl - q) q 0 = vc at *
      generalize hvR : vR X (tl - q) q 0 = v at *
      generalize hee : fgs X (tl - q) q = e at *
      rw [if_neg hne]
      have f17 : J3 144 17 = nI e := d2.2.2
      have esub : nI e - nI q = nI (e - q) := nI_sb e1
      have z2 : 3 < nI (e - q) ↔ 3 < e - q := nI_ltI (a := 3) (by omega) (by omega)
      have o3 : ∀ i j, ¬ (i = 144 ∧ 17 ≤ j ∧ j ≤ 19) → J3 i j = I i j := fun i j h => by rw [d3 i j (by omega), a3 i j (by omega)]
      obtain ⟨J4, g1, g2, g3⟩ := Y_bad (f := 2) (p := q) (y := nI q) hB (by omega) (by omega) d2 (fun _ => rfl)
      rw [show nI 2 = (2 : Int32) from rfl] at g1
      have o4 : ∀ i j, ¬ (i = 144 ∧ 17 ≤ j ∧ j ≤ 19) → J4 i j = I i j := fun i j h => by rw [g3 i j (by omega), o3 i j h]
      by_cases k3 : 3 < e - q
      · rw [if_pos (Or.inl k3)]
        refine ⟨nI v, J4, ?_, g2, fun h => absurd h (by simp), o4⟩
        simp only [f_X9_number, nb144, y1, cond_true, oI_eq, zac_zI, Option.bind_some, a1, b2_some, h4, hF, if_neg ne10, d1, f17, esub, z2, if_pos k3, g1]
      · have hvc := hvv (by omega)
        rw [hvc]
        have hin := in_pr (hi := hi) (M := zI B J3) (v := v) (lo := lo) (n := n) (by omega) hlo hn hh
        by_cases kr : lo ≤ v ∧ v < n
        · rw [if_neg (by omega)]
          rw [if_pos kr] at hin
          refine ⟨nI v, J3, ?_, d2, fun _ => rfl, o3⟩
          simp only [f_X9_number, nb144, y1, cond_true, oI_eq, zac_zI, Option.bind_some, a1, b2_some, h4, hF, if_neg ne10, d1, f17, esub, z2, if_neg k3, hin]
        · rw [if_pos (by omega)]
          rw [if_neg kr] at hin
          refine ⟨nI v, J4, ?_, g2, fun h => absurd h (by simp), o4⟩
          simp only [f_X9_number, nb144, y1, cond_true, oI_eq, zac_zI, Option.bind_some, a1, b2_some, h4, hF, if_neg ne10, d1, f17, esub, z2, if_neg k3, hin, if_pos, g1]
    · have he : fgs X (tl - q) q = q := by
        by_cases kq : q < tl
        · rw [fgs_0 kq]
          cases h : fgB X q with
          | false => rfl
          | true => exact absurd ⟨kq, h⟩ kf
        · rw [show tl - q = 0 by omega]; rfl
      rw [if_pos he]
      have hF : f_X9_isFigure (if q < tl then nI (X q) else -1) (zI B J1) = some 0 := by
        by_cases kq : q < tl
        · rw [if_pos kq, isFig (hT.2.2.2 q kq).2.2]
          cases h : fgB X q with
          | false => rw [show decide (48 ≤ X q ∧ X q ≤ 57) = false from h]; rfl
          | true => exact absurd ⟨kq, h⟩ kf
        · rw [if_neg kq, isFig_m]
      obtain ⟨J4, g1, g2, g3⟩ := Y_bad (f := 1) (p := q) (y := nI q) hB (by omega) (by omega) a2 (fun _ => rfl)
      rw [show nI 1 = (1 : Int32) from rfl] at g1
      refine ⟨0, J4, ?_, g2, fun h => absurd h (by simp), fun i j h => by rw [g3 i j (by omega), a3 i j (by omega)]⟩
      simp only [f_X9_number, nb144, y1, cond_true, oI_eq, zac_zI, Option.bind_some, a1, b2_some, h4, hF, if_pos, g1]
/-- a clause's end -/
def pE (X : Nat → Nat) (tl : Nat) (st : PSt) (a : Nat) : PSt × Nat := if sk X tl a < tl ∧ X (sk X tl a) = 59 then (st, sk X tl a + 1) else (pO st 1 (sk X tl a), sk X tl a)
theorem pE_b (ha : a ≤ tl) : a ≤ (pE X tl st a).2 ∧ (pE X tl st a).2 ≤ tl := by
  have := sk_b (X := X) ha
  unfold pE
  split <;> (simp only []; omega)
theorem Y_end (hB : GB B tw s u) (hT : TYt tl X I) (ha : a ≤ tl) (hC : RS st a I) : ∃ I', f_X9_end 144 (zI B I) = some (zI B I') ∧ RS (pE X tl st a).1 (pE X tl st a).2 I' ∧ ∀ i j, ¬ (i = 144 ∧ 17 ≤ j ∧ j ≤ 19) → I' i j = I i j := by
  obtain ⟨y1, -⟩ := hB.hy'
  have htl := hT.1
  obtain ⟨J1, a1, a2, a3⟩ := Y_ln hB hT ha hC
  cases st with
  | some q =>
    obtain ⟨J2, d1, d2, d3⟩ := Y_bad (f := 1) (p := 0) (y := J1 144 17) hB (by omega) (by omega) a2 (fun h => absurd h (by simp))
    rw [show nI 1 = (1 : Int32) from rfl] at d1
    have e1 : ltS X tl (some q) a = -1 := rfl
    rw [e1] at a1
    refine ⟨J2, ?_, ?_, fun i j h => by rw [d3 i j (by omega), a3 i j (by omega)]⟩
    · simp only [f_X9_end, nb144, y1, cond_true, oI_eq, zac_zI, Option.bind_some, a1, b2_some]
      rw [if_neg (by decide)]
      simp only [d1, Option.bind_some]
    · unfold pE
      split <;> exact d2
  | none =>
    obtain ⟨s1, s2⟩ := sk_b (X := X) ha
    have a2 : RS none (sk X tl a) J1 := a2
    have el : ltS X tl none a = if sk X tl a < tl then nI (X (sk X tl a)) else -1 := rfl
    rw [el] at a1
    unfold pE
    generalize hs : sk X tl a = q at *
    obtain ⟨h1, h2, h4⟩ := id a2
    by_cases k : q < tl ∧ X q = 59
    · rw [if_pos k.1] at a1
      have z : nI (X q) = 59 := by rw [k.2]; rfl
      rw [if_pos k]
      refine ⟨cu J1 144 17 (nI (q + 1)), ?_, ⟨by rw [cu_o (by omega)]; exact h1, by rw [cu_o (by omega)]; exact h2, by rw [cu_s]⟩, fun i j h => by rw [cu_o (by omega), a3 i j (by omega)]⟩
      simp only [f_X9_end, nb144, y1, cond_true, oI_eq, pI_cu, zac_zI, Option.bind_some, a1, b2_some, if_pos z, h4, nI_1]
    · rw [if_neg k]
      have z : ¬ (if q < tl then nI (X q) else (-1 : Int32)) = 59 := by
        by_cases kq : q < tl
        · rw [if_pos kq]
          have hx := (hT.2.2.2 q kq).2.2
          exact fun e => k ⟨kq, (nI_eq (b := 59) (by omega) (by omega)).mp e⟩
        · rw [if_neg kq]; decide
      obtain ⟨J4, g1, g2, g3⟩ := Y_bad (f := 1) (p := q) (y := nI q) hB (by omega) (by omega) a2 (fun _ => rfl)
      rw [show nI 1 = (1 : Int32) from rfl] at g1
      refine ⟨J4, ?_, g2, fun i j h => by rw [g3 i j (by omega), a3 i j (by omega)]⟩
      simp only [f_X9_end, nb144, y1, cond_true, oI_eq, zac_zI, Option.bind_some, a1, b2_some, if_neg z, h4, g1]
end TYT
