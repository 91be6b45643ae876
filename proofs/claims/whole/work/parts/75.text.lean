/-! the text: letters, numbers, faults -/
def skp (X : Nat → Nat) : Nat → Nat → Nat
  | 0, a => a
  | m + 1, a => if X a = 32 then skp X m (a + 1) else a
def sk (X : Nat → Nat) (tl a : Nat) : Nat := skp X (tl - a) a
def fgB (X : Nat → Nat) (a : Nat) : Bool := decide (48 ≤ X a ∧ X a ≤ 57)
def fgs (X : Nat → Nat) : Nat → Nat → Nat
  | 0, a => a
  | m + 1, a => if fgB X a = true then fgs X m (a + 1) else a
def mnK (x : Nat) : Nat := if x < 1000 then x else 1000
def vC (X : Nat → Nat) : Nat → Nat → Nat → Nat
  | 0, _, q => q
  | m + 1, a, q => if fgB X a = true then vC X m (a + 1) (mnK (10 * q + X a - 48)) else q
def vR (X : Nat → Nat) : Nat → Nat → Nat → Nat
  | 0, _, q => q
  | m + 1, a, q => if fgB X a = true then vR X m (a + 1) (if q ≤ 9999 then 10 * q + X a - 48 else q) else q
abbrev PSt : Type := Option (Nat × Nat)
def pO (st : PSt) (f p : Nat) : PSt := match st with
  | none => some (f, p)
  | some q => some q
def pN (X : Nat → Nat) (tl lo n a : Nat) : PSt × Nat × Nat × Nat :=
  if fgs X (tl - sk X tl a) (sk X tl a) = sk X tl a then (some (1, sk X tl a), 0, sk X tl a, sk X tl a)
  else if 3 < fgs X (tl - sk X tl a) (sk X tl a) - sk X tl a ∨ vC X (tl - sk X tl a) (sk X tl a) 0 < lo ∨ n ≤ vC X (tl - sk X tl a) (sk X tl a) 0 then (some (2, sk X tl a), 0, fgs X (tl - sk X tl a) (sk X tl a), sk X tl a)
  else (none, vC X (tl - sk X tl a) (sk X tl a) 0, fgs X (tl - sk X tl a) (sk X tl a), sk X tl a)
def pNum (X : Nat → Nat) (tl : Nat) (st : PSt) (lo n a : Nat) : PSt × Nat × Nat × Nat := match st with
  | none => pN X tl lo n a
  | some q => (some q, 0, a, 0)
theorem skp_b {X : Nat → Nat} : ∀ m a, a ≤ skp X m a ∧ skp X m a ≤ a + m := by
  intro m
  induction m with
  | zero => intro a; exact ⟨Nat.le_refl _, Nat.le_refl _⟩
  | succ m ih =>
    intro a
    have := ih (a + 1)
    simp only [skp]
    split <;> omega
theorem sk_b {X : Nat → Nat} {tl a : Nat} (h : a ≤ tl) : a ≤ sk X tl a ∧ sk X tl a ≤ tl := by
  have := skp_b (X := X) (tl - a) a
  unfold sk
  omega
theorem fgs_b {X : Nat → Nat} : ∀ m a, a ≤ fgs X m a ∧ fgs X m a ≤ a + m := by
  intro m
  induction m with
  | zero => intro a; exact ⟨Nat.le_refl _, Nat.le_refl _⟩
  | succ m ih =>
    intro a
    have := ih (a + 1)
    simp only [fgs]
    split <;> omega
theorem vC_le {X : Nat → Nat} : ∀ m a q, q ≤ 1000 → vC X m a q ≤ 1000 := by
  intro m
  induction m with
  | zero => intro a q h; exact h
  | succ m ih =>
    intro a q h
    simp only [vC]
    split
    · exact ih _ _ (by unfold mnK; split <;> omega)
    · exact h
theorem vR_le {X : Nat → Nat} : ∀ m a q, q ≤ 100000 → vR X m a q ≤ 100000 := by
  intro m
  induction m with
  | zero => intro a q h; exact h
  | succ m ih =>
    intro a q h
    simp only [vR]
    split
    · rename_i hf
      have hf := of_decide_eq_true hf
      refine ih _ _ ?_
      split <;> omega
    · exact h
theorem fgs_t {X : Nat → Nat} {m a : Nat} (h : fgB X a = true) : fgs X (m + 1) a = fgs X m (a + 1) := by rw [fgs, if_pos h]
theorem fgs_f {X : Nat → Nat} {m a : Nat} (h : fgB X a = false) : fgs X (m + 1) a = a := by rw [fgs, h]; rfl
theorem vC_t {X : Nat → Nat} {m a q : Nat} (h : fgB X a = true) : vC X (m + 1) a q = vC X m (a + 1) (mnK (10 * q + X a - 48)) := by rw [vC, if_pos h]
theorem vC_f {X : Nat → Nat} {m a q : Nat} (h : fgB X a = false) : vC X (m + 1) a q = q := by rw [vC, h]; rfl
theorem vR_t {X : Nat → Nat} {m a q : Nat} (h : fgB X a = true) : vR X (m + 1) a q = vR X m (a + 1) (if q ≤ 9999 then 10 * q + X a - 48 else q) := by rw [vR, if_pos h]
theorem vR_f {X : Nat → Nat} {m a q : Nat} (h : fgB X a = false) : vR X (m + 1) a q = q := by rw [vR, h]; rfl
theorem v_eq {X : Nat → Nat} : ∀ m a q k, q < 10 ^ k → k + (fgs X m a - a) ≤ 3 → vC X m a q = vR X m a q := by
  intro m
  induction m with
  | zero => intro a q k _ _; rfl
  | succ m ih =>
    intro a q k hq hk
    rcases Bool.eq_false_or_eq_true (fgB X a) with h | h
    · rw [fgs_t h] at hk
      rw [vC_t h, vR_t h]
      have hb := fgs_b (X := X) m (a + 1)
      have hx := of_decide_eq_true h
      have p1 : 10 ^ (k + 1) = 10 * 10 ^ k := by rw [Nat.pow_succ, Nat.mul_comm]
      have p2 : 10 ^ (k + 1) ≤ 10 ^ 3 := Nat.pow_le_pow_right (by omega) (by omega)
      have e1 : mnK (10 * q + X a - 48) = 10 * q + X a - 48 := by unfold mnK; rw [if_pos (by omega)]
      rw [e1, if_pos (by omega)]
      exact ih (a + 1) _ (k + 1) (by omega) (by omega)
    · rw [vC_f h, vR_f h]
def TXt (tl : Nat) (X : Nat → Nat) (I : Nat → Nat → Int32) : Prop := tl ≤ 240 ∧ I 2 1 = nI tl ∧ I 144 16 = nI tl ∧ ∀ j, j < tl → I 3 j = nI (X j) ∧ I 154 j = nI (X j) ∧ X j ≤ 255
def CS (st : PSt) (a : Nat) (I : Nat → Nat → Int32) : Prop := (match st with
  | none => I 2 2 = 0 ∧ I 2 3 = -1
  | some q => I 2 2 = nI q.1 ∧ I 2 3 = nI q.2 ∧ 1 ≤ q.1 ∧ q.1 ≤ 4) ∧ I 2 4 = nI a
def RS (st : PSt) (a : Nat) (I : Nat → Nat → Int32) : Prop := match st with
  | none => I 144 18 = 0 ∧ I 144 19 = -1 ∧ I 144 17 = nI a
  | some q => I 144 18 = nI q.1 ∧ I 144 19 = nI q.2 ∧ 1 ≤ q.1 ∧ q.1 ≤ 4
theorem le_pr {v n : Nat} (hv : v < 1000000) (hn : n < 1000000) : nI v ≤ nI n - 1 ↔ v < n := by
  rw [nl1, Int32.le_iff_toInt_le, pk_sub_toInt (by omega) (by omega), nI_toInt (by omega)]
  omega
section TXT
variable {B : zM} {tw s u tl a lo n : Nat} {X : Nat → Nat} {I : Nat → Nat → Int32} {st : PSt} {hi : Int32}
theorem GB.tx (h : GB B tw s u) : mR B 1 0 = 2 ∧ zac B 2 6 6 = true ∧ mR B 2 0 = 3 ∧ zlI B 3 = 240 ∧ mR B 144 15 = 154 ∧ zlI B 154 = 240 := by
  obtain ⟨hx, hy, -⟩ := h
  exact ⟨by simp only [hx], by simp only [hx], by simp only [hx], by simp only [hx], by simp only [hy], by simp only [hy]⟩
theorem X_sk_lp (hB : GB B tw s u) : ∀ m a n I, a + m = tl → m < n → TXt tl X I → I 2 4 = nI a → ∃ I', L_X6_skipBlanks_5 n 2 (nI a) (zI B I) = some (zI B I') ∧ I' 2 4 = nI (skp X m a) ∧ ∀ i j, ¬ (i = 2 ∧ j = 4) → I' i j = I i j := by
  obtain ⟨-, k2, k3, k4, -⟩ := hB.tx
  intro m
  induction m with
  | zero =>
    intro a n I ha hn hT h4
    obtain ⟨n, rfl⟩ := Nat.exists_eq_succ_of_ne_zero (show n ≠ 0 by omega)
    have := hT.1
    have c1 : nI tl ≤ nI a := (nI_leI (by omega) (by omega)).mpr (by omega)
    refine ⟨I, ?_, h4, fun _ _ _ => rfl⟩
    simp only [L_X6_skipBlanks_5, k2, cond_true, oI_eq, Option.bind_some, hT.2.1, if_pos c1]
  | succ m ih =>
    intro a n I ha hn hT h4
    obtain ⟨n, rfl⟩ := Nat.exists_eq_succ_of_ne_zero (show n ≠ 0 by omega)
    have htl := hT.1
    have c1 : ¬ nI tl ≤ nI a := fun q => absurd ((nI_leI (by omega) (by omega)).mp q) (by omega)
    obtain ⟨t1, -, t2⟩ := hT.2.2.2 a (by omega)
    have a1 := aI_at (B := B) (I := I) (by omega) (by rw [k4]; omega) t1
    have z1 : nI (X a) = 32 ↔ X a = 32 := nI_eq (b := 32) (by omega) (by omega)
    by_cases h : X a = 32
    · obtain ⟨J, hJ⟩ : ∃ J, J = cu I 2 4 (nI (a + 1)) := ⟨_, rfl⟩
      have o : ∀ i j, ¬ (i = 2 ∧ j = 4) → J i j = I i j := fun i j q => by rw [hJ, cu_o (by omega)]
      obtain ⟨I', g1, g2, g3⟩ := ih (a + 1) n J (by omega) (by omega) ⟨htl, by rw [o 2 1 (by omega)]; exact hT.2.1, by rw [o 144 16 (by omega)]; exact hT.2.2.1, fun j hj => by rw [o 3 j (by omega), o 154 j (by omega)]; exact hT.2.2.2 j hj⟩ (by rw [hJ, cu_s])
      refine ⟨I', ?_, ?_, fun i j q => by rw [g3 i j q, o i j q]⟩
      · simp only [L_X6_skipBlanks_5, k2, k3, cond_true, oI_eq, oR_eq, pI_cu, Option.bind_some, hT.2.1, if_neg c1, a1, z1, if_pos h, h4, nI_1, ← hJ, g1]
      · rw [skp, if_pos h]; exact g2
    · refine ⟨I, ?_, by rw [skp, if_neg h]; exact h4, fun _ _ _ => rfl⟩
      simp only [L_X6_skipBlanks_5, k2, k3, cond_true, oI_eq, oR_eq, Option.bind_some, hT.2.1, if_neg c1, a1, z1, if_neg h]
theorem X_skip (hB : GB B tw s u) (hT : TXt tl X I) (ha : a ≤ tl) (h4 : I 2 4 = nI a) : ∃ I', f_X6_skipBlanks 2 (zI B I) = some (zI B I') ∧ I' 2 4 = nI (sk X tl a) ∧ ∀ i j, ¬ (i = 2 ∧ j = 4) → I' i j = I i j := by
  obtain ⟨-, k2, k3, k4, -⟩ := hB.tx
  have htl := hT.1
  obtain ⟨I', g1, g2, g3⟩ := X_sk_lp hB (tl - a) a zN I (by omega) (by unfold zN; omega) hT h4
  refine ⟨I', ?_, g2, g3⟩
  simp only [f_X6_skipBlanks, show Nat.ble 1 2 = true from rfl, k2, cond_true, oI_eq, Option.bind_some, h4, g1]
theorem X_lh (hB : GB B tw s u) (hT : TXt tl X I) (ha : a ≤ tl) (h4 : I 2 4 = nI a) : f_X6_letterHere 2 (zI B I) = some (if a < tl then nI (X a) else -1) := by
  obtain ⟨-, k2, k3, k4, -⟩ := hB.tx
  have htl := hT.1
  have c0 : ¬ nI a < 0 := nI_pos (by omega)
  by_cases h : a < tl
  · have c1 : ¬ nI tl ≤ nI a := fun q => absurd ((nI_leI (by omega) (by omega)).mp q) (by omega)
    have a1 := aI_at (B := B) (I := I) (by omega) (by rw [k4]; omega) (hT.2.2.2 a h).1
    rw [if_pos h]
    simp only [f_X6_letterHere, show Nat.ble 1 2 = true from rfl, k2, k3, cond_true, oI_eq, oR_eq, Option.bind_some, h4, if_neg c0, hT.2.1, if_neg c1, a1]
  · have c1 : nI tl ≤ nI a := (nI_leI (by omega) (by omega)).mpr (by omega)
    rw [if_neg h]
    simp only [f_X6_letterHere, show Nat.ble 1 2 = true from rfl, k2, k3, cond_true, oI_eq, oR_eq, Option.bind_some, h4, if_neg c0, hT.2.1, if_pos c1]
theorem X_bl (hB : GB B tw s u) {f p : Nat} (hf : 1 ≤ f) (hf4 : f ≤ 4) (hC : CS st a I) : ∃ I', f_X6_blame 2 (nI p) (nI f) (zI B I) = some (zI B I') ∧ CS (pO st f p) a I' ∧ ∀ i j, ¬ (i = 2 ∧ (j = 2 ∨ j = 3)) → I' i j = I i j := by
  obtain ⟨-, k2, -⟩ := hB.tx
  obtain ⟨h1, h2⟩ := hC
  cases st with
  | none =>
    obtain ⟨h3, h4⟩ := h1
    refine ⟨cu (cu I 2 2 (nI f)) 2 3 (nI p), ?_, ⟨⟨by rw [cu_o (by omega), cu_s], by rw [cu_s], hf, hf4⟩, by rw [cu_o (by omega), cu_o (by omega)]; exact h2⟩, fun i j q => by rw [cu_o (by omega), cu_o (by omega)]⟩
    simp only [f_X6_blame, show Nat.ble 1 2 = true from rfl, k2, cond_true, oI_eq, pI_cu, Option.bind_some, h3, if_pos]
  | some q =>
    obtain ⟨h3, h4, h5, h6⟩ := h1
    have c : ¬ nI q.1 = 0 := fun e => absurd ((nI_z (by omega)).mp e) (by omega)
    refine ⟨I, ?_, ⟨⟨h3, h4, h5, h6⟩, h2⟩, fun _ _ _ => rfl⟩
    simp only [f_X6_blame, show Nat.ble 1 2 = true from rfl, k2, cond_true, oI_eq, Option.bind_some, h3, if_neg c]
theorem X_nu_lp (hB : GB B tw s u) {x y : Int32} : ∀ m a n q I, a + m = tl → m < n → q ≤ 1000 → TXt tl X I → I 2 4 = nI a → ∃ I', L_X6_readNumber_29 n 2 x y (nI q) (nI a) (zI B I) = some (nI (vC X m a q), zI B I') ∧ I' 2 4 = nI (fgs X m a) ∧ ∀ i j, ¬ (i = 2 ∧ j = 4) → I' i j = I i j := by
  obtain ⟨-, k2, k3, k4, -⟩ := hB.tx
  intro m
  induction m with
  | zero =>
    intro a n q I ha hn hq hT h4
    obtain ⟨n, rfl⟩ := Nat.exists_eq_succ_of_ne_zero (show n ≠ 0 by omega)
    have := hT.1
    have c1 : nI tl ≤ nI a := (nI_leI (by omega) (by omega)).mpr (by omega)
    refine ⟨I, ?_, h4, fun _ _ _ => rfl⟩
    simp only [L_X6_readNumber_29, k2, cond_true, oI_eq, Option.bind_some, hT.2.1, if_pos c1, vC]
  | succ m ih =>
    intro a n q I ha hn hq hT h4
    obtain ⟨n, rfl⟩ := Nat.exists_eq_succ_of_ne_zero (show n ≠ 0 by omega)
    have htl := hT.1
    have c1 : ¬ nI tl ≤ nI a := fun q => absurd ((nI_leI (by omega) (by omega)).mp q) (by omega)
    obtain ⟨t1, -, t2⟩ := hT.2.2.2 a (by omega)
    have a1 := aI_at (B := B) (I := I) (by omega) (by rw [k4]; omega) t1
    have z1 : nI (X a) < 48 ↔ X a < 48 := nI_ltI (b := 48) (by omega) (by omega)
    have z2 : 57 < nI (X a) ↔ 57 < X a := nI_ltI (a := 57) (by omega) (by omega)
    rcases Bool.eq_false_or_eq_true (fgB X a) with h | h
    · have hx := of_decide_eq_true h
      obtain ⟨J, hJ⟩ : ∃ J, J = cu I 2 4 (nI (a + 1)) := ⟨_, rfl⟩
      have o : ∀ i j, ¬ (i = 2 ∧ j = 4) → J i j = I i j := fun i j q => by rw [hJ, cu_o (by omega)]
      have e1 : (10 : Int32) * nI q + nI (X a) - 48 = nI (10 * q + X a - 48) := by
        rw [nl10, pk_mul, nI_add, show (48 : Int32) = nI 48 from rfl, nI_sb (by omega)]
      have z3 : nI (10 * q + X a - 48) < 1000 ↔ 10 * q + X a - 48 < 1000 := nI_ltI (b := 1000) (by omega) (by omega)
      have e2 : (if nI (10 * q + X a - 48) < 1000 then nI (10 * q + X a - 48) else (1000 : Int32)) = nI (mnK (10 * q + X a - 48)) := by
        unfold mnK
        by_cases k : 10 * q + X a - 48 < 1000
        · rw [if_pos k, if_pos (z3.mpr k)]
        · rw [if_neg k, if_neg (fun e => k (z3.mp e))]; rfl
      obtain ⟨I', g1, g2, g3⟩ := ih (a + 1) n (mnK (10 * q + X a - 48)) J (by omega) (by omega) (by unfold mnK; split <;> omega) ⟨htl, by rw [o 2 1 (by omega)]; exact hT.2.1, by rw [o 144 16 (by omega)]; exact hT.2.2.1, fun j hj => by rw [o 3 j (by omega), o 154 j (by omega)]; exact hT.2.2.2 j hj⟩ (by rw [hJ, cu_s])
      rw [vC_t h, fgs_t h]
      refine ⟨I', ?_, g2, fun i j q => by rw [g3 i j q, o i j q]⟩
      have n1 : ¬ X a < 48 := by omega
      have n2 : ¬ 57 < X a := by omega
      simp only [L_X6_readNumber_29, k2, k3, cond_true, oI_eq, oR_eq, pI_cu, Option.bind_some, hT.2.1, if_neg c1, a1, z1, if_neg n1, z2, if_neg n2, h4, nI_1, ← hJ, e1, e2, g1]
    · have hx := of_decide_eq_false h
      rw [vC_f h, fgs_f h]
      refine ⟨I, ?_, h4, fun _ _ _ => rfl⟩
      by_cases n1 : X a < 48
      · simp only [L_X6_readNumber_29, k2, k3, cond_true, oI_eq, oR_eq, Option.bind_some, hT.2.1, if_neg c1, a1, z1, if_pos n1]
      · have n2 : 57 < X a := by omega
        simp only [L_X6_readNumber_29, k2, k3, cond_true, oI_eq, oR_eq, Option.bind_some, hT.2.1, if_neg c1, a1, z1, if_neg n1, z2, if_pos n2]
theorem TXt.fr {I' : Nat → Nat → Int32} (h : TXt tl X I) (hf : ∀ i j, ((i = 2 ∧ j = 1) ∨ (i = 144 ∧ j = 16) ∨ i = 3 ∨ i = 154) → I' i j = I i j) : TXt tl X I' := ⟨h.1, by rw [hf 2 1 (by omega)]; exact h.2.1, by rw [hf 144 16 (by omega)]; exact h.2.2.1, fun j hj => by rw [hf 3 j (by omega), hf 154 j (by omega)]; exact h.2.2.2 j hj⟩
theorem pN_b (ha : a ≤ tl) : a ≤ (pN X tl lo n a).2.2.1 ∧ (pN X tl lo n a).2.2.1 ≤ tl := by
  have h1 := sk_b (X := X) ha
  have h2 := fgs_b (X := X) (tl - sk X tl a) (sk X tl a)
  unfold pN
  split
  · exact h1
  · split <;> (simp only []; omega)
theorem pNum_b (ha : a ≤ tl) : a ≤ (pNum X tl st lo n a).2.2.1 ∧ (pNum X tl st lo n a).2.2.1 ≤ tl := by
  cases st with
  | none => exact pN_b ha
  | some q => exact ⟨Nat.le_refl _, ha⟩
theorem pNum_ok (h : (pNum X tl st lo n a).1 = none) : st = none ∧ lo ≤ (pNum X tl st lo n a).2.1 ∧ (pNum X tl st lo n a).2.1 < n := by
  cases st with
  | none =>
    unfold pNum pN at h ⊢
    simp only [] at h ⊢
    split at h
    · exact absurd h (by simp)
    · split at h
      · exact absurd h (by simp)
      · rename_i h1 h2
        rw [if_neg h1, if_neg h2]
        refine ⟨trivial, ?_, ?_⟩ <;> (simp only []; omega)
  | some q => exact absurd h (by simp [pNum])
theorem pNum_v (h : ¬ (pNum X tl st lo n a).1 = none) : (pNum X tl st lo n a).2.1 = 0 := by
  cases st with
  | none =>
    unfold pNum pN at h ⊢
    simp only [] at h ⊢
    split
    · rfl
    · split
      · rfl
      · rename_i h1 h2
        rw [if_neg h1, if_neg h2] at h
        exact absurd rfl h
  | some q => rfl
theorem X_num (hB : GB B tw s u) (hT : TXt tl X I) (ha : a ≤ tl) (hC : CS st a I) (hh : hi = nI n - 1) (hlo : lo < 1000) (hn : n < 1000) : ∃ I', f_X6_readNumber 2 (nI lo) hi (zI B I) = some (nI (pNum X tl st lo n a).2.1, zI B I') ∧ CS (pNum X tl st lo n a).1 (pNum X tl st lo n a).2.2.1 I' ∧ (st = none → I' 2 5 = nI (pNum X tl st lo n a).2.2.2) ∧ ∀ i j, ¬ (i = 2 ∧ 2 ≤ j) → I' i j = I i j := by
  obtain ⟨-, k2, k3, k4, -⟩ := hB.tx
  have htl := hT.1
  cases st with
  | some q =>
    obtain ⟨⟨h1, h2, h3, h5⟩, h4⟩ := hC
    have c : ¬ nI q.1 = 0 := fun e => absurd ((nI_z (by omega)).mp e) (by omega)
    refine ⟨I, ?_, ⟨⟨h1, h2, h3, h5⟩, h4⟩, fun h => absurd h (by simp), fun _ _ _ => rfl⟩
    simp only [f_X6_readNumber, show Nat.ble 1 2 = true from rfl, k2, cond_true, oI_eq, Option.bind_some, h1, if_neg c]
    rfl
  | none =>
    obtain ⟨⟨h1, h2⟩, h4⟩ := hC
    obtain ⟨J1, a1, a2, a3⟩ := X_skip hB hT ha h4
    obtain ⟨s1, s2⟩ := sk_b (X := X) ha
    simp only [pNum]
    unfold pN
    generalize hs : sk X tl a = q at *
    obtain ⟨J2, hJ2⟩ : ∃ J, J = cu J1 2 5 (nI q) := ⟨_, rfl⟩
    have b24 : J2 2 4 = nI q := by rw [hJ2, cu_o (by omega), a2]
    have hT2 : TXt tl X J2 := hT.fr (fun i j h => by rw [hJ2, cu_o (by omega), a3 i j (by omega)])
    obtain ⟨J3, d1, d2, d3⟩ := X_nu_lp (x := nI lo) (y := hi) hB (tl - q) q zN 0 J2 (by omega) (by unfold zN; omega) (by omega) hT2 b24
    rw [show nI 0 = (0 : Int32) from rfl] at d1
    have hv := vC_le (X := X) (tl - q) q 0 (by omega)
    obtain ⟨e1, e2⟩ := fgs_b (X := X) (tl - q) q
    generalize hvv : vC X (tl - q) q 0 = v at *
    generalize hee : fgs X (tl - q) q = e at *
    have f5 : J3 2 5 = nI q := by rw [d3 2 5 (by omega), hJ2, cu_s]
    have f2 : J3 2 2 = 0 := by rw [d3 2 2 (by omega), hJ2, cu_o (by omega), a3 2 2 (by omega), h1]
    have f3 : J3 2 3 = -1 := by rw [d3 2 3 (by omega), hJ2, cu_o (by omega), a3 2 3 (by omega), h2]
    have o3 : ∀ i j, ¬ (i = 2 ∧ 2 ≤ j) → J3 i j = I i j := fun i j h => by rw [d3 i j (by omega), hJ2, cu_o (by omega), a3 i j (by omega)]
    have hC3 : CS none e J3 := ⟨⟨f2, f3⟩, d2⟩
    have z1 : nI e = nI q ↔ e = q := nI_eq (by omega) (by omega)
    have z2 : 3 < nI (e - q) ↔ 3 < e - q := nI_ltI (a := 3) (by omega) (by omega)
    have z3 : nI v < nI lo ↔ v < lo := nI_ltI (by omega) (by omega)
    have z4 : nI v ≤ hi ↔ v < n := by rw [hh]; exact le_pr (by omega) (by omega)
    have esub : nI e - nI q = nI (e - q) := nI_sb e1
    have zf1 : ¬ nI 1 = 0 := by decide
    have zf2 : ¬ nI 2 = 0 := by decide
    by_cases k1 : e = q
    · obtain ⟨J4, g1, g2, g3⟩ := X_bl (f := 1) (p := e) hB (by omega) (by omega) hC3
      have g22 : J4 2 2 = nI 1 := g2.1.1
      rw [show nI 1 = (1 : Int32) from rfl] at g1
      rw [if_pos k1]
      refine ⟨J4, ?_, by rw [← k1]; exact g2, fun _ => by rw [g3 2 5 (by omega), f5], fun i j h => by rw [g3 i j (by omega), o3 i j h]⟩
      simp only [f_X6_readNumber, show Nat.ble 1 2 = true from rfl, k2, cond_true, oI_eq, pI_cu, zac_zI, Option.bind_some, h1, if_pos, a1, a2, ← hJ2, b24, d1, b2_some, d2, f5, z1, if_pos k1, g1, g22, if_neg zf1]
      rfl
    · rw [if_neg k1]
      have bad : (3 < e - q ∨ v < lo ∨ n ≤ v) → ∃ I', f_X6_readNumber 2 (nI lo) hi (zI B I) = some (nI 0, zI B I') ∧ CS (some (2, q)) e I' ∧ (True → I' 2 5 = nI q) ∧ ∀ i j, ¬ (i = 2 ∧ 2 ≤ j) → I' i j = I i j := by
        intro hb
        obtain ⟨J4, g1, g2, g3⟩ := X_bl (f := 2) (p := q) hB (by omega) (by omega) hC3
        have g22 : J4 2 2 = nI 2 := g2.1.1
        rw [show nI 2 = (2 : Int32) from rfl] at g1
        refine ⟨J4, ?_, g2, fun _ => by rw [g3 2 5 (by omega), f5], fun i j h => by rw [g3 i j (by omega), o3 i j h]⟩
        by_cases k3 : 3 < e - q
        · simp only [f_X6_readNumber, show Nat.ble 1 2 = true from rfl, k2, cond_true, oI_eq, pI_cu, zac_zI, Option.bind_some, h1, if_pos, a1, a2, ← hJ2, b24, d1, b2_some, d2, f5, z1, if_neg k1, esub, z2, if_pos k3, g1, g22, if_neg zf2]
          rfl
        · by_cases k4 : v < lo
          · simp only [f_X6_readNumber, show Nat.ble 1 2 = true from rfl, k2, cond_true, oI_eq, pI_cu, zac_zI, Option.bind_some, h1, if_pos, a1, a2, ← hJ2, b24, d1, b2_some, d2, f5, z1, if_neg k1, esub, z2, if_neg k3, z3, if_pos k4, g1, g22, if_neg zf2]
            rfl
          · have k5 : ¬ v < n := by omega
            simp only [f_X6_readNumber, show Nat.ble 1 2 = true from rfl, k2, cond_true, oI_eq, pI_cu, zac_zI, Option.bind_some, h1, if_pos, a1, a2, ← hJ2, b24, d1, b2_some, d2, f5, z1, if_neg k1, esub, z2, if_neg k3, z3, if_neg k4, z4, if_neg k5, g1, g22, if_neg zf2]
            rfl
      by_cases kb : 3 < e - q ∨ v < lo ∨ n ≤ v
      · rw [if_pos kb]
        obtain ⟨I', w1, w2, w3, w4⟩ := bad kb
        exact ⟨I', w1, w2, fun _ => w3 trivial, w4⟩
      · rw [if_neg kb]
        have k3 : ¬ 3 < e - q := by omega
        have k4 : ¬ v < lo := by omega
        have k5 : v < n := by omega
        refine ⟨J3, ?_, hC3, fun _ => f5, o3⟩
        simp only [f_X6_readNumber, show Nat.ble 1 2 = true from rfl, k2, cond_true, oI_eq, pI_cu, zac_zI, Option.bind_some, h1, if_pos, a1, a2, ← hJ2, b24, d1, b2_some, d2, f5, z1, if_neg k1, esub, z2, if_neg k3, z3, if_neg k4, z4, if_pos k5, f2]
end TXT
