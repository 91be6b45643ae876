/-! clauses, read by the reference -/
def YD (D : Nat → Nat → Nat) (I : Nat → Nat → Int32) : Prop :=
  (I 144 21 = nI (D 0 0) ∧ I 144 22 = nI (D 0 1) ∧ I 144 23 = nI (D 0 2) ∧ I 144 24 = nI (D 0 3) ∧ I 144 25 = nI (D 0 4)) ∧
  (∀ w, w < D 0 1 → I 155 w = nI (D 7 w) ∧ I 156 w = nI (D 1 w) ∧ I 157 w = nI (D 2 w)) ∧ (∀ k, k < 16 → I 158 k = nI (D 3 k)) ∧ (∀ w, w < 8 → I 159 w = nI (D 4 w)) ∧ (∀ p, p < D 0 2 → I 160 p = nI (D 5 p)) ∧
  ∀ n, n < D 0 3 → I 161 (4 * n) = nI (D 6 (4 * n)) ∧ I 161 (4 * n + 1) = nI (D 6 (4 * n + 1)) ∧ I 161 (4 * n + 2) = nI (D 6 (4 * n + 2)) ∧ I 161 (4 * n + 3) = nI (D 6 (4 * n + 3))
theorem skp_skp {X : Nat → Nat} {tl : Nat} : ∀ m a, a + m = tl → skp X (tl - skp X m a) (skp X m a) = skp X m a := by
  intro m
  induction m with
  | zero => intro a h; rw [skp, show tl - a = 0 by omega, skp]
  | succ m ih =>
    intro a h
    rw [skp]
    by_cases k : X a = 32
    · rw [if_pos k]; exact ih (a + 1) (by omega)
    · rw [if_neg k, show tl - a = m + 1 by omega, skp, if_neg k]
theorem sk_sk {X : Nat → Nat} {tl a : Nat} (ha : a ≤ tl) : sk X tl (sk X tl a) = sk X tl a := skp_skp (tl - a) a (by omega)
theorem pNum_sk {X : Nat → Nat} {tl lo n a : Nat} (ha : a ≤ tl) : pNum X tl none lo n (sk X tl a) = pNum X tl none lo n a := by
  show pN X tl lo n (sk X tl a) = pN X tl lo n a
  unfold pN
  rw [sk_sk ha]
theorem pNum_p {X : Nat → Nat} {tl lo n a : Nat} : (pNum X tl none lo n a).2.2.2 = sk X tl a := by
  show (pN X tl lo n a).2.2.2 = sk X tl a
  unfold pN
  repeat' split
  all_goals rfl
section YCL
variable {B : zM} {tw s u tl a lo n : Nat} {X : Nat → Nat} {D : Nat → Nat → Nat} {I : Nat → Nat → Int32} {st : PSt} {hi : Int32}
theorem GB.hz (h : GB B tw s u) : mR B 144 26 = 155 ∧ mR B 144 27 = 156 ∧ mR B 144 28 = 157 ∧ mR B 144 29 = 158 ∧ mR B 144 30 = 159 ∧ mR B 144 31 = 160 ∧ mR B 144 32 = 161 ∧ zln B 10 155 = 8 ∧ zln B 10 156 = 8 ∧ zln B 10 157 = 8 ∧ zln B 10 158 = 16 ∧ zlI B 158 = 16 ∧ zln B 11 159 = 8 ∧ zln B 11 160 = 5 ∧ zln B 10 161 = 32 := by
  have hy := h.2.1
  exact ⟨by simp only [hy], by simp only [hy], by simp only [hy], by simp only [hy], by simp only [hy], by simp only [hy], by simp only [hy], by simp only [hy], by simp only [hy], by simp only [hy], by simp only [hy], by simp only [hy], by simp only [hy], by simp only [hy], by simp only [hy]⟩
theorem YD.fr {I' : Nat → Nat → Int32} (h : YD D I) (hf : ∀ i j, (i = 144 ∧ 21 ≤ j ∧ j ≤ 25) ∨ (155 ≤ i ∧ i ≤ 161) → I' i j = I i j) : YD D I' := by
  obtain ⟨⟨a0, a1, a2, a3, a4⟩, a5, a6, a7, a8, a9⟩ := h
  refine ⟨⟨?_, ?_, ?_, ?_, ?_⟩, fun w hw => ?_, fun k hk => ?_, fun w hw => ?_, fun p hp => ?_, fun n hn => ?_⟩
  · rw [hf _ _ (by omega)]; exact a0
  · rw [hf _ _ (by omega)]; exact a1
  · rw [hf _ _ (by omega)]; exact a2
  · rw [hf _ _ (by omega)]; exact a3
  · rw [hf _ _ (by omega)]; exact a4
  · rw [hf _ _ (by omega), hf _ _ (by omega), hf _ _ (by omega)]; exact a5 w hw
  · rw [hf _ _ (by omega)]; exact a6 k hk
  · rw [hf _ _ (by omega)]; exact a7 w hw
  · rw [hf _ _ (by omega)]; exact a8 p hp
  · rw [hf _ _ (by omega), hf _ _ (by omega), hf _ _ (by omega), hf _ _ (by omega)]; exact a9 n hn
theorem RS.pos {q : Nat × Nat} {b : Nat} (h : RS (some q) a I) : RS (some q) b I := h
theorem RS.fr {I' : Nat → Nat → Int32} (h : RS st a I) (hf : ∀ j, 17 ≤ j → j ≤ 19 → I' 144 j = I 144 j) : RS st a I' := by
  cases st with
  | none => exact ⟨by rw [hf 18 (by omega) (by omega)]; exact h.1, by rw [hf 19 (by omega) (by omega)]; exact h.2.1, by rw [hf 17 (by omega) (by omega)]; exact h.2.2⟩
  | some q => exact ⟨by rw [hf 18 (by omega) (by omega)]; exact h.1, by rw [hf 19 (by omega) (by omega)]; exact h.2.1, h.2.2⟩
/-- one letter on -/
theorem RS.nx (h : RS st a I) : RS st (a + 1) (cu I 144 17 (I 144 17 + 1)) := by
  cases st with
  | none => exact ⟨by rw [cu_o (by omega)]; exact h.1, by rw [cu_o (by omega)]; exact h.2.1, by rw [cu_s, h.2.2, nI_1]⟩
  | some q => exact ⟨by rw [cu_o (by omega)]; exact h.1, by rw [cu_o (by omega)]; exact h.2.1, h.2.2⟩
theorem pE_s {q : Nat × Nat} : (pE X tl (some q) a).1 = some q := by unfold pE; split <;> rfl
theorem pE_none (h : (pE X tl st a).1 = none) : st = none := pE_ok h
theorem Y_f0 (h : RS st a I) : I 144 18 = 0 ↔ st = none := by
  cases st with
  | none => exact ⟨fun _ => rfl, fun _ => h.1⟩
  | some q => exact ⟨fun e => absurd e (RS_f h), fun e => absurd e (by simp)⟩
/-- full: the fault stands at a, the rest is read for nothing -/
def fE (a : Nat) (D : Nat → Nat → Nat) : PSt × Nat × (Nat → Nat → Nat) := (some (3, a), a, D)
theorem YD_word (h : YD D I) {l c r : Nat} : YD (aWord D l c r) (cu (cu (cu (cu I 155 (D 0 1) (nI l)) 156 (D 0 1) (nI c)) 157 (D 0 1) (nI r)) 144 22 (nI (D 0 1 + 1))) := by
  obtain ⟨⟨a0, a1, a2, a3, a4⟩, a5, a6, a7, a8, a9⟩ := h
  have e : ∀ a, a ≠ 0 → a ≠ 1 → a ≠ 2 → a ≠ 7 → aWord D l c r a = D a := fun a q0 q1 q2 q7 => by unfold aWord; rw [u2_n q0, u2_n q2, u2_n q1, u2_n q7]
  have e1 : aWord D l c r 1 = va_up (D 1) (D 0 1) c := by unfold aWord; rw [u2_n (by decide), u2_n (by decide), u2_r, u2_n (by decide)]
  have e2 : aWord D l c r 2 = va_up (D 2) (D 0 1) r := by unfold aWord; rw [u2_n (by decide), u2_r, u2_n (by decide), u2_n (by decide)]
  have e7 : aWord D l c r 7 = va_up (D 7) (D 0 1) l := by unfold aWord; rw [u2_n (by decide), u2_n (by decide), u2_n (by decide), u2_r]
  have e0 : aWord D l c r 0 = va_up (D 0) 1 (D 0 1 + 1) := by unfold aWord; rw [u2_r, u2_n (by decide), u2_n (by decide), u2_n (by decide)]
  have c0 : va_up (D 0) 1 (D 0 1 + 1) 0 = D 0 0 := rfl
  have c1 : va_up (D 0) 1 (D 0 1 + 1) 1 = D 0 1 + 1 := rfl
  have c2 : va_up (D 0) 1 (D 0 1 + 1) 2 = D 0 2 := rfl
  have c3 : va_up (D 0) 1 (D 0 1 + 1) 3 = D 0 3 := rfl
  have c4 : va_up (D 0) 1 (D 0 1 + 1) 4 = D 0 4 := rfl
  obtain ⟨J, hJ⟩ : ∃ J, J = cu (cu (cu (cu I 155 (D 0 1) (nI l)) 156 (D 0 1) (nI c)) 157 (D 0 1) (nI r)) 144 22 (nI (D 0 1 + 1)) := ⟨_, rfl⟩
  have o : ∀ i j, ¬ ((155 ≤ i ∧ i ≤ 157 ∧ j = D 0 1) ∨ (i = 144 ∧ j = 22)) → J i j = I i j := fun i j q => by rw [hJ, cu_o (by omega), cu_o (by omega), cu_o (by omega), cu_o (by omega)]
  have s1 : J 155 (D 0 1) = nI l := by rw [hJ, cu_o (by omega), cu_o (by omega), cu_o (by omega), cu_s]
  have s2 : J 156 (D 0 1) = nI c := by rw [hJ, cu_o (by omega), cu_o (by omega), cu_s]
  have s3 : J 157 (D 0 1) = nI r := by rw [hJ, cu_o (by omega), cu_s]
  have s4 : J 144 22 = nI (D 0 1 + 1) := by rw [hJ, cu_s]
  rw [← hJ]
  unfold YD
  rw [e0, e1, e2, e 3 (by decide) (by decide) (by decide) (by decide), e 4 (by decide) (by decide) (by decide) (by decide), e 5 (by decide) (by decide) (by decide) (by decide), e 6 (by decide) (by decide) (by decide) (by decide), e7, c0, c1, c2, c3, c4]
  refine ⟨⟨by rw [o _ _ (by omega)]; exact a0, s4, by rw [o _ _ (by omega)]; exact a2, by rw [o _ _ (by omega)]; exact a3, by rw [o _ _ (by omega)]; exact a4⟩, fun w hw => ?_, fun k hk => by rw [o _ _ (by omega)]; exact a6 k hk, fun w hw => by rw [o _ _ (by omega)]; exact a7 w hw, fun p hp => by rw [o _ _ (by omega)]; exact a8 p hp, fun n hn => by rw [o _ _ (by omega), o _ _ (by omega), o _ _ (by omega), o _ _ (by omega)]; exact a9 n hn⟩
  rw [va_up, va_up, va_up]
  by_cases k : w = D 0 1
  · rw [if_pos k, if_pos k, if_pos k, k]; exact ⟨s1, s2, s3⟩
  · rw [if_neg k, if_neg k, if_neg k, o _ _ (by omega), o _ _ (by omega), o _ _ (by omega)]; exact a5 w (by omega)
theorem YD_per (h : YD D I) {b : Nat} : YD (aPers D b) (cu (cu I 160 (D 0 2) (nI b)) 144 23 (nI (D 0 2 + 1))) := by
  obtain ⟨⟨a0, a1, a2, a3, a4⟩, a5, a6, a7, a8, a9⟩ := h
  have e : ∀ a, a ≠ 0 → a ≠ 5 → aPers D b a = D a := fun a q1 q2 => by unfold aPers; rw [u2_n q1, u2_n q2]
  have e5 : aPers D b 5 = va_up (D 5) (D 0 2) b := by unfold aPers; rw [u2_n (by decide), u2_r]
  have e0 : aPers D b 0 = va_up (D 0) 2 (D 0 2 + 1) := by unfold aPers; rw [u2_r, u2_n (by decide)]
  have c0 : va_up (D 0) 2 (D 0 2 + 1) 0 = D 0 0 := rfl
  have c1 : va_up (D 0) 2 (D 0 2 + 1) 1 = D 0 1 := rfl
  have c2 : va_up (D 0) 2 (D 0 2 + 1) 2 = D 0 2 + 1 := rfl
  have c3 : va_up (D 0) 2 (D 0 2 + 1) 3 = D 0 3 := rfl
  have c4 : va_up (D 0) 2 (D 0 2 + 1) 4 = D 0 4 := rfl
  obtain ⟨J, hJ⟩ : ∃ J, J = cu (cu I 160 (D 0 2) (nI b)) 144 23 (nI (D 0 2 + 1)) := ⟨_, rfl⟩
  have o : ∀ i j, ¬ ((i = 160 ∧ j = D 0 2) ∨ (i = 144 ∧ j = 23)) → J i j = I i j := fun i j q => by rw [hJ, cu_o (by omega), cu_o (by omega)]
  have s1 : J 160 (D 0 2) = nI b := by rw [hJ, cu_o (by omega), cu_s]
  have s4 : J 144 23 = nI (D 0 2 + 1) := by rw [hJ, cu_s]
  rw [← hJ]
  unfold YD
  rw [e0, e 1 (by decide) (by decide), e 2 (by decide) (by decide), e 3 (by decide) (by decide), e 4 (by decide) (by decide), e5, e 6 (by decide) (by decide), e 7 (by decide) (by decide), c0, c1, c2, c3, c4]
  refine ⟨⟨by rw [o _ _ (by omega)]; exact a0, by rw [o _ _ (by omega)]; exact a1, s4, by rw [o _ _ (by omega)]; exact a3, by rw [o _ _ (by omega)]; exact a4⟩, fun w hw => by rw [o _ _ (by omega), o _ _ (by omega), o _ _ (by omega)]; exact a5 w hw, fun k hk => by rw [o _ _ (by omega)]; exact a6 k hk, fun w hw => by rw [o _ _ (by omega)]; exact a7 w hw, fun p hp => ?_, fun n hn => by rw [o _ _ (by omega), o _ _ (by omega), o _ _ (by omega), o _ _ (by omega)]; exact a9 n hn⟩
  rw [va_up]
  by_cases k : p = D 0 2
  · rw [if_pos k, k]; exact s1
  · rw [if_neg k, o _ _ (by omega)]; exact a8 p (by omega)
theorem YD_pt (h : YD D I) {w : Nat} : YD (u2 D 4 w 1) (cu I 159 w 1) := by
  obtain ⟨⟨a0, a1, a2, a3, a4⟩, a5, a6, a7, a8, a9⟩ := h
  have o : ∀ i j, ¬ (i = 159 ∧ j = w) → cu I 159 w 1 i j = I i j := fun i j q => cu_o (by omega)
  unfold YD
  rw [u2_n (a := 0) (by decide), u2_n (a := 1) (by decide), u2_n (a := 2) (by decide), u2_n (a := 3) (by decide), u2_r, u2_n (a := 5) (by decide), u2_n (a := 6) (by decide), u2_n (a := 7) (by decide)]
  refine ⟨⟨by rw [o _ _ (by omega)]; exact a0, by rw [o _ _ (by omega)]; exact a1, by rw [o _ _ (by omega)]; exact a2, by rw [o _ _ (by omega)]; exact a3, by rw [o _ _ (by omega)]; exact a4⟩, fun w hw => by rw [o _ _ (by omega), o _ _ (by omega), o _ _ (by omega)]; exact a5 w hw, fun k hk => by rw [o _ _ (by omega)]; exact a6 k hk, fun v hv => ?_, fun p hp => by rw [o _ _ (by omega)]; exact a8 p hp, fun n hn => by rw [o _ _ (by omega), o _ _ (by omega), o _ _ (by omega), o _ _ (by omega)]; exact a9 n hn⟩
  rw [va_up]
  by_cases k : v = w
  · rw [if_pos k, k, cu_s]; rfl
  · rw [if_neg k, o _ _ (by omega)]; exact a7 v hv
theorem YD_year (h : YD D I) (h0 : D 0 1 = 0) {v : Nat} : YD (u2 D 0 0 v) (cu I 144 21 (nI v)) := by
  obtain ⟨⟨a0, a1, a2, a3, a4⟩, a5, a6, a7, a8, a9⟩ := h
  have o : ∀ i j, ¬ (i = 144 ∧ j = 21) → cu I 144 21 (nI v) i j = I i j := fun i j q => cu_o (by omega)
  have c0 : va_up (D 0) 0 v 0 = v := rfl
  have c1 : va_up (D 0) 0 v 1 = D 0 1 := rfl
  have c2 : va_up (D 0) 0 v 2 = D 0 2 := rfl
  have c3 : va_up (D 0) 0 v 3 = D 0 3 := rfl
  have c4 : va_up (D 0) 0 v 4 = D 0 4 := rfl
  unfold YD
  rw [u2_r, u2_n (a := 1) (by decide), u2_n (a := 2) (by decide), u2_n (a := 3) (by decide), u2_n (a := 4) (by decide), u2_n (a := 5) (by decide), u2_n (a := 6) (by decide), u2_n (a := 7) (by decide), c0, c1, c2, c3, c4]
  exact ⟨⟨by rw [cu_s], by rw [o _ _ (by omega)]; exact a1, by rw [o _ _ (by omega)]; exact a2, by rw [o _ _ (by omega)]; exact a3, by rw [o _ _ (by omega)]; exact a4⟩, fun w hw => by rw [o _ _ (by omega), o _ _ (by omega), o _ _ (by omega)]; exact a5 w hw, fun k hk => by rw [o _ _ (by omega)]; exact a6 k hk, fun w hw => by rw [o _ _ (by omega)]; exact a7 w hw, fun p hp => by rw [o _ _ (by omega)]; exact a8 p hp, fun n hn => by rw [o _ _ (by omega), o _ _ (by omega), o _ _ (by omega), o _ _ (by omega)]; exact a9 n hn⟩
theorem YD_need (h : YD D I) {p w d v : Nat} : YD (aNeed D p w d v) (cu (cu (cu (cu (cu I 161 (4 * D 0 3) (nI p)) 161 (4 * D 0 3 + 1) (nI w)) 161 (4 * D 0 3 + 2) (nI d)) 161 (4 * D 0 3 + 3) (nI v)) 144 24 (nI (D 0 3 + 1))) := by
  obtain ⟨⟨a0, a1, a2, a3, a4⟩, a5, a6, a7, a8, a9⟩ := h
  have e : ∀ a, a ≠ 0 → a ≠ 6 → aNeed D p w d v a = D a := fun a q1 q2 => by unfold aNeed; rw [u2_n q1, u2_n q2, u2_n q2, u2_n q2, u2_n q2]
  have e6 : ∀ k, aNeed D p w d v 6 k = if k = 4 * D 0 3 + 3 then v else if k = 4 * D 0 3 + 2 then d else if k = 4 * D 0 3 + 1 then w else if k = 4 * D 0 3 then p else D 6 k := fun k => by
    unfold aNeed
    rw [u2_n (by decide), u2_r, u2_r, u2_r, u2_r]
    simp only [va_up]
  have e0 : aNeed D p w d v 0 = va_up (D 0) 3 (D 0 3 + 1) := by unfold aNeed; rw [u2_r, u2_n (by decide), u2_n (by decide), u2_n (by decide), u2_n (by decide)]
  have c0 : va_up (D 0) 3 (D 0 3 + 1) 0 = D 0 0 := rfl
  have c1 : va_up (D 0) 3 (D 0 3 + 1) 1 = D 0 1 := rfl
  have c2 : va_up (D 0) 3 (D 0 3 + 1) 2 = D 0 2 := rfl
  have c3 : va_up (D 0) 3 (D 0 3 + 1) 3 = D 0 3 + 1 := rfl
  have c4 : va_up (D 0) 3 (D 0 3 + 1) 4 = D 0 4 := rfl
  obtain ⟨J, hJ⟩ : ∃ J, J = cu (cu (cu (cu (cu I 161 (4 * D 0 3) (nI p)) 161 (4 * D 0 3 + 1) (nI w)) 161 (4 * D 0 3 + 2) (nI d)) 161 (4 * D 0 3 + 3) (nI v)) 144 24 (nI (D 0 3 + 1)) := ⟨_, rfl⟩
  have o : ∀ i j, ¬ ((i = 161 ∧ 4 * D 0 3 ≤ j ∧ j ≤ 4 * D 0 3 + 3) ∨ (i = 144 ∧ j = 24)) → J i j = I i j := fun i j q => by rw [hJ, cu_o (by omega), cu_o (by omega), cu_o (by omega), cu_o (by omega), cu_o (by omega)]
  have s0 : J 161 (4 * D 0 3) = nI p := by rw [hJ, cu_o (by omega), cu_o (by omega), cu_o (by omega), cu_o (by omega), cu_s]
  have s1 : J 161 (4 * D 0 3 + 1) = nI w := by rw [hJ, cu_o (by omega), cu_o (by omega), cu_o (by omega), cu_s]
  have s2 : J 161 (4 * D 0 3 + 2) = nI d := by rw [hJ, cu_o (by omega), cu_o (by omega), cu_s]
  have s3 : J 161 (4 * D 0 3 + 3) = nI v := by rw [hJ, cu_o (by omega), cu_s]
  have s4 : J 144 24 = nI (D 0 3 + 1) := by rw [hJ, cu_s]
  rw [← hJ]
  unfold YD
  rw [e0, e 1 (by decide) (by decide), e 2 (by decide) (by decide), e 3 (by decide) (by decide), e 4 (by decide) (by decide), e 5 (by decide) (by decide), e 7 (by decide) (by decide), c0, c1, c2, c3, c4]
  refine ⟨⟨by rw [o _ _ (by omega)]; exact a0, by rw [o _ _ (by omega)]; exact a1, by rw [o _ _ (by omega)]; exact a2, s4, by rw [o _ _ (by omega)]; exact a4⟩, fun w hw => by rw [o _ _ (by omega), o _ _ (by omega), o _ _ (by omega)]; exact a5 w hw, fun k hk => by rw [o _ _ (by omega)]; exact a6 k hk, fun w hw => by rw [o _ _ (by omega)]; exact a7 w hw, fun p hp => by rw [o _ _ (by omega)]; exact a8 p hp, fun n hn => ?_⟩
  rw [e6, e6, e6, e6]
  by_cases k : n = D 0 3
  · rw [k, if_neg (by omega), if_neg (by omega), if_neg (by omega), if_pos rfl, if_neg (by omega), if_neg (by omega), if_pos rfl, if_neg (by omega), if_pos rfl, if_pos rfl]
    exact ⟨s0, s1, s2, s3⟩
  · rw [if_neg (by omega), if_neg (by omega), if_neg (by omega), if_neg (by omega), if_neg (by omega), if_neg (by omega), if_neg (by omega), if_neg (by omega), if_neg (by omega), if_neg (by omega), if_neg (by omega), if_neg (by omega), if_neg (by omega), if_neg (by omega), if_neg (by omega), if_neg (by omega), o _ _ (by omega), o _ _ (by omega), o _ _ (by omega), o _ _ (by omega)]
    exact a9 n (by omega)
theorem YD_way (h : YD D I) {k S : Nat} (hk : k < 16) : YD (u2 (u2 D 3 k S) 0 4 (D 0 4 + 1)) (cu (cu I 158 k (nI S)) 144 25 (nI (D 0 4 + 1))) := by
  obtain ⟨⟨a0, a1, a2, a3, a4⟩, a5, a6, a7, a8, a9⟩ := h
  have e : ∀ a, a ≠ 0 → a ≠ 3 → u2 (u2 D 3 k S) 0 4 (D 0 4 + 1) a = D a := fun a q1 q2 => by rw [u2_n q1, u2_n q2]
  have e3 : u2 (u2 D 3 k S) 0 4 (D 0 4 + 1) 3 = va_up (D 3) k S := by rw [u2_n (by decide), u2_r]
  have e0 : u2 (u2 D 3 k S) 0 4 (D 0 4 + 1) 0 = va_up (D 0) 4 (D 0 4 + 1) := by rw [u2_r, u2_n (by decide)]
  have c0 : va_up (D 0) 4 (D 0 4 + 1) 0 = D 0 0 := rfl
  have c1 : va_up (D 0) 4 (D 0 4 + 1) 1 = D 0 1 := rfl
  have c2 : va_up (D 0) 4 (D 0 4 + 1) 2 = D 0 2 := rfl
  have c3 : va_up (D 0) 4 (D 0 4 + 1) 3 = D 0 3 := rfl
  have c4 : va_up (D 0) 4 (D 0 4 + 1) 4 = D 0 4 + 1 := rfl
  obtain ⟨J, hJ⟩ : ∃ J, J = cu (cu I 158 k (nI S)) 144 25 (nI (D 0 4 + 1)) := ⟨_, rfl⟩
  have o : ∀ i j, ¬ ((i = 158 ∧ j = k) ∨ (i = 144 ∧ j = 25)) → J i j = I i j := fun i j q => by rw [hJ, cu_o (by omega), cu_o (by omega)]
  have s1 : J 158 k = nI S := by rw [hJ, cu_o (by omega), cu_s]
  have s4 : J 144 25 = nI (D 0 4 + 1) := by rw [hJ, cu_s]
  rw [← hJ]
  unfold YD
  rw [e0, e 1 (by decide) (by decide), e 2 (by decide) (by decide), e3, e 4 (by decide) (by decide), e 5 (by decide) (by decide), e 6 (by decide) (by decide), e 7 (by decide) (by decide), c0, c1, c2, c3, c4]
  refine ⟨⟨by rw [o _ _ (by omega)]; exact a0, by rw [o _ _ (by omega)]; exact a1, by rw [o _ _ (by omega)]; exact a2, by rw [o _ _ (by omega)]; exact a3, s4⟩, fun w hw => by rw [o _ _ (by omega), o _ _ (by omega), o _ _ (by omega)]; exact a5 w hw, fun j hj => ?_, fun w hw => by rw [o _ _ (by omega)]; exact a7 w hw, fun p hp => by rw [o _ _ (by omega)]; exact a8 p hp, fun n hn => by rw [o _ _ (by omega), o _ _ (by omega), o _ _ (by omega), o _ _ (by omega)]; exact a9 n hn⟩
  rw [va_up]
  by_cases q : j = k
  · rw [if_pos q, q]; exact s1
  · rw [if_neg q, o _ _ (by omega)]; exact a6 j hj
theorem Y_numF (hB : GB B tw s u) (hT : TYt tl X I) {q : Nat × Nat} (hC : RS (some q) 0 I) (hh : hi = nI n - 1) (hlo : lo < 1000) (hn : n < 1000) : ∃ y I', f_X9_number 144 (nI lo) hi (zI B I) = some (y, zI B I') ∧ RS (some q) 0 I' ∧ TYt tl X I' ∧ ∀ i j, ¬ (i = 144 ∧ 17 ≤ j ∧ j ≤ 19) → I' i j = I i j := by
  obtain ⟨y, I', g1, g2, -, g4⟩ := Y_num hB hT (Nat.zero_le tl) hC hh hlo hn
  exact ⟨y, I', g1, g2, hT.fr (fun i j q => g4 i j (by omega)), g4⟩
theorem Y_endF (hB : GB B tw s u) (hT : TYt tl X I) {q : Nat × Nat} (hC : RS (some q) 0 I) : ∃ I', f_X9_end 144 (zI B I) = some (zI B I') ∧ RS (some q) 0 I' ∧ ∀ i j, ¬ (i = 144 ∧ 17 ≤ j ∧ j ≤ 19) → I' i j = I i j := by
  obtain ⟨I', g1, g2, g4⟩ := Y_end hB hT (Nat.zero_le tl) hC
  rw [pE_s] at g2
  exact ⟨I', g1, g2, g4⟩
end YCL
