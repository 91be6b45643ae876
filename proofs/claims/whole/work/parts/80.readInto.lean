/-! the clauses keep the town; the text, read by the class -/
theorem u2_r {D : Nat → Nat → Nat} {i k v : Nat} : u2 D i k v i = va_up (D i) k v := by unfold u2; rw [va_up, if_pos rfl]
theorem u2_n {D : Nat → Nat → Nat} {i k v a : Nat} (h : a ≠ i) : u2 D i k v a = D a := by unfold u2; rw [va_up, if_neg h]
theorem nz_o {f g : Nat → Nat} : ∀ m i, (∀ j, i ≤ j → f j = g j) → nz f m i = nz g m i := by
  intro m
  induction m with
  | zero => intro i h; rfl
  | succ m ih => intro i h; rw [nz, nz, h i (Nat.le_refl i), ih (i + 1) (fun j hj => h j (by omega))]
theorem nz_up {f : Nat → Nat} {k v : Nat} (h0 : f k = 0) (hv : v ≠ 0) : ∀ m i, i ≤ k → k < i + m → nz (va_up f k v) m i = nz f m i + 1 := by
  intro m
  induction m with
  | zero => intro i h1 h2; omega
  | succ m ih =>
    intro i h1 h2
    rw [nz, nz]
    by_cases e : i = k
    · rw [e, nz_o m (k + 1) (g := f) (fun j hj => by rw [va_up, if_neg (by omega)]), va_up, if_pos rfl, if_neg hv, h0, if_pos rfl]
      omega
    · rw [ih (i + 1) (by omega) (by omega), va_up, if_neg e]
      omega
def D0 : Nat → Nat → Nat := fun _ _ => 0
theorem SD_0 : SD D0 := by
  unfold SD TI D0
  refine ⟨⟨by omega, by omega, by omega, by omega, by omega, fun _ => by omega, fun _ => by omega, fun _ _ => by omega, fun n hn => by omega, fun w hw => by omega⟩, by omega, rfl, fun w hw => by omega, fun _ => ⟨rfl, rfl⟩, fun _ _ => rfl⟩
theorem SD_way {D : Nat → Nat → Nat} (h : SD D) {w S : Nat} (hw : w < 8) (h0 : 1 ≤ S) (hS : S < 256) (h10 : D 0 4 < 10) : SD (aWay D w S) := by
  have main : ∀ k, k < 16 → D 3 k = 0 → SD (u2 (u2 D 3 k S) 0 4 (D 0 4 + 1)) := by
    intro k hk k0
    obtain ⟨⟨y0, y1, y2, y3, y4, y5, y6, y7, y8, y9⟩, z1, z2, z3, z4, z5⟩ := h
    have e : ∀ a, a ≠ 0 → a ≠ 3 → u2 (u2 D 3 k S) 0 4 (D 0 4 + 1) a = D a := fun a q1 q2 => by rw [u2_n q1, u2_n q2]
    have e3 : u2 (u2 D 3 k S) 0 4 (D 0 4 + 1) 3 = va_up (D 3) k S := by rw [u2_n (by decide), u2_r]
    have e0 : u2 (u2 D 3 k S) 0 4 (D 0 4 + 1) 0 = va_up (D 0) 4 (D 0 4 + 1) := by rw [u2_r, u2_n (by decide)]
    have c0 : va_up (D 0) 4 (D 0 4 + 1) 0 = D 0 0 := rfl
    have c1 : va_up (D 0) 4 (D 0 4 + 1) 1 = D 0 1 := rfl
    have c2 : va_up (D 0) 4 (D 0 4 + 1) 2 = D 0 2 := rfl
    have c3 : va_up (D 0) 4 (D 0 4 + 1) 3 = D 0 3 := rfl
    have c4 : va_up (D 0) 4 (D 0 4 + 1) 4 = D 0 4 + 1 := rfl
    unfold SD TI
    rw [e0, e 1 (by decide) (by decide), e 2 (by decide) (by decide), e3, e 4 (by decide) (by decide), e 5 (by decide) (by decide), e 6 (by decide) (by decide), e 7 (by decide) (by decide), c0, c1, c2, c3, c4, nz_up k0 (by omega) 16 0 (by omega) (by omega)]
    refine ⟨⟨y0, y1, y2, y3, by omega, y5, y6, fun j hj => ?_, y8, y9⟩, by omega, by omega, z3, z4, z5⟩
    rw [va_up]
    split
    · exact hS
    · exact y7 j hj
  unfold aWay
  split
  · exact main _ (by omega) (by assumption)
  · split
    · exact main _ (by omega) (by assumption)
    · exact h
theorem SD_pt {D : Nat → Nat → Nat} (h : SD D) {w : Nat} : SD (u2 D 4 w 1) := by
  obtain ⟨⟨y0, y1, y2, y3, y4, y5, y6, y7, y8, y9⟩, z1, z2, z3, z4, z5⟩ := h
  unfold SD TI
  rw [u2_n (a := 0) (by decide), u2_n (a := 1) (by decide), u2_n (a := 2) (by decide), u2_n (a := 3) (by decide), u2_r, u2_n (a := 5) (by decide), u2_n (a := 6) (by decide), u2_n (a := 7) (by decide)]
  refine ⟨⟨y0, y1, y2, y3, y4, fun v => ?_, y6, y7, y8, y9⟩, z1, z2, z3, z4, z5⟩
  rw [va_up]
  split
  · exact Nat.le_refl 1
  · exact y5 v
theorem SD_per {D : Nat → Nat → Nat} (h : SD D) {b : Nat} (hb : b ≤ 1) (hn : D 0 2 < 5) (hd : D 0 0 ≠ 0) : SD (aPers D b) := by
  obtain ⟨⟨y0, y1, y2, y3, y4, y5, y6, y7, y8, y9⟩, z1, z2, z3, z4, z5⟩ := h
  have e : ∀ a, a ≠ 0 → a ≠ 5 → aPers D b a = D a := fun a q1 q2 => by unfold aPers; rw [u2_n q1, u2_n q2]
  have e5 : aPers D b 5 = va_up (D 5) (D 0 2) b := by unfold aPers; rw [u2_n (by decide), u2_r]
  have e0 : aPers D b 0 = va_up (D 0) 2 (D 0 2 + 1) := by unfold aPers; rw [u2_r, u2_n (by decide)]
  have c0 : va_up (D 0) 2 (D 0 2 + 1) 0 = D 0 0 := rfl
  have c1 : va_up (D 0) 2 (D 0 2 + 1) 1 = D 0 1 := rfl
  have c2 : va_up (D 0) 2 (D 0 2 + 1) 2 = D 0 2 + 1 := rfl
  have c3 : va_up (D 0) 2 (D 0 2 + 1) 3 = D 0 3 := rfl
  have c4 : va_up (D 0) 2 (D 0 2 + 1) 4 = D 0 4 := rfl
  unfold SD TI
  rw [e0, e 1 (by decide) (by decide), e 2 (by decide) (by decide), e 3 (by decide) (by decide), e 4 (by decide) (by decide), e5, e 6 (by decide) (by decide), e 7 (by decide) (by decide), c0, c1, c2, c3, c4]
  refine ⟨⟨y0, y1, by omega, y3, y4, y5, fun p => ?_, y7, fun n q => ?_, y9⟩, z1, z2, z3, fun q => absurd q hd, fun p q => ?_⟩
  · rw [va_up]
    split
    · exact hb
    · exact y6 p
  · have := y8 n q
    exact ⟨by omega, this.2⟩
  · rw [va_up, if_neg (by omega)]
    exact z5 p (by omega)
theorem SD_word {D : Nat → Nat → Nat} (h : SD D) {l c r : Nat} (hl : l ≤ 99) (hc : 1 ≤ c) (hc2 : c ≤ 99) (hr : r ≤ 9) (hn : D 0 1 < 8) (hd : D 0 0 ≠ 0) : SD (aWord D l c r) := by
  obtain ⟨⟨y0, y1, y2, y3, y4, y5, y6, y7, y8, y9⟩, z1, z2, z3, z4, z5⟩ := h
  have e : ∀ a, a ≠ 0 → a ≠ 1 → a ≠ 2 → a ≠ 7 → aWord D l c r a = D a := fun a q0 q1 q2 q7 => by unfold aWord; rw [u2_n q0, u2_n q2, u2_n q1, u2_n q7]
  have e1 : aWord D l c r 1 = va_up (D 1) (D 0 1) c := by unfold aWord; rw [u2_n (by decide), u2_n (by decide), u2_r, u2_n (by decide)]
  have e2 : aWord D l c r 2 = va_up (D 2) (D 0 1) r := by unfold aWord; rw [u2_n (by decide), u2_r, u2_n (by decide), u2_n (by decide)]
  have e7 : aWord D l c r 7 = va_up (D 7) (D 0 1) l := by unfold aWord; rw [u2_n (by decide), u2_n (by decide), u2_n (by decide), u2_r]
  have e0 : aWord D l c r 0 = va_up (D 0) 1 (D 0 1 + 1) := by unfold aWord; rw [u2_r, u2_n (by decide), u2_n (by decide), u2_n (by decide)]
  have c0 : va_up (D 0) 1 (D 0 1 + 1) 0 = D 0 0 := rfl
  have c1 : va_up (D 0) 1 (D 0 1 + 1) 1 = D 0 1 + 1 := rfl
  have c2 : va_up (D 0) 1 (D 0 1 + 1) 2 = D 0 2 := rfl
  have c3 : va_up (D 0) 1 (D 0 1 + 1) 3 = D 0 3 := rfl
  have c4 : va_up (D 0) 1 (D 0 1 + 1) 4 = D 0 4 := rfl
  unfold SD TI
  rw [e0, e1, e2, e 3 (by decide) (by decide) (by decide) (by decide), e 4 (by decide) (by decide) (by decide) (by decide), e 5 (by decide) (by decide) (by decide) (by decide), e 6 (by decide) (by decide) (by decide) (by decide), e7, c0, c1, c2, c3, c4]
  refine ⟨⟨y0, by omega, y2, y3, y4, y5, y6, y7, fun n q => ?_, fun w q => ?_⟩, z1, z2, fun w q => ?_, fun q => absurd q hd, z5⟩
  · have := y8 n q
    exact ⟨this.1, by omega, this.2.2⟩
  · rw [va_up, va_up]
    by_cases k : w = D 0 1
    · rw [if_pos k, if_pos k]; exact ⟨hc2, hc, hr⟩
    · rw [if_neg k, if_neg k]; exact y9 w (by omega)
  · rw [va_up]
    by_cases k : w = D 0 1
    · rw [if_pos k]; exact hl
    · rw [if_neg k]; exact z3 w (by omega)
theorem SD_year {D : Nat → Nat → Nat} (h : SD D) {v : Nat} (h0 : D 0 0 = 0) (hv : 1 ≤ v) (hv9 : v ≤ 99) : SD (u2 D 0 0 v) := by
  obtain ⟨⟨y0, y1, y2, y3, y4, y5, y6, y7, y8, y9⟩, z1, z2, z3, z4, z5⟩ := h
  have c0 : va_up (D 0) 0 v 0 = v := rfl
  have c1 : va_up (D 0) 0 v 1 = D 0 1 := rfl
  have c2 : va_up (D 0) 0 v 2 = D 0 2 := rfl
  have c3 : va_up (D 0) 0 v 3 = D 0 3 := rfl
  have c4 : va_up (D 0) 0 v 4 = D 0 4 := rfl
  unfold SD TI
  rw [u2_r, u2_n (a := 1) (by decide), u2_n (a := 2) (by decide), u2_n (a := 3) (by decide), u2_n (a := 4) (by decide), u2_n (a := 5) (by decide), u2_n (a := 6) (by decide), u2_n (a := 7) (by decide), c0, c1, c2, c3, c4]
  refine ⟨⟨hv9, y1, y2, y3, y4, y5, y6, y7, fun n q => ?_, y9⟩, z1, z2, z3, fun q => by omega, z5⟩
  have := y8 n q
  have := z4 h0
  omega
theorem SD_need {D : Nat → Nat → Nat} (h : SD D) {p w d v : Nat} (hp : p < D 0 2) (hw : w < D 0 1) (hd : d < D 0 0) (hv : v ≤ 99) (hn : D 0 3 < 8) : SD (aNeed D p w d v) := by
  obtain ⟨⟨y0, y1, y2, y3, y4, y5, y6, y7, y8, y9⟩, z1, z2, z3, z4, z5⟩ := h
  have e : ∀ a, a ≠ 0 → a ≠ 6 → aNeed D p w d v a = D a := fun a q1 q2 => by unfold aNeed; rw [u2_n q1, u2_n q2, u2_n q2, u2_n q2, u2_n q2]
  have e6 : ∀ k, aNeed D p w d v 6 k = if k = 4 * D 0 3 + 3 then v else if k = 4 * D 0 3 + 2 then d else if k = 4 * D 0 3 + 1 then w else if k = 4 * D 0 3 then p else D 6 k := fun k => by
    unfold aNeed
    rw [u2_n (by decide), u2_r, u2_r, u2_r, u2_r]
    simp only [va_up]
  have e0 : aNeed D p w d v 0 = va_up (D 0) 3 (D 0 3 + 1) := by unfold aNeed; rw [u2_r, u2_n (by decide), u2_n (by decide), u2_n (by decide), u2_n (by decide)]
  have c0 : va_up (D 0) 3 (D 0 3 + 1) 0 = D 0 0 := rfl
  have c1 : va_up (D 0) 3 (D 0 3 + 1) 1 = D 0 1 := rfl
  have c2 : va_up (D 0) 3 (D 0 3 + 1) 2 = D 0 2 := rfl
  have c3 : va_up (D 0) 3 (D 0 3 + 1) 3 = D 0 3 + 1 := rfl
  have c4 : va_up (D 0) 3 (D 0 3 + 1) 4 = D 0 4 := rfl
  unfold SD TI
  rw [e0, e 1 (by decide) (by decide), e 2 (by decide) (by decide), e 3 (by decide) (by decide), e 4 (by decide) (by decide), e 5 (by decide) (by decide), e 7 (by decide) (by decide), c0, c1, c2, c3, c4]
  refine ⟨⟨y0, y1, y2, by omega, y4, y5, y6, y7, fun n q => ?_, y9⟩, z1, z2, z3, z4, z5⟩
  rw [e6, e6, e6, e6]
  by_cases k : n = D 0 3
  · rw [k, if_neg (by omega), if_neg (by omega), if_neg (by omega), if_pos rfl, if_neg (by omega), if_neg (by omega), if_pos rfl, if_neg (by omega), if_pos rfl, if_pos rfl]
    exact ⟨hp, hw, hd, hv⟩
  · rw [if_neg (by omega), if_neg (by omega), if_neg (by omega), if_neg (by omega), if_neg (by omega), if_neg (by omega), if_neg (by omega), if_neg (by omega), if_neg (by omega), if_neg (by omega), if_neg (by omega), if_neg (by omega), if_neg (by omega), if_neg (by omega), if_neg (by omega), if_neg (by omega)]
    exact y8 n (by omega)
section CLT
variable {B : zM} {tw s u t tl a lo n : Nat} {X : Nat → Nat} {D : Nat → Nat → Nat} {I : Nat → Nat → Int32} {st : PSt}
theorem fnP_z {c : Nat} (h : fnP D c = 0) : (c = 121 ∧ D 0 0 = 0) ∨ (¬ c = 121 ∧ ¬ D 0 0 = 0 ∧ ((c = 97 ∧ D 0 4 < 10) ∨ (c = 110 ∧ D 0 3 < 8) ∨ c = 111 ∨ (c = 112 ∧ D 0 2 < 5) ∨ (c = 119 ∧ D 0 1 < 8))) := by
  unfold fnP at h
  repeat' split at h
  all_goals first | exact absurd h (by decide) | omega
theorem pE_ok (h : (pE X tl st a).1 = none) : st = none := by
  unfold pE at h
  split at h
  · exact h
  · exact absurd h pO_n
theorem SD_cl (hS : SD D) (h : (clP X tl D a).1 = none) : SD (clP X tl D a).2.2 := by
  unfold clP at h ⊢
  by_cases kf : fnP D (X a) = 0
  · rw [if_pos kf] at h ⊢
    have hb : (bdP X tl D (X a) (a + 1)).1 = none := pE_ok h
    show SD (bdP X tl D (X a) (a + 1)).2.2
    have y1 := hS.1.2.1
    clear h
    unfold bdP at hb ⊢
    rcases fnP_z kf with ⟨k1, k2⟩ | ⟨k0, k2, ⟨k1, k3⟩ | ⟨k1, k3⟩ | k1 | ⟨k1, k3⟩ | ⟨k1, k3⟩⟩
    · rw [k1] at hb ⊢
      rw [if_neg (by decide), if_neg (by decide), if_neg (by decide), if_neg (by decide), if_pos rfl] at hb ⊢
      have q := pNum_ok (show (pNum X tl none 1 100 (a + 1)).1 = none from hb)
      exact SD_year hS k2 q.2.1 (by omega)
    · rw [k1, if_pos rfl] at hb ⊢
      unfold bA at hb ⊢
      generalize hn1 : pNum X tl none 0 (D 0 1) (a + 1) = n1 at hb ⊢
      generalize hn2 : pNum X tl (sA D n1) 1 256 n1.2.2.1 = n2 at hb ⊢
      have q2 : sA2 D n1.2.1 n2 = none := hb
      have m2 : n2.1 = none := by
        unfold sA2 at q2
        split at q2
        · exact q2
        · exact absurd q2 pO_n
      have r2 := pNum_ok (show (pNum X tl (sA D n1) 1 256 n1.2.2.1).1 = none by rw [hn2]; exact m2)
      rw [hn2] at r2
      have m1 : n1.1 = none := by
        have := r2.1
        unfold sA at this
        split at this
        · exact this
        · exact absurd this pO_n
      have r1 := pNum_ok (show (pNum X tl none 0 (D 0 1) (a + 1)).1 = none by rw [hn1]; exact m1)
      rw [hn1] at r1
      exact SD_way hS (by omega) r2.2.1 r2.2.2 k3
    · rw [k1] at hb ⊢
      rw [if_neg (by decide), if_neg (by decide), if_neg (by decide), if_neg (by decide), if_neg (by decide)] at hb ⊢
      unfold bN at hb ⊢
      generalize hn1 : pNum X tl none 0 (D 0 2) (a + 1) = n1 at hb ⊢
      generalize hn2 : pNum X tl n1.1 0 (D 0 1) n1.2.2.1 = n2 at hb ⊢
      unfold bN2 at hb ⊢
      generalize hn3 : pNum X tl n2.1 0 (D 0 0) n2.2.2.1 = n3 at hb ⊢
      unfold bN3 at hb ⊢
      generalize hn4 : pNum X tl n3.1 0 100 n3.2.2.1 = n4 at hb ⊢
      have r4 := pNum_ok (show (pNum X tl n3.1 0 100 n3.2.2.1).1 = none by rw [hn4]; exact hb)
      have r3 := pNum_ok (show (pNum X tl n2.1 0 (D 0 0) n2.2.2.1).1 = none by rw [hn3]; exact r4.1)
      have r2 := pNum_ok (show (pNum X tl n1.1 0 (D 0 1) n1.2.2.1).1 = none by rw [hn2]; exact r3.1)
      have r1 := pNum_ok (show (pNum X tl none 0 (D 0 2) (a + 1)).1 = none by rw [hn1]; exact r2.1)
      rw [hn4] at r4
      rw [hn3] at r3
      rw [hn2] at r2
      rw [hn1] at r1
      exact SD_need hS r1.2.2 r2.2.2 r3.2.2 (by omega) k3
    · rw [k1] at hb ⊢
      rw [if_neg (by decide), if_pos rfl]
      exact SD_pt hS
    · rw [k1] at hb ⊢
      rw [if_neg (by decide), if_neg (by decide), if_pos rfl] at hb ⊢
      have q := pNum_ok (show (pNum X tl none 0 2 (a + 1)).1 = none from hb)
      exact SD_per hS (by omega) k3 k2
    · rw [k1] at hb ⊢
      rw [if_neg (by decide), if_neg (by decide), if_neg (by decide), if_pos rfl] at hb ⊢
      unfold bW at hb ⊢
      generalize hn1 : pNum X tl none 0 100 (a + 1) = n1 at hb ⊢
      generalize hn2 : pNum X tl n1.1 1 100 n1.2.2.1 = n2 at hb ⊢
      unfold bW2 at hb ⊢
      generalize hn3 : pNum X tl n2.1 0 10 n2.2.2.1 = n3 at hb ⊢
      have r3 := pNum_ok (show (pNum X tl n2.1 0 10 n2.2.2.1).1 = none by rw [hn3]; exact hb)
      have r2 := pNum_ok (show (pNum X tl n1.1 1 100 n1.2.2.1).1 = none by rw [hn2]; exact r3.1)
      have r1 := pNum_ok (show (pNum X tl none 0 100 (a + 1)).1 = none by rw [hn1]; exact r2.1)
      rw [hn3] at r3
      rw [hn2] at r2
      rw [hn1] at r1
      exact SD_word hS (by omega) r2.2.1 (by omega) (by omega) k3 k2
  · rw [if_neg kf] at h
    exact absurd h (by simp)
/-- the text, all of it, from a, at most m clauses -/
def pL (X : Nat → Nat) (tl : Nat) : Nat → (Nat → Nat → Nat) → Nat → PSt × (Nat → Nat → Nat)
  | 0, D, _ => (none, D)
  | m + 1, D, a => if a < tl then (if (clP X tl D a).1 = none then pL X tl m (clP X tl D a).2.2 (sk X tl (clP X tl D a).2.1) else ((clP X tl D a).1, D)) else (none, D)
theorem X_ri_lp (hB : GB B tw s u) (ht : isTw B t) (ht3 : t = 13 ∨ t = 4) : ∀ m n a k D I, tl - a ≤ m → m < n → k ≤ a → a ≤ tl → TXt tl X I → CS none a I → SD D → XD t D I → ∃ b I', L_X6_readInto_25 n 2 t (nI k) (zI B I) = some (zI B I') ∧ CS (pL X tl m D a).1 b I' ∧ ((pL X tl m D a).1 = none → SD (pL X tl m D a).2 ∧ XD t (pL X tl m D a).2 I') ∧ ∀ i j, ¬ ((i = 2 ∧ 2 ≤ j) ∨ (t ≤ i ∧ i ≤ t + 8)) → I' i j = I i j := by
  obtain ⟨-, k2, -⟩ := hB.tx
  intro m
  induction m with
  | zero =>
    intro n a k D I ha hn hk hal hT hC hS h
    obtain ⟨n, rfl⟩ := Nat.exists_eq_succ_of_ne_zero (show n ≠ 0 by omega)
    refine ⟨a, I, ?_, hC, fun _ => ⟨hS, h⟩, fun _ _ _ => rfl⟩
    have htl := hT.1
    have c1 : nI tl ≤ nI a := (nI_leI (by omega) (by omega)).mpr (by omega)
    rw [L_X6_readInto_25]
    by_cases q : 240 ≤ nI k
    · rw [if_pos q]
    · rw [if_neg q]
      simp only [oI_eq, k2, cond_true, Option.bind_some, hC.1.1, if_pos, hT.2.1, hC.2, c1]
  | succ m ih =>
    intro n a k D I ha hn hk hal hT hC hS h
    obtain ⟨n, rfl⟩ := Nat.exists_eq_succ_of_ne_zero (show n ≠ 0 by omega)
    have htl := hT.1
    rw [pL]
    by_cases e : a < tl
    · rw [if_pos e]
      have c1 : ¬ nI tl ≤ nI a := fun q => absurd ((nI_leI (by omega) (by omega)).mp q) (by omega)
      have c2 : ¬ 240 ≤ nI k := fun q => absurd ((nI_leI (a := 240) (by omega) (by omega)).mp q) (by omega)
      obtain ⟨J, g1, g2, g3, g4, g5, g6⟩ := X_rc hB ht ht3 hT e hC hS h
      have T1 : TXt tl X J := hT.fr (fun i j q => g6 i j (by clear ht; omega))
      obtain ⟨J2, v1, v2, v3⟩ := X_skip hB T1 g5 g2.2
      have hs := sk_b (X := X) g5
      have step : L_X6_readInto_25 (n + 1) 2 t (nI k) (zI B I) = L_X6_readInto_25 n 2 t (nI (k + 1)) (zI B J2) := by
        simp only [L_X6_readInto_25, if_neg c2, oI_eq, k2, cond_true, Option.bind_some, hC.1.1, if_pos, hT.2.1, hC.2, if_neg c1, zac_zI, g1, v1, nI_1]
      by_cases kn : (clP X tl D a).1 = none
      · rw [if_pos kn]
        have C2 : CS none (sk X tl (clP X tl D a).2.1) J2 := by
          rw [kn] at g2
          exact ⟨⟨by rw [v3 2 2 (by clear ht; omega)]; exact g2.1.1, by rw [v3 2 3 (by clear ht; omega)]; exact g2.1.2⟩, v2⟩
        have := g4 kn
        obtain ⟨b, I', w1, w2, w3, w4⟩ := ih n (sk X tl (clP X tl D a).2.1) (k + 1) (clP X tl D a).2.2 J2 (by clear ht; omega) (by clear ht; omega) (by clear ht; omega) hs.2 (T1.fr (fun i j q => v3 i j (by clear ht; omega))) C2 (SD_cl hS kn) ((g3 kn).fr (by clear ht; omega) (fun i j q => v3 i j (by clear ht; omega)))
        exact ⟨b, I', by rw [step, w1], w2, w3, fun i j q => by rw [w4 i j q, v3 i j (by clear ht; omega), g6 i j q]⟩
      · rw [if_neg kn]
        obtain ⟨q, hq⟩ : ∃ q, (clP X tl D a).1 = some q := by
          cases hh : (clP X tl D a).1 with
          | none => exact absurd hh kn
          | some q => exact ⟨q, rfl⟩
        have C2 : CS (clP X tl D a).1 (sk X tl (clP X tl D a).2.1) J2 := by
          rw [hq] at g2 ⊢
          exact ⟨⟨by rw [v3 2 2 (by clear ht; omega)]; exact g2.1.1, by rw [v3 2 3 (by clear ht; omega)]; exact g2.1.2.1, g2.1.2.2⟩, v2⟩
        refine ⟨_, J2, ?_, C2, fun qq => absurd qq kn, fun i j q => by rw [v3 i j (by clear ht; omega), g6 i j q]⟩
        rw [step]
        obtain ⟨n, rfl⟩ := Nat.exists_eq_succ_of_ne_zero (show n ≠ 0 by omega)
        rw [L_X6_readInto_25]
        have f0 : ¬ J2 2 2 = 0 := by
          rw [hq] at C2
          have := C2.1.1
          have := C2.1.2.2
          rw [C2.1.1]
          exact fun qq => absurd ((nI_z (by omega)).mp qq) (by omega)
        by_cases q : 240 ≤ nI (k + 1)
        · rw [if_pos q]
        · rw [if_neg q]
          simp only [oI_eq, k2, cond_true, Option.bind_some, if_neg f0]
    · rw [if_neg e]
      refine ⟨a, I, ?_, hC, fun _ => ⟨hS, h⟩, fun _ _ _ => rfl⟩
      have c1 : nI tl ≤ nI a := (nI_leI (by omega) (by omega)).mpr (by omega)
      rw [L_X6_readInto_25]
      by_cases q : 240 ≤ nI k
      · rw [if_pos q]
      · rw [if_neg q]
        simp only [oI_eq, k2, cond_true, Option.bind_some, hC.1.1, if_pos, hT.2.1, hC.2, c1]
theorem X_clr_lp (ht : isTw B t) : ∀ m k n I, k + m = 16 → m < n → (∀ j, j < k → I (t + 4) j = 0) → ∃ I', L_X7_clear_37 n t (nI k) (zI B I) = some (zI B I') ∧ (∀ j, j < 16 → I' (t + 4) j = 0) ∧ ∀ i j, i ≠ t + 4 → I' i j = I i j := by
  obtain ⟨t1, t2, t3, -, -, -, m10, -, -, -, -, l4, -, -, -, n4, -, -, -, -, a4, -⟩ := TWf ht
  clear ht
  intro m
  induction m with
  | zero =>
    intro k n I hk hn h
    obtain ⟨n, rfl⟩ := Nat.exists_eq_succ_of_ne_zero (show n ≠ 0 by omega)
    refine ⟨I, ?_, fun j hj => h j (by omega), fun _ _ _ => rfl⟩
    have c1 : nI 16 ≤ nI k := (nI_leI (by omega) (by omega)).mpr (by omega)
    simp only [L_X7_clear_37, oR_eq, t3, m10, cond_true, Option.bind_some, a4, if_pos c1]
  | succ m ih =>
    intro k n I hk hn h
    obtain ⟨n, rfl⟩ := Nat.exists_eq_succ_of_ne_zero (show n ≠ 0 by omega)
    have c1 : ¬ nI 16 ≤ nI k := fun q => absurd ((nI_leI (by omega) (by omega)).mp q) (by omega)
    obtain ⟨J, hJ⟩ : ∃ J, J = cu I (t + 4) k 0 := ⟨_, rfl⟩
    have s1 : sI (zI B I) (t + 4) (nI k) 0 = some (zI B J) := by rw [sI_cu (by omega) (by rw [n4]; omega), hJ]
    obtain ⟨I', g1, g2, g3⟩ := ih (k + 1) n J (by omega) (by omega) (fun j hj => by
      rw [hJ]
      by_cases e : j = k
      · rw [e, cu_s]
      · rw [cu_o (by omega)]; exact h j (by omega))
    refine ⟨I', ?_, g2, fun i j q => by rw [g3 i j q, hJ, cu_o (by omega)]⟩
    simp only [L_X7_clear_37, oR_eq, t3, m10, cond_true, Option.bind_some, a4, if_neg c1, s1, nI_1, g1]
theorem X_clr (ht : isTw B t) : ∃ I', f_X7_clear t (zI B I) = some (zI B I') ∧ XD t D0 I' ∧ ∀ i j, ¬ (t ≤ i ∧ i ≤ t + 8) → I' i j = I i j := by
  have hl := fun I => X_clr_lp ht 16 0 zN I (by omega) (by unfold zN; omega) (fun j hj => absurd hj (by omega))
  obtain ⟨t1, t2, t3, -, -, -, m10, -, -, -, -, l4, -, -, -, n4, -, -, -, -, a4, -⟩ := TWf ht
  clear ht
  obtain ⟨J, hJ⟩ : ∃ J, J = cu (cu (cu (cu (cu (cu (cu I t 0 0) t 1 0) t 2 0) t 3 0) t 4 0) t 5 0) t 6 0 := ⟨_, rfl⟩
  have oJ : ∀ i j, i ≠ t → J i j = I i j := fun i j q => by rw [hJ, cu_o (by omega), cu_o (by omega), cu_o (by omega), cu_o (by omega), cu_o (by omega), cu_o (by omega), cu_o (by omega)]
  have zJ : ∀ j, j < 7 → J t j = 0 := fun j hj => by
    rcases (show j = 0 ∨ j = 1 ∨ j = 2 ∨ j = 3 ∨ j = 4 ∨ j = 5 ∨ j = 6 by omega) with rfl | rfl | rfl | rfl | rfl | rfl | rfl
    all_goals rw [hJ]
    all_goals repeat (first | rw [cu_s] | rw [cu_o (by omega)])
  obtain ⟨I', g1, g2, g3⟩ := hl J
  have zT : ∀ j, j < 7 → I' t j = 0 := fun j hj => by rw [g3 t j (by omega)]; exact zJ j hj
  refine ⟨I', ?_, ⟨⟨⟨zT 0 (by omega), zT 1 (by omega), zT 2 (by omega), zT 3 (by omega), zT 4 (by omega), zT 5 (by omega), zT 6 (by omega)⟩, fun w hw => absurd hw (by unfold D0; omega), fun k hk => g2 k hk, fun n hn => absurd hn (by unfold D0; omega)⟩, fun w hw => absurd hw (by unfold D0; omega)⟩, fun i j q => by rw [g3 i j (by omega), oJ i j (by omega)]⟩
  rw [show nI 0 = (0 : Int32) from rfl] at g1
  simp only [f_X7_clear, t1, t3, pI_cu, cond_true, Option.bind_some, ← hJ, g1]
theorem X_ri (hB : GB B tw s u) (ht : isTw B t) (ht3 : t = 13 ∨ t = 4) (hT : TXt tl X I) : ∃ b I', f_X6_readInto 2 t (zI B I) = some (zI B I') ∧ CS (pL X tl tl D0 (sk X tl 0)).1 b I' ∧ ((pL X tl tl D0 (sk X tl 0)).1 = none → SD (pL X tl tl D0 (sk X tl 0)).2 ∧ XD t (pL X tl tl D0 (sk X tl 0)).2 I') ∧ ∀ i j, ¬ ((i = 2 ∧ 2 ≤ j) ∨ (t ≤ i ∧ i ≤ t + 8)) → I' i j = I i j := by
  obtain ⟨-, k2, -⟩ := hB.tx
  obtain ⟨J1, a1, a2, a3⟩ := X_clr (I := I) ht
  have t1 := (TWf ht).1
  have t3 := (TWf ht).2.2.1
  obtain ⟨J2, hJ⟩ : ∃ J, J = cu (cu (cu J1 2 2 0) 2 3 (-1)) 2 4 0 := ⟨_, rfl⟩
  have o : ∀ i j, ¬ (i = 2 ∧ 2 ≤ j) → J2 i j = J1 i j := fun i j q => by rw [hJ, cu_o (by clear ht; omega), cu_o (by clear ht; omega), cu_o (by clear ht; omega)]
  have T2 : TXt tl X J2 := hT.fr (fun i j q => by rw [o i j (by clear ht; omega), a3 i j (by clear ht; omega)])
  have p4 : J2 2 4 = nI 0 := by rw [hJ, cu_s]; rfl
  have p2 : J2 2 2 = 0 := by rw [hJ, cu_o (by clear ht; omega), cu_o (by clear ht; omega), cu_s]
  have p3 : J2 2 3 = -1 := by rw [hJ, cu_o (by clear ht; omega), cu_s]
  obtain ⟨J3, b1, b2, b3⟩ := X_skip hB T2 (Nat.zero_le tl) p4
  have hs := sk_b (X := X) (Nat.zero_le tl)
  have htl := hT.1
  obtain ⟨b, I', w1, w2, w3, w4⟩ := X_ri_lp hB ht ht3 tl zN (sk X tl 0) 0 D0 J3 (by clear ht; omega) (by clear ht; unfold zN; omega) (Nat.zero_le _) hs.2 (T2.fr (fun i j q => b3 i j (by clear ht; omega))) ⟨⟨by rw [b3 2 2 (by clear ht; omega)]; exact p2, by rw [b3 2 3 (by clear ht; omega)]; exact p3⟩, b2⟩ SD_0 (a2.fr (by clear ht; omega) (fun i j q => by rw [b3 i j (by clear ht; omega), o i j (by clear ht; omega)]))
  refine ⟨b, I', ?_, w2, w3, fun i j q => by rw [w4 i j q, b3 i j (by clear ht; omega), o i j (by clear ht; omega), a3 i j (by clear ht; omega)]⟩
  clear ht
  rw [show nI 0 = (0 : Int32) from rfl] at w1
  simp only [f_X6_readInto, show Nat.ble 1 2 = true from rfl, t1, t3, k2, cond_true, zac_zI, Option.bind_some, a1, pI_cu, ← hJ, b1, w1]
end CLT
