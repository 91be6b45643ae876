/-! hoard -/
def rHd (r : Nat → Nat) (p w v : Nat) : Nat → Nat := va_up (va_up r (13 + w) (r (13 + w) - v)) (29 + (8 * p + w)) (r (29 + (8 * p + w)) + v)
theorem rHd_o {r : Nat → Nat} {p w v k : Nat} (h1 : k ≠ 13 + w) (h2 : k ≠ 29 + (8 * p + w)) : rHd r p w v k = r k := by unfold rHd; rw [va_up, if_neg h2, va_up, if_neg h1]
theorem rHd_13 {r : Nat → Nat} {p w v : Nat} (hw : w < 8) : rHd r p w v (13 + w) = r (13 + w) - v := by unfold rHd; rw [va_up, if_neg (by omega), va_up, if_pos rfl]
theorem rHd_h {r : Nat → Nat} {p w v : Nat} : rHd r p w v (29 + (8 * p + w)) = r (29 + (8 * p + w)) + v := by unfold rHd; rw [va_up, if_pos rfl]
theorem rB.hd {np c p w v : Nat} {r : Nat → Nat} (h : rB np c r) (hp : p < 5) (hpn : p < np) (hw : w < 8) (hv : v ≤ r (13 + w)) : rB np (c + 1) (rHd r p w v) := by
  obtain ⟨⟨i1, i2, i3, i4, i5, i6, i7⟩, h2, h3, h4⟩ := h
  refine ⟨⟨fun a ha => ?_, fun a ha => by rw [rHd_o (by omega) (by omega)]; exact i2 a ha, by rw [rHd_o (by omega) (by omega)]; exact i3, by rw [rHd_o (by omega) (by omega)]; exact i4, by rw [rHd_o (by omega) (by omega)]; exact i5, by rw [rHd_o (by omega) (by omega)]; exact i6, by rw [rHd_o (by omega) (by omega)]; exact i7⟩, by rw [rHd_o (by omega) (by omega)]; exact h2, by rw [rHd_o (by omega) (by omega)]; omega, fun q a h5 h6 h7 => by rw [rHd_o (by omega) (by omega)]; exact h4 q a h5 h6 h7⟩
  have e := i1 a ha
  rw [rHd_o (k := 5 + a) (by omega) (by omega)]
  by_cases k : a = w
  · subst k
    rw [rHd_13 ha]
    have hh := rHd_h (r := r) (p := p) (w := a) (v := v)
    have o := fun q (_ : q < 5) (n : q ≠ p) => rHd_o (r := r) (p := p) (w := a) (v := v) (k := 29 + (8 * q + a)) (by omega) (by omega)
    have e0 : 29 + (8 * 0 + a) = 29 + a := by omega
    have e1 : 29 + (8 * 1 + a) = 37 + a := by omega
    have e2 : 29 + (8 * 2 + a) = 45 + a := by omega
    have e3 : 29 + (8 * 3 + a) = 53 + a := by omega
    have e4 : 29 + (8 * 4 + a) = 61 + a := by omega
    have o0 := o 0 (by omega)
    have o1 := o 1 (by omega)
    have o2 := o 2 (by omega)
    have o3 := o 3 (by omega)
    have o4 := o 4 (by omega)
    rw [e0] at o0
    rw [e1] at o1
    rw [e2] at o2
    rw [e3] at o3
    rw [e4] at o4
    have : p = 0 ∨ p = 1 ∨ p = 2 ∨ p = 3 ∨ p = 4 := by omega
    rcases this with rfl | rfl | rfl | rfl | rfl
    · rw [e0] at hh; rw [hh, o1 (by omega), o2 (by omega), o3 (by omega), o4 (by omega)]; omega
    · rw [e1] at hh; rw [hh, o0 (by omega), o2 (by omega), o3 (by omega), o4 (by omega)]; omega
    · rw [e2] at hh; rw [hh, o0 (by omega), o1 (by omega), o3 (by omega), o4 (by omega)]; omega
    · rw [e3] at hh; rw [hh, o0 (by omega), o1 (by omega), o2 (by omega), o4 (by omega)]; omega
    · rw [e4] at hh; rw [hh, o0 (by omega), o1 (by omega), o2 (by omega), o3 (by omega)]; omega
  · rw [rHd_o (k := 13 + a) (by omega) (by omega), rHd_o (k := 29 + a) (by omega) (by omega), rHd_o (k := 37 + a) (by omega) (by omega), rHd_o (k := 45 + a) (by omega) (by omega), rHd_o (k := 53 + a) (by omega) (by omega), rHd_o (k := 61 + a) (by omega) (by omega)]
    exact e
section HOA
variable {B : zM} {c : Nat} {I : Nat → Nat → Int32} {x y : Int32} {s p w v : Nat} {r : Nat → Nat}
theorem X_store (hs : isSt B s) (h : XS s r I) (hr : rI r) (hp : p < 5) (hw : w < 8) (hv : v ≤ r (13 + w)) : ∃ I', f_X5_store s (nI p) (nI w) (nI v) (zI B I) = some (zI B I') ∧ XS s (rHd r p w v) I' ∧ ∀ i j, ¬ (s ≤ i ∧ i ≤ s + 4) → I' i j = I i j := by
  have l1 : zlI B (s + 2) = 8 := by simp only [hs]
  have l2 : zln B 10 (s + 2) = 8 := by simp only [hs]
  have x1 : Nat.ble 1 s = true := by simp only [hs]
  have x2 : zac B s 5 9 = true := by simp only [hs]
  have x3 : mR B s 1 = s + 2 := by simp only [hs]
  have h1 := h.pLe (v := r (13 + w) - v) hw
  have a1 := aI_at (B := B) (I := I) (i := s + 2) (k := w) (by omega) (by rw [l1]; omega) (h.le hw)
  have s1 : sI (zI B I) (s + 2) (nI w) (nI (r (13 + w) - v)) = some (zI B (cu I (s + 2) w (nI (r (13 + w) - v)))) := sI_cu (by omega) (by rw [l2]; omega)
  have e1 : va_up r (13 + w) (r (13 + w) - v) (29 + (8 * p + w)) = r (29 + (8 * p + w)) := by rw [va_up, if_neg (by omega)]
  have g := X_addHoarded (B := B) (I := cu I (s + 2) w (nI (r (13 + w) - v))) (y := nI v) (v := r (29 + (8 * p + w)) + v) hs h1 hp hw e1 (nI_add _ _)
  refine ⟨cu (cu I (s + 2) w (nI (r (13 + w) - v))) (s + 4) (8 * p + w) (nI (r (29 + (8 * p + w)) + v)), ?_, h1.pHo (by omega), fun i j q => by rw [cu_o (by omega), cu_o (by omega)]⟩
  simp only [f_X5_store, x1, x2, x3, cond_true, oR_eq, zac_zI, Option.bind_some, a1, nI_sb hv, s1, g]
  rfl
end HOA
