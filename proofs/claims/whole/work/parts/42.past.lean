/-! copies of a row -/
section CPY
variable {B : zM} {s t : Nat} {r q : Nat → Nat} {I : Nat → Nat → Int32}
theorem zln_t {k i n : Nat} (h : zln B k i = n) (h0 : 0 < n) : zac B i k (zsh i).2 = true ∧ (zsh i).2 = n := by
  unfold zln at h
  split at h
  · rename_i e
    exact ⟨e, h⟩
  · omega
theorem cP_eq {i0 i1 L0 L1 n : Nat} (h0 : zln B 10 i0 = L0) (h1 : zln B 10 i1 = L1) (hn : 0 < n) (g0 : n ≤ L0) (g1 : n ≤ L1) (hk : n < 2147483648) : cP (zI B I) i0 0 i1 0 (nI n) = some (zI B (va_up I i1 (va_cpy (I i0) (I i1) 0 0 n))) := by
  obtain ⟨a0, b0⟩ := zln_t h0 (by omega)
  obtain ⟨a1, b1⟩ := zln_t h1 (by omega)
  have c1 : Nat.ble ((0 : Int32).toNatClampNeg + (nI n).toNatClampNeg) L0 = true := by
    rw [nI_clamp hk, show (0 : Int32).toNatClampNeg = 0 from rfl, Nat.zero_add]; exact Nat.ble_eq.mpr g0
  have c2 : Nat.ble ((0 : Int32).toNatClampNeg + (nI n).toNatClampNeg) L1 = true := by
    rw [nI_clamp hk, show (0 : Int32).toNatClampNeg = 0 from rfl, Nat.zero_add]; exact Nat.ble_eq.mpr g1
  unfold cP
  simp only [zac_zI, b0, b1] at a0 a1 ⊢
  rw [a0, a1, c1, c2, nI_clamp hk]
  have d1 : decide (¬ (0 : Int32) < 0) = true := by decide
  have d2 : decide (¬ nI n < 0) = true := decide_eq_true (nI_pos hk)
  rw [d1, d2]
  rfl
end CPY
