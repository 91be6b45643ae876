/-! copies of a row -/
section CPY
variable {B : zM} {s t : Nat} {r q : Nat → Nat} {I : Nat → Nat → Int32}
theorem zln_t {k i n : Nat} (h : zln B k i = n) (h0 : 0 < n) : zac B i k (zsh i).2 = true ∧ (zsh i).2 = n := by
  unfold zln at h
  split at h
  · rename_i e
    exact ⟨e, h⟩
  · omega
theorem cP_eq {i0 i1 L0 L1 n : Nat} (h0 : zln B 10 i0 = L0) (h1 : zln B 10 i1 = L1) (hn : 0 < n) (g0 : n ≤ L0) (g1 : n ≤ L1) (hk : n < 2147483648) : cP (zI B I) i0 0 i1 0 (nI n) = some (zI B (va_up I i1 (va_cpy (I i0) (I i1) 0 0 n))) := by
  obtain ⟨a0, b0⟩ := zln_t h0 (by omega)
  obtain ⟨a1, b1⟩ := zln_t h1 (by omega)
  have c1 : Nat.ble ((0 : Int32).toNatClampNeg + (nI n).toNatClampNeg) L0 = true := by
    rw [nI_clamp hk, show (0 : Int32).toNatClampNeg = 0 from rfl, Nat.zero_add]; exact Nat.ble_eq.mpr g0
  have c2 : Nat.ble ((0 : Int32).toNatClampNeg + (nI n).toNatClampNeg) L1 = true := by
    rw [nI_clamp hk, show (0 : Int32).toNatClampNeg = 0 from rfl, Nat.zero_add]; exact Nat.ble_eq.mpr g1
  unfold cP
  simp only [zac_zI, b0, b1] at a0 a1 ⊢
  rw [a0, a1, c1, c2, nI_clamp hk]
  have d1 : decide (¬ (0 : Int32) < 0) = true := by decide
  have d2 : decide (¬ nI n < 0) = true := decide_eq_true (nI_pos hk)
  rw [d1, d2]
  rfl
theorem va_up_o {I : Nat → Nat → Int32} {i a : Nat} {f : Nat → Int32} (h : a ≠ i) : va_up I i f a = I a := by unfold va_up; rw [if_neg h]
theorem va_up_s {I : Nat → Nat → Int32} {i : Nat} {f : Nat → Int32} : va_up I i f i = f := by unfold va_up; rw [if_pos rfl]
theorem cpy0 {f g : Nat → Int32} {n k : Nat} (h : k < n) : va_cpy f g 0 0 n k = f k := by unfold va_cpy; rw [if_pos (by omega), Nat.zero_add, Nat.sub_zero]
theorem X_copy (hs : isSt B s) (ht : isSt B t) (hx : s + 4 < t ∨ t + 4 < s) (h : XS s r I) : ∃ I', f_X5_copy t s (zI B I) = some (zI B I') ∧ XS t r I' ∧ Fr t (t + 4) I I' := by
  have n0 : s ≠ t := by omega
  have c1 : ∀ J, cP (zI B J) (s + 1) 0 (t + 1) 0 8 = some (zI B (va_up J (t + 1) (va_cpy (J (s + 1)) (J (t + 1)) 0 0 8))) := fun J => cP_eq (n := 8) (L0 := 8) (L1 := 8) (by simp only [hs]) (by simp only [ht]) (by omega) (by omega) (by omega) (by omega)
  have c2 : ∀ J, cP (zI B J) (s + 2) 0 (t + 2) 0 8 = some (zI B (va_up J (t + 2) (va_cpy (J (s + 2)) (J (t + 2)) 0 0 8))) := fun J => cP_eq (n := 8) (L0 := 8) (L1 := 8) (by simp only [hs]) (by simp only [ht]) (by omega) (by omega) (by omega) (by omega)
  have c3 : ∀ J, cP (zI B J) (s + 3) 0 (t + 3) 0 8 = some (zI B (va_up J (t + 3) (va_cpy (J (s + 3)) (J (t + 3)) 0 0 8))) := fun J => cP_eq (n := 8) (L0 := 8) (L1 := 8) (by simp only [hs]) (by simp only [ht]) (by omega) (by omega) (by omega) (by omega)
  have c4 : ∀ J, cP (zI B J) (s + 4) 0 (t + 4) 0 40 = some (zI B (va_up J (t + 4) (va_cpy (J (s + 4)) (J (t + 4)) 0 0 40))) := fun J => cP_eq (n := 40) (L0 := 40) (L1 := 40) (by simp only [hs]) (by simp only [ht]) (by omega) (by omega) (by omega) (by omega)
  obtain ⟨J, hJ⟩ : ∃ J, J = cu (cu (cu (cu (cu I t 4 (I s 4)) t 5 (I s 5)) t 6 (I s 6)) t 7 (I s 7)) t 8 (I s 8) := ⟨_, rfl⟩
  obtain ⟨K1, h1⟩ : ∃ K, K = va_up J (t + 1) (va_cpy (J (s + 1)) (J (t + 1)) 0 0 8) := ⟨_, rfl⟩
  obtain ⟨K2, h2⟩ : ∃ K, K = va_up K1 (t + 2) (va_cpy (K1 (s + 2)) (K1 (t + 2)) 0 0 8) := ⟨_, rfl⟩
  obtain ⟨K3, h3⟩ : ∃ K, K = va_up K2 (t + 3) (va_cpy (K2 (s + 3)) (K2 (t + 3)) 0 0 8) := ⟨_, rfl⟩
  obtain ⟨K4, h4⟩ : ∃ K, K = va_up K3 (t + 4) (va_cpy (K3 (s + 4)) (K3 (t + 4)) 0 0 40) := ⟨_, rfl⟩
  refine ⟨K4, ?_, ?_, ?_⟩
  · simp only [f_X5_copy, hs, ht, cond_true, oI_eq, oR_eq, pI_cu, zac_zI, Option.bind_some, cu_F n0, ← hJ, c1, c2, c3, c4, ← h1, ← h2, ← h3, ← h4]
  · clear hs ht c1 c2 c3 c4
    have o : ∀ a, a ≠ t → J a = I a := fun a ha => by rw [hJ, cu_F ha, cu_F ha, cu_F ha, cu_F ha, cu_F ha]
    intro k hk
    unfold zxi zxk
    by_cases k1 : k < 5
    · have e := h.sc k1
      rw [if_pos k1, if_pos k1, h4, va_up_o (by omega), h3, va_up_o (by omega), h2, va_up_o (by omega), h1, va_up_o (by omega), hJ]
      have : k = 0 ∨ k = 1 ∨ k = 2 ∨ k = 3 ∨ k = 4 := by omega
      rcases this with rfl | rfl | rfl | rfl | rfl
      · rw [cu_o (by omega), cu_o (by omega), cu_o (by omega), cu_o (by omega), cu_s]; exact e
      · rw [cu_o (by omega), cu_o (by omega), cu_o (by omega), cu_s]; exact e
      · rw [cu_o (by omega), cu_o (by omega), cu_s]; exact e
      · rw [cu_o (by omega), cu_s]; exact e
      · rw [cu_s]; exact e
    · rw [if_neg k1, if_neg k1]
      by_cases k2 : k < 13
      · rw [if_pos k2, if_pos k2, h4, va_up_o (by omega), h3, va_up_o (by omega), h2, va_up_o (by omega), h1, va_up_s, cpy0 (by omega), o _ (by omega), h.li (by omega), show 5 + (k - 5) = k by omega]
      · rw [if_neg k2, if_neg k2]
        by_cases k3 : k < 21
        · rw [if_pos k3, if_pos k3, h4, va_up_o (by omega), h3, va_up_o (by omega), h2, va_up_s, cpy0 (by omega), h1, va_up_o (by omega), o _ (by omega), h.le (by omega), show 13 + (k - 13) = k by omega]
        · rw [if_neg k3, if_neg k3]
          by_cases k4 : k < 29
          · rw [if_pos k4, if_pos k4, h4, va_up_o (by omega), h3, va_up_s, cpy0 (by omega), h2, va_up_o (by omega), h1, va_up_o (by omega), o _ (by omega), h.sa (by omega), show 21 + (k - 21) = k by omega]
          · rw [if_neg k4, if_neg k4, h4, va_up_s, cpy0 (by omega), h3, va_up_o (by omega), h2, va_up_o (by omega), h1, va_up_o (by omega), o _ (by omega), h.ho (by omega), show 29 + (k - 29) = k by omega]
  · clear hs ht c1 c2 c3 c4
    intro a ha
    have n1 : a ≠ t := by omega
    rw [h4, va_up_o (by omega), h3, va_up_o (by omega), h2, va_up_o (by omega), h1, va_up_o (by omega), hJ, cu_F n1, cu_F n1, cu_F n1, cu_F n1, cu_F n1]
end CPY
