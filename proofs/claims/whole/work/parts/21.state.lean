/-! the class's State, row by row -/
def itr {σ : Type} (f : Nat → σ → σ) : Nat → Nat → σ → σ
  | 0, _, s => s
  | m + 1, i, s => itr f m (i + 1) (f i s)
abbrev isSt (B : zM) (s : Nat) : Prop := Nat.ble 1 s = true ∧ s + 4 < 1000 ∧ zac B s 5 9 = true ∧ mR B s 0 = s + 1 ∧ mR B s 1 = s + 2 ∧ mR B s 2 = s + 3 ∧ mR B s 3 = s + 4 ∧ zlI B (s + 1) = 8 ∧ zlI B (s + 2) = 8 ∧ zlI B (s + 3) = 8 ∧ zlI B (s + 4) = 40 ∧ zln B 10 (s + 1) = 8 ∧ zln B 10 (s + 2) = 8 ∧ zln B 10 (s + 3) = 8 ∧ zln B 10 (s + 4) = 40 ∧ ∀ I, aN (zI B I) (s + 4) = some (nI 40)
def cnt (a b : Nat) : Nat := if a + b < 999999 then a + b else 999999
def rSays (r : Nat → Nat) (p w : Nat) : Nat → Nat := va_up (if 0 < r (29 + (8 * p + w)) then va_up r (29 + (8 * p + w)) (r (29 + (8 * p + w)) - 1) else va_up r (13 + w) (r (13 + w) - 1)) (21 + w) (cnt (r (21 + w)) 1)
def rCan (r : Nat → Nat) (p w : Nat) : Bool := decide (0 < r (29 + (8 * p + w)) ∨ 0 < r (13 + w))
def rI (r : Nat → Nat) : Prop := (∀ w, w < 8 → r (13 + w) + r (29 + w) + r (37 + w) + r (45 + w) + r (53 + w) + r (61 + w) ≤ r (5 + w) ∧ r (5 + w) ≤ 99) ∧ (∀ w, w < 8 → r (21 + w) ≤ 999999) ∧ r 0 ≤ 20000 ∧ r 1 ≤ 999999 ∧ r 2 ≤ 999999 ∧ r 3 ≤ 999999 ∧ r 4 ≤ 999999
theorem rI.b {r : Nat → Nat} {p w : Nat} (h : rI r) (hp : p < 5) (hw : w < 8) : r (29 + (8 * p + w)) ≤ 99 ∧ r (13 + w) ≤ 99 ∧ r (29 + (8 * p + w)) + r (13 + w) ≤ 99 := by
  have := h.1 w hw
  have e : p = 0 ∨ p = 1 ∨ p = 2 ∨ p = 3 ∨ p = 4 := by omega
  rcases e with rfl | rfl | rfl | rfl | rfl
  · rw [show 29 + (8 * 0 + w) = 29 + w by omega]; omega
  · rw [show 29 + (8 * 1 + w) = 37 + w by omega]; omega
  · rw [show 29 + (8 * 2 + w) = 45 + w by omega]; omega
  · rw [show 29 + (8 * 3 + w) = 53 + w by omega]; omega
  · rw [show 29 + (8 * 4 + w) = 61 + w by omega]; omega
theorem rI.mono {r r' : Nat → Nat} (h : rI r) (h1 : ∀ w, w < 8 → r' (13 + w) ≤ r (13 + w)) (h2 : ∀ j, j < 40 → r' (29 + j) ≤ r (29 + j)) (h3 : ∀ w, w < 8 → r' (5 + w) = r (5 + w)) (h4 : ∀ w, w < 8 → r' (21 + w) ≤ 999999) (h0 : r' 0 ≤ 20000) (h5 : r' 1 ≤ 999999) (h6 : r' 2 ≤ 999999) (h7 : r' 3 ≤ 999999) (h8 : r' 4 ≤ 999999) : rI r' := by
  refine ⟨fun w hw => ?_, h4, h0, h5, h6, h7, h8⟩
  have a := h.1 w hw
  have b := h1 w hw
  have c0 := h2 w (by omega)
  have c1 := h2 (8 + w) (by omega)
  have c2 := h2 (16 + w) (by omega)
  have c3 := h2 (24 + w) (by omega)
  have c4 := h2 (32 + w) (by omega)
  rw [show 29 + (8 + w) = 37 + w by omega] at c1
  rw [show 29 + (16 + w) = 45 + w by omega] at c2
  rw [show 29 + (24 + w) = 53 + w by omega] at c3
  rw [show 29 + (32 + w) = 61 + w by omega] at c4
  have d := h3 w hw
  omega
theorem cnt_le {a b : Nat} : cnt a b ≤ 999999 := by unfold cnt; split <;> omega
theorem rI.says {r : Nat → Nat} {p w : Nat} (h : rI r) (hp : p < 5) (hw : w < 8) : rI (rSays r p w) := by
  have key : ∀ k, (k < 21 ∨ 29 ≤ k) → rSays r p w k ≤ r k := by
    intro k hk
    unfold rSays
    rw [va_up, if_neg (by omega)]
    split
    · by_cases e : k = 29 + (8 * p + w)
      · subst e; simp [va_up]
      · simp [va_up, e]
    · by_cases e : k = 13 + w
      · subst e; simp [va_up]
      · simp [va_up, e]
  have key2 : ∀ k, k < 13 → rSays r p w k = r k := by
    intro k hk
    unfold rSays
    rw [va_up, if_neg (by omega)]
    split
    · rw [va_up, if_neg (by omega)]
    · rw [va_up, if_neg (by omega)]
  refine h.mono (fun v hv => key _ (by omega)) (fun j hj => key _ (by omega)) (fun v hv => key2 _ (by omega)) (fun v hv => ?_) (by rw [key2 0 (by omega)]; exact h.2.2.1) (by rw [key2 1 (by omega)]; exact h.2.2.2.1) (by rw [key2 2 (by omega)]; exact h.2.2.2.2.1) (by rw [key2 3 (by omega)]; exact h.2.2.2.2.2.1) (by rw [key2 4 (by omega)]; exact h.2.2.2.2.2.2)
  unfold rSays
  by_cases e : 21 + v = 21 + w
  · rw [va_up, if_pos e]; exact cnt_le
  · rw [va_up, if_neg e]
    split
    · rw [va_up, if_neg (by omega)]; exact h.2.1 v hv
    · rw [va_up, if_neg (by omega)]; exact h.2.1 v hv
theorem rSays_t {s p w : Nat} {r : Nat → Nat} {J : Nat → Nat → Int32} (c : 0 < r (29 + (8 * p + w))) (h : XS s (va_up (va_up r (29 + (8 * p + w)) (r (29 + (8 * p + w)) - 1)) (21 + w) (cnt (r (21 + w)) 1)) J) : XS s (rSays r p w) J := by
  unfold rSays; rw [if_pos c]; exact h
theorem rSays_f {s p w : Nat} {r : Nat → Nat} {J : Nat → Nat → Int32} (c : ¬ 0 < r (29 + (8 * p + w))) (h : XS s (va_up (va_up r (13 + w) (r (13 + w) - 1)) (21 + w) (cnt (r (21 + w)) 1)) J) : XS s (rSays r p w) J := by
  unfold rSays; rw [if_neg c]; exact h
theorem nI_cnt {a b : Nat} (ha : a < 2000000) (hb : b < 2000000) : (if nI a + nI b < 999999 then nI a + nI b else (999999 : Int32)) = nI (cnt a b) := by
  rw [show (999999 : Int32) = nI 999999 from rfl, nI_add, cnt]
  by_cases h : a + b < 999999
  · rw [if_pos h, if_pos ((nI_ltI (by omega) (by omega)).mpr h)]
  · rw [if_neg h, if_neg (fun q => h ((nI_ltI (by omega) (by omega)).mp q))]
/-- a set's bit -/
theorem nI_bit {S w : Nat} (hS : S < 1024) (hw : w < 8) : (nI S >>> (nI w &&& 31)) &&& 1 = nI (S / 2 ^ w % 2) := by
  have e : ∀ w, w < 8 → ((nI w &&& 31).toBitVec.smod 32).toNat = w := by decide +kernel
  rw [pk_shrN (by omega) (nI w &&& 31) w (e w hw)]
  exact pk_andN (n := S / 2 ^ w) (m := 1) (Nat.lt_of_le_of_lt (Nat.div_le_self _ _) (by omega)) 1 rfl
def hasB (S w : Nat) : Bool := decide (S / 2 ^ w % 2 = 1)
theorem hasB_f {S w : Nat} (h : hasB S w = false) : S / 2 ^ w % 2 = 0 := by
  simp only [hasB, decide_eq_false_iff_not] at h
  omega
theorem hasB_t {S w : Nat} (h : hasB S w = true) : S / 2 ^ w % 2 = 1 := by simpa [hasB] using h
section XST
variable {B : zM} {s p w S : Nat} {r : Nat → Nat} {I : Nat → Nat → Int32}
theorem X_hoardedBy (hs : isSt B s) (h : XS s r I) (hp : p < 5) (hw : w < 8) : f_X5_hoardedBy s (nI p) (nI w) (zI B I) = some (nI (r (29 + (8 * p + w)))) := by
  have e := h.ho (j := 8 * p + w) (by omega)
  simp (disch := omega) only [f_X5_hoardedBy, hs, cond_true, oR_eq, Option.bind_some, nl8, pk_mul, nI_add, Nat.mul_comm p 8, aI_eq, if_pos, e]
theorem X_addHoarded {x v : Nat} {y : Int32} (hs : isSt B s) (h : XS s r I) (hp : p < 5) (hw : w < 8) (hx : r (29 + (8 * p + w)) = x) (hy : nI x + y = nI v) : f_X5_addHoarded s (nI p) (nI w) y (zI B I) = some (zI B (va_up I (s + 4) (upd (I (s + 4)) (8 * p + w) (nI v)))) := by
  have e := h.ho (j := 8 * p + w) (by omega)
  rw [hx] at e
  simp (disch := omega) only [f_X5_addHoarded, hs, cond_true, oR_eq, Option.bind_some, nl8, pk_mul, nI_add, Nat.mul_comm p 8, aI_eq, if_pos, e, sI_eq, hy]
theorem X_sayable (hs : isSt B s) (h : XS s r I) (hp : p < 5) (hw : w < 8) : f_X5_sayable s (nI p) (nI w) (zI B I) = some (nI (r (13 + w) + r (29 + (8 * p + w)))) := by
  have e := h.ho (j := 8 * p + w) (by omega)
  have e2 := h.le hw
  simp (disch := omega) only [f_X5_sayable, hs, cond_true, oR_eq, Option.bind_some, nl8, pk_mul, nI_add, Nat.mul_comm p 8, aI_eq, if_pos, e, e2]
theorem X_canSay (hs : isSt B s) (h : XS s r I) (hr : rI r) (hp : p < 5) (hw : w < 8) : f_X5_canSay s (nI p) (nI w) (zI B I) = some (if rCan r p w then 1 else 0) := by
  have b := hr.b hp hw
  simp only [f_X5_canSay, hs, cond_true, Option.bind_some, X_sayable hs h hp hw, zac_zI]
  rw [nl0]
  by_cases c : 0 < r (13 + w) + r (29 + (8 * p + w))
  · rw [if_neg (fun q => absurd ((nI_leI (by omega) (by omega)).mp q) (by omega)), if_pos (by simp [rCan]; omega)]
  · rw [if_pos ((nI_leI (by omega) (by omega)).mpr (by omega)), if_neg (by simp [rCan]; omega)]
theorem X_counted {a b : Nat} {M : zM} (ha : a < 2000000) (hb : b < 2000000) : f_X5_counted (nI a) (nI b) M = some (nI (cnt a b)) := by
  unfold f_X5_counted
  rw [nI_cnt ha hb]
theorem X_counted1 {a : Nat} {M : zM} (ha : a < 2000000) : f_X5_counted (nI a) 1 M = some (nI (cnt a 1)) := X_counted (b := 1) ha (by omega)
theorem X_speak (hs : isSt B s) (h : XS s r I) (hr : rI r) (hp : p < 5) (hw : w < 8) (hc : rCan r p w = true) : ∃ I', f_X5_speak s (nI p) (nI w) (zI B I) = some (zI B I') ∧ XS s (rSays r p w) I' ∧ Fr s (s + 4) I I' := by
  have b := hr.b hp hw
  have b2 := hr.2.1 w hw
  have e2 := h.le hw
  simp only [rCan, decide_eq_true_eq] at hc
  by_cases c : 0 < r (29 + (8 * p + w))
  · have h1 := h.pHo (v := r (29 + (8 * p + w)) - 1) (j := 8 * p + w) (by omega)
    have e3 := h1.sa hw
    rw [show va_up r (29 + (8 * p + w)) (r (29 + (8 * p + w)) - 1) (21 + w) = r (21 + w) by rw [va_up, if_neg (by omega)]] at e3
    have h2 := h1.pSa (v := cnt (r (21 + w)) 1) hw
    have h3 := rSays_t c h2
    refine ⟨_, ?_, h3, (Fr.up (i := s + 4) (by omega) (Nat.le_refl _)).tr (Fr.up (i := s + 3) (by omega) (by omega))⟩
    have ha := X_addHoarded (v := r (29 + (8 * p + w)) - 1) (y := -1) hs h hp hw rfl (by rw [show r (29 + (8 * p + w)) = (r (29 + (8 * p + w)) - 1) + 1 by omega]; exact pk_m1 _)
    have c2 : ¬ nI (r (29 + (8 * p + w))) ≤ 0 := by rw [nl0]; exact fun q => absurd ((nI_leI (by omega) (by omega)).mp q) (by omega)
    simp (disch := omega) only [f_X5_speak, hs, cond_true, oR_eq, Option.bind_some, X_hoardedBy hs h hp hw, zac_zI, if_neg c2, ha, aI_eq, if_pos, e3, X_counted1, sI_eq]
  · have h1 := h.pLe (v := r (13 + w) - 1) hw
    have e3 := h1.sa hw
    rw [show va_up r (13 + w) (r (13 + w) - 1) (21 + w) = r (21 + w) by rw [va_up, if_neg (by omega)]] at e3
    have h2 := h1.pSa (v := cnt (r (21 + w)) 1) hw
    have h3 := rSays_f c h2
    have c2 : nI (r (29 + (8 * p + w))) ≤ 0 := by rw [nl0]; exact (nI_leI (by omega) (by omega)).mpr (by omega)
    by_cases c3 : 0 < r (13 + w)
    · refine ⟨_, ?_, h3, (Fr.up (i := s + 2) (by omega) (by omega)).tr (Fr.up (i := s + 3) (by omega) (by omega))⟩
      simp (disch := omega) only [f_X5_speak, hs, cond_true, oR_eq, Option.bind_some, X_hoardedBy hs h hp hw, zac_zI, if_pos c2, aI_eq, if_pos, e2, nl1, pk_sub, sI_eq, e3, X_counted]
    · omega
end XST
