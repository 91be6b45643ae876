/-! State: ways round, days -/
def gAll (r : Nat → Nat) (p S : Nat) : Nat → Nat → Bool
  | 0, _ => true
  | m + 1, i => (!hasB S i || rCan r p i) && gAll r p S m (i + 1)
def rGoB (r : Nat → Nat) (p S : Nat) : Bool := decide (S ≠ 0) && gAll r p S 8 0
def goS (p S : Nat) (w : Nat) (r : Nat → Nat) : Nat → Nat := if hasB S w then rSays r p w else r
def rGo (r : Nat → Nat) (p S : Nat) : Nat → Nat := itr (goS p S) 8 0 r
theorem rSays_o {r : Nat → Nat} {p w k : Nat} (h1 : k ≠ 29 + (8 * p + w)) (h2 : k ≠ 13 + w) (h3 : k ≠ 21 + w) : rSays r p w k = r k := by
  unfold rSays
  rw [va_up, if_neg h3]
  split
  · rw [va_up, if_neg h1]
  · rw [va_up, if_neg h2]
theorem rCan_says {r : Nat → Nat} {p w v : Nat} (h : w ≠ v) (hw : w < 8) (hv : v < 8) : rCan (rSays r p w) p v = rCan r p v := by
  unfold rCan
  rw [rSays_o (by omega) (by omega) (by omega), rSays_o (by omega) (by omega) (by omega)]
theorem gAll_says {r : Nat → Nat} {p S w : Nat} : ∀ m i, w < i → i + m ≤ 8 → gAll (rSays r p w) p S m i = gAll r p S m i := by
  intro m
  induction m with
  | zero => intros; rfl
  | succ m ih =>
    intro i h1 h2
    unfold gAll
    rw [ih (i + 1) (by omega) (by omega), rCan_says (by omega) (by omega) (by omega)]
section XST2
variable {B : zM} {s p w S : Nat} {r : Nat → Nat} {I : Nat → Nat → Int32}
theorem X_canGo_lp (hs : isSt B s) (h : XS s r I) (hr : rI r) (hp : p < 5) (hS : S < 1024) : ∀ m i n, i + m = 8 → m < n → L_X5_canGo_2 n s (nI p) (nI S) (nI i) (zI B I) = some (if gAll r p S m i then .inr () else .inl 0) := by
  intro m
  induction m with
  | zero =>
    intro i n hi hn
    obtain ⟨n, rfl⟩ := Nat.exists_eq_succ_of_ne_zero (show n ≠ 0 by omega)
    have hi : i = 8 := by omega
    subst hi
    simp only [L_X5_canGo_2, gAll]
    rw [if_pos (show (8 : Int32) ≤ nI 8 by decide)]
    rfl
  | succ m ih =>
    intro i n hi hn
    obtain ⟨n, rfl⟩ := Nat.exists_eq_succ_of_ne_zero (show n ≠ 0 by omega)
    have h8 : ¬ (8 : Int32) ≤ nI i := by rw [nl8]; exact fun q => absurd ((nI_leI (by omega) (by omega)).mp q) (by omega)
    simp only [Nat.succ_eq_add_one, L_X5_canGo_2, gAll]
    rw [if_neg h8, nI_bit hS (by omega)]
    rcases Bool.eq_false_or_eq_true (hasB S i) with hb | hb
    · rw [if_neg (by rw [hasB_t hb]; decide)]
      simp only [zac_zI, hs, cond_true, X_canSay hs h hr hp (show i < 8 by omega), Option.bind_some]
      rcases Bool.eq_false_or_eq_true (rCan r p i) with hc | hc
      · simp only [hc, hb, if_true, Bool.not_true, Bool.false_or, Bool.true_and]
        rw [if_neg (by decide), nl1, nI_add, ih (i + 1) n (by omega) (by omega)]
      · simp [hc, hb]
    · rw [if_pos (by rw [hasB_f hb]; rfl), nl1, nI_add, ih (i + 1) n (by omega) (by omega)]
      simp [hb]
theorem X_canGo (hs : isSt B s) (h : XS s r I) (hr : rI r) (hp : p < 5) (hS : S < 1024) : f_X5_canGo s (nI p) (nI S) (zI B I) = some (if rGoB r p S then 1 else 0) := by
  have hz : (nI S = 0) ↔ S = 0 := by rw [nl0]; exact nI_eq (by omega) (by omega)
  simp only [f_X5_canGo, hs, cond_true]
  rw [nl0, X_canGo_lp hs h hr hp hS 8 0 zN (by omega) (by decide)]
  unfold rGoB
  by_cases hS0 : S = 0
  · have := hz.mpr hS0
    rw [nl0] at this
    cases hg : gAll r p S 8 0 <;> simp [bs, hS0] <;> rfl
  · have : ¬ nI S = nI 0 := fun q => hS0 (hz.mp q)
    cases hg : gAll r p S 8 0 <;> simp [bs, hS0, this] <;> rfl
theorem X_go_lp (hs : isSt B s) (hp : p < 5) (hS : S < 1024) : ∀ m i n r I, i + m = 8 → m < n → XS s r I → rI r → gAll r p S m i = true → ∃ I', L_X5_go_2 n s (nI p) (nI S) (nI i) (zI B I) = some (zI B I') ∧ XS s (itr (goS p S) m i r) I' ∧ rI (itr (goS p S) m i r) ∧ Fr s (s + 4) I I' := by
  intro m
  induction m with
  | zero =>
    intro i n r I hi hn h hr hg
    obtain ⟨n, rfl⟩ := Nat.exists_eq_succ_of_ne_zero (show n ≠ 0 by omega)
    have hi : i = 8 := by omega
    subst hi
    refine ⟨I, ?_, h, hr, Fr.rf⟩
    simp only [L_X5_go_2]
    rw [if_pos (show (8 : Int32) ≤ nI 8 by decide)]
  | succ m ih =>
    intro i n r I hi hn h hr hg
    obtain ⟨n, rfl⟩ := Nat.exists_eq_succ_of_ne_zero (show n ≠ 0 by omega)
    have h8 : ¬ (8 : Int32) ≤ nI i := by rw [nl8]; exact fun q => absurd ((nI_leI (by omega) (by omega)).mp q) (by omega)
    simp only [Nat.succ_eq_add_one, L_X5_go_2]
    rw [if_neg h8, nI_bit hS (by omega)]
    unfold gAll at hg
    simp only [itr]
    cases hb : hasB S i with
    | false =>
      rw [if_pos (by rw [hasB_f hb]; rfl), nl1, nI_add]
      have e : goS p S i r = r := by simp [goS, hb]
      rw [e]
      exact ih (i + 1) n r I (by omega) (by omega) h hr (by simpa [hb] using hg)
    | true =>
      rw [if_neg (by rw [hasB_t hb]; decide)]
      simp only [hb, Bool.not_true, Bool.false_or, Bool.and_eq_true] at hg
      obtain ⟨I1, e1, h1, f1⟩ := X_speak hs h hr hp (show i < 8 by omega) hg.1
      have e : goS p S i r = rSays r p i := by simp [goS, hb]
      rw [e]
      obtain ⟨I2, e2, h2, hr2, f2⟩ := ih (i + 1) n (rSays r p i) I1 (by omega) (by omega) h1 (hr.says hp (by omega)) (by rw [gAll_says _ _ (by omega) (by omega)]; exact hg.2)
      refine ⟨I2, ?_, h2, hr2, f1.tr f2⟩
      simp only [zac_zI, hs, cond_true, e1, Option.bind_some]
      rw [nl1, nI_add, e2]
theorem X_go (hs : isSt B s) (h : XS s r I) (hr : rI r) (hp : p < 5) (hS : S < 1024) (hg : rGoB r p S = true) : ∃ I', f_X5_go s (nI p) (nI S) (zI B I) = some (zI B I') ∧ XS s (rGo r p S) I' ∧ rI (rGo r p S) ∧ Fr s (s + 4) I I' := by
  simp only [rGoB, Bool.and_eq_true] at hg
  obtain ⟨I1, e1, h1, h2, f1⟩ := X_go_lp hs hp hS 8 0 zN r I (by omega) (by decide) h hr hg.2
  refine ⟨I1, ?_, h1, h2, f1⟩
  simp only [f_X5_go, hs, cond_true]
  rw [nl0, e1]
  rfl
def rPt (r : Nat → Nat) : Nat → Nat := va_up r 4 (cnt (r 4) 1)
theorem rI.cnts {r r' : Nat → Nat} (h : rI r) (h1 : ∀ k, 5 ≤ k → r' k = r k) (h0 : r' 0 ≤ 20000) (a1 : r' 1 ≤ 999999) (a2 : r' 2 ≤ 999999) (a3 : r' 3 ≤ 999999) (a4 : r' 4 ≤ 999999) : rI r' :=
  h.mono (fun w _ => Nat.le_of_eq (h1 _ (by omega))) (fun j _ => Nat.le_of_eq (h1 _ (by omega))) (fun w _ => h1 _ (by omega)) (fun w hw => by rw [h1 _ (by omega)]; exact h.2.1 w hw) h0 a1 a2 a3 a4
theorem rI.up {r : Nat → Nat} {j v : Nat} (h : rI r) (hj : 1 ≤ j) (hj4 : j ≤ 4) (hv : v ≤ 999999) : rI (va_up r j v) := by
  refine h.cnts (fun k hk => by rw [va_up, if_neg (by omega)]) (by rw [va_up, if_neg (by omega)]; exact h.2.2.1) ?_ ?_ ?_ ?_ <;> (unfold va_up; split)
  · exact hv
  · exact h.2.2.2.1
  · exact hv
  · exact h.2.2.2.2.1
  · exact hv
  · exact h.2.2.2.2.2.1
  · exact hv
  · exact h.2.2.2.2.2.2
theorem X_gesture (hs : isSt B s) (h : XS s r I) (hr : rI r) : ∃ I', f_X5_gesture s (zI B I) = some (zI B I') ∧ XS s (rPt r) I' ∧ Fr s (s + 4) I I' := by
  have e := h.sc (j := 4) (by omega)
  have b := hr.2.2.2.2.2.2
  refine ⟨_, ?_, h.pSc (j := 4) (v := cnt (r 4) 1) (by omega), Fr.up (i := s) (Nat.le_refl _) (by omega)⟩
  simp (disch := omega) only [f_X5_gesture, hs, cond_true, oI_eq, zac_zI, Option.bind_some, e, X_counted1, pI_eq]
end XST2
