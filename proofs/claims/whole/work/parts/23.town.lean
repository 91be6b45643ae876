/-! Town read; a need met; a day -/
/-- a town: T 0: days, words, persons, needs, ways; 1 cost, 2 rhyme, 3 ways (16), 4 pointing, 5 honest, 6 needs (4 n + person, word, day, worth), 7 limits -/
def bts (f : Nat → Nat) : Nat → Nat
  | 0 => 0
  | n + 1 => bts f n + f n * 2 ^ n
abbrev isTw (B : zM) (t : Nat) : Prop := Nat.ble 1 t = true ∧ t + 8 < 1000 ∧ zac B t 7 15 = true ∧ mR B t 7 = t + 1 ∧ mR B t 8 = t + 2 ∧ mR B t 9 = t + 3 ∧ mR B t 10 = t + 4 ∧ mR B t 11 = t + 5 ∧ mR B t 12 = t + 6 ∧ mR B t 13 = t + 7 ∧ mR B t 14 = t + 8 ∧ zlI B (t + 1) = 8 ∧ zlI B (t + 2) = 8 ∧ zlI B (t + 3) = 8 ∧ zlI B (t + 4) = 16 ∧ zlI B (t + 5) = 8 ∧ zlI B (t + 6) = 8 ∧ zlI B (t + 7) = 8 ∧ zlI B (t + 8) = 8 ∧ zln B 10 (t + 1) = 8 ∧ zln B 10 (t + 2) = 8 ∧ zln B 10 (t + 3) = 8 ∧ zln B 10 (t + 4) = 16 ∧ zln B 10 (t + 5) = 8 ∧ zln B 10 (t + 6) = 8 ∧ zln B 10 (t + 7) = 8 ∧ zln B 10 (t + 8) = 8 ∧ ∀ I, aN (zI B I) (t + 4) = some (nI 16)
def XT (t : Nat) (T : Nat → Nat → Nat) (I : Nat → Nat → Int32) : Prop :=
  (I t 0 = nI (T 0 0) ∧ I t 1 = nI (T 0 1) ∧ I t 2 = nI (T 0 4) ∧ I t 3 = nI (T 0 2) ∧ I t 4 = nI (T 0 3) ∧ I t 5 = nI (bts (T 4) 8) ∧ I t 6 = nI (bts (T 5) 5)) ∧
  (∀ w, w < T 0 1 → I (t + 2) w = nI (T 1 w) ∧ I (t + 3) w = nI (T 2 w)) ∧ (∀ k, k < 16 → I (t + 4) k = nI (T 3 k)) ∧
  (∀ n, n < T 0 3 → I (t + 5) n = nI (T 6 (4 * n)) ∧ I (t + 6) n = nI (T 6 (4 * n + 1)) ∧ I (t + 7) n = nI (T 6 (4 * n + 2)) ∧ I (t + 8) n = nI (T 6 (4 * n + 3)))
theorem XT.fr {t a b : Nat} {T : Nat → Nat → Nat} {I I' : Nat → Nat → Int32} (h : XT t T I) (hf : Fr a b I I') (hs : t + 8 < a ∨ b < t) : XT t T I' := by
  obtain ⟨⟨h0, h1, h2, h3, h4, h5, h6⟩, h7, h8, h9⟩ := h
  have e : ∀ j, j ≤ 8 → I' (t + j) = I (t + j) := fun j hj => hf _ (by omega)
  have e0 := e 0 (by omega)
  rw [Nat.add_zero] at e0
  refine ⟨⟨by rw [e0]; exact h0, by rw [e0]; exact h1, by rw [e0]; exact h2, by rw [e0]; exact h3, by rw [e0]; exact h4, by rw [e0]; exact h5, by rw [e0]; exact h6⟩, fun w hw => ?_, fun k hk => ?_, fun n hn => ?_⟩
  · rw [e 2 (by omega), e 3 (by omega)]; exact h7 w hw
  · rw [e 4 (by omega)]; exact h8 k hk
  · rw [e 5 (by omega), e 6 (by omega), e 7 (by omega), e 8 (by omega)]; exact h9 n hn
def TI (T : Nat → Nat → Nat) : Prop := T 0 0 ≤ 99 ∧ T 0 1 ≤ 8 ∧ T 0 2 ≤ 5 ∧ T 0 3 ≤ 8 ∧ T 0 4 ≤ 16 ∧ (∀ w, T 4 w ≤ 1) ∧ (∀ p, T 5 p ≤ 1) ∧ (∀ k, k < 16 → T 3 k < 256) ∧ (∀ n, n < T 0 3 → T 6 (4 * n) < T 0 2 ∧ T 6 (4 * n + 1) < T 0 1 ∧ T 6 (4 * n + 2) < T 0 0 ∧ T 6 (4 * n + 3) ≤ 99) ∧ (∀ w, w < T 0 1 → T 1 w ≤ 99 ∧ 1 ≤ T 1 w ∧ T 2 w ≤ 9)
theorem bts8 {f : Nat → Nat} (h : ∀ w, f w ≤ 1) {w : Nat} (hw : w < 8) : bts f 8 < 256 ∧ bts f 8 / 2 ^ w % 2 = f w := by
  have h0 := h 0
  have h1 := h 1
  have h2 := h 2
  have h3 := h 3
  have h4 := h 4
  have h5 := h 5
  have h6 := h 6
  have h7 := h 7
  have e : bts f 8 = f 0 + 2 * f 1 + 4 * f 2 + 8 * f 3 + 16 * f 4 + 32 * f 5 + 64 * f 6 + 128 * f 7 := by
    simp only [bts]
    omega
  rw [e]
  refine ⟨by omega, ?_⟩
  have c : w = 0 ∨ w = 1 ∨ w = 2 ∨ w = 3 ∨ w = 4 ∨ w = 5 ∨ w = 6 ∨ w = 7 := by omega
  rcases c with rfl | rfl | rfl | rfl | rfl | rfl | rfl | rfl <;> simp only [Nat.pow_zero, Nat.reducePow, Nat.pow_one] <;> omega
theorem bts5 {f : Nat → Nat} (h : ∀ w, f w ≤ 1) {w : Nat} (hw : w < 5) : bts f 5 < 32 ∧ bts f 5 / 2 ^ w % 2 = f w := by
  have h0 := h 0
  have h1 := h 1
  have h2 := h 2
  have h3 := h 3
  have h4 := h 4
  have e : bts f 5 = f 0 + 2 * f 1 + 4 * f 2 + 8 * f 3 + 16 * f 4 := by
    simp only [bts]
    omega
  rw [e]
  refine ⟨by omega, ?_⟩
  have c : w = 0 ∨ w = 1 ∨ w = 2 ∨ w = 3 ∨ w = 4 := by omega
  rcases c with rfl | rfl | rfl | rfl | rfl <;> simp only [Nat.pow_zero, Nat.reducePow, Nat.pow_one] <;> omega
theorem nI_1z {v : Nat} (h : v ≤ 1) : (nI v = 0 ↔ v = 0) := by rw [nl0]; exact nI_eq (by omega) (by omega)
section XTW
variable {B : zM} {s t p w n : Nat} {r : Nat → Nat} {T : Nat → Nat → Nat} {I : Nat → Nat → Int32}
theorem X_canPoint (ht : isTw B t) (h : XT t T I) (hT : TI T) (hw : w < 8) : f_X7_canPoint t (nI w) (zI B I) = some (nI (T 4 w)) := by
  have hb := bts8 hT.2.2.2.2.2.1 hw
  have h1 := hT.2.2.2.2.2.1 w
  simp only [f_X7_canPoint, ht, cond_true, oI_eq, Option.bind_some, h.1.2.2.2.2.2.1]
  rw [nI_bit (by omega) hw, hb.2]
  have c : T 4 w = 0 ∨ T 4 w = 1 := by omega
  rcases c with c | c <;> rw [c]
  · rfl
  · rfl
theorem X_wayRound {k : Nat} (ht : isTw B t) (h : XT t T I) (hw : w < 8) (hk : k < 2) : f_X7_wayRound t (nI w) (nI k) (zI B I) = some (nI (T 3 (2 * w + k))) := by
  have e := h.2.2.1 (2 * w + k) (by omega)
  have c1 : ¬ nI (2 * w + k) < 0 := nI_pos (by omega)
  have c2 : ¬ nI 16 ≤ nI (2 * w + k) := fun q => absurd ((nI_leI (by omega) (by omega)).mp q) (by omega)
  simp (disch := omega) only [f_X7_wayRound, ht, cond_true, oR_eq, Option.bind_some, nl2, pk_mul, nI_add, Nat.mul_comm w 2, if_neg c1, if_neg c2, aI_eq, if_pos, e]
theorem X_dayOfYear {g : Nat} (ht : isTw B t) (h : XT t T I) (hT : TI T) (hg : g < 100000) : f_X7_dayOfYear t (nI g) (zI B I) = some (nI (g % T 0 0)) ∨ T 0 0 = 0 := by
  by_cases c : T 0 0 = 0
  · exact Or.inr c
  · left
    have b := hT.1
    have c1 : ¬ nI (T 0 0) ≤ 0 := by rw [nl0]; exact fun q => absurd ((nI_leI (by omega) (by omega)).mp q) (by omega)
    have c2 : ¬ nI (T 0 0) = 0 := by rw [nl0]; exact fun q => absurd ((nI_eq (by omega) (by omega)).mp q) (by omega)
    have e : rm (nI g) (nI (T 0 0)) = some (nI (g % T 0 0)) := by
      unfold rm
      rw [if_neg c2, pk_rem (by omega) (by omega) (by omega)]
    simp only [f_X7_dayOfYear, ht, cond_true, oI_eq, Option.bind_some, h.1.1, if_neg c1, e]
theorem X_dayOfYear0 {g : Int32} (ht : isTw B t) (h : XT t T I) (h0 : T 0 0 = 0) : f_X7_dayOfYear t g (zI B I) = some 0 := by
  have c1 : nI (T 0 0) ≤ 0 := by rw [h0]; decide
  simp only [f_X7_dayOfYear, ht, cond_true, oI_eq, Option.bind_some, h.1.1, if_pos c1]
theorem X_isToCome {d : Nat} (ht : isTw B t) (h : XT t T I) (hT : TI T) (hn : n < T 0 3) (hd : d < 1000) : f_X7_isToCome t (nI n) (nI d) (zI B I) = some (if d ≤ T 6 (4 * n + 2) then 1 else 0) := by
  have e := (h.2.2.2 n hn).2.2.1
  have b := (hT.2.2.2.2.2.2.2.2.1 n hn).2.2.1
  have b0 := hT.1
  have b3 := hT.2.2.2.1
  simp (disch := omega) only [f_X7_isToCome, ht, cond_true, oR_eq, Option.bind_some, aI_eq, if_pos, e]
  by_cases c : d ≤ T 6 (4 * n + 2)
  · rw [if_pos c, if_neg (fun q => absurd ((nI_ltI (by omega) (by omega)).mp q) (by omega))]
  · rw [if_neg c, if_pos ((nI_ltI (by omega) (by omega)).mpr (by omega))]
/-- a need at its turn: is it met, and the row behind it -/
def mB (T : Nat → Nat → Nat) (r : Nat → Nat) (p w : Nat) : Bool := rCan r p w || (rGoB r p (T 3 (2 * w)) || (rGoB r p (T 3 (2 * w + 1)) || decide (T 4 w ≠ 0)))
def mR' (T : Nat → Nat → Nat) (r : Nat → Nat) (p w : Nat) : Nat → Nat := if rCan r p w then rSays r p w else if rGoB r p (T 3 (2 * w)) then rGo r p (T 3 (2 * w)) else if rGoB r p (T 3 (2 * w + 1)) then rGo r p (T 3 (2 * w + 1)) else if T 4 w ≠ 0 then rPt r else r
theorem X_meets_st {i m : Nat} (hs : isSt B s) (ht : isTw B t) (hx : t + 8 < s ∨ s + 4 < t) (h : XS s r I) (hr : rI r) (hX : XT t T I) (hT : TI T) (hp : p < 5) (hw : w < 8) (hi : i < 2) : L_X5_meets_20 (m + 1) s t (nI p) (nI w) (nI i) (zI B I) = if rGoB r p (T 3 (2 * w + i)) then (f_X5_go s (nI p) (nI (T 3 (2 * w + i))) (zI B I)).bind (fun M => some (.inl (1, M))) else L_X5_meets_20 m s t (nI p) (nI w) (nI (i + 1)) (zI B I) := by
  have hS := hT.2.2.2.2.2.2.2.1 (2 * w + i) (by omega)
  have c : ¬ (2 : Int32) ≤ nI i := by rw [nl2]; exact fun q => absurd ((nI_leI (by omega) (by omega)).mp q) (by omega)
  simp only [L_X5_meets_20, if_neg c, zac_zI, ht, hs, cond_true, X_wayRound ht hX hw hi, Option.bind_some, X_canGo hs h hr hp (show T 3 (2 * w + i) < 1024 by omega)]
  rcases Bool.eq_false_or_eq_true (rGoB r p (T 3 (2 * w + i))) with hb | hb
  · rw [if_pos hb, if_neg (by decide), if_pos hb]
  · simp only [hb, nl1, nI_add]
    rfl
theorem X_meets (hs : isSt B s) (ht : isTw B t) (hx : t + 8 < s ∨ s + 4 < t) (h : XS s r I) (hr : rI r) (hX : XT t T I) (hT : TI T) (hp : p < 5) (hw : w < 8) : ∃ I', f_X5_meets s t (nI p) (nI w) (zI B I) = some (if mB T r p w then 1 else 0, zI B I') ∧ XS s (mR' T r p w) I' ∧ rI (mR' T r p w) ∧ Fr s (s + 4) I I' := by
  have h0 : T 3 (2 * w) < 1024 := by have := hT.2.2.2.2.2.2.2.1 (2 * w) (by omega); omega
  have h1 : T 3 (2 * w + 1) < 1024 := by have := hT.2.2.2.2.2.2.2.1 (2 * w + 1) (by omega); omega
  simp only [f_X5_meets, zac_zI, ht, hs, cond_true, X_canSay hs h hr hp hw, Option.bind_some]
  rcases Bool.eq_false_or_eq_true (rCan r p w) with hc | hc
  · obtain ⟨I1, e1, x1, f1⟩ := X_speak hs h hr hp hw hc
    refine ⟨I1, ?_, by simp only [mR', hc, if_true]; exact x1, by simp only [mR', hc, if_true]; exact hr.says hp hw, f1⟩
    simp only [hc, if_true, e1, Option.bind_some, mB, Bool.true_or]
    rfl
  · obtain ⟨z, hz⟩ : ∃ z, zN = z + 1 + 1 + 1 := ⟨1099511627773, by decide⟩
    have e0 : ¬ ((1 : Int32) = 0) := by decide
    simp only [hc, Bool.false_eq_true, if_false, if_true]
    rw [hz, nl0, X_meets_st hs ht hx h hr hX hT hp hw (show 0 < 2 by omega), X_meets_st hs ht hx h hr hX hT hp hw (show 0 + 1 < 2 by omega)]
    simp only [Nat.add_zero, Nat.zero_add]
    rcases Bool.eq_false_or_eq_true (rGoB r p (T 3 (2 * w))) with g0 | g0
    · obtain ⟨I1, e1, x1, r1, f1⟩ := X_go hs h hr hp h0 g0
      refine ⟨I1, ?_, by simp only [mR', hc, g0, if_true, Bool.false_eq_true, if_false]; exact x1, by simp only [mR', hc, g0, if_true, Bool.false_eq_true, if_false]; exact r1, f1⟩
      simp only [g0, if_true, e1, Option.bind_some, bs_inl, mB, hc, Bool.true_or, Bool.or_true]
    · rcases Bool.eq_false_or_eq_true (rGoB r p (T 3 (2 * w + 1))) with g1 | g1
      · obtain ⟨I1, e1, x1, r1, f1⟩ := X_go hs h hr hp h1 g1
        refine ⟨I1, ?_, by simp only [mR', hc, g0, g1, if_true, Bool.false_eq_true, if_false]; exact x1, by simp only [mR', hc, g0, g1, if_true, Bool.false_eq_true, if_false]; exact r1, f1⟩
        simp only [g0, g1, if_true, Bool.false_eq_true, if_false, e1, Option.bind_some, bs_inl, mB, hc, Bool.true_or, Bool.or_true]
      · have eL : L_X5_meets_20 (z + 1) s t (nI p) (nI w) (nI (1 + 1)) (zI B I) = some (.inr (zI B I)) := by
          simp only [L_X5_meets_20]
          rw [if_pos (by decide)]
        simp only [g0, g1, Bool.false_eq_true, if_false, eL, bs_inr, X_canPoint ht hX hT hw, Option.bind_some, zac_zI, ht, hs, cond_true]
        have b4 := hT.2.2.2.2.2.1 w
        by_cases c4 : T 4 w = 0
        · refine ⟨I, ?_, by simp only [mR', hc, g0, g1, c4, Bool.false_eq_true, if_false, ne_eq, not_true]; exact h, by simp only [mR', hc, g0, g1, c4, Bool.false_eq_true, if_false, ne_eq, not_true]; exact hr, Fr.rf⟩
          rw [c4, if_pos rfl]
          simp [mB, hc, g0, g1, c4]
        · obtain ⟨I1, e1, x1, f1⟩ := X_gesture hs h hr
          refine ⟨I1, ?_, by simp only [mR', hc, g0, g1, c4, Bool.false_eq_true, if_false, ne_eq, not_false_eq_true, if_true]; exact x1, by simp only [mR', hc, g0, g1, c4, Bool.false_eq_true, if_false, ne_eq, not_false_eq_true, if_true]; exact hr.up (by omega) (by omega) cnt_le, f1⟩
          have c5 : ¬ nI (T 4 w) = nI 0 := fun q => c4 ((nI_eq (by omega) (by omega)).mp q)
          rw [if_neg c5, e1]
          simp [mB, hc, g0, g1, c4]
end XTW
