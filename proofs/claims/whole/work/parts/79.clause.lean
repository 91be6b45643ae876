/-! clauses, read by the class: ways, the clause, the text -/
section CLS
variable {B : zM} {tw s u t tl a lo n : Nat} {X : Nat → Nat} {D : Nat → Nat → Nat} {I : Nat → Nat → Int32} {st : PSt}
theorem pO_n {f p : Nat} : ¬ pO st f p = none := by cases st <;> simp [pO]
theorem X_rA (hB : GB B tw s u) (ht : isTw B t) (ht2 : 13 ≤ t ∨ t = 4) (hT : TXt tl X I) (ha : a ≤ tl) (hC : CS none a I) (hS : SD D) (h : XD t D I) : ∃ I', f_X6_readWay 2 t (zI B I) = some (zI B I') ∧ CS (bA X tl D (pNum X tl none 0 (D 0 1) a)).1 (bA X tl D (pNum X tl none 0 (D 0 1) a)).2.1 I' ∧ ((bA X tl D (pNum X tl none 0 (D 0 1) a)).1 = none → XD t (bA X tl D (pNum X tl none 0 (D 0 1) a)).2.2 I') ∧ a ≤ (bA X tl D (pNum X tl none 0 (D 0 1) a)).2.1 ∧ (bA X tl D (pNum X tl none 0 (D 0 1) a)).2.1 ≤ tl ∧ ∀ i j, ¬ ((i = 2 ∧ 2 ≤ j) ∨ (t ≤ i ∧ i ≤ t + 8)) → I' i j = I i j := by
  obtain ⟨-, k2, -⟩ := hB.tx
  have t1 := (TWf ht).1
  have t3 := (TWf ht).2.2.1
  have tb := (TWf ht).2.1
  have y1 := hS.1.2.1
  have q1 : I t 1 = nI (D 0 1) := h.1.1.2.1
  obtain ⟨J1, a1, a2, a3, a4⟩ := X_num (lo := 0) (n := D 0 1) (hi := nI (D 0 1) - 1) hB hT ha hC rfl (by omega) (by omega)
  have b1 := pNum_b (st := none) (X := X) (lo := 0) (n := D 0 1) ha
  have hw8 : (pNum X tl none 0 (D 0 1) a).2.1 < 8 := by
    by_cases hh : (pNum X tl none 0 (D 0 1) a).1 = none
    · have := (pNum_ok hh).2.2; omega
    · rw [pNum_v hh]; omega
  have a3 := a3 rfl
  have h1 : XD t D J1 := h.fr (by omega) (fun i j q => by rw [a4 i j (by omega)])
  have T1 : TXt tl X J1 := hT.fr (fun i j q => a4 i j (by omega))
  unfold bA
  generalize pNum X tl none 0 (D 0 1) a = n1 at *
  have g0 := X_wayRound (k := 1) ht h1.1 hw8 (by clear ht; omega)
  have bw := hS.1.2.2.2.2.2.2.2.1 (2 * n1.2.1 + 1) (by clear ht; omega)
  have z0 := nI_z (v := D 3 (2 * n1.2.1 + 1)) (by clear ht; omega)
  rw [show nI 1 = (1 : Int32) from rfl] at g0
  -- the first check
  have ck1 : ∃ J2, (if nI (D 3 (2 * n1.2.1 + 1)) = 0 then some (zI B J1) else f_X6_blame 2 (nI n1.2.2.2) 4 (zI B J1)) = some (zI B J2) ∧ CS (sA D n1) n1.2.2.1 J2 ∧ ∀ i j, ¬ (i = 2 ∧ 2 ≤ j) → J2 i j = J1 i j := by
    unfold sA
    by_cases k : D 3 (2 * n1.2.1 + 1) = 0
    · rw [if_pos k, if_pos (z0.mpr k)]
      exact ⟨J1, rfl, a2, fun _ _ _ => rfl⟩
    · obtain ⟨J2, c1, c2, c3⟩ := X_bl2 (f := 4) (p := n1.2.2.2) (y := nI n1.2.2.2) hB (by clear ht; omega) (by clear ht; omega) a2 (fun _ => rfl)
      rw [show nI 4 = (4 : Int32) from rfl] at c1
      rw [if_neg k, if_neg (fun q => k (z0.mp q))]
      exact ⟨J2, c1, c2, fun i j q => c3 i j (by clear ht; omega)⟩
  obtain ⟨J2, c1, c2, c3⟩ := ck1
  have h2 : XD t D J2 := h1.fr (by clear ht; omega) (fun i j q => by rw [c3 i j (by clear ht; omega)])
  have T2 : TXt tl X J2 := T1.fr (fun i j q => c3 i j (by clear ht; omega))
  obtain ⟨J3, d1, d2, d3, d4⟩ := X_num (lo := 1) (n := 256) (hi := 255) hB T2 b1.2 c2 rfl (by clear ht; omega) (by clear ht; omega)
  have b2 := pNum_b (st := sA D n1) (X := X) (lo := 1) (n := 256) b1.2
  have hS8 := pNum_lt (X := X) (tl := tl) (st := sA D n1) (lo := 1) (n := 256) (a := n1.2.2.1) (by clear ht; omega) (Or.inl (by clear ht; omega))
  have h3 : XD t D J3 := h2.fr (by clear ht; omega) (fun i j q => by rw [d4 i j (by clear ht; omega)])
  have hd5 : (pNum X tl (sA D n1) 1 256 n1.2.2.1).1 = none → J3 2 5 = nI (pNum X tl (sA D n1) 1 256 n1.2.2.1).2.2.2 := fun q => d3 (pNum_ok q).1
  generalize pNum X tl (sA D n1) 1 256 n1.2.2.1 = n2 at *
  have q3 : J3 t 1 = nI (D 0 1) := h3.1.1.2.1
  have sh : nI n2.2.1 >>> (nI (D 0 1) &&& 31) = nI (n2.2.1 / 2 ^ D 0 1) := pk_shrN (by clear ht; omega) _ (D 0 1) (shW (D 0 1) y1)
  have sb := nI_bit (S := n2.2.1) (w := n1.2.1) (by clear ht; omega) hw8
  have zs := nI_z (v := n2.2.1 / 2 ^ D 0 1) (Nat.lt_of_le_of_lt (Nat.div_le_self _ _) (by clear ht; omega))
  -- the second check
  have ck2 : ∃ J4, (if nI (n2.2.1 / 2 ^ D 0 1) = 0 then (if nI (n2.2.1 / 2 ^ n1.2.1 % 2) = 0 then some (zI B J3) else f_X6_blame 2 (J3 2 5) 2 (zI B J3)) else f_X6_blame 2 (J3 2 5) 2 (zI B J3)) = some (zI B J4) ∧ CS (sA2 D n1.2.1 n2) n2.2.2.1 J4 ∧ ∀ i j, ¬ (i = 2 ∧ 2 ≤ j) → J4 i j = J3 i j := by
    unfold sA2
    obtain ⟨J4, e1, e2, e3⟩ := X_bl2 (f := 2) (p := n2.2.2.2) (y := J3 2 5) hB (by clear ht; omega) (by clear ht; omega) d2 hd5
    rw [show nI 2 = (2 : Int32) from rfl] at e1
    by_cases k : n2.2.1 / 2 ^ D 0 1 = 0
    · rw [if_pos (zs.mpr k)]
      rcases Bool.eq_false_or_eq_true (hasB n2.2.1 n1.2.1) with hb | hb
      · rw [if_neg (by rw [hasB_t hb]; exact ne10), if_neg (fun q => by rw [hb] at q; exact absurd q.2 (by decide))]
        exact ⟨J4, e1, e2, fun i j q => e3 i j (by clear ht; omega)⟩
      · rw [if_pos (by rw [hasB_f hb]; rfl), if_pos ⟨k, hb⟩]
        exact ⟨J3, rfl, d2, fun _ _ _ => rfl⟩
    · rw [if_neg (fun q => k (zs.mp q)), if_neg (fun q => k q.1)]
      exact ⟨J4, e1, e2, fun i j q => e3 i j (by clear ht; omega)⟩
  obtain ⟨J4, e1, e2, e3⟩ := ck2
  have h4 : XD t D J4 := h3.fr (by clear ht; omega) (fun i j q => by rw [e3 i j (by clear ht; omega)])
  obtain ⟨I', g1, g2, g3⟩ := X_aWay (w := n1.2.1) (S := n2.2.1) ht hS h4 hw8
  rw [show nI 0 = (0 : Int32) from rfl] at a1
  rw [show nI 1 = (1 : Int32) from rfl] at d1
  clear ht
  unfold bA2
  refine ⟨I', ?_, e2.fr (fun j => g3 2 j (by omega)), fun _ => g2, by simp only []; omega, b2.2, fun i j q => by rw [g3 i j (by omega), e3 i j (by omega), d4 i j (by omega), c3 i j (by omega), a4 i j (by omega)]⟩
  by_cases k : D 3 (2 * n1.2.1 + 1) = 0
  · rw [if_pos (z0.mpr k)] at c1
    have jj : zI B J1 = zI B J2 := Option.some.inj c1
    simp only [f_X6_readWay, show Nat.ble 1 2 = true from rfl, t1, t3, k2, cond_true, oI_eq, zac_zI, Option.bind_some, q1, a1, b2_some, g0, z0, if_pos k]
    rw [jj, d1]
    simp only [b2_some, t3, k2, cond_true, oI_eq, zac_zI, Option.bind_some, q3, sh, sb]
    by_cases k1 : nI (n2.2.1 / 2 ^ D 0 1) = 0
    · rw [if_pos k1] at e1 ⊢
      by_cases k3 : nI (n2.2.1 / 2 ^ n1.2.1 % 2) = 0
      · rw [if_pos k3] at e1 ⊢
        rw [Option.some.inj e1, g1, Option.bind_some]
      · rw [if_neg k3] at e1 ⊢
        rw [e1, Option.bind_some, zac_zI, t3, cond_true, g1, Option.bind_some]
    · rw [if_neg k1] at e1 ⊢
      rw [e1, Option.bind_some, zac_zI, t3, cond_true, g1, Option.bind_some]
  · rw [if_neg (fun q => k (z0.mp q))] at c1
    simp only [f_X6_readWay, show Nat.ble 1 2 = true from rfl, t1, t3, k2, cond_true, oI_eq, zac_zI, Option.bind_some, q1, a1, b2_some, g0, z0, if_neg k, a3, c1, d1, q3, sh, sb]
    by_cases k1 : nI (n2.2.1 / 2 ^ D 0 1) = 0
    · rw [if_pos k1] at e1 ⊢
      by_cases k3 : nI (n2.2.1 / 2 ^ n1.2.1 % 2) = 0
      · rw [if_pos k3] at e1 ⊢
        rw [Option.some.inj e1, g1, Option.bind_some]
      · rw [if_neg k3] at e1 ⊢
        rw [e1, Option.bind_some, zac_zI, t3, cond_true, g1, Option.bind_some]
    · rw [if_neg k1] at e1 ⊢
      rw [e1, Option.bind_some, zac_zI, t3, cond_true, g1, Option.bind_some]
theorem X_fn (ht : isTw B t) (hS : SD D) (h : XD t D I) {c : Nat} (hc : c ≤ 255) : f_X6_faultOfName 2 t (nI c) (zI B I) = some (nI (fnP D c)) := by
  have t1 := (TWf ht).1
  have t3 := (TWf ht).2.2.1
  clear ht
  obtain ⟨⟨e0, e1, e2, e3, e4, -⟩, -⟩ := h.1
  have y0 := hS.1.1
  have y1 := hS.1.2.1
  have y2 := hS.1.2.2.1
  have y3 := hS.1.2.2.2.1
  have y4 := hS.2.1
  have z0 := nI_z (v := D 0 0) (by omega)
  have c1 : nI c = 121 ↔ c = 121 := nI_eq (b := 121) (by omega) (by omega)
  have c2 : nI c = 97 ↔ c = 97 := nI_eq (b := 97) (by omega) (by omega)
  have c3 : nI c = 110 ↔ c = 110 := nI_eq (b := 110) (by omega) (by omega)
  have c4 : nI c = 111 ↔ c = 111 := nI_eq (b := 111) (by omega) (by omega)
  have c5 : nI c = 112 ↔ c = 112 := nI_eq (b := 112) (by omega) (by omega)
  have c6 : nI c = 119 ↔ c = 119 := nI_eq (b := 119) (by omega) (by omega)
  have l1 : 10 ≤ nI (D 0 4) ↔ 10 ≤ D 0 4 := nI_leI (a := 10) (by omega) (by omega)
  have l2 : 8 ≤ nI (D 0 3) ↔ 8 ≤ D 0 3 := nI_leI (a := 8) (by omega) (by omega)
  have l3 : 5 ≤ nI (D 0 2) ↔ 5 ≤ D 0 2 := nI_leI (a := 5) (by omega) (by omega)
  have l4 : 8 ≤ nI (D 0 1) ↔ 8 ≤ D 0 1 := nI_leI (a := 8) (by omega) (by omega)
  unfold fnP
  simp only [f_X6_faultOfName, show Nat.ble 1 2 = true from rfl, t1, t3, cond_true, oI_eq, Option.bind_some, e0, e1, e2, e3, e4, z0, c1, c2, c3, c4, c5, c6, l1, l2, l3, l4]
  repeat' split
  all_goals rfl
theorem fnP_le {c : Nat} : fnP D c ≤ 3 := by
  unfold fnP
  repeat' split
  all_goals omega
/-- a clause's end, read by the class -/
theorem X_tail (hB : GB B tw s u) (hT : TXt tl X I) (ha : a ≤ tl) (hC : CS st a I) : ∃ J, f_X6_skipBlanks 2 (zI B I) = some (zI B J) ∧ J 2 4 = nI (sk X tl a) ∧ ((f_X6_letterHere 2 (zI B J) = some 59 ∧ CS (pE X tl st a).1 (pE X tl st a).2 (cu J 2 4 (nI (sk X tl a + 1)))) ∨ (∃ y I', f_X6_letterHere 2 (zI B J) = some y ∧ ¬ y = 59 ∧ f_X6_blame 2 (nI (sk X tl a)) 1 (zI B J) = some (zI B I') ∧ CS (pE X tl st a).1 (pE X tl st a).2 I' ∧ ∀ i j, ¬ (i = 2 ∧ 2 ≤ j) → I' i j = J i j)) ∧ ∀ i j, ¬ (i = 2 ∧ 2 ≤ j) → J i j = I i j := by
  have htl := hT.1
  obtain ⟨J, a1, a2, a3⟩ := X_skip hB hT ha hC.2
  obtain ⟨s1, s2⟩ := sk_b (X := X) ha
  have hC1 : CS st (sk X tl a) J := by
    unfold CS at hC ⊢
    rw [a3 2 2 (by omega), a3 2 3 (by omega)]
    exact ⟨hC.1, a2⟩
  have hT1 : TXt tl X J := hT.fr (fun i j q => a3 i j (by omega))
  have hl := X_lh hB hT1 s2 a2
  refine ⟨J, a1, a2, ?_, fun i j q => a3 i j (by omega)⟩
  unfold pE
  by_cases k : sk X tl a < tl ∧ X (sk X tl a) = 59
  · left
    rw [if_pos k]
    rw [if_pos k.1, k.2] at hl
    refine ⟨hl, ?_, by rw [cu_s]⟩
    have := hC1.1
    cases st with
    | none => exact ⟨by rw [cu_o (by omega)]; exact this.1, by rw [cu_o (by omega)]; exact this.2⟩
    | some q => exact ⟨by rw [cu_o (by omega)]; exact this.1, by rw [cu_o (by omega)]; exact this.2.1, this.2.2⟩
  · right
    rw [if_neg k]
    obtain ⟨I', c1, c2, c3⟩ := X_bl (f := 1) (p := sk X tl a) hB (by omega) (by omega) hC1
    rw [show nI 1 = (1 : Int32) from rfl] at c1
    refine ⟨_, I', hl, ?_, c1, c2, fun i j q => c3 i j (by omega)⟩
    by_cases kq : sk X tl a < tl
    · rw [if_pos kq]
      have hx := (hT.2.2.2 _ kq).2.2
      exact fun e => k ⟨kq, (nI_eq (b := 59) (by omega) (by omega)).mp e⟩
    · rw [if_neg kq]; decide
theorem X_rc (hB : GB B tw s u) (ht : isTw B t) (ht3 : t = 13 ∨ t = 4) (hT : TXt tl X I) (ha : a < tl) (hC : CS none a I) (hS : SD D) (h : XD t D I) : ∃ I', f_X6_readClause 2 t (zI B I) = some (zI B I') ∧ CS (clP X tl D a).1 (clP X tl D a).2.1 I' ∧ ((clP X tl D a).1 = none → XD t (clP X tl D a).2.2 I') ∧ ((clP X tl D a).1 = none → a < (clP X tl D a).2.1) ∧ (clP X tl D a).2.1 ≤ tl ∧ ∀ i j, ¬ ((i = 2 ∧ 2 ≤ j) ∨ (t ≤ i ∧ i ≤ t + 8)) → I' i j = I i j := by
  obtain ⟨-, k2, -⟩ := hB.tx
  have ht2 : 13 ≤ t ∨ t = 4 := by omega
  have htl := hT.1
  have t1 := (TWf ht).1
  have t3 := (TWf ht).2.2.1
  have tb := (TWf ht).2.1
  have hl := X_lh hB hT (Nat.le_of_lt ha) hC.2
  rw [if_pos ha] at hl
  have hx := (hT.2.2.2 a ha).2.2
  have hfn := X_fn ht hS h hx
  have hf3 := fnP_le (D := D) (c := X a)
  have zf := nI_z (v := fnP D (X a)) (by clear ht; omega)
  unfold clP
  by_cases kf : fnP D (X a) = 0
  · rw [if_pos kf]
    obtain ⟨J, hJ⟩ : ∃ J, J = cu I 2 4 (nI (a + 1)) := ⟨_, rfl⟩
    have oJ : ∀ i j, ¬ (i = 2 ∧ j = 4) → J i j = I i j := fun i j q => by rw [hJ, cu_o (by clear ht; omega)]
    have CJ : CS none (a + 1) J := ⟨⟨by rw [oJ 2 2 (by clear ht; omega)]; exact hC.1.1, by rw [oJ 2 3 (by clear ht; omega)]; exact hC.1.2⟩, by rw [hJ, cu_s]⟩
    have TJ : TXt tl X J := hT.fr (fun i j q => oJ i j (by clear ht; omega))
    have DJ : XD t D J := h.fr (by clear ht; omega) (fun i j q => oJ i j (by clear ht; omega))
    have e4 : I 2 4 = nI a := hC.2
    have c1 : nI (X a) = 97 ↔ X a = 97 := nI_eq (b := 97) (by clear ht; omega) (by clear ht; omega)
    have c2 : nI (X a) = 111 ↔ X a = 111 := nI_eq (b := 111) (by clear ht; omega) (by clear ht; omega)
    have c3 : nI (X a) = 112 ↔ X a = 112 := nI_eq (b := 112) (by clear ht; omega) (by clear ht; omega)
    have c4 : nI (X a) = 119 ↔ X a = 119 := nI_eq (b := 119) (by clear ht; omega) (by clear ht; omega)
    have c5 : nI (X a) = 121 ↔ X a = 121 := nI_eq (b := 121) (by clear ht; omega) (by clear ht; omega)
    -- from a body to the clause
    have wrap : ∀ (b : PBd) (I1 : Nat → Nat → Int32), CS b.1 b.2.1 I1 → (b.1 = none → XD t b.2.2 I1) → a + 1 ≤ b.2.1 → b.2.1 ≤ tl → (∀ i j, ¬ ((i = 2 ∧ 2 ≤ j) ∨ (t ≤ i ∧ i ≤ t + 8)) → I1 i j = J i j) →
        (∀ J2, f_X6_skipBlanks 2 (zI B I1) = some (zI B J2) → J2 2 4 = nI (sk X tl b.2.1) → (f_X6_letterHere 2 (zI B J2) = some 59 → f_X6_readClause 2 t (zI B I) = some (zI B (cu J2 2 4 (nI (sk X tl b.2.1 + 1))))) ∧ (∀ y I', f_X6_letterHere 2 (zI B J2) = some y → ¬ y = 59 → f_X6_blame 2 (nI (sk X tl b.2.1)) 1 (zI B J2) = some (zI B I') → f_X6_readClause 2 t (zI B I) = some (zI B I'))) →
        ∃ I', f_X6_readClause 2 t (zI B I) = some (zI B I') ∧ CS (clE X tl b).1 (clE X tl b).2.1 I' ∧ ((clE X tl b).1 = none → XD t (clE X tl b).2.2 I') ∧ ((clE X tl b).1 = none → a < (clE X tl b).2.1) ∧ (clE X tl b).2.1 ≤ tl ∧ ∀ i j, ¬ ((i = 2 ∧ 2 ≤ j) ∨ (t ≤ i ∧ i ≤ t + 8)) → I' i j = I i j := by
      intro b I1 w1 w2 w3 w4 w5 w6
      have T1 : TXt tl X I1 := TJ.fr (fun i j q => w5 i j (by clear ht; omega))
      obtain ⟨J2, v1, v2, v3, v4⟩ := X_tail hB T1 w4 w1
      obtain ⟨p1, p2⟩ := w6 J2 v1 v2
      have pe := pE_b (X := X) (st := b.1) w4
      have hn : (clE X tl b).1 = none → b.1 = none := fun q => by
        unfold clE pE at q
        split at q
        · exact q
        · exact absurd q pO_n
      have fin : ∀ I', f_X6_readClause 2 t (zI B I) = some (zI B I') → CS (pE X tl b.1 b.2.1).1 (pE X tl b.1 b.2.1).2 I' → (∀ i j, ¬ (i = 2 ∧ 2 ≤ j) → I' i j = J2 i j) → ∃ I', f_X6_readClause 2 t (zI B I) = some (zI B I') ∧ CS (clE X tl b).1 (clE X tl b).2.1 I' ∧ ((clE X tl b).1 = none → XD t (clE X tl b).2.2 I') ∧ ((clE X tl b).1 = none → a < (clE X tl b).2.1) ∧ (clE X tl b).2.1 ≤ tl ∧ ∀ i j, ¬ ((i = 2 ∧ 2 ≤ j) ∨ (t ≤ i ∧ i ≤ t + 8)) → I' i j = I i j := by
        intro I' f1 f2 f3
        refine ⟨I', f1, f2, fun q => (w2 (hn q)).fr (by clear ht; omega) (fun i j qq => by rw [f3 i j (by clear ht; omega), v4 i j (by clear ht; omega)]), fun _ => by show a < (pE X tl b.1 b.2.1).2; clear ht; omega, pe.2, fun i j q => by rw [f3 i j (by clear ht; omega), v4 i j (by clear ht; omega), w5 i j q, oJ i j (by clear ht; omega)]⟩
      rcases v3 with ⟨r1, r2⟩ | ⟨y, I', r1, r2, r3, r4, r5⟩
      · exact fin _ (p1 r1) r2 (fun i j q => cu_o (by clear ht; omega))
      · exact fin I' (p2 y I' r1 r2 r3) r4 r5
    unfold bdP
    by_cases k1 : X a = 97
    · rw [if_pos k1]
      obtain ⟨I1, g1, g2, g3, g4, g5, g6⟩ := X_rA hB ht ht2 TJ ha CJ hS DJ
      clear ht
      refine wrap _ I1 g2 g3 g4 g5 g6 (fun J2 v1 v2 => ⟨fun v3 => ?_, fun y I' v3 v4 v5 => ?_⟩)
      · simp only [f_X6_readClause, show Nat.ble 1 2 = true from rfl, t1, k2, cond_true, oI_eq, pI_cu, zac_zI, Option.bind_some, hl, hfn, zf, if_pos kf, e4, nI_1, ← hJ, c1, if_pos k1, g1, v1, v3, if_pos, v2]
      · simp only [f_X6_readClause, show Nat.ble 1 2 = true from rfl, t1, k2, cond_true, oI_eq, pI_cu, zac_zI, Option.bind_some, hl, hfn, zf, if_pos kf, e4, nI_1, ← hJ, c1, if_pos k1, g1, v1, v3, if_neg v4, v2, v5]
    · rw [if_neg k1]
      by_cases k3 : X a = 111
      · rw [if_pos k3]
        obtain ⟨I1, g1, g2, g3, g4, g5, g6⟩ := X_rO hB ht ht2 TJ ha CJ hS DJ
        clear ht
        refine wrap _ I1 g2 g3 g4 g5 g6 (fun J2 v1 v2 => ⟨fun v3 => ?_, fun y I' v3 v4 v5 => ?_⟩)
        · simp only [f_X6_readClause, show Nat.ble 1 2 = true from rfl, t1, k2, cond_true, oI_eq, pI_cu, zac_zI, Option.bind_some, hl, hfn, zf, if_pos kf, e4, nI_1, ← hJ, c1, if_neg k1, c2, if_pos k3, g1, v1, v3, if_pos, v2]
        · simp only [f_X6_readClause, show Nat.ble 1 2 = true from rfl, t1, k2, cond_true, oI_eq, pI_cu, zac_zI, Option.bind_some, hl, hfn, zf, if_pos kf, e4, nI_1, ← hJ, c1, if_neg k1, c2, if_pos k3, g1, v1, v3, if_neg v4, v2, v5]
      · rw [if_neg k3]
        by_cases k4 : X a = 112
        · rw [if_pos k4]
          have hp5 : D 0 2 < 5 := by
            rw [k4] at kf
            unfold fnP at kf
            rw [if_neg (by decide)] at kf
            split at kf
            · exact absurd kf (by decide)
            · rw [if_neg (by decide), if_neg (by decide), if_neg (by decide), if_pos rfl] at kf
              split at kf
              · exact absurd kf (by decide)
              · clear ht; omega
          obtain ⟨J1, a1, a2, -, a4⟩ := X_num (lo := 0) (n := 2) (hi := 1) hB TJ ha CJ rfl (by clear ht; omega) (by clear ht; omega)
          have b1 := pNum_b (st := none) (X := X) (tl := tl) (lo := 0) (n := 2) (a := a + 1) ha
          have hv : (pNum X tl none 0 2 (a + 1)).2.1 ≤ 1 := by
            by_cases hh : (pNum X tl none 0 2 (a + 1)).1 = none
            · have := (pNum_ok hh).2.2; clear ht; omega
            · rw [pNum_v hh]; clear ht; omega
          have D1 : XD t D J1 := DJ.fr (by clear ht; omega) (fun i j q => by rw [a4 i j (by clear ht; omega)])
          generalize pNum X tl none 0 2 (a + 1) = n1 at *
          obtain ⟨I1, g1, g2, g3⟩ := X_aPers (b := n1.2.1) ht hS D1 hp5 hv
          rw [show nI 0 = (0 : Int32) from rfl] at a1
          clear ht
          have zp : nI n1.2.1 = 1 ↔ n1.2.1 = 1 := nI_eq (b := 1) (by omega) (by omega)
          refine wrap (bP D n1) I1 (a2.fr (fun j => g3 2 j (by omega))) (fun _ => g2) b1.1 b1.2 (fun i j q => by rw [g3 i j (by omega), a4 i j (by omega)]) (fun J2 v1 v2 => ⟨fun v3 => ?_, fun y I' v3 v4 v5 => ?_⟩)
          · have v2 : J2 2 4 = nI (sk X tl n1.2.2.1) := v2
            by_cases kp : n1.2.1 = 1
            · rw [kp, show nI 1 = (1 : Int32) from rfl] at g1
              simp only [f_X6_readClause, show Nat.ble 1 2 = true from rfl, t1, t3, k2, cond_true, oI_eq, pI_cu, zac_zI, Option.bind_some, hl, hfn, zf, if_pos kf, e4, nI_1, ← hJ, c1, if_neg k1, c2, if_neg k3, c3, if_pos k4, a1, b2_some, zp, if_pos kp, g1, v1, v3, if_pos, v2]
              rfl
            · rw [show n1.2.1 = 0 by omega, show nI 0 = (0 : Int32) from rfl] at g1
              simp only [f_X6_readClause, show Nat.ble 1 2 = true from rfl, t1, t3, k2, cond_true, oI_eq, pI_cu, zac_zI, Option.bind_some, hl, hfn, zf, if_pos kf, e4, nI_1, ← hJ, c1, if_neg k1, c2, if_neg k3, c3, if_pos k4, a1, b2_some, zp, if_neg kp, g1, v1, v3, if_pos, v2]
              rfl
          · have v2 : J2 2 4 = nI (sk X tl n1.2.2.1) := v2
            have v5 : f_X6_blame 2 (nI (sk X tl n1.2.2.1)) 1 (zI B J2) = some (zI B I') := v5
            by_cases kp : n1.2.1 = 1
            · rw [kp, show nI 1 = (1 : Int32) from rfl] at g1
              simp only [f_X6_readClause, show Nat.ble 1 2 = true from rfl, t1, t3, k2, cond_true, oI_eq, pI_cu, zac_zI, Option.bind_some, hl, hfn, zf, if_pos kf, e4, nI_1, ← hJ, c1, if_neg k1, c2, if_neg k3, c3, if_pos k4, a1, b2_some, zp, if_pos kp, g1, v1, v3, if_neg v4, v2, v5]
            · rw [show n1.2.1 = 0 by omega, show nI 0 = (0 : Int32) from rfl] at g1
              simp only [f_X6_readClause, show Nat.ble 1 2 = true from rfl, t1, t3, k2, cond_true, oI_eq, pI_cu, zac_zI, Option.bind_some, hl, hfn, zf, if_pos kf, e4, nI_1, ← hJ, c1, if_neg k1, c2, if_neg k3, c3, if_pos k4, a1, b2_some, zp, if_neg kp, g1, v1, v3, if_neg v4, v2, v5]
        · rw [if_neg k4]
          by_cases k5 : X a = 119
          · rw [if_pos k5]
            have hp5 : D 0 1 < 8 := by
              rw [k5] at kf
              unfold fnP at kf
              rw [if_neg (by decide)] at kf
              split at kf
              · exact absurd kf (by decide)
              · rw [if_neg (by decide), if_neg (by decide), if_neg (by decide), if_neg (by decide), if_pos rfl] at kf
                split at kf
                · exact absurd kf (by decide)
                · clear ht; omega
            obtain ⟨I1, g1, g2, g3, g4, g5, g6⟩ := X_rW hB ht ht2 TJ ha CJ DJ hp5
            clear ht
            refine wrap _ I1 g2 g3 g4 g5 g6 (fun J2 v1 v2 => ⟨fun v3 => ?_, fun y I' v3 v4 v5 => ?_⟩)
            · simp only [f_X6_readClause, show Nat.ble 1 2 = true from rfl, t1, k2, cond_true, oI_eq, pI_cu, zac_zI, Option.bind_some, hl, hfn, zf, if_pos kf, e4, nI_1, ← hJ, c1, if_neg k1, c2, if_neg k3, c3, if_neg k4, c4, if_pos k5, g1, v1, v3, if_pos, v2]
            · simp only [f_X6_readClause, show Nat.ble 1 2 = true from rfl, t1, k2, cond_true, oI_eq, pI_cu, zac_zI, Option.bind_some, hl, hfn, zf, if_pos kf, e4, nI_1, ← hJ, c1, if_neg k1, c2, if_neg k3, c3, if_neg k4, c4, if_pos k5, g1, v1, v3, if_neg v4, v2, v5]
          · rw [if_neg k5]
            by_cases k6 : X a = 121
            · rw [if_pos k6]
              obtain ⟨J1, a1, a2, -, a4⟩ := X_num (lo := 1) (n := 100) (hi := 99) hB TJ ha CJ rfl (by clear ht; omega) (by clear ht; omega)
              have b1 := pNum_b (st := none) (X := X) (tl := tl) (lo := 1) (n := 100) (a := a + 1) ha
              have D1 : XD t D J1 := DJ.fr (by clear ht; omega) (fun i j q => by rw [a4 i j (by clear ht; omega)])
              generalize pNum X tl none 1 100 (a + 1) = n1 at *
              rw [show nI 1 = (1 : Int32) from rfl] at a1
              clear ht
              obtain ⟨I1, hI1⟩ : ∃ K, K = cu J1 t 0 (nI n1.2.1) := ⟨_, rfl⟩
              have DY : XD t (u2 D 0 0 n1.2.1) I1 := by
                obtain ⟨⟨⟨e0, e1, e2, e3, e4, e5, e6⟩, h2, h3, h4⟩, h7⟩ := D1
                have w0 : ∀ a b, ¬ (a = 0 ∧ b = 0) → u2 D 0 0 n1.2.1 a b = D a b := fun a b q => u2_o (by omega)
                have o : ∀ i j, ¬ (i = t ∧ j = 0) → I1 i j = J1 i j := fun i j q => by rw [hI1, cu_o (by omega)]
                have b4 : u2 D 0 0 n1.2.1 4 = D 4 := funext fun j => w0 4 j (by omega)
                have b5 : u2 D 0 0 n1.2.1 5 = D 5 := funext fun j => w0 5 j (by omega)
                refine ⟨⟨⟨by rw [hI1, cu_s, u2_s], by rw [o t 1 (by omega), w0 0 1 (by omega), e1], by rw [o t 2 (by omega), w0 0 4 (by omega), e2], by rw [o t 3 (by omega), w0 0 2 (by omega), e3], by rw [o t 4 (by omega), w0 0 3 (by omega), e4], by rw [o t 5 (by omega), b4, e5], by rw [o t 6 (by omega), b5, e6]⟩, fun w hw => ?_, fun k hk => by rw [o _ _ (by omega), w0 3 k (by omega)]; exact h3 k hk, fun n hn => ?_⟩, fun w hw => ?_⟩
                · rw [w0 0 1 (by omega)] at hw
                  rw [o _ _ (by omega), o _ _ (by omega), w0 1 w (by omega), w0 2 w (by omega)]
                  exact h2 w hw
                · rw [w0 0 3 (by omega)] at hn
                  rw [o _ _ (by omega), o _ _ (by omega), o _ _ (by omega), o _ _ (by omega), w0 6 _ (by omega), w0 6 _ (by omega), w0 6 _ (by omega), w0 6 _ (by omega)]
                  exact h4 n hn
                · rw [w0 0 1 (by omega)] at hw
                  rw [o _ _ (by omega), w0 7 w (by omega)]
                  exact h7 w hw
              refine wrap (bY D n1) I1 (a2.fr (fun j => by rw [hI1, cu_o (by omega)])) (fun _ => DY) b1.1 b1.2 (fun i j q => by rw [hI1, cu_o (by omega), a4 i j (by omega)]) (fun J2 v1 v2 => ⟨fun v3 => ?_, fun y I' v3 v4 v5 => ?_⟩)
              · have v2 : J2 2 4 = nI (sk X tl n1.2.2.1) := v2
                simp only [f_X6_readClause, show Nat.ble 1 2 = true from rfl, t1, t3, k2, cond_true, oI_eq, pI_cu, zac_zI, Option.bind_some, hl, hfn, zf, if_pos kf, e4, nI_1, ← hJ, c1, if_neg k1, c2, if_neg k3, c3, if_neg k4, c4, if_neg k5, c5, if_pos k6, a1, b2_some, ← hI1, v1, v3, if_pos, v2]
                rfl
              · have v2 : J2 2 4 = nI (sk X tl n1.2.2.1) := v2
                have v5 : f_X6_blame 2 (nI (sk X tl n1.2.2.1)) 1 (zI B J2) = some (zI B I') := v5
                simp only [f_X6_readClause, show Nat.ble 1 2 = true from rfl, t1, t3, k2, cond_true, oI_eq, pI_cu, zac_zI, Option.bind_some, hl, hfn, zf, if_pos kf, e4, nI_1, ← hJ, c1, if_neg k1, c2, if_neg k3, c3, if_neg k4, c4, if_neg k5, c5, if_pos k6, a1, b2_some, ← hI1, v1, v3, if_neg v4, v2, v5]
            · rw [if_neg k6]
              have hp5 : D 0 3 < 8 := by
                unfold fnP at kf
                rw [if_neg k6, if_neg k1, if_neg k3, if_neg k4, if_neg k5] at kf
                split at kf
                · exact absurd kf (by decide)
                · split at kf
                  · split at kf
                    · exact absurd kf (by decide)
                    · clear ht; omega
                  · exact absurd kf (by decide)
              obtain ⟨I1, g1, g2, g3, g4, g5, g6⟩ := X_rN hB ht ht2 TJ ha CJ hS DJ hp5
              clear ht
              refine wrap _ I1 g2 g3 g4 g5 g6 (fun J2 v1 v2 => ⟨fun v3 => ?_, fun y I' v3 v4 v5 => ?_⟩)
              · simp only [f_X6_readClause, show Nat.ble 1 2 = true from rfl, t1, k2, cond_true, oI_eq, pI_cu, zac_zI, Option.bind_some, hl, hfn, zf, if_pos kf, e4, nI_1, ← hJ, c1, if_neg k1, c2, if_neg k3, c3, if_neg k4, c4, if_neg k5, c5, if_neg k6, g1, v1, v3, if_pos, v2]
              · simp only [f_X6_readClause, show Nat.ble 1 2 = true from rfl, t1, k2, cond_true, oI_eq, pI_cu, zac_zI, Option.bind_some, hl, hfn, zf, if_pos kf, e4, nI_1, ← hJ, c1, if_neg k1, c2, if_neg k3, c3, if_neg k4, c4, if_neg k5, c5, if_neg k6, g1, v1, v3, if_neg v4, v2, v5]
  · rw [if_neg kf]
    obtain ⟨I', c1, c2, c3⟩ := X_bl (f := fnP D (X a)) (p := a) hB (by clear ht; omega) (by clear ht; omega) hC
    clear ht
    refine ⟨I', ?_, c2, fun q => absurd q (by simp), fun q => absurd q (by simp), Nat.le_of_lt ha, fun i j q => c3 i j (by omega)⟩
    simp only [f_X6_readClause, show Nat.ble 1 2 = true from rfl, t1, k2, cond_true, oI_eq, zac_zI, Option.bind_some, hl, hfn, zf, if_neg kf, hC.2, c1]
end CLS
