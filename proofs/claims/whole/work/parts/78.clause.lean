/-! clauses, read by the class -/
def fnP (D : Nat → Nat → Nat) (c : Nat) : Nat := if c = 121 then (if D 0 0 = 0 then 0 else 3) else if D 0 0 = 0 then 1 else if c = 97 then (if 10 ≤ D 0 4 then 3 else 0) else if c = 110 then (if 8 ≤ D 0 3 then 3 else 0) else if c = 111 then 0 else if c = 112 then (if 5 ≤ D 0 2 then 3 else 0) else if c = 119 then (if 8 ≤ D 0 1 then 3 else 0) else 1
abbrev PBd : Type := PSt × Nat × (Nat → Nat → Nat)
def bW3 (D : Nat → Nat → Nat) (n1 n2 n3 : PSt × Nat × Nat × Nat) : PBd := (n3.1, n3.2.2.1, aWord D n1.2.1 n2.2.1 n3.2.1)
def bW2 (X : Nat → Nat) (tl : Nat) (D : Nat → Nat → Nat) (n1 n2 : PSt × Nat × Nat × Nat) : PBd := bW3 D n1 n2 (pNum X tl n2.1 0 10 n2.2.2.1)
def bW (X : Nat → Nat) (tl : Nat) (D : Nat → Nat → Nat) (n1 : PSt × Nat × Nat × Nat) : PBd := bW2 X tl D n1 (pNum X tl n1.1 1 100 n1.2.2.1)
def sA (D : Nat → Nat → Nat) (n1 : PSt × Nat × Nat × Nat) : PSt := if D 3 (2 * n1.2.1 + 1) = 0 then n1.1 else pO n1.1 4 n1.2.2.2
def sA2 (D : Nat → Nat → Nat) (w : Nat) (n2 : PSt × Nat × Nat × Nat) : PSt := if n2.2.1 / 2 ^ D 0 1 = 0 ∧ hasB n2.2.1 w = false then n2.1 else pO n2.1 2 n2.2.2.2
def bA2 (D : Nat → Nat → Nat) (n1 n2 : PSt × Nat × Nat × Nat) : PBd := (sA2 D n1.2.1 n2, n2.2.2.1, aWay D n1.2.1 n2.2.1)
def bA (X : Nat → Nat) (tl : Nat) (D : Nat → Nat → Nat) (n1 : PSt × Nat × Nat × Nat) : PBd := bA2 D n1 (pNum X tl (sA D n1) 1 256 n1.2.2.1)
def bO (D : Nat → Nat → Nat) (n1 : PSt × Nat × Nat × Nat) : PBd := (if D 4 n1.2.1 = 0 then n1.1 else pO n1.1 4 n1.2.2.2, n1.2.2.1, u2 D 4 n1.2.1 1)
def bP (D : Nat → Nat → Nat) (n1 : PSt × Nat × Nat × Nat) : PBd := (n1.1, n1.2.2.1, aPers D n1.2.1)
def bY (D : Nat → Nat → Nat) (n1 : PSt × Nat × Nat × Nat) : PBd := (n1.1, n1.2.2.1, u2 D 0 0 n1.2.1)
def bN4 (D : Nat → Nat → Nat) (n1 n2 n3 n4 : PSt × Nat × Nat × Nat) : PBd := (n4.1, n4.2.2.1, aNeed D n1.2.1 n2.2.1 n3.2.1 n4.2.1)
def bN3 (X : Nat → Nat) (tl : Nat) (D : Nat → Nat → Nat) (n1 n2 n3 : PSt × Nat × Nat × Nat) : PBd := bN4 D n1 n2 n3 (pNum X tl n3.1 0 100 n3.2.2.1)
def bN2 (X : Nat → Nat) (tl : Nat) (D : Nat → Nat → Nat) (n1 n2 : PSt × Nat × Nat × Nat) : PBd := bN3 X tl D n1 n2 (pNum X tl n2.1 0 (D 0 0) n2.2.2.1)
def bN (X : Nat → Nat) (tl : Nat) (D : Nat → Nat → Nat) (n1 : PSt × Nat × Nat × Nat) : PBd := bN2 X tl D n1 (pNum X tl n1.1 0 (D 0 1) n1.2.2.1)
/-- a clause's body, its name at a -/
def bdP (X : Nat → Nat) (tl : Nat) (D : Nat → Nat → Nat) (c a : Nat) : PBd :=
  if c = 97 then bA X tl D (pNum X tl none 0 (D 0 1) a) else if c = 111 then bO D (pNum X tl none 0 (D 0 1) a) else if c = 112 then bP D (pNum X tl none 0 2 a) else if c = 119 then bW X tl D (pNum X tl none 0 100 a) else if c = 121 then bY D (pNum X tl none 1 100 a) else bN X tl D (pNum X tl none 0 (D 0 2) a)
def clE (X : Nat → Nat) (tl : Nat) (b : PBd) : PBd := ((pE X tl b.1 b.2.1).1, (pE X tl b.1 b.2.1).2, b.2.2)
def clP (X : Nat → Nat) (tl : Nat) (D : Nat → Nat → Nat) (a : Nat) : PBd := if fnP D (X a) = 0 then clE X tl (bdP X tl D (X a) (a + 1)) else (some (fnP D (X a), a), a, D)
theorem shW : ∀ W, W ≤ 8 → ((nI W &&& 31).toBitVec.smod 32).toNat = W := by decide +kernel
section CLR
variable {B : zM} {tw s u t tl a lo n : Nat} {X : Nat → Nat} {D : Nat → Nat → Nat} {I : Nat → Nat → Int32} {st : PSt}
theorem X_bl2 (hB : GB B tw s u) {f p : Nat} {y : Int32} (hf : 1 ≤ f) (hf4 : f ≤ 4) (hC : CS st a I) (hy : st = none → y = nI p) : ∃ I', f_X6_blame 2 y (nI f) (zI B I) = some (zI B I') ∧ CS (pO st f p) a I' ∧ ∀ i j, ¬ (i = 2 ∧ (j = 2 ∨ j = 3)) → I' i j = I i j := by
  cases st with
  | none => rw [hy rfl]; exact X_bl hB hf hf4 hC
  | some q =>
    obtain ⟨-, k2, -⟩ := hB.tx
    obtain ⟨⟨h3, h4, h5, h6⟩, h2⟩ := hC
    have c : ¬ nI q.1 = 0 := fun e => absurd ((nI_z (by omega)).mp e) (by omega)
    refine ⟨I, ?_, ⟨⟨h3, h4, h5, h6⟩, h2⟩, fun _ _ _ => rfl⟩
    simp only [f_X6_blame, show Nat.ble 1 2 = true from rfl, k2, cond_true, oI_eq, Option.bind_some, h3, if_neg c]
theorem XD.fr {I' : Nat → Nat → Int32} (h : XD t D I) (ht : 2 < t) (hf : ∀ i j, i ≠ 2 → I' i j = I i j) : XD t D I' :=
  ⟨h.1.fr (a := 2) (b := 2) (fun i hi => funext fun j => hf i j (by omega)) (by omega), fun w hw => by rw [hf _ _ (by omega)]; exact h.2 w hw⟩
theorem CS.fr {I' : Nat → Nat → Int32} (h : CS st a I) (hf : ∀ j, I' 2 j = I 2 j) : CS st a I' := by
  unfold CS at h ⊢
  rw [hf 2, hf 3, hf 4]
  exact h
theorem pNum_lt (hn : n ≤ 256) (h0 : 0 < n ∨ (pNum X tl st lo n a).2.1 = 0) : (pNum X tl st lo n a).2.1 < 256 := by
  by_cases h : (pNum X tl st lo n a).1 = none
  · have := (pNum_ok h).2.2
    omega
  · rw [pNum_v h]; omega
theorem X_rW (hB : GB B tw s u) (ht : isTw B t) (ht2 : 13 ≤ t ∨ t = 4) (hT : TXt tl X I) (ha : a ≤ tl) (hC : CS none a I) (h : XD t D I) (hn : D 0 1 < 8) : ∃ I', f_X6_readWord 2 t (zI B I) = some (zI B I') ∧ CS (bW X tl D (pNum X tl none 0 100 a)).1 (bW X tl D (pNum X tl none 0 100 a)).2.1 I' ∧ ((bW X tl D (pNum X tl none 0 100 a)).1 = none → XD t (bW X tl D (pNum X tl none 0 100 a)).2.2 I') ∧ a ≤ (bW X tl D (pNum X tl none 0 100 a)).2.1 ∧ (bW X tl D (pNum X tl none 0 100 a)).2.1 ≤ tl ∧ ∀ i j, ¬ ((i = 2 ∧ 2 ≤ j) ∨ (t ≤ i ∧ i ≤ t + 8)) → I' i j = I i j := by
  obtain ⟨-, k2, -⟩ := hB.tx
  have t1 := (TWf ht).1
  have t3 := (TWf ht).2.2.1
  have tb := (TWf ht).2.1
  obtain ⟨J1, a1, a2, -, a4⟩ := X_num (lo := 0) (n := 100) (hi := 99) hB hT ha hC rfl (by omega) (by omega)
  have b1 := pNum_b (st := none) (X := X) (lo := 0) (n := 100) ha
  have T1 : TXt tl X J1 := hT.fr (fun i j q => a4 i j (by omega))
  generalize pNum X tl none 0 100 a = n1 at *
  obtain ⟨J2, d1, d2, -, d4⟩ := X_num (lo := 1) (n := 100) (hi := 99) hB T1 b1.2 a2 rfl (by omega) (by omega)
  have b2 := pNum_b (st := n1.1) (X := X) (lo := 1) (n := 100) b1.2
  have T2 : TXt tl X J2 := T1.fr (fun i j q => d4 i j (by omega))
  unfold bW
  generalize pNum X tl n1.1 1 100 n1.2.2.1 = n2 at *
  unfold bW2
  obtain ⟨J3, e1, e2, -, e4⟩ := X_num (lo := 0) (n := 10) (hi := 9) hB T2 b2.2 d2 rfl (by omega) (by omega)
  have b3 := pNum_b (st := n2.1) (X := X) (lo := 0) (n := 10) b2.2
  generalize pNum X tl n2.1 0 10 n2.2.2.1 = n3 at *
  have h3 : XD t D J3 := h.fr (by omega) (fun i j q => by rw [e4 i j (by omega), d4 i j (by omega), a4 i j (by omega)])
  obtain ⟨I', g1, g2, g3⟩ := X_aWord (l := n1.2.1) (c := n2.2.1) (r := n3.2.1) ht h3 hn
  rw [show nI 0 = (0 : Int32) from rfl] at a1 e1
  rw [show nI 1 = (1 : Int32) from rfl] at d1
  clear ht
  unfold bW3
  refine ⟨I', ?_, e2.fr (fun j => g3 2 j (by omega)), fun _ => g2, by simp only []; omega, b3.2, fun i j q => by rw [g3 i j (by omega), e4 i j (by omega), d4 i j (by omega), a4 i j (by omega)]⟩
  simp only [f_X6_readWord, show Nat.ble 1 2 = true from rfl, t1, t3, k2, cond_true, zac_zI, a1, b2_some, d1, e1, g1, Option.bind_some]
theorem X_rN (hB : GB B tw s u) (ht : isTw B t) (ht2 : 13 ≤ t ∨ t = 4) (hT : TXt tl X I) (ha : a ≤ tl) (hC : CS none a I) (hS : SD D) (h : XD t D I) (hn : D 0 3 < 8) : ∃ I', f_X6_readNeed 2 t (zI B I) = some (zI B I') ∧ CS (bN X tl D (pNum X tl none 0 (D 0 2) a)).1 (bN X tl D (pNum X tl none 0 (D 0 2) a)).2.1 I' ∧ ((bN X tl D (pNum X tl none 0 (D 0 2) a)).1 = none → XD t (bN X tl D (pNum X tl none 0 (D 0 2) a)).2.2 I') ∧ a ≤ (bN X tl D (pNum X tl none 0 (D 0 2) a)).2.1 ∧ (bN X tl D (pNum X tl none 0 (D 0 2) a)).2.1 ≤ tl ∧ ∀ i j, ¬ ((i = 2 ∧ 2 ≤ j) ∨ (t ≤ i ∧ i ≤ t + 8)) → I' i j = I i j := by
  obtain ⟨-, k2, -⟩ := hB.tx
  have t1 := (TWf ht).1
  have t3 := (TWf ht).2.2.1
  have tb := (TWf ht).2.1
  have y0 := hS.1.1
  have y1 := hS.1.2.1
  have y2 := hS.1.2.2.1
  have q2 : I t 3 = nI (D 0 2) := h.1.1.2.2.2.1
  obtain ⟨J1, a1, a2, -, a4⟩ := X_num (lo := 0) (n := D 0 2) (hi := nI (D 0 2) - 1) hB hT ha hC rfl (by omega) (by omega)
  have b1 := pNum_b (st := none) (X := X) (lo := 0) (n := D 0 2) ha
  have T1 : TXt tl X J1 := hT.fr (fun i j q => a4 i j (by omega))
  have h1 : XD t D J1 := h.fr (by omega) (fun i j q => by rw [a4 i j (by omega)])
  have q1 : J1 t 1 = nI (D 0 1) := h1.1.1.2.1
  generalize pNum X tl none 0 (D 0 2) a = n1 at *
  obtain ⟨J2, d1, d2, -, d4⟩ := X_num (lo := 0) (n := D 0 1) (hi := nI (D 0 1) - 1) hB T1 b1.2 a2 rfl (by omega) (by omega)
  have b2 := pNum_b (st := n1.1) (X := X) (lo := 0) (n := D 0 1) b1.2
  have T2 : TXt tl X J2 := T1.fr (fun i j q => d4 i j (by omega))
  have h2 : XD t D J2 := h1.fr (by omega) (fun i j q => by rw [d4 i j (by omega)])
  have q0 : J2 t 0 = nI (D 0 0) := h2.1.1.1
  unfold bN
  generalize pNum X tl n1.1 0 (D 0 1) n1.2.2.1 = n2 at *
  unfold bN2
  obtain ⟨J3, e1, e2, -, e4⟩ := X_num (lo := 0) (n := D 0 0) (hi := nI (D 0 0) - 1) hB T2 b2.2 d2 rfl (by omega) (by omega)
  have b3 := pNum_b (st := n2.1) (X := X) (lo := 0) (n := D 0 0) b2.2
  have T3 : TXt tl X J3 := T2.fr (fun i j q => e4 i j (by omega))
  have h3 : XD t D J3 := h2.fr (by omega) (fun i j q => by rw [e4 i j (by omega)])
  generalize pNum X tl n2.1 0 (D 0 0) n2.2.2.1 = n3 at *
  unfold bN3
  obtain ⟨J4, f1, f2, -, f4⟩ := X_num (lo := 0) (n := 100) (hi := 99) hB T3 b3.2 e2 rfl (by omega) (by omega)
  have b4 := pNum_b (st := n3.1) (X := X) (lo := 0) (n := 100) b3.2
  have h4 : XD t D J4 := h3.fr (by omega) (fun i j q => by rw [f4 i j (by omega)])
  generalize pNum X tl n3.1 0 100 n3.2.2.1 = n4 at *
  obtain ⟨I', g1, g2, g3⟩ := X_aNeed (p := n1.2.1) (w := n2.2.1) (d := n3.2.1) (v := n4.2.1) ht h4 hn
  rw [show nI 0 = (0 : Int32) from rfl] at a1 d1 e1 f1
  clear ht
  unfold bN4
  refine ⟨I', ?_, f2.fr (fun j => g3 2 j (by omega)), fun _ => g2, by simp only []; omega, b4.2, fun i j q => by rw [g3 i j (by omega), f4 i j (by omega), e4 i j (by omega), d4 i j (by omega), a4 i j (by omega)]⟩
  simp only [f_X6_readNeed, show Nat.ble 1 2 = true from rfl, t1, t3, k2, cond_true, oI_eq, zac_zI, Option.bind_some, q2, a1, b2_some, q1, d1, q0, e1, f1, g1]
theorem bts_set (hS : SD D) {w : Nat} (hw : w < 8) (h0 : D 4 w = 0) : nI (bts (D 4) 8) ||| ((1 : Int32) <<< (nI w &&& 31)) = nI (bts (u2 D 4 w 1 4) 8) := by
  have hb := bts8 hS.1.2.2.2.2.2.1 hw
  have e : u2 D 4 w 1 4 = va_up (D 4) w 1 := by unfold u2; rw [va_up, if_pos rfl]
  rw [or_bits w hw _ hb.1 (by rw [hb.2, h0]), e, bts_up h0 8 hw]
theorem XD_pt (hS : SD D) (h : XD t D I) {w : Nat} (hw : w < 8) (h0 : D 4 w = 0) : XD t (u2 D 4 w 1) (cu I t 5 (nI (bts (u2 D 4 w 1 4) 8))) := by
  obtain ⟨⟨⟨e0, e1, e2, e3, e4, e5, e6⟩, h2, h3, h4⟩, h7⟩ := h
  have w0 : ∀ a b, a ≠ 4 → u2 D 4 w 1 a b = D a b := fun a b q => u2_o (Or.inl q)
  have o : ∀ i j, ¬ (i = t ∧ j = 5) → cu I t 5 (nI (bts (u2 D 4 w 1 4) 8)) i j = I i j := fun i j q => cu_o (by omega)
  have b5 : u2 D 4 w 1 5 = D 5 := funext fun j => w0 5 j (by omega)
  refine ⟨⟨⟨?_, ?_, ?_, ?_, ?_, ?_, ?_⟩, fun v hv => ?_, fun q hq => ?_, fun n hn => ?_⟩, fun v hv => ?_⟩
  · rw [o t 0 (by omega), w0 0 0 (by omega), e0]
  · rw [o t 1 (by omega), w0 0 1 (by omega), e1]
  · rw [o t 2 (by omega), w0 0 4 (by omega), e2]
  · rw [o t 3 (by omega), w0 0 2 (by omega), e3]
  · rw [o t 4 (by omega), w0 0 3 (by omega), e4]
  · rw [cu_s]
  · rw [o t 6 (by omega), b5, e6]
  · rw [w0 0 1 (by omega)] at hv
    rw [o _ _ (by omega), o _ _ (by omega), w0 1 v (by omega), w0 2 v (by omega)]
    exact h2 v hv
  · rw [o _ _ (by omega), w0 3 q (by omega)]; exact h3 q hq
  · rw [w0 0 3 (by omega)] at hn
    rw [o _ _ (by omega), o _ _ (by omega), o _ _ (by omega), o _ _ (by omega), w0 6 _ (by omega), w0 6 _ (by omega), w0 6 _ (by omega), w0 6 _ (by omega)]
    exact h4 n hn
  · rw [w0 0 1 (by omega)] at hv
    rw [o _ _ (by omega), w0 7 v (by omega)]
    exact h7 v hv
theorem X_rO (hB : GB B tw s u) (ht : isTw B t) (ht2 : 13 ≤ t ∨ t = 4) (hT : TXt tl X I) (ha : a ≤ tl) (hC : CS none a I) (hS : SD D) (h : XD t D I) : ∃ I', f_X6_readPointing 2 t (zI B I) = some (zI B I') ∧ CS (bO D (pNum X tl none 0 (D 0 1) a)).1 (bO D (pNum X tl none 0 (D 0 1) a)).2.1 I' ∧ ((bO D (pNum X tl none 0 (D 0 1) a)).1 = none → XD t (bO D (pNum X tl none 0 (D 0 1) a)).2.2 I') ∧ a ≤ (bO D (pNum X tl none 0 (D 0 1) a)).2.1 ∧ (bO D (pNum X tl none 0 (D 0 1) a)).2.1 ≤ tl ∧ ∀ i j, ¬ ((i = 2 ∧ 2 ≤ j) ∨ (t ≤ i ∧ i ≤ t + 8)) → I' i j = I i j := by
  obtain ⟨-, k2, -⟩ := hB.tx
  have t1 := (TWf ht).1
  have t3 := (TWf ht).2.2.1
  have tb := (TWf ht).2.1
  have y1 := hS.1.2.1
  have q1 : I t 1 = nI (D 0 1) := h.1.1.2.1
  obtain ⟨J1, a1, a2, a3, a4⟩ := X_num (lo := 0) (n := D 0 1) (hi := nI (D 0 1) - 1) hB hT ha hC rfl (by omega) (by omega)
  have b1 := pNum_b (st := none) (X := X) (lo := 0) (n := D 0 1) ha
  have hw8 : (pNum X tl none 0 (D 0 1) a).2.1 < 8 := by
    by_cases hh : (pNum X tl none 0 (D 0 1) a).1 = none
    · have := (pNum_ok hh).2.2; omega
    · rw [pNum_v hh]; omega
  have a3 := a3 rfl
  have h1 : XD t D J1 := h.fr (by omega) (fun i j q => by rw [a4 i j (by omega)])
  unfold bO
  generalize pNum X tl none 0 (D 0 1) a = n1 at *
  have g0 := X_canPoint ht h1.1 hS.1 hw8
  have b4 := hS.1.2.2.2.2.2.1 n1.2.1
  have z0 := nI_z (v := D 4 n1.2.1) (by omega)
  have e5 : J1 t 5 = nI (bts (D 4) 8) := h1.1.1.2.2.2.2.2.1
  rw [show nI 0 = (0 : Int32) from rfl] at a1
  clear ht
  by_cases k : D 4 n1.2.1 = 0
  · have eb := bts_set hS hw8 k
    rw [if_pos k]
    refine ⟨cu J1 t 5 (nI (bts (u2 D 4 n1.2.1 1 4) 8)), ?_, a2.fr (fun j => cu_o (by omega)), fun _ => XD_pt hS h1 hw8 k, b1.1, b1.2, fun i j q => by rw [cu_o (by omega), a4 i j (by omega)]⟩
    simp only [f_X6_readPointing, show Nat.ble 1 2 = true from rfl, t1, t3, k2, cond_true, oI_eq, pI_cu, zac_zI, Option.bind_some, q1, a1, b2_some, g0, z0, if_pos k, e5, eb]
  · obtain ⟨J2, c1, c2, c3⟩ := X_bl2 (f := 4) (p := n1.2.2.2) (y := nI n1.2.2.2) hB (by omega) (by omega) a2 (fun _ => rfl)
    rw [show nI 4 = (4 : Int32) from rfl] at c1
    rw [if_neg k]
    refine ⟨cu J2 t 5 (J2 t 5 ||| ((1 : Int32) <<< (nI n1.2.1 &&& 31))), ?_, c2.fr (fun j => cu_o (by omega)), fun hh => ?_, b1.1, b1.2, fun i j q => by rw [cu_o (by omega), c3 i j (by omega), a4 i j (by omega)]⟩
    · simp only [f_X6_readPointing, show Nat.ble 1 2 = true from rfl, t1, t3, k2, cond_true, oI_eq, pI_cu, zac_zI, Option.bind_some, q1, a1, b2_some, g0, z0, if_neg k, a3, c1]
    · exfalso
      cases hn : n1.1 with
      | none => rw [hn] at hh; exact absurd hh (by simp [pO])
      | some v => rw [hn] at hh; exact absurd hh (by simp [pO])
end CLR
