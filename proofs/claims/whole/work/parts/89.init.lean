/-! the constructors -/
/-- the memory at the law's start -/
def zM0 (L : Nat) (xs : Nat → Int32) : zM := (0, 0, (fun i j => if i = 1000 then zEag j else if i = 1001 then zRis j else if i = 1002 then xs j else 0), (fun i _ => if i = 1002 then L else 0))
def zM00 : zM := (0, 0, (fun _ _ => 0), (fun _ _ => 0))
/-- the rows from 1000 on are others -/
def ph (A : Nat → Nat → Int32) (C : Nat → Nat → Nat) (M : zM) : zM := (M.1, M.2.1, (fun i => if i < 1000 then mI M i else A i), (fun i => if i < 1000 then mR M i else C i))
section PHI
variable {A : Nat → Nat → Int32} {C : Nat → Nat → Nat} {M : zM} {i k n ci : Nat} {x : Int32}
theorem ph_1 : (ph A C M).1 = M.1 := rfl
theorem mI_ph (h : i < 1000) : mI (ph A C M) i = mI M i := by
  show (if i < 1000 then mI M i else A i) = mI M i
  rw [if_pos h]
theorem mR_ph (h : i < 1000) : mR (ph A C M) i = mR M i := by
  show (if i < 1000 then mR M i else C i) = mR M i
  rw [if_pos h]
theorem zac_ph : zac (ph A C M) i ci n = zac M i ci n := rfl
theorem zln_ph : zln (ph A C M) k i = zln M k i := rfl
theorem zSH_len : zSH.length ≤ 1000 := by decide +kernel
theorem zsh_lt (h : (zsh i).1 ≠ 99) : i < 1000 := by
  by_cases e : i < 1000
  · exact e
  · exfalso
    apply h
    unfold zsh
    rw [List.getD_eq_getElem?_getD, List.getElem?_eq_none (Nat.le_trans zSH_len (Nat.le_of_not_lt e))]
    decide
theorem zac_lt (h : zac M i ci n = true) (hc : ci ≠ 99) : i < 1000 := by
  unfold zac at h
  rw [Bool.and_eq_true, decide_eq_true_eq] at h
  exact zsh_lt (by rw [h.2]; exact hc)
theorem va_ph_I {f : Nat → Int32} (h : i < 1000) : (fun a => if a < 1000 then va_up (mI M) i f a else A a) = va_up (fun a => if a < 1000 then mI M a else A a) i f := by
  funext a
  by_cases e : a = i
  · rw [e, if_pos h, va_up, if_pos rfl, va_up, if_pos rfl]
  · rw [va_up, if_neg e, va_up, if_neg e]
theorem va_ph_R {f : Nat → Nat} (h : i < 1000) : (fun a => if a < 1000 then va_up (mR M) i f a else C a) = va_up (fun a => if a < 1000 then mR M a else C a) i f := by
  funext a
  by_cases e : a = i
  · rw [e, if_pos h, va_up, if_pos rfl, va_up, if_pos rfl]
  · rw [va_up, if_neg e, va_up, if_neg e]
theorem wI_ph {f : Nat → Int32} (h : i < 1000) : wI (ph A C M) i f = ph A C (wI M i f) := by
  show (M.1, M.2.1, va_up (fun a => if a < 1000 then mI M a else A a) i f, fun a => if a < 1000 then mR M a else C a) = (M.1, M.2.1, (fun a => if a < 1000 then va_up (mI M) i f a else A a), fun a => if a < 1000 then mR M a else C a)
  rw [va_ph_I h]
theorem wR_ph {f : Nat → Nat} (h : i < 1000) : wR (ph A C M) i f = ph A C (wR M i f) := by
  show (M.1, M.2.1, (fun a => if a < 1000 then mI M a else A a), va_up (fun a => if a < 1000 then mR M a else C a) i f) = (M.1, M.2.1, (fun a => if a < 1000 then mI M a else A a), fun a => if a < 1000 then va_up (mR M) i f a else C a)
  rw [va_ph_R h]
theorem wN_ph (h : M.1 + 1 < 1000) : wN (ph A C M) n = ph A C (wN M n) := by
  show (M.1 + 1, M.2.1 + n, va_up (fun a => if a < 1000 then mI M a else A a) (M.1 + 1) (fun _ => 0), va_up (fun a => if a < 1000 then mR M a else C a) (M.1 + 1) (fun _ => 0)) = (M.1 + 1, M.2.1 + n, (fun a => if a < 1000 then va_up (mI M) (M.1 + 1) (fun _ => 0) a else A a), fun a => if a < 1000 then va_up (mR M) (M.1 + 1) (fun _ => 0) a else C a)
  rw [va_ph_I h, va_ph_R h]
theorem mk_ph : mk (ph A C M) ci n = (mk M ci n).map (ph A C) := by
  unfold mk
  rw [ph_1]
  by_cases h : M.1 + 1 < 1000
  · rw [wN_ph h]
    cases decide (zsh (M.1 + 1) = (ci, n)) && Nat.blt (M.1 + 1) 1000 <;> rfl
  · have e : Nat.blt (M.1 + 1) 1000 = false := by
      cases h2 : Nat.blt (M.1 + 1) 1000 with
      | false => rfl
      | true => exact absurd (Nat.le_of_ble_eq_true h2) (by omega)
    rw [e, Bool.and_false]
    rfl
theorem pR_ph {r : Nat} (hc : ci ≠ 99) : pR (ph A C M) i ci n k r = (pR M i ci n k r).map (ph A C) := by
  unfold pR
  rw [zac_ph]
  cases hz : zac M i ci n with
  | false => rfl
  | true =>
    have h := zac_lt hz hc
    rw [mR_ph h, wR_ph h]
    cases Nat.ble 1 r <;> rfl
theorem pI_ph (hc : ci ≠ 99) : pI (ph A C M) i ci n k x = (pI M i ci n k x).map (ph A C) := by
  unfold pI
  rw [zac_ph]
  cases hz : zac M i ci n with
  | false => rfl
  | true =>
    have h := zac_lt hz hc
    rw [mI_ph h, wI_ph h]
    rfl
theorem oR_ph (hc : ci ≠ 99) : oR (ph A C M) i ci n k = oR M i ci n k := by
  unfold oR
  rw [zac_ph]
  cases hz : zac M i ci n with
  | false => rfl
  | true => rw [mR_ph (zac_lt hz hc)]
theorem sQ_ph {kd r m : Nat} (hk : kd ≠ 99) : sQ (ph A C M) i kd x r ci m = (sQ M i kd x r ci m).map (ph A C) := by
  unfold sQ
  rw [zac_ph, zac_ph]
  cases hz : zac M i kd (zsh i).2 with
  | false => rfl
  | true =>
    have h := zac_lt hz hk
    rw [mR_ph h, wR_ph h]
    cases zix x (zsh i).2 <;> cases zac M r ci m <;> rfl
theorem cond_mp {b : Bool} {o : Option zM} {f : zM → zM} : (bif b then o else none).map f = bif b then o.map f else none := by cases b <;> rfl
theorem bd_mp {α : Type} {o : Option α} {g : α → Option zM} {f : zM → zM} : (o.bind g).map f = o.bind fun a => (g a).map f := by cases o <;> rfl
theorem mp_bd {o : Option zM} {g : zM → Option zM} {f : zM → zM} : (o.map f).bind g = o.bind fun a => g (f a) := by cases o <;> rfl
theorem sm_mp {f : zM → zM} : (some M).map f = some (f M) := rfl
theorem i5_ph {l : Nat} : f_X5_init l (ph A C M) = (f_X5_init l M).map (ph A C) := by
  simp (disch := decide) only [f_X5_init, mk_ph, pR_ph, pI_ph, oR_ph, cond_mp, bd_mp, mp_bd, sm_mp, ph_1]
theorem i6_ph {l : Nat} : f_X6_init l (ph A C M) = (f_X6_init l M).map (ph A C) := by
  simp (disch := decide) only [f_X6_init, mk_ph, pR_ph, pI_ph, oR_ph, cond_mp, bd_mp, mp_bd, sm_mp, ph_1]
theorem i7_ph {l : Nat} : f_X7_init l (ph A C M) = (f_X7_init l M).map (ph A C) := by
  simp (disch := decide) only [f_X7_init, mk_ph, pR_ph, pI_ph, oR_ph, cond_mp, bd_mp, mp_bd, sm_mp, ph_1]
theorem i4_ph {l : Nat} : f_X4_init l (ph A C M) = (f_X4_init l M).map (ph A C) := by
  simp (disch := decide) only [f_X4_init, mk_ph, pR_ph, pI_ph, oR_ph, cond_mp, bd_mp, mp_bd, sm_mp, ph_1]
theorem i2_ph {l : Nat} : f_X2_init l (ph A C M) = (f_X2_init l M).map (ph A C) := by
  simp (disch := decide) only [f_X2_init, mk_ph, pR_ph, pI_ph, oR_ph, cond_mp, bd_mp, mp_bd, sm_mp, ph_1]
theorem i0_ph {l : Nat} : f_X0_init l (ph A C M) = (f_X0_init l M).map (ph A C) := by
  simp (disch := decide) only [f_X0_init, mk_ph, pR_ph, pI_ph, oR_ph, cond_mp, bd_mp, mp_bd, sm_mp, ph_1]
theorem i1_ph {l : Nat} : f_X1_init l (ph A C M) = (f_X1_init l M).map (ph A C) := by
  simp (disch := decide) only [f_X1_init, mk_ph, pR_ph, pI_ph, oR_ph, i5_ph, cond_mp, bd_mp, mp_bd, sm_mp, ph_1]
theorem l3_ph {l : Nat} : ∀ n x M, L_X3_init_15 n l x (ph A C M) = (L_X3_init_15 n l x M).map (ph A C) := by
  intro n
  induction n with
  | zero => intro x M; rfl
  | succ n ih =>
    intro x M
    rw [L_X3_init_15, L_X3_init_15]
    by_cases h : 16 ≤ x
    · rw [if_pos h, if_pos h]; rfl
    · rw [if_neg h, if_neg h]
      simp (disch := decide) only [mk_ph, pR_ph, pI_ph, oR_ph, sQ_ph, i5_ph, cond_mp, bd_mp, mp_bd, sm_mp, ph_1, ih]
theorem i3_ph {l : Nat} : f_X3_init l (ph A C M) = (f_X3_init l M).map (ph A C) := by
  simp (disch := decide) only [f_X3_init, mk_ph, pR_ph, pI_ph, oR_ph, l3_ph, cond_mp, bd_mp, mp_bd, sm_mp, ph_1]
theorem l8_ph {l : Nat} : ∀ n x M, L_X8_init_129 n l x (ph A C M) = (L_X8_init_129 n l x M).map (ph A C) := by
  intro n
  induction n with
  | zero => intro x M; rfl
  | succ n ih =>
    intro x M
    rw [L_X8_init_129, L_X8_init_129]
    by_cases h : 2 ≤ x
    · rw [if_pos h, if_pos h]; rfl
    · rw [if_neg h, if_neg h]
      simp (disch := decide) only [mk_ph, pR_ph, pI_ph, oR_ph, sQ_ph, i1_ph, cond_mp, bd_mp, mp_bd, sm_mp, ph_1, ih]
theorem i8_ph {l : Nat} : f_X8_init l (ph A C M) = (f_X8_init l M).map (ph A C) := by
  simp (disch := decide) only [f_X8_init, mk_ph, pR_ph, pI_ph, oR_ph, i6_ph, i7_ph, i5_ph, i3_ph, i4_ph, i2_ph, i0_ph, l8_ph, cond_mp, bd_mp, mp_bd, sm_mp, ph_1]
theorem i9_ph {l : Nat} : f_X9_init l (ph A C M) = (f_X9_init l M).map (ph A C) := by
  simp (maxSteps := 100000000) (disch := decide) only [f_X9_init, mk_ph, pR_ph, pI_ph, oR_ph, cond_mp, bd_mp, mp_bd, sm_mp, ph_1]
def zIn (M : zM) : Option zM := (mk M 8 13).bind fun M1 => (f_X8_init 1 M1).bind fun M3 => (mk M3 9 58).bind fun M5 => f_X9_init 144 M5
theorem in_ph : zIn (ph A C M) = (zIn M).map (ph A C) := by
  simp (disch := decide) only [zIn, mk_ph, i8_ph, i9_ph, bd_mp, mp_bd]
end PHI
/-- the memory after the constructors, the rows from 1000 on apart -/
def zC : zM := (zIn zM00).getD zM00
theorem zC_eq : zIn zM00 = some zC := by
  have h : (zIn zM00).isSome = true := by decide +kernel
  unfold zC
  cases hh : zIn zM00 with
  | none => rw [hh] at h; cases h
  | some M => rfl
theorem zM0_ph (L : Nat) (xs : Nat → Int32) : zM0 L xs = ph (zM0 L xs).2.2.1 (zM0 L xs).2.2.2 zM00 := by
  unfold ph zM0 zM00
  simp only [Prod.mk.injEq, true_and]
  refine ⟨funext fun i => ?_, funext fun i => ?_⟩
  · by_cases h : i < 1000
    · rw [if_pos h]
      funext j
      rw [if_neg (by omega), if_neg (by omega), if_neg (by omega)]
      rfl
    · rw [if_neg h]
  · by_cases h : i < 1000
    · rw [if_pos h]
      funext j
      rw [if_neg (by omega)]
      rfl
    · rw [if_neg h]
theorem zIn_0 (L : Nat) (xs : Nat → Int32) : zIn (zM0 L xs) = some (ph (zM0 L xs).2.2.1 (zM0 L xs).2.2.2 zC) := by
  rw [zM0_ph L xs, in_ph, zC_eq]
  rw [← zM0_ph L xs]
  rfl
