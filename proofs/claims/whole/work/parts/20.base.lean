/-! PURE HALF: the lifted functions evaluated. zI B I: the memory with B's cells and references, and the numbers I -/
def zI (B : zM) (I : Nat → Nat → Int32) : zM := (B.1, B.2.1, I, B.2.2.2)
theorem zI_self (M : zM) : zI M (mI M) = M := rfl
theorem wI_zI {B : zM} {I : Nat → Nat → Int32} {a : Nat} {f : Nat → Int32} : wI (zI B I) a f = zI B (va_up I a f) := rfl
theorem mI_zI {B : zM} {I : Nat → Nat → Int32} : mI (zI B I) = I := rfl
theorem mR_zI {B : zM} {I : Nat → Nat → Int32} : mR (zI B I) = mR B := rfl
theorem zI_1 {B : zM} {I : Nat → Nat → Int32} : (zI B I).1 = B.1 := rfl
theorem zac_zI {B : zM} {I : Nat → Nat → Int32} {i ci n : Nat} : zac (zI B I) i ci n = zac B i ci n := rfl
theorem zlI_zI {B : zM} {I : Nat → Nat → Int32} {i : Nat} : zlI (zI B I) i = zlI B i := rfl
theorem nl0 : (0 : Int32) = nI 0 := rfl
theorem nl1 : (1 : Int32) = nI 1 := rfl
theorem nl2 : (2 : Int32) = nI 2 := rfl
theorem nl3 : (3 : Int32) = nI 3 := rfl
theorem nl4 : (4 : Int32) = nI 4 := rfl
theorem nl5 : (5 : Int32) = nI 5 := rfl
theorem nl8 : (8 : Int32) = nI 8 := rfl
theorem nl10 : (10 : Int32) = nI 10 := rfl
theorem nl13 : (13 : Int32) = nI 13 := rfl
theorem nl16 : (16 : Int32) = nI 16 := rfl
theorem nl21 : (21 : Int32) = nI 21 := rfl
theorem nl29 : (29 : Int32) = nI 29 := rfl
theorem nl69 : (69 : Int32) = nI 69 := rfl
theorem oI_eq {B : zM} {I : Nat → Nat → Int32} {i ci n k : Nat} : oI (zI B I) i ci n k = bif zac B i ci n then some (I i k) else none := rfl
theorem oR_eq {B : zM} {I : Nat → Nat → Int32} {i ci n k : Nat} : oR (zI B I) i ci n k = bif zac B i ci n then some (mR B i k) else none := rfl
theorem pI_eq {B : zM} {I : Nat → Nat → Int32} {i ci n k : Nat} {x : Int32} : pI (zI B I) i ci n k x = bif zac B i ci n then some (zI B (va_up I i (upd (I i) k x))) else none := rfl
theorem zix_nI {k n : Nat} (hk : k < 2147483648) : zix (nI k) n = Nat.blt k n := by
  unfold zix
  rw [nI_clamp hk]
  have : ¬ nI k < 0 := nI_pos hk
  simp [this]
theorem aI_eq {B : zM} {I : Nat → Nat → Int32} {i k : Nat} (hk : k < 2147483648) : aI (zI B I) i (nI k) = if k < zlI B i then some (I i k) else none := by
  unfold aI
  rw [zix_nI hk, zlI_zI, nI_clamp hk, mI_zI]
  by_cases h : k < zlI B i
  · rw [if_pos h, Nat.blt_eq.mpr h]; rfl
  · rw [if_neg h]
    have : Nat.blt k (zlI B i) = false := by
      cases hh : Nat.blt k (zlI B i) with
      | false => rfl
      | true => exact absurd (Nat.blt_eq.mp hh) h
    rw [this]; rfl
/-- how long an own array of numbers (kind 10), of booleans (kind 11) is -/
def zln (B : zM) (kd i : Nat) : Nat := if zac B i kd (zsh i).2 = true then (zsh i).2 else 0
theorem sI_eq {B : zM} {I : Nat → Nat → Int32} {i k : Nat} {x : Int32} (hk : k < 2147483648) : sI (zI B I) i (nI k) x = if k < zln B 10 i then some (zI B (va_up I i (upd (I i) k x))) else none := by
  unfold sI zln
  rw [zac_zI, zix_nI hk, nI_clamp hk]
  cases hz : zac B i 10 (zsh i).2 with
  | false => simp
  | true =>
    simp only [Bool.true_and, if_true]
    by_cases h : k < (zsh i).2
    · rw [if_pos h, Nat.blt_eq.mpr h]; rfl
    · rw [if_neg h]
      have : Nat.blt k (zsh i).2 = false := by
        cases hh : Nat.blt k (zsh i).2 with
        | false => rfl
        | true => exact absurd (Nat.blt_eq.mp hh) h
      rw [this]; rfl
theorem aZ_eq {B : zM} {I : Nat → Nat → Int32} {i k : Nat} (hk : k < 2147483648) : aZ (zI B I) i (nI k) = if k < zln B 11 i then some (I i k) else none := by
  unfold aZ zln
  rw [zac_zI, zix_nI hk, nI_clamp hk, mI_zI]
  cases hz : zac B i 11 (zsh i).2 with
  | false => simp
  | true =>
    simp only [Bool.true_and, if_true]
    by_cases h : k < (zsh i).2
    · rw [if_pos h, Nat.blt_eq.mpr h]; rfl
    · rw [if_neg h]
      have : Nat.blt k (zsh i).2 = false := by
        cases hh : Nat.blt k (zsh i).2 with
        | false => rfl
        | true => exact absurd (Nat.blt_eq.mp hh) h
      rw [this]; rfl
theorem sZ_eq {B : zM} {I : Nat → Nat → Int32} {i k : Nat} {x : Int32} (hk : k < 2147483648) (hx : x = 0 ∨ x = 1) : sZ (zI B I) i (nI k) x = if k < zln B 11 i then some (zI B (va_up I i (upd (I i) k x))) else none := by
  unfold sZ zln
  rw [zac_zI, zix_nI hk, nI_clamp hk]
  cases hz : zac B i 11 (zsh i).2 with
  | false => simp
  | true =>
    simp only [Bool.true_and, if_true, hx, decide_true, Bool.and_true]
    by_cases h : k < (zsh i).2
    · rw [if_pos h, Nat.blt_eq.mpr h]; rfl
    · rw [if_neg h]
      have : Nat.blt k (zsh i).2 = false := by
        cases hh : Nat.blt k (zsh i).2 with
        | false => rfl
        | true => exact absurd (Nat.blt_eq.mp hh) h
      rw [this]; rfl
theorem b2_some {α β γ : Type} {a : α} {b : β} {f : α → β → Option γ} : b2 (some (a, b)) f = f a b := rfl
theorem b3_some {α β γ δ : Type} {a : α} {b : β} {c : γ} {f : α → β → γ → Option δ} : b3 (some (a, b, c)) f = f a b c := rfl
theorem b4_some {α β γ δ ε : Type} {a : α} {b : β} {c : γ} {d : δ} {f : α → β → γ → δ → Option ε} : b4 (some (a, b, c, d)) f = f a b c d := rfl
theorem bs_inl {ρ τ γ : Type} {r : ρ} {g : ρ → Option γ} {f : τ → Option γ} : bs (some (.inl r)) g f = g r := rfl
theorem bs_inr {ρ τ γ : Type} {t : τ} {g : ρ → Option γ} {f : τ → Option γ} : bs (some (.inr t)) g f = f t := rfl
/-- numbers outside the ids a..b are the same -/
def Fr (a b : Nat) (I I' : Nat → Nat → Int32) : Prop := ∀ i, (i < a ∨ b < i) → I' i = I i
theorem Fr.rf {a b : Nat} {I : Nat → Nat → Int32} : Fr a b I I := fun _ _ => rfl
theorem Fr.tr {a b : Nat} {I J K : Nat → Nat → Int32} (h : Fr a b I J) (h2 : Fr a b J K) : Fr a b I K := fun i hi => (h2 i hi).trans (h i hi)
theorem Fr.up {a b i : Nat} {I : Nat → Nat → Int32} {f : Nat → Int32} (h1 : a ≤ i) (h2 : i ≤ b) : Fr a b I (va_up I i f) := fun j hj => by unfold va_up; rw [if_neg (by omega)]
theorem Fr.mono {a b c d : Nat} {I J : Nat → Nat → Int32} (h : Fr a b I J) (h1 : c ≤ a) (h2 : b ≤ d) : Fr c d I J := fun i hi => h i (by omega)
/-- rows: the state of section 2 as 69 numbers: 0 days gone, 1 met, 2 lost, 3 lost by worth, 4 pointed, 5.. limit, 13.. left, 21.. said, 29.. hoarded (8 p + w) -/
def zxi (s k : Nat) : Nat := if k < 5 then s else if k < 13 then s + 1 else if k < 21 then s + 2 else if k < 29 then s + 3 else s + 4
def zxk (k : Nat) : Nat := if k < 5 then 4 + k else if k < 13 then k - 5 else if k < 21 then k - 13 else if k < 29 then k - 21 else k - 29
def XS (s : Nat) (r : Nat → Nat) (I : Nat → Nat → Int32) : Prop := ∀ k, k < 69 → I (zxi s k) (zxk k) = nI (r k)
def YS (a : Nat) (r : Nat → Nat) (I : Nat → Nat → Int32) : Prop := ∀ k, k < 69 → I a k = nI (r k)
theorem XS.put {s j i q v : Nat} {r : Nat → Nat} {I : Nat → Nat → Int32} (h : XS s r I) (hi : zxi s j = i) (hq : zxk j = q) (hj : j < 69) : XS s (va_up r j v) (va_up I i (upd (I i) q (nI v))) := by
  intro k hk
  subst hi; subst hq
  by_cases e : k = j
  · subst e; simp [va_up, upd]
  · have e2 : va_up r j v k = r k := by simp [va_up, e]
    rw [e2, ← h k hk]
    by_cases e3 : zxi s k = zxi s j
    · have e4 : zxk k ≠ zxk j := by
        unfold zxi at e3
        unfold zxk
        split at e3 <;> split at e3 <;> (try split at e3) <;> (try split at e3) <;> (try split at e3) <;> (try split at e3) <;> (try split at e3) <;> (try split at e3) <;> (repeat' split) <;> omega
      rw [e3]; simp [va_up, upd, e4]
    · simp [va_up, e3]
theorem XS.fr {s a b : Nat} {r : Nat → Nat} {I I' : Nat → Nat → Int32} (h : XS s r I) (hf : Fr a b I I') (hs : s + 4 < a ∨ b < s) : XS s r I' := by
  intro k hk
  rw [hf (zxi s k) (by unfold zxi; repeat' split
                       all_goals omega)]
  exact h k hk
theorem YS.put {a j v : Nat} {r : Nat → Nat} {I : Nat → Nat → Int32} (h : YS a r I) : YS a (va_up r j v) (va_up I a (upd (I a) j (nI v))) := by
  intro k hk
  by_cases e : k = j
  · subst e; simp [va_up, upd]
  · simp [va_up, upd, e, h k hk]
theorem YS.fr {c a b : Nat} {r : Nat → Nat} {I I' : Nat → Nat → Int32} (h : YS c r I) (hf : Fr a b I I') (hs : c < a ∨ b < c) : YS c r I' := by
  intro k hk
  rw [hf c hs]
  exact h k hk
section GETS
variable {s p w j : Nat} {r : Nat → Nat} {I : Nat → Nat → Int32}
theorem XS.li (h : XS s r I) (hw : w < 8) : I (s + 1) w = nI (r (5 + w)) := by
  have := h (5 + w) (by omega)
  rwa [show zxi s (5 + w) = s + 1 by unfold zxi; rw [if_neg (by omega), if_pos (by omega)], show zxk (5 + w) = w by unfold zxk; rw [if_neg (by omega), if_pos (by omega)]; omega] at this
theorem XS.le (h : XS s r I) (hw : w < 8) : I (s + 2) w = nI (r (13 + w)) := by
  have := h (13 + w) (by omega)
  rwa [show zxi s (13 + w) = s + 2 by unfold zxi; rw [if_neg (by omega), if_neg (by omega), if_pos (by omega)], show zxk (13 + w) = w by unfold zxk; rw [if_neg (by omega), if_neg (by omega), if_pos (by omega)]; omega] at this
theorem XS.sa (h : XS s r I) (hw : w < 8) : I (s + 3) w = nI (r (21 + w)) := by
  have := h (21 + w) (by omega)
  rwa [show zxi s (21 + w) = s + 3 by unfold zxi; rw [if_neg (by omega), if_neg (by omega), if_neg (by omega), if_pos (by omega)], show zxk (21 + w) = w by unfold zxk; rw [if_neg (by omega), if_neg (by omega), if_neg (by omega), if_pos (by omega)]; omega] at this
theorem XS.ho (h : XS s r I) (hj : j < 40) : I (s + 4) j = nI (r (29 + j)) := by
  have := h (29 + j) (by omega)
  rwa [show zxi s (29 + j) = s + 4 by unfold zxi; rw [if_neg (by omega), if_neg (by omega), if_neg (by omega), if_neg (by omega)], show zxk (29 + j) = j by unfold zxk; rw [if_neg (by omega), if_neg (by omega), if_neg (by omega), if_neg (by omega)]; omega] at this
theorem XS.sc (h : XS s r I) (hj : j < 5) : I s (4 + j) = nI (r j) := by
  have := h j (by omega)
  rwa [show zxi s j = s by unfold zxi; rw [if_pos hj], show zxk j = 4 + j by unfold zxk; rw [if_pos hj]] at this
theorem XS.pLi {v : Nat} (h : XS s r I) (hw : w < 8) : XS s (va_up r (5 + w) v) (va_up I (s + 1) (upd (I (s + 1)) w (nI v))) := h.put (by unfold zxi; rw [if_neg (by omega), if_pos (by omega)]) (by unfold zxk; rw [if_neg (by omega), if_pos (by omega)]; omega) (by omega)
theorem XS.pLe {v : Nat} (h : XS s r I) (hw : w < 8) : XS s (va_up r (13 + w) v) (va_up I (s + 2) (upd (I (s + 2)) w (nI v))) := h.put (by unfold zxi; rw [if_neg (by omega), if_neg (by omega), if_pos (by omega)]) (by unfold zxk; rw [if_neg (by omega), if_neg (by omega), if_pos (by omega)]; omega) (by omega)
theorem XS.pSa {v : Nat} (h : XS s r I) (hw : w < 8) : XS s (va_up r (21 + w) v) (va_up I (s + 3) (upd (I (s + 3)) w (nI v))) := h.put (by unfold zxi; rw [if_neg (by omega), if_neg (by omega), if_neg (by omega), if_pos (by omega)]) (by unfold zxk; rw [if_neg (by omega), if_neg (by omega), if_neg (by omega), if_pos (by omega)]; omega) (by omega)
theorem XS.pHo {v : Nat} (h : XS s r I) (hj : j < 40) : XS s (va_up r (29 + j) v) (va_up I (s + 4) (upd (I (s + 4)) j (nI v))) := h.put (by unfold zxi; rw [if_neg (by omega), if_neg (by omega), if_neg (by omega), if_neg (by omega)]) (by unfold zxk; rw [if_neg (by omega), if_neg (by omega), if_neg (by omega), if_neg (by omega)]; omega) (by omega)
theorem XS.pSc {v : Nat} (h : XS s r I) (hj : j < 5) : XS s (va_up r j v) (va_up I s (upd (I s) (4 + j) (nI v))) := h.put (by unfold zxi; rw [if_pos hj]) (by unfold zxk; rw [if_pos hj]) (by omega)
end GETS
