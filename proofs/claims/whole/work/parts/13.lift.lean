theorem bt {α : Type} {c : Bool} {e : Option α} {r : α} (h : (bif c then e else none) = some r) : c = true ∧ e = some r := by
  cases c with
  | false => cases h
  | true => exact ⟨rfl, h⟩
theorem bz {r : Nat} (h : Nat.ble 1 r = true) : r ≠ 0 := by
  have := Nat.le_of_ble_eq_true h
  omega
def zp1 : Value → Bool
  | .int _ => true
  | .ref _ => true
  | _ => false
theorem zst_ok1 {G : zG} : ∀ {st : List Value}, st.all zp1 = true → st.length ≤ 8 → (st.map fun v => (rv G v).category).sum ≤ 8 := by
  intro st h hl
  have key : ∀ st : List Value, st.all zp1 = true → (st.map fun v => (rv G v).category).sum = st.length := by
    intro st
    induction st with
    | nil => intro _; rfl
    | cons a l ih =>
      intro h
      simp only [List.all_cons, Bool.and_eq_true] at h
      simp only [List.map_cons, List.sum_cons, List.length_cons, ih h.2]
      have : (rv G a).category = 1 := by
        cases a with
        | int x => rfl
        | ref r => exact rv_cr
        | _ => simp [zp1] at h
      omega
  rw [key st h]
  exact hl
theorem s1 {α : Type} {a r : α} (h : some a = some r) : a = r := Option.some.inj h
theorem s2 {α β : Type} {a r : α} {b q : β} (h : some (a, b) = some (r, q)) : a = r ∧ b = q := Prod.mk.inj (Option.some.inj h)
theorem s3 {α β γ : Type} {a r : α} {b q : β} {c w : γ} (h : some (a, b, c) = some (r, q, w)) : a = r ∧ b = q ∧ c = w := by
  have h1 := Prod.mk.inj (Option.some.inj h)
  have h2 := Prod.mk.inj h1.2
  exact ⟨h1.1, h2.1, h2.2⟩
theorem s4 {α β γ δ : Type} {a r : α} {b q : β} {c w : γ} {e x : δ} (h : some (a, b, c, e) = some (r, q, w, x)) : a = r ∧ b = q ∧ c = w ∧ e = x := by
  have h1 := Prod.mk.inj (Option.some.inj h)
  have h2 := Prod.mk.inj h1.2
  have h3 := Prod.mk.inj h2.2
  exact ⟨h1.1, h2.1, h3.1, h3.2⟩
