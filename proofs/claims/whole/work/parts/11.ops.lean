/-! the operations of the lifted programs, and the rules in their words -/
def zac (M : zM) (i ci n : Nat) : Bool := Nat.ble 1 i && Nat.ble i M.1 && decide (zsh i = (ci, n))
def zix (j : Int32) (n : Nat) : Bool := decide (¬ j < 0) && Nat.blt j.toNatClampNeg n
def oI (M : zM) (i ci n k : Nat) : Option Int32 := bif zac M i ci n then some (mI M i k) else none
def oR (M : zM) (i ci n k : Nat) : Option Nat := bif zac M i ci n then some (mR M i k) else none
def pI (M : zM) (i ci n k : Nat) (x : Int32) : Option zM := bif zac M i ci n then some (wI M i (upd (mI M i) k x)) else none
def pZ (M : zM) (i ci n k : Nat) (x : Int32) : Option zM := bif zac M i ci n && decide (x = 0 ∨ x = 1) then some (wI M i (upd (mI M i) k x)) else none
def pR (M : zM) (i ci n k r : Nat) : Option zM := bif zac M i ci n && Nat.ble 1 r then some (wR M i (va_up (mR M i) k r)) else none
def aI (M : zM) (i : Nat) (j : Int32) : Option Int32 := bif zix j (zlI M i) then some (mI M i j.toNatClampNeg) else none
def aZ (M : zM) (i : Nat) (j : Int32) : Option Int32 := bif zac M i 11 (zsh i).2 && zix j (zsh i).2 then some (mI M i j.toNatClampNeg) else none
def aQ (M : zM) (i kd : Nat) (j : Int32) : Option Nat := bif zac M i kd (zsh i).2 && zix j (zsh i).2 then some (mR M i j.toNatClampNeg) else none
def sI (M : zM) (i : Nat) (j x : Int32) : Option zM := bif zac M i 10 (zsh i).2 && zix j (zsh i).2 then some (wI M i (upd (mI M i) j.toNatClampNeg x)) else none
def sZ (M : zM) (i : Nat) (j x : Int32) : Option zM := bif zac M i 11 (zsh i).2 && zix j (zsh i).2 && decide (x = 0 ∨ x = 1) then some (wI M i (upd (mI M i) j.toNatClampNeg x)) else none
def sQ (M : zM) (i kd : Nat) (j : Int32) (r ci n : Nat) : Option zM := bif zac M i kd (zsh i).2 && zix j (zsh i).2 && zac M r ci n then some (wR M i (va_up (mR M i) j.toNatClampNeg r)) else none
def cP (M : zM) (i0 : Nat) (sp : Int32) (i1 : Nat) (dp n : Int32) : Option zM := bif zac M i0 10 (zsh i0).2 && zac M i1 10 (zsh i1).2 && decide (¬ sp < 0) && decide (¬ dp < 0) && decide (¬ n < 0) && Nat.ble (sp.toNatClampNeg + n.toNatClampNeg) (zsh i0).2 && Nat.ble (dp.toNatClampNeg + n.toNatClampNeg) (zsh i1).2 then some (wI M i1 (va_cpy (mI M i0) (mI M i1) sp.toNatClampNeg dp.toNatClampNeg n.toNatClampNeg)) else none
def aN (M : zM) (i : Nat) : Option Int32 := bif (Nat.ble 1 i && Nat.ble i M.1 && decide ((zsh i).1 = 10) || decide (i = 1000 ∨ i = 1001 ∨ i = 1002)) && Nat.blt M.1 1000 then some (nI (zlI M i)) else none
def dv (x z : Int32) : Option Int32 := if z = 0 then none else some (x / z)
def rm (x z : Int32) : Option Int32 := if z = 0 then none else some (x - x / z * z)
def ldv (x z : Int64) : Option Int64 := if z = 0 then none else some (x / z)
def mk (M : zM) (ci n : Nat) : Option zM := bif decide (zsh (M.1 + 1) = (ci, n)) && Nat.blt (M.1 + 1) 1000 then some (wN M n) else none
def zN : Nat := 1099511627776
def b2 {α β γ : Type} (o : Option (α × β)) (f : α → β → Option γ) : Option γ := o.bind fun q => f q.1 q.2
def b3 {α β γ δ : Type} (o : Option (α × β × γ)) (f : α → β → γ → Option δ) : Option δ := o.bind fun q => f q.1 q.2.1 q.2.2
def b4 {α β γ δ ε : Type} (o : Option (α × β × γ × δ)) (f : α → β → γ → δ → Option ε) : Option ε := o.bind fun q => f q.1 q.2.1 q.2.2.1 q.2.2.2
def bs {ρ τ γ : Type} (o : Option (ρ ⊕ τ)) (g : ρ → Option γ) (f : τ → Option γ) : Option γ := o.bind fun q => match q with
  | .inl r => g r
  | .inr t => f t
theorem ob {α γ : Type} {o : Option α} {f : α → Option γ} {r : γ} (h : o.bind f = some r) : ∃ v, o = some v ∧ f v = some r := by
  cases o with
  | none => cases h
  | some v => exact ⟨v, rfl, h⟩
theorem ob2 {α β γ : Type} {o : Option (α × β)} {f : α → β → Option γ} {r : γ} (h : b2 o f = some r) : ∃ v w, o = some (v, w) ∧ f v w = some r := by
  cases o with
  | none => cases h
  | some v => exact ⟨v.1, v.2, rfl, h⟩
theorem ob3 {α β γ δ : Type} {o : Option (α × β × γ)} {f : α → β → γ → Option δ} {r : δ} (h : b3 o f = some r) : ∃ v w z, o = some (v, w, z) ∧ f v w z = some r := by
  cases o with
  | none => cases h
  | some v => exact ⟨v.1, v.2.1, v.2.2, rfl, h⟩
theorem ob4 {α β γ δ ε : Type} {o : Option (α × β × γ × δ)} {f : α → β → γ → δ → Option ε} {r : ε} (h : b4 o f = some r) : ∃ v w z u, o = some (v, w, z, u) ∧ f v w z u = some r := by
  cases o with
  | none => cases h
  | some v => exact ⟨v.1, v.2.1, v.2.2.1, v.2.2.2, rfl, h⟩
theorem obs {ρ τ γ : Type} {o : Option (ρ ⊕ τ)} {g : ρ → Option γ} {f : τ → Option γ} {r : γ} (h : bs o g f = some r) : (∃ v, o = some (.inl v) ∧ g v = some r) ∨ ∃ t, o = some (.inr t) ∧ f t = some r := by
  cases o with
  | none => cases h
  | some v => cases v with
    | inl v => exact Or.inl ⟨v, rfl, h⟩
    | inr t => exact Or.inr ⟨t, rfl, h⟩
theorem zac_ok {M : zM} {i ci n : Nat} (h : zac M i ci n = true) : zAc M i ci n := by
  simp only [zac, Bool.and_eq_true, decide_eq_true_eq] at h
  exact ⟨Nat.le_of_ble_eq_true h.1.1, Nat.le_of_ble_eq_true h.1.2, h.2⟩
theorem zac_sh {M : zM} {i kd : Nat} (h : zac M i kd (zsh i).2 = true) : zAc M i kd (zsh i).2 := zac_ok h
theorem zix_ok {j : Int32} {n : Nat} (h : zix j n = true) : vp_in j n := by
  simp only [zix, Bool.and_eq_true, decide_eq_true_eq] at h
  have h2 : j.toNatClampNeg < n := Nat.lt_of_lt_of_le (Nat.lt_succ_self _) (Nat.le_of_ble_eq_true h.2)
  exact fun q => q.elim h.1 (fun z => by omega)
theorem oI_ok {M : zM} {i ci n k : Nat} {v : Int32} (h : oI M i ci n k = some v) : zAc M i ci n ∧ mI M i k = v := by
  unfold oI at h
  cases hz : zac M i ci n with
  | false => rw [hz] at h; cases h
  | true => rw [hz] at h; exact ⟨zac_ok hz, Option.some.inj h⟩
theorem oR_ok {M : zM} {i ci n k v : Nat} (h : oR M i ci n k = some v) : zAc M i ci n ∧ mR M i k = v := by
  unfold oR at h
  cases hz : zac M i ci n with
  | false => rw [hz] at h; cases h
  | true => rw [hz] at h; exact ⟨zac_ok hz, Option.some.inj h⟩
theorem bt_ok {α : Type} {c : Bool} {v r : α} (h : (bif c then some v else none) = some r) : c = true ∧ v = r := by
  cases c with
  | false => cases h
  | true => exact ⟨rfl, Option.some.inj h⟩
theorem zst_ok {G : zG} : ∀ {st : List Value}, st.all zpl = true → st.length ≤ 4 → (st.map fun v => (rv G v).category).sum ≤ 8 := by
  intro st h hl
  have key : ∀ st : List Value, (st.map fun v => (rv G v).category).sum ≤ 2 * st.length := by
    intro st
    induction st with
    | nil => exact Nat.le_refl _
    | cons a l ih =>
      simp only [List.map_cons, List.sum_cons, List.length_cons]
      have : (rv G a).category ≤ 2 := by rcases lv_cat (rv G a) with e | e <;> omega
      omega
  have := key st
  omega
def zle : List Value → List Value → Prop
  | [], _ => True
  | v :: vs, w :: ws => (v = .null ∨ v = w) ∧ zle vs ws
  | _ :: _, [] => False
theorem zle_at : ∀ {a b : List Value}, zle a b → ∀ (k : Nat) (v : Value), a[k]? = some v → v ≠ .null → b[k]? = some v := by
  intro a
  induction a with
  | nil => intro b _ k v h; simp at h
  | cons x xs ih =>
    intro b h k v hk hv
    cases b with
    | nil => exact h.elim
    | cons y ys =>
      cases k with
      | zero =>
        have : x = v := by simpa using hk
        subst this
        rcases h.1 with e | e
        · exact absurd e hv
        · simp [e]
      | succ k => simpa using ih h.2 k v (by simpa using hk) hv
section EXY
variable {G : zG} {d : Nat} {y y2 : MethodName} {b b2 : ByteArray} {nL nL2 : Nat} {ret ret2 : Option FieldType} {pc : Nat} {Ls st st2 stk : List Value} {M M' : zM} {res res2 : Option Value × zM}
theorem ex_weak {Ls2 : List Value} (h : zle Ls2 Ls) (k : Ex G d y b nL ret pc Ls2 st M res) : Ex G d y b nL ret pc Ls st M res := by
  refine ⟨k.1, ?_⟩
  intro p l e R s m args below meth c H locs cells slots Q ls T0 S0 hC hw hS hl h1 h2 h3 h4 K
  exact k.2 p l e R s m args below meth c H locs cells slots Q ls T0 S0 hC hw hS ⟨hl.1, hl.2.1, fun k v hk hv => hl.2.2 k v (zle_at h k v hk hv) hv⟩ h1 h2 h3 h4 K
theorem rv_cr {r : Nat} : (rv G (.ref r)).category = 1 := rv_cat (fun _ q => by cases q) (fun _ q => by cases q)
theorem y_getI {idx ci k n q i : Nat} {v : Int32} {fin : Bool} (hd : decode b pc = .ok (.getfield idx, 3)) (hf : zFk y.cls idx ci k n q fin) (e : oI M i ci n k = some v) (hq : q ≠ 2) (kk : Ex G d y b nL ret (pc + 3) Ls (.int v :: st) M res) : Ex G d y b nL ret pc Ls (.ref i :: st) M res := by
  obtain ⟨h1, rfl⟩ := oI_ok e
  exact x_getI hd hf h1 hq kk
theorem y_getR {idx ci k n i v : Nat} {fin : Bool} (hd : decode b pc = .ok (.getfield idx, 3)) (hf : zFk y.cls idx ci k n 2 fin) (e : oR M i ci n k = some v) (kk : Ex G d y b nL ret (pc + 3) Ls (.ref v :: st) M res) : Ex G d y b nL ret pc Ls (.ref i :: st) M res := by
  obtain ⟨h1, rfl⟩ := oR_ok e
  exact x_getR hd hf h1 kk
theorem y_putI {idx ci k n i : Nat} {x : Int32} (hd : decode b pc = .ok (.putfield idx, 3)) (hf : zFk y.cls idx ci k n 0 false) (e : pI M i ci n k x = some M') (kk : Ex G d y b nL ret (pc + 3) Ls st M' res) : Ex G d y b nL ret pc Ls (.int x :: .ref i :: st) M res := by
  obtain ⟨h1, rfl⟩ := bt_ok e
  exact x_putI hd hf (zac_ok h1) kk
theorem y_putZ {idx ci k n i : Nat} {x : Int32} (hd : decode b pc = .ok (.putfield idx, 3)) (hf : zFk y.cls idx ci k n 1 false) (e : pZ M i ci n k x = some M') (kk : Ex G d y b nL ret (pc + 3) Ls st M' res) : Ex G d y b nL ret pc Ls (.int x :: .ref i :: st) M res := by
  obtain ⟨h1, rfl⟩ := bt_ok e
  simp only [Bool.and_eq_true, decide_eq_true_eq] at h1
  exact x_putZ hd hf (zac_ok h1.1) h1.2 kk
theorem y_putR {idx ci k n i r : Nat} (hd : decode b pc = .ok (.putfield idx, 3)) (hf : zFk y.cls idx ci k n 2 false) (e : pR M i ci n k r = some M') (kk : Ex G d y b nL ret (pc + 3) Ls st M' res) : Ex G d y b nL ret pc Ls (.ref r :: .ref i :: st) M res := by
  obtain ⟨h1, rfl⟩ := bt_ok e
  simp only [Bool.and_eq_true] at h1
  have := Nat.le_of_ble_eq_true h1.2
  exact x_putR hd hf (zac_ok h1.1) (by omega) kk
theorem y_putF {idx ci k n i r : Nat} (hd : decode b pc = .ok (.putfield idx, 3)) (hf : zFk y.cls idx ci k n 2 true) (hy : y.name = "<init>") (hcl : ∀ (C : String) (T : u_T) (n : Nat), vwCl[ci]? = some (C, T, n) → C = y.cls) (e : pR M i ci n k r = some M') (kk : Ex G d y b nL ret (pc + 3) Ls st M' res) : Ex G d y b nL ret pc Ls (.ref r :: .ref i :: st) M res := by
  obtain ⟨h1, rfl⟩ := bt_ok e
  simp only [Bool.and_eq_true] at h1
  have := Nat.le_of_ble_eq_true h1.2
  exact x_putF hd hf hy hcl (zac_ok h1.1) (by omega) kk
theorem y_iald {i : Nat} {j v : Int32} (hd : decode b pc = .ok (.iaload, 1)) (e : aI M i j = some v) (kk : Ex G d y b nL ret (pc + 1) Ls (.int v :: st) M res) : Ex G d y b nL ret pc Ls (.int j :: .ref i :: st) M res := by
  obtain ⟨h1, rfl⟩ := bt_ok e
  exact x_iald hd (zix_ok h1) kk
theorem y_zald {i : Nat} {j v : Int32} (hd : decode b pc = .ok (.baload, 1)) (e : aZ M i j = some v) (kk : Ex G d y b nL ret (pc + 1) Ls (.int v :: st) M res) : Ex G d y b nL ret pc Ls (.int j :: .ref i :: st) M res := by
  obtain ⟨h1, rfl⟩ := bt_ok e
  simp only [Bool.and_eq_true] at h1
  exact x_zald hd (zac_ok h1.1) (zix_ok h1.2) kk
theorem y_aaldM {i v : Nat} {j : Int32} (hd : decode b pc = .ok (.aaload, 1)) (e : aQ M i 12 j = some v) (kk : Ex G d y b nL ret (pc + 1) Ls (.ref v :: st) M res) : Ex G d y b nL ret pc Ls (.int j :: .ref i :: st) M res := by
  obtain ⟨h1, rfl⟩ := bt_ok e
  simp only [Bool.and_eq_true] at h1
  exact x_aaldM hd (zac_ok h1.1) (zix_ok h1.2) kk
theorem y_aaldS {i v : Nat} {j : Int32} (hd : decode b pc = .ok (.aaload, 1)) (e : aQ M i 13 j = some v) (kk : Ex G d y b nL ret (pc + 1) Ls (.ref v :: st) M res) : Ex G d y b nL ret pc Ls (.int j :: .ref i :: st) M res := by
  obtain ⟨h1, rfl⟩ := bt_ok e
  simp only [Bool.and_eq_true] at h1
  exact x_aaldS hd (zac_ok h1.1) (zix_ok h1.2) kk
theorem y_iast {i : Nat} {j x : Int32} (hd : decode b pc = .ok (.iastore, 1)) (e : sI M i j x = some M') (kk : Ex G d y b nL ret (pc + 1) Ls st M' res) : Ex G d y b nL ret pc Ls (.int x :: .int j :: .ref i :: st) M res := by
  obtain ⟨h1, rfl⟩ := bt_ok e
  simp only [Bool.and_eq_true] at h1
  exact x_iast hd (zac_ok h1.1) (zix_ok h1.2) kk
theorem y_zast {i : Nat} {j x : Int32} (hd : decode b pc = .ok (.bastore, 1)) (e : sZ M i j x = some M') (kk : Ex G d y b nL ret (pc + 1) Ls st M' res) : Ex G d y b nL ret pc Ls (.int x :: .int j :: .ref i :: st) M res := by
  obtain ⟨h1, rfl⟩ := bt_ok e
  simp only [Bool.and_eq_true, decide_eq_true_eq] at h1
  exact x_zast hd (zac_ok h1.1.1) (zix_ok h1.1.2) h1.2 kk
theorem y_aastM {i r : Nat} {j : Int32} (hd : decode b pc = .ok (.aastore, 1)) (e : sQ M i 12 j r 1 3 = some M') (kk : Ex G d y b nL ret (pc + 1) Ls st M' res) : Ex G d y b nL ret pc Ls (.ref r :: .int j :: .ref i :: st) M res := by
  obtain ⟨h1, rfl⟩ := bt_ok e
  simp only [Bool.and_eq_true] at h1
  exact x_aastM hd (zac_ok h1.1.1) (zac_ok h1.2) (zix_ok h1.1.2) kk
theorem y_aastS {i r : Nat} {j : Int32} (hd : decode b pc = .ok (.aastore, 1)) (e : sQ M i 13 j r 5 9 = some M') (kk : Ex G d y b nL ret (pc + 1) Ls st M' res) : Ex G d y b nL ret pc Ls (.ref r :: .int j :: .ref i :: st) M res := by
  obtain ⟨h1, rfl⟩ := bt_ok e
  simp only [Bool.and_eq_true] at h1
  exact x_aastS hd (zac_ok h1.1.1) (zac_ok h1.2) (zix_ok h1.1.2) kk
theorem y_copy {idx i0 i1 : Nat} {sp dp n : Int32} (hd : decode b pc = .ok (.invokestatic idx, 3)) (hlink : Cond.methodLink y.cls idx arraycopyName ∈ zW) (e : cP M i0 sp i1 dp n = some M') (kk : Ex G d y b nL ret (pc + 3) Ls [] M' res) : Ex G d y b nL ret pc Ls [.int n, .int dp, .ref i1, .int sp, .ref i0] M res := by
  obtain ⟨h1, rfl⟩ := bt_ok e
  simp only [Bool.and_eq_true, decide_eq_true_eq] at h1
  obtain ⟨⟨⟨⟨⟨⟨a1, a2⟩, a3⟩, a4⟩, a5⟩, a6⟩, a7⟩ := h1
  exact x_copy hd hlink za_nat za_stat za_ini (zac_ok a1) (zac_ok a2) a3 a4 a5 (Nat.le_of_ble_eq_true a6) (Nat.le_of_ble_eq_true a7) kk
theorem y_alen {i : Nat} {v : Int32} (hd : decode b pc = .ok (.arraylength, 1)) (e : aN M i = some v) (kk : Ex G d y b nL ret (pc + 1) Ls (.int v :: st) M res) : Ex G d y b nL ret pc Ls (.ref i :: st) M res := by
  obtain ⟨h1, rfl⟩ := bt_ok e
  simp only [Bool.and_eq_true, Bool.or_eq_true, decide_eq_true_eq] at h1
  refine x_alen hd (h1.1.elim (fun q => Or.inl ⟨Nat.le_of_ble_eq_true q.1.1, Nat.le_of_ble_eq_true q.1.2, q.2⟩) (fun q => Or.inr q)) (Nat.lt_of_lt_of_le (Nat.lt_succ_self _) (Nat.le_of_ble_eq_true h1.2)) kk
theorem y_idiv {x z v : Int32} (hd : decode b pc = .ok (.idiv, 1)) (e : dv x z = some v) (k : Ex G d y b nL ret (pc + 1) Ls (.int v :: st) M res) : Ex G d y b nL ret pc Ls (.int z :: .int x :: st) M res := by
  unfold dv at e
  split at e
  · cases e
  next hz => cases e; exact x_idiv hd hz k
theorem y_irem {x z v : Int32} (hd : decode b pc = .ok (.irem, 1)) (e : rm x z = some v) (k : Ex G d y b nL ret (pc + 1) Ls (.int v :: st) M res) : Ex G d y b nL ret pc Ls (.int z :: .int x :: st) M res := by
  unfold rm at e
  split at e
  · cases e
  next hz => cases e; exact x_irem hd hz k
theorem y_ldiv {x z v : Int64} (hd : decode b pc = .ok (.ldiv, 1)) (e : ldv x z = some v) (k : Ex G d y b nL ret (pc + 1) Ls (.long v :: st) M res) : Ex G d y b nL ret pc Ls (.long z :: .long x :: st) M res := by
  unfold ldv at e
  split at e
  · cases e
  next hz => cases e; exact x_ldiv hd hz k
theorem y_new {idx ci N : Nat} (hd : decode b pc = .ok (.new idx, 3)) (hf : zNk y.cls idx ci N) (e : mk M ci N = some M') (k : Ex G d y b nL ret (pc + 3) Ls (.ref (M.1 + 1) :: st) M' res) : Ex G d y b nL ret pc Ls st M res := by
  obtain ⟨h1, rfl⟩ := bt_ok e
  simp only [Bool.and_eq_true, decide_eq_true_eq] at h1
  exact x_new hd hf h1.1 (Nat.lt_of_lt_of_le (Nat.lt_succ_self _) (Nat.le_of_ble_eq_true h1.2)) k
theorem y_newa {n : Int32} {N : Nat} (hd : decode b pc = .ok (.newarray .int, 2)) (hn : ¬ n < 0) (hN : n.toNatClampNeg = N) (hb : N * 4 ≤ 536870912) (e : mk M 10 N = some M') (k : Ex G d y b nL ret (pc + 2) Ls (.ref (M.1 + 1) :: st) M' res) : Ex G d y b nL ret pc Ls (.int n :: st) M res := by
  obtain ⟨h1, rfl⟩ := bt_ok e
  simp only [Bool.and_eq_true, decide_eq_true_eq] at h1
  exact x_newa hd za_i h1.1 (Nat.lt_of_lt_of_le (Nat.lt_succ_self _) (Nat.le_of_ble_eq_true h1.2)) hn hN hb k
theorem y_newz {n : Int32} {N : Nat} (hd : decode b pc = .ok (.newarray .boolean, 2)) (hn : ¬ n < 0) (hN : n.toNatClampNeg = N) (hb : N * 1 ≤ 536870912) (e : mk M 11 N = some M') (k : Ex G d y b nL ret (pc + 2) Ls (.ref (M.1 + 1) :: st) M' res) : Ex G d y b nL ret pc Ls (.int n :: st) M res := by
  obtain ⟨h1, rfl⟩ := bt_ok e
  simp only [Bool.and_eq_true, decide_eq_true_eq] at h1
  exact x_newz hd za_z h1.1 (Nat.lt_of_lt_of_le (Nat.lt_succ_self _) (Nat.le_of_ble_eq_true h1.2)) hn hN hb k
theorem y_newqM {idx N : Nat} {n : Int32} (hd : decode b pc = .ok (.anewarray idx, 3)) (hf : Cond.classLink y.cls idx "WordRation$Image" ∈ zW) (hn : ¬ n < 0) (hN : n.toNatClampNeg = N) (hb : N * 4 ≤ 536870912) (e : mk M 12 N = some M') (k : Ex G d y b nL ret (pc + 3) Ls (.ref (M.1 + 1) :: st) M' res) : Ex G d y b nL ret pc Ls (.int n :: st) M res := by
  obtain ⟨h1, rfl⟩ := bt_ok e
  simp only [Bool.and_eq_true, decide_eq_true_eq] at h1
  exact x_newqM hd hf h1.1 (Nat.lt_of_lt_of_le (Nat.lt_succ_self _) (Nat.le_of_ble_eq_true h1.2)) hn hN hb k
theorem y_newqS {idx N : Nat} {n : Int32} (hd : decode b pc = .ok (.anewarray idx, 3)) (hf : Cond.classLink y.cls idx "WordRation$State" ∈ zW) (hn : ¬ n < 0) (hN : n.toNatClampNeg = N) (hb : N * 4 ≤ 536870912) (e : mk M 13 N = some M') (k : Ex G d y b nL ret (pc + 3) Ls (.ref (M.1 + 1) :: st) M' res) : Ex G d y b nL ret pc Ls (.int n :: st) M res := by
  obtain ⟨h1, rfl⟩ := bt_ok e
  simp only [Bool.and_eq_true, decide_eq_true_eq] at h1
  exact x_newqS hd hf h1.1 (Nat.lt_of_lt_of_le (Nat.lt_succ_self _) (Nat.le_of_ble_eq_true h1.2)) hn hN hb k
theorem y_oinit {idx i : Nat} (hd : decode b pc = .ok (.invokespecial idx, 3)) (hl : Cond.methodLink y.cls idx Lib.objectInit ∈ zW) (hi : i ≠ 0) (kk : Ex G d y b nL ret (pc + 3) Ls [] M res) : Ex G d y b nL ret pc Ls [.ref i] M res := x_oinit hd hl zo_im zo_code hi (Nat.zero_le _) kk
theorem y_tableIn {dflt lo hi : Int} {offs : Array Int} {len : Nat} {x q : Int32} {off : Int} {t : Nat} (hd : decode b pc = .ok (.tableswitch dflt lo hi offs, len)) (hx : x = q) (h1 : ¬ q.toInt < lo) (h2 : ¬ hi < q.toInt) (ho : offs[(q.toInt - lo).toNat]? = some off) (ht : (pc : Int) + off = (t : Int)) (k : Ex G d y b nL ret t Ls st M res) : Ex G d y b nL ret pc Ls (.int x :: st) M res := by
  subst hx; exact x_tableIn hd h1 h2 ho ht k
theorem y_out {x : Int32} {n : Nat} (hn : n < 2 ^ 31) (h : ∀ j : Nat, j ≤ n → ¬ x = nI j) : x.toInt < 0 ∨ (n : Int) < x.toInt := by
  by_cases h0 : x.toInt < 0
  · exact Or.inl h0
  · by_cases h1 : (n : Int) < x.toInt
    · exact Or.inr h1
    · exfalso
      refine h x.toInt.toNat (by omega) (Int32.toInt_inj.mp ?_)
      rw [nI_toInt (by omega)]
      omega
theorem y_lookup {dflt : Int} {ps : Array (Int × Int)} {len : Nat} {x q : Int32} {off : Int} {t : Nat} (hd : decode b pc = .ok (.lookupswitch dflt ps, len)) (hx : x = q) (hp : (ps.toList.zip (ps.toList.drop 1)).all (fun (a, next) => a.1 < next.1) = true) (ho : Op.lookupswitch.offset ps.toList dflt q.toInt = off) (ht : (pc : Int) + off = (t : Int)) (k : Ex G d y b nL ret t Ls st M res) : Ex G d y b nL ret pc Ls (.int x :: st) M res := by
  subst hx; exact x_lookup hd hp ho ht k
theorem y_mmax {idx : Nat} {x z : Int32} (hd : decode b pc = .ok (.invokestatic idx, 3)) (hl : Cond.methodLink y.cls idx Lib.Math.max.name ∈ zW) (hs : Cond.static Lib.Math.max.name ∈ zW) (hst : st.all zpl = true) (hst4 : st.length ≤ 4) (kk : Ex G d y b nL ret (pc + 3) Ls (.int (if x < z then z else x) :: st) M res) : Ex G d y b nL ret pc Ls (.int z :: .int x :: st) M res := by
  refine ⟨kk.1, ?_⟩
  intro p l e R s m args below meth c H locs cells slots Q ls T0 S0 hC hw hS hlr h1 h2 h3 h4 K
  have hts := hC.2.2.2.2.1
  have hR := hC.2.2.2.2.2.2.2.2.2.2
  have hb := kk.1
  have hsum : ((st.map (rv G)).map fun v => v.category).sum ≤ 8 := by rw [List.map_map]; exact zst_ok hst hst4
  exact va_mmax hC.1 hC.2.1 (hC.2.2.1.trans hlr.1.symm) hC.2.2.2.1 (hts _ hl) (hts _ hs) (hts _ zc_mini) (hts _ zc_mmax) (by omega) (by omega) (by omega) (by omega) hd (kk.2 p l e R s m args below meth c H locs cells slots Q ls T0 S0 hC hw hS hlr h1 h2 h3 h4 K)
theorem y_mmin {idx : Nat} {x z : Int32} (hd : decode b pc = .ok (.invokestatic idx, 3)) (hl : Cond.methodLink y.cls idx Lib.Math.min.name ∈ zW) (hs : Cond.static Lib.Math.min.name ∈ zW) (hst : st.all zpl = true) (hst4 : st.length ≤ 4) (kk : Ex G d y b nL ret (pc + 3) Ls (.int (if z < x then z else x) :: st) M res) : Ex G d y b nL ret pc Ls (.int z :: .int x :: st) M res := by
  refine ⟨kk.1, ?_⟩
  intro p l e R s m args below meth c H locs cells slots Q ls T0 S0 hC hw hS hlr h1 h2 h3 h4 K
  have hts := hC.2.2.2.2.1
  have hR := hC.2.2.2.2.2.2.2.2.2.2
  have hb := kk.1
  have hsum : ((st.map (rv G)).map fun v => v.category).sum ≤ 8 := by rw [List.map_map]; exact zst_ok hst hst4
  exact va_mmin hC.1 hC.2.1 (hC.2.2.1.trans hlr.1.symm) hC.2.2.2.1 (hts _ hl) (hts _ hs) (hts _ zc_mini) (hts _ zc_mmin) (by omega) (by omega) (by omega) (by omega) hd (kk.2 p l e R s m args below meth c H locs cells slots Q ls T0 S0 hC hw hS hlr h1 h2 h3 h4 K)
def zb (x : Int32) : Option Int32 := if x = 0 ∨ x = 1 then some x else none
theorem y_retZ {x v : Int32} (hd : decode b pc = .ok (.ireturn, 1)) (hr : ret = some .boolean) (e : zb x = some v) : Ex G d y b nL ret pc Ls [.int x] M (some (.int v), M) := by
  unfold zb at e
  split at e
  next h => cases e; exact x_ret hd hr (by rcases h with h | h <;> (subst h; rfl))
  · cases e
theorem y_retI {x : Int32} (hd : decode b pc = .ok (.ireturn, 1)) (hr : ret = some .int) : Ex G d y b nL ret pc Ls [.int x] M (some (.int x), M) := x_ret hd hr rfl
end EXY
