/-! price -/
def b01 (b : Bool) : Nat := if b = true then 1 else 0
def cf (P : Nat → Bool) : Nat → Nat → Nat
  | 0, _ => 0
  | m + 1, i => b01 (P i) + cf P m (i + 1)
theorem b01_t {b : Bool} (h : b = true) : b01 b = 1 := by rw [h]; rfl
theorem b01_f {b : Bool} (h : b = false) : b01 b = 0 := by rw [h]; rfl
theorem b01_le {b : Bool} : b01 b ≤ 1 := by cases b <;> decide
theorem cf_add (P : Nat → Bool) : ∀ a b i, cf P (a + b) i = cf P a i + cf P b (i + a) := by
  intro a
  induction a with
  | zero => intro b i; rw [Nat.zero_add, Nat.add_zero]; simp [cf]
  | succ a ih =>
    intro b i
    rw [Nat.succ_add_eq_add_succ a b, Nat.add_succ]
    simp only [cf]
    rw [ih, show i + 1 + a = i + (a + 1) by omega, Nat.add_assoc]
theorem cf_1 (P : Nat → Bool) (n : Nat) : cf P (n + 1) 0 = cf P n 0 + b01 (P n) := by
  rw [cf_add P n 1 0, Nat.zero_add]
  simp only [cf, Nat.add_zero]
theorem cf_sum {P Q R : Nat → Bool} : ∀ m i, (∀ j, i ≤ j → j < i + m → b01 (P j) = b01 (Q j) + b01 (R j)) → cf P m i = cf Q m i + cf R m i := by
  intro m
  induction m with
  | zero => intro i _; rfl
  | succ m ih =>
    intro i h
    have h1 := h i (by omega) (by omega)
    have h2 := ih (i + 1) (fun j a b => h j (by omega) (by omega))
    simp only [cf]
    omega
theorem cf_le {P Q : Nat → Bool} : ∀ m i, (∀ j, i ≤ j → j < i + m → P j = true → Q j = true) → cf P m i ≤ cf Q m i := by
  intro m
  induction m with
  | zero => intro i _; exact Nat.le_refl _
  | succ m ih =>
    intro i h
    have h2 := ih (i + 1) (fun j a b => h j (by omega) (by omega))
    have h1 : b01 (P i) ≤ b01 (Q i) := by
      cases hp : P i with
      | false => exact Nat.zero_le _
      | true => rw [h i (by omega) (by omega) hp]; exact Nat.le_refl _
    simp only [cf]
    omega
theorem cf_z {P : Nat → Bool} : ∀ m i, (∀ j, i ≤ j → j < i + m → P j = false) → cf P m i = 0 := by
  intro m
  induction m with
  | zero => intro i _; rfl
  | succ m ih =>
    intro i h
    simp only [cf]
    rw [b01_f (h i (by omega) (by omega)), ih (i + 1) (fun j a b => h j (by omega) (by omega))]
theorem cf_eq {P Q : Nat → Bool} (m i : Nat) (h : ∀ j, i ≤ j → j < i + m → P j = Q j) : cf P m i = cf Q m i :=
  Nat.le_antisymm (cf_le m i (fun j a b c => by rw [← h j a b]; exact c)) (cf_le m i (fun j a b c => by rw [h j a b]; exact c))
theorem cf_lem {P : Nat → Bool} : ∀ m i, cf P m i ≤ m := by
  intro m
  induction m with
  | zero => intro i; exact Nat.le_refl _
  | succ m ih =>
    intro i
    have := ih (i + 1)
    have := b01_le (b := P i)
    simp only [cf]
    omega
theorem cf_iv {P : Nat → Bool} {k : Nat} : ∀ N, k < cf P N 0 → ∃ n, n < N ∧ P n = true ∧ cf P n 0 = k := by
  intro N
  induction N with
  | zero => intro h; exact absurd h (Nat.not_lt_zero _)
  | succ N ih =>
    intro h
    by_cases hk : k < cf P N 0
    · obtain ⟨n, h1, h2, h3⟩ := ih hk
      exact ⟨n, by omega, h2, h3⟩
    · rw [cf_1] at h
      cases hp : P N with
      | false => rw [b01_f hp] at h; omega
      | true => rw [b01_t hp] at h; exact ⟨N, by omega, hp, by omega⟩
/-- of the needs C, worth f: how many are ahead of n; how many are worth v at least -/
def rkB (C : Nat → Bool) (f : Nat → Nat) (n m : Nat) : Bool := C m && decide (f n < f m ∨ (f m = f n ∧ m < n))
def geB (C : Nat → Bool) (f : Nat → Nat) (v m : Nat) : Bool := C m && decide (v ≤ f m)
def eqB (C : Nat → Bool) (f : Nat → Nat) (v m : Nat) : Bool := C m && decide (f m = v)
theorem bd_t {c : Bool} {p : Prop} [Decidable p] : (c && decide p) = true ↔ c = true ∧ p := by simp
theorem b01_and {c : Bool} {p : Prop} [Decidable p] : b01 (c && decide p) = if c = true then (if p then 1 else 0) else 0 := by
  cases c <;> by_cases h : p <;> simp [b01, h]
theorem rk_eq {C : Nat → Bool} {f : Nat → Nat} {n N : Nat} (hn : n < N) : cf (rkB C f n) N 0 = cf (geB C f (f n + 1)) N 0 + cf (eqB C f (f n)) n 0 := by
  have e1 : cf (rkB C f n) N 0 = cf (geB C f (f n + 1)) N 0 + cf (fun m => C m && decide (f m = f n ∧ m < n)) N 0 := by
    refine cf_sum N 0 (fun j _ _ => ?_)
    unfold rkB geB
    rw [b01_and, b01_and, b01_and]
    cases C j with
    | false => rfl
    | true =>
      simp only [if_true]
      by_cases h1 : f n < f j
      · rw [if_pos (Or.inl h1), if_pos (by omega), if_neg (by omega)]
      · by_cases h2 : f j = f n ∧ j < n
        · rw [if_pos (Or.inr h2), if_neg (by omega), if_pos h2]
        · rw [if_neg (by omega), if_neg (by omega), if_neg h2]
  rw [e1]
  congr 1
  have e2 := cf_add (fun m => C m && decide (f m = f n ∧ m < n)) n (N - n) 0
  rw [Nat.add_sub_cancel' (Nat.le_of_lt hn), Nat.zero_add] at e2
  rw [e2, cf_z (N - n) n (fun j h1 _ => by rw [decide_eq_false (by omega), Bool.and_false]), Nat.add_zero]
  refine cf_eq n 0 (fun j _ h2 => ?_)
  unfold eqB
  congr 1
  exact decide_eq_decide.mpr ⟨fun q => q.1, fun q => ⟨q, by omega⟩⟩
theorem ge_eq {C : Nat → Bool} {f : Nat → Nat} {v N : Nat} : cf (geB C f v) N 0 = cf (geB C f (v + 1)) N 0 + cf (eqB C f v) N 0 := by
  refine cf_sum N 0 (fun j _ _ => ?_)
  unfold geB eqB
  rw [b01_and, b01_and, b01_and]
  cases C j with
  | false => rfl
  | true =>
    simp only [if_true]
    by_cases h1 : v + 1 ≤ f j
    · rw [if_pos (by omega), if_pos h1, if_neg (by omega)]
    · by_cases h2 : f j = v
      · rw [if_pos (by omega), if_neg h1, if_pos h2]
      · rw [if_neg (by omega), if_neg h1, if_neg h2]
theorem eq_in {C : Nat → Bool} {f : Nat → Nat} {n N : Nat} (hn : n < N) (hC : C n = true) : cf (eqB C f (f n)) n 0 + 1 ≤ cf (eqB C f (f n)) N 0 := by
  have e2 := cf_add (eqB C f (f n)) (n + 1) (N - (n + 1)) 0
  rw [Nat.add_sub_cancel' hn, cf_1] at e2
  rw [e2, b01_t (by unfold eqB; rw [hC, decide_eq_true rfl]; rfl)]
  omega
/-- what both prices come to -/
theorem pr_a {C : Nat → Bool} {f : Nat → Nat} {n N S : Nat} (hn : n < N) (hC : C n = true) (hS : cf (rkB C f n) N 0 = S) : S < cf (geB C f (f n)) N 0 := by
  rw [rk_eq hn] at hS
  have h1 := eq_in (f := f) hn hC
  have h2 := ge_eq (C := C) (f := f) (v := f n) (N := N)
  omega
theorem pr_b {C : Nat → Bool} {f : Nat → Nat} {n N S v : Nat} (hn : n < N) (hS : cf (rkB C f n) N 0 = S) (hv : f n < v) : cf (geB C f v) N 0 ≤ S := by
  rw [rk_eq hn] at hS
  have h1 : cf (geB C f v) N 0 ≤ cf (geB C f (f n + 1)) N 0 := cf_le N 0 (fun j _ _ q => by
    unfold geB at q ⊢
    rw [bd_t] at q ⊢
    exact ⟨q.1, by omega⟩)
  omega
theorem pr_c {C : Nat → Bool} {f : Nat → Nat} {N S v : Nat} (h1 : S < cf (geB C f v) N 0) (h2 : cf (geB C f (v + 1)) N 0 ≤ S) : ∃ n, n < N ∧ C n = true ∧ cf (rkB C f n) N 0 = S := by
  have h3 := ge_eq (C := C) (f := f) (v := v) (N := N)
  obtain ⟨n, a1, a2, a3⟩ := cf_iv (P := eqB C f v) (k := S - cf (geB C f (v + 1)) N 0) N (by omega)
  unfold eqB at a2
  rw [bd_t] at a2
  refine ⟨n, a1, a2.1, ?_⟩
  rw [rk_eq a1, a2.2, a3]
  omega
def tcB (T : Nat → Nat → Nat) (d w n : Nat) : Bool := decide (T 6 (4 * n + 1) = w ∧ d ≤ T 6 (4 * n + 2))
theorem tcB_i {T : Nat → Nat → Nat} {d w n : Nat} : (if T 6 (4 * n + 1) = w then if d ≤ T 6 (4 * n + 2) then (1 : Int32) else 0 else 0) = if tcB T d w n then 1 else 0 := by
  unfold tcB
  by_cases h1 : T 6 (4 * n + 1) = w
  · by_cases h2 : d ≤ T 6 (4 * n + 2)
    · rw [if_pos h1, if_pos h2, decide_eq_true ⟨h1, h2⟩]; rfl
    · rw [if_pos h1, if_neg h2, decide_eq_false (fun q => h2 q.2)]; rfl
  · rw [if_neg h1, decide_eq_false (fun q => h1 q.1)]; rfl
section PRI
variable {B : zM} {tw s u c np w n S : Nat} {T : Nat → Nat → Nat} {r : Nat → Nat} {I : Nat → Nat → Int32} {x y : Int32}
theorem X_rk_lp (hB : GB B tw s u) (hT : gT tw T I) (hN : gN s np c r I) (hw : w < 8) (hn : n < T 0 3) : ∀ m i z q, i + m = T 0 3 → m < z → L_X8_rankByWorth_16 z 1 (nI n) (nI w) (nI (T 6 (4 * n + 3))) (nI q) (nI i) (zI B I) = some (nI (q + cf (rkB (tcB T (dN T r) w) (fun n => T 6 (4 * n + 3)) n) m i)) := by
  have b3 := hT.1.2.2.2.1
  have e4 := hT.2.2.1.1.2.2.2.2.1
  obtain ⟨x1, x2, x3, x4, x5, -⟩ := hB.hx
  obtain ⟨t1, t2, t3, t4, t5, t6, t7, t8, t9⟩ := hB.tl
  have bn := (hT.1.2.2.2.2.2.2.2.2.1 n hn).2.2.2
  intro m
  induction m with
  | zero =>
    intro i z q hi hz
    obtain ⟨z, rfl⟩ := Nat.exists_eq_succ_of_ne_zero (show z ≠ 0 by omega)
    have c1 : nI (T 0 3) ≤ nI i := (nI_leI (by omega) (by omega)).mpr (by omega)
    simp only [L_X8_rankByWorth_16, x1, x2, x5, cond_true, oI_eq, oR_eq, Option.bind_some, e4, if_pos c1, cf, Nat.add_zero]
  | succ m ih =>
    intro i z q hi hz
    obtain ⟨z, rfl⟩ := Nat.exists_eq_succ_of_ne_zero (show z ≠ 0 by omega)
    have c1 : ¬ nI (T 0 3) ≤ nI i := fun q => absurd ((nI_leI (by omega) (by omega)).mp q) (by omega)
    have hi' : i < T 0 3 := by omega
    have bi := (hT.1.2.2.2.2.2.2.2.2.1 i hi').2.2.2
    have u1 := aI_at (B := B) (by omega) (by rw [t8]; omega) (hT.2.2.1.2.2.2 i hi').2.2.2
    have g := X_toComeOf hB hT hN hi' hw
    rw [tcB_i] at g
    have z1 : nI (T 6 (4 * n + 3)) < nI (T 6 (4 * i + 3)) ↔ T 6 (4 * n + 3) < T 6 (4 * i + 3) := nI_ltI (by omega) (by omega)
    have z2 : nI (T 6 (4 * i + 3)) = nI (T 6 (4 * n + 3)) ↔ T 6 (4 * i + 3) = T 6 (4 * n + 3) := nI_eq (by omega) (by omega)
    have z3 : nI n ≤ nI i ↔ n ≤ i := nI_leI (by omega) (by omega)
    have i1 := fun q => ih (i + 1) z q (by omega) (by omega)
    simp only [L_X8_rankByWorth_16, x1, x2, x5, t4, cond_true, oI_eq, oR_eq, zac_zI, Option.bind_some, e4, if_neg c1, u1, g, z1, z2, z3, nI_1, i1, cf]
    have eb : b01 (rkB (tcB T (dN T r) w) (fun n => T 6 (4 * n + 3)) n i) = if tcB T (dN T r) w i = true then (if T 6 (4 * n + 3) < T 6 (4 * i + 3) ∨ (T 6 (4 * i + 3) = T 6 (4 * n + 3) ∧ i < n) then 1 else 0) else 0 := by
      unfold rkB
      rw [b01_and]
    rw [eb]
    cases tcB T (dN T r) w i with
    | false => simp only [Bool.false_eq_true, if_false, if_true, Nat.zero_add]
    | true =>
      simp only [if_true, if_neg ne10]
      by_cases h1 : T 6 (4 * n + 3) < T 6 (4 * i + 3)
      · rw [if_pos h1, if_pos (Or.inl h1), Nat.add_assoc]
      · rw [if_neg h1]
        by_cases h2 : T 6 (4 * i + 3) = T 6 (4 * n + 3)
        · rw [if_pos h2]
          by_cases h3 : n ≤ i
          · rw [if_pos h3, if_neg (by omega), Nat.zero_add]
          · rw [if_neg h3, if_pos (by omega), Nat.add_assoc]
        · rw [if_neg h2, if_neg (by omega), Nat.zero_add]
theorem X_rk (hB : GB B tw s u) (hT : gT tw T I) (hN : gN s np c r I) (hw : w < 8) (hn : n < T 0 3) : f_X8_rankByWorth 1 (nI n) (nI w) (zI B I) = some (nI (cf (rkB (tcB T (dN T r) w) (fun n => T 6 (4 * n + 3)) n) (T 0 3) 0)) := by
  have b3 := hT.1.2.2.2.1
  obtain ⟨x1, x2, x3, x4, x5, -⟩ := hB.hx
  obtain ⟨t1, t2, t3, t4, t5, t6, t7, t8, t9⟩ := hB.tl
  have u1 := aI_at (B := B) (by omega) (by rw [t8]; omega) (hT.2.2.1.2.2.2 n hn).2.2.2
  have g := X_rk_lp hB hT hN hw hn (T 0 3) 0 zN 0 (by omega) (by unfold zN; omega)
  rw [show nI 0 = (0 : Int32) from rfl, Nat.zero_add] at g
  simp only [f_X8_rankByWorth, nb1, x1, x2, x5, t4, cond_true, oR_eq, Option.bind_some, u1, g]
theorem X_pr_lp (hB : GB B tw s u) (hT : gT tw T I) (hN : gN s np c r I) (hw : w < 8) (hS : S < 1000) : ∀ m i z, i + m = T 0 3 → m < z → ∃ o, L_X8_price_22 z 1 (nI w) (nI S) (nI i) (zI B I) = some o ∧ ((∃ n, n < T 0 3 ∧ tcB T (dN T r) w n = true ∧ cf (rkB (tcB T (dN T r) w) (fun n => T 6 (4 * n + 3)) n) (T 0 3) 0 = S ∧ o = .inl (nI (T 6 (4 * n + 3)))) ∨ (o = .inr () ∧ ∀ n, i ≤ n → n < T 0 3 → tcB T (dN T r) w n = true → ¬ cf (rkB (tcB T (dN T r) w) (fun n => T 6 (4 * n + 3)) n) (T 0 3) 0 = S)) := by
  have b3 := hT.1.2.2.2.1
  have e4 := hT.2.2.1.1.2.2.2.2.1
  obtain ⟨x1, x2, x3, x4, x5, -⟩ := hB.hx
  obtain ⟨t1, t2, t3, t4, t5, t6, t7, t8, t9⟩ := hB.tl
  intro m
  induction m with
  | zero =>
    intro i z hi hz
    obtain ⟨z, rfl⟩ := Nat.exists_eq_succ_of_ne_zero (show z ≠ 0 by omega)
    have c1 : nI (T 0 3) ≤ nI i := (nI_leI (by omega) (by omega)).mpr (by omega)
    refine ⟨.inr (), ?_, Or.inr ⟨rfl, fun n h1 h2 => absurd h2 (by omega)⟩⟩
    simp only [L_X8_price_22, x1, x2, x5, cond_true, oI_eq, oR_eq, Option.bind_some, e4, if_pos c1]
  | succ m ih =>
    intro i z hi hz
    obtain ⟨z, rfl⟩ := Nat.exists_eq_succ_of_ne_zero (show z ≠ 0 by omega)
    have c1 : ¬ nI (T 0 3) ≤ nI i := fun q => absurd ((nI_leI (by omega) (by omega)).mp q) (by omega)
    have hi' : i < T 0 3 := by omega
    have u1 := aI_at (B := B) (by omega) (by rw [t8]; omega) (hT.2.2.1.2.2.2 i hi').2.2.2
    have g := X_toComeOf hB hT hN hi' hw
    rw [tcB_i] at g
    have g2 := X_rk hB hT hN hw hi'
    have hl := cf_lem (P := rkB (tcB T (dN T r) w) (fun n => T 6 (4 * n + 3)) i) (T 0 3) 0
    have z1 : nI (cf (rkB (tcB T (dN T r) w) (fun n => T 6 (4 * n + 3)) i) (T 0 3) 0) = nI S ↔ cf (rkB (tcB T (dN T r) w) (fun n => T 6 (4 * n + 3)) i) (T 0 3) 0 = S := nI_eq (by omega) (by omega)
    obtain ⟨o, i1, i2⟩ := ih (i + 1) z (by omega) (by omega)
    rcases Bool.eq_false_or_eq_true (tcB T (dN T r) w i) with hc | hc
    · rw [hc, ite_t] at g
      by_cases hk : cf (rkB (tcB T (dN T r) w) (fun n => T 6 (4 * n + 3)) i) (T 0 3) 0 = S
      · refine ⟨.inl (nI (T 6 (4 * i + 3))), ?_, Or.inl ⟨i, hi', hc, hk, rfl⟩⟩
        simp only [L_X8_price_22, x1, x2, x5, t4, cond_true, oI_eq, oR_eq, zac_zI, Option.bind_some, e4, if_neg c1, g, if_neg ne10, g2, z1, if_pos hk, u1]
      · refine ⟨o, ?_, ?_⟩
        · simp only [L_X8_price_22, x1, x2, x5, t4, cond_true, oI_eq, oR_eq, zac_zI, Option.bind_some, e4, if_neg c1, g, if_neg ne10, g2, z1, if_neg hk, nI_1, i1]
        · rcases i2 with q | ⟨q1, q2⟩
          · exact Or.inl q
          · refine Or.inr ⟨q1, fun n h1 h2 h3 => ?_⟩
            by_cases hni : n = i
            · rw [hni]; exact hk
            · exact q2 n (by omega) h2 h3
    · rw [hc, ite_f] at g
      refine ⟨o, ?_, ?_⟩
      · simp only [L_X8_price_22, x1, x2, x5, t4, cond_true, oI_eq, oR_eq, zac_zI, Option.bind_some, e4, if_neg c1, g, if_pos, nI_1, i1]
      · rcases i2 with q | ⟨q1, q2⟩
        · exact Or.inl q
        · refine Or.inr ⟨q1, fun n h1 h2 h3 => ?_⟩
          by_cases hni : n = i
          · rw [hni, hc] at h3; exact absurd h3 (by decide)
          · exact q2 n (by omega) h2 h3
theorem Y_worth (hB : GB B tw s u) (hT : gT tw T I) (hn : n < T 0 3) : f_X9_worthOf 144 (nI n) (zI B I) = some (nI (T 6 (4 * n + 3))) := by
  obtain ⟨y1, y2, -⟩ := hB.hy'
  obtain ⟨-, -, -, -, l7, -⟩ := hB.lt
  have b3 := hT.1.2.2.2.1
  have y3 : mR B 144 14 = 153 := by have hy := hB.2.1; simp only [hy]
  have u1 := aI_at (B := B) (by omega) (by rw [l7]; omega) (hT.2.2.2.2.2.2.2.2 n hn).2.2.2
  have p1 : (4 : Int32) * nI n + 3 = nI (4 * n + 3) := by rw [nl4, nl3, pk_mul, nI_add]
  simp only [f_X9_worthOf, nb144, y1, y3, cond_true, oR_eq, Option.bind_some, p1, u1]
theorem Y_ge_lp (hB : GB B tw s u) (hT : gT tw T I) (hN : gN s np c r I) (hw : w < 8) {v : Nat} (hv : v < 1000) : ∀ m i z q, i + m = T 0 3 → m < z → L_X9_price_44 z 144 (nI w) x (nI v) (nI q) (nI i) (zI B I) = some (nI (q + cf (geB (tcB T (dN T r) w) (fun n => T 6 (4 * n + 3)) v) m i)) := by
  have b3 := hT.1.2.2.2.1
  have e4 := hT.2.2.2.1.2.2.2
  obtain ⟨y1, y2, -⟩ := hB.hy'
  intro m
  induction m with
  | zero =>
    intro i z q hi hz
    obtain ⟨z, rfl⟩ := Nat.exists_eq_succ_of_ne_zero (show z ≠ 0 by omega)
    have c1 : nI (T 0 3) ≤ nI i := (nI_leI (by omega) (by omega)).mpr (by omega)
    simp only [L_X9_price_44, y1, cond_true, oI_eq, oR_eq, Option.bind_some, e4, if_pos c1, cf, Nat.add_zero]
  | succ m ih =>
    intro i z q hi hz
    obtain ⟨z, rfl⟩ := Nat.exists_eq_succ_of_ne_zero (show z ≠ 0 by omega)
    have c1 : ¬ nI (T 0 3) ≤ nI i := fun q => absurd ((nI_leI (by omega) (by omega)).mp q) (by omega)
    have hi' : i < T 0 3 := by omega
    have bi := (hT.1.2.2.2.2.2.2.2.2.1 i hi').2.2.2
    have g := Y_isOf hB hT hN hi' hw
    rw [tcB_i] at g
    have g2 := Y_worth hB hT hi'
    have z1 : nI (T 6 (4 * i + 3)) < nI v ↔ T 6 (4 * i + 3) < v := nI_ltI (by omega) (by omega)
    have i1 := fun q => ih (i + 1) z q (by omega) (by omega)
    simp only [L_X9_price_44, y1, cond_true, oI_eq, zac_zI, Option.bind_some, e4, if_neg c1, g, g2, z1, nI_1, Int32.add_zero, i1, cf]
    have eb : b01 (geB (tcB T (dN T r) w) (fun n => T 6 (4 * n + 3)) v i) = if tcB T (dN T r) w i = true then (if v ≤ T 6 (4 * i + 3) then 1 else 0) else 0 := by
      unfold geB
      rw [b01_and]
    rw [eb]
    cases tcB T (dN T r) w i with
    | false => simp only [Bool.false_eq_true, if_false, if_true, Nat.zero_add]
    | true =>
      simp only [if_true, if_neg ne10]
      by_cases h1 : T 6 (4 * i + 3) < v
      · rw [if_pos h1, if_neg (by omega), Nat.zero_add]
      · rw [if_neg h1, if_pos (by omega), Nat.add_assoc]
theorem Y_pr_lp (hB : GB B tw s u) (hT : gT tw T I) (hN : gN s np c r I) (hw : w < 8) (hS : S < 1000) : ∀ v z, v ≤ 99 → v < z → cf (geB (tcB T (dN T r) w) (fun n => T 6 (4 * n + 3)) (v + 1)) (T 0 3) 0 ≤ S → ∃ o, L_X9_price_34 z 144 (nI w) (nI S) (nI v) (zI B I) = some o ∧ ((∃ v', v' ≤ v ∧ 1 ≤ v' ∧ S < cf (geB (tcB T (dN T r) w) (fun n => T 6 (4 * n + 3)) v') (T 0 3) 0 ∧ cf (geB (tcB T (dN T r) w) (fun n => T 6 (4 * n + 3)) (v' + 1)) (T 0 3) 0 ≤ S ∧ o = .inl (nI v')) ∨ (o = .inr () ∧ cf (geB (tcB T (dN T r) w) (fun n => T 6 (4 * n + 3)) 1) (T 0 3) 0 ≤ S)) := by
  have b3 := hT.1.2.2.2.1
  intro v
  induction v with
  | zero =>
    intro z hv hz h
    obtain ⟨z, rfl⟩ := Nat.exists_eq_succ_of_ne_zero (show z ≠ 0 by omega)
    refine ⟨.inr (), ?_, Or.inr ⟨rfl, h⟩⟩
    simp only [L_X9_price_34]
    rw [if_pos (by decide)]
  | succ v ih =>
    intro z hv hz h
    obtain ⟨z, rfl⟩ := Nat.exists_eq_succ_of_ne_zero (show z ≠ 0 by omega)
    have c1 : ¬ nI (v + 1) ≤ 0 := fun q => absurd ((nI_l0 (by omega)).mp q) (by omega)
    have g := Y_ge_lp (x := nI S) hB hT hN hw (v := v + 1) (by omega) (T 0 3) 0 zN 0 (by omega) (by unfold zN; omega)
    rw [show nI 0 = (0 : Int32) from rfl, Nat.zero_add] at g
    have hl := cf_lem (P := geB (tcB T (dN T r) w) (fun n => T 6 (4 * n + 3)) (v + 1)) (T 0 3) 0
    have z1 : nI (cf (geB (tcB T (dN T r) w) (fun n => T 6 (4 * n + 3)) (v + 1)) (T 0 3) 0) ≤ nI S ↔ cf (geB (tcB T (dN T r) w) (fun n => T 6 (4 * n + 3)) (v + 1)) (T 0 3) 0 ≤ S := nI_leI (by omega) (by omega)
    have p1 : nI (v + 1) + (-1) = nI v := pk_m1 v
    by_cases hk : cf (geB (tcB T (dN T r) w) (fun n => T 6 (4 * n + 3)) (v + 1)) (T 0 3) 0 ≤ S
    · obtain ⟨o, i1, i2⟩ := ih z (by omega) (by omega) hk
      refine ⟨o, ?_, ?_⟩
      · simp only [L_X9_price_34, if_neg c1, g, Option.bind_some, z1, if_pos hk, p1, i1]
      · rcases i2 with ⟨v', a1, a2⟩ | q
        · exact Or.inl ⟨v', by omega, a2⟩
        · exact Or.inr q
    · refine ⟨.inl (nI (v + 1)), ?_, Or.inl ⟨v + 1, Nat.le_refl _, by omega, by omega, h, rfl⟩⟩
      simp only [L_X9_price_34, if_neg c1, g, Option.bind_some, z1, if_neg hk]
theorem r_price (hB : GB B tw s u) (hT : gT tw T I) (hN : gN s (T 0 2) c r I) : R2 (f_X8_price 1 x (zI B I)) (f_X9_price 144 x (zI B I)) := by
  have q1 := X_isWord (x := x) hB hT
  have q2 := Y_isWord (x := x) hB hT
  obtain ⟨x1, x2, x3, x4, x5, -⟩ := hB.hx
  obtain ⟨y1, y2, -, y4, -, -, -, y8, -⟩ := hB.hy'
  rcases Bool.eq_false_or_eq_true (wd x (T 0 1)) with hw | hw
  · rw [hw, ite_t] at q1 q2
    have b1 := hT.1.2.1
    have b2 := hT.1.2.2.1
    have b3 := hT.1.2.2.2.1
    obtain ⟨w, hw1, rfl⟩ := wd_t hw (by omega)
    have hw8 : w < 8 := by omega
    have hr := hN.2.2.1
    have q3 := X_supply hB.2.2.2.2.2.1 hN.1 hr hw8
    have q4 := Y_hOf hB y8 hT hN.2.1 hw8
    rw [hsum_H hN.2.2.2.2.2 b2 hw8] at q3
    have bl := (hr.b (p := 0) (by omega) hw8).2.1
    have hl := hsum_le (r := r) (w := w) hr hw8 (T 0 2) 0 (by omega)
    have v0 := aI_at (B := B) (by omega) (by rw [y4]; omega) (hN.2.1 (13 + w) (by omega))
    have p13 : (13 : Int32) + nI w = nI (13 + w) := nI_add 13 w
    obtain ⟨S, hS⟩ : ∃ S, S = r (13 + w) + hsum r w (T 0 2) 0 := ⟨_, rfl⟩
    have pS : nI (r (13 + w)) + nI (hsum r w (T 0 2) 0) = nI S := by rw [nI_add, hS]
    rw [← hS] at q3
    have hf : ∀ n, n < T 0 3 → T 6 (4 * n + 3) ≤ 99 := fun n hn => (hT.1.2.2.2.2.2.2.2.2.1 n hn).2.2.2
    have h100 : cf (geB (tcB T (dN T r) w) (fun n => T 6 (4 * n + 3)) (99 + 1)) (T 0 3) 0 ≤ S := by
      rw [cf_z (T 0 3) 0 (fun j _ h2 => by
        have := hf j (by omega)
        unfold geB
        rw [decide_eq_false (by simp only []; omega), Bool.and_false])]
      exact Nat.zero_le _
    obtain ⟨o1, a1, a2⟩ := X_pr_lp hB hT hN hw8 (S := S) (by omega) (T 0 3) 0 zN (by omega) (by unfold zN; omega)
    obtain ⟨o2, d1, d2⟩ := Y_pr_lp hB hT hN hw8 (S := S) (by omega) 99 zN (by omega) (by unfold zN; omega) h100
    rw [show nI 0 = (0 : Int32) from rfl] at a1
    rw [show nI 99 = (99 : Int32) from rfl] at d1
    have eX : f_X8_price 1 (nI w) (zI B I) = bs (some o1) some (fun _ => some 0) := by
      simp only [f_X8_price, nb1, x1, x3, x4, cond_true, oR_eq, zac_zI, Option.bind_some, q1, if_neg ne10, q3, a1]
    have eY : f_X9_price 144 (nI w) (zI B I) = bs (some o2) some (fun _ => some 0) := by
      simp only [f_X9_price, nb144, y1, y2, cond_true, oR_eq, zac_zI, Option.bind_some, q2, if_neg ne10, p13, v0, q4, pS, d1]
    rw [eX, eY]
    rcases a2 with ⟨n, n1, n2, n3, rfl⟩ | ⟨rfl, n1⟩
    · have k1 := pr_a n1 n2 n3
      have hfn := hf n n1
      rcases d2 with ⟨v, v1, v2, v3, v4, rfl⟩ | ⟨rfl, v1⟩
      · have e : T 6 (4 * n + 3) = v := by
          by_cases c1 : T 6 (4 * n + 3) < v
          · have := pr_b (v := v) n1 n3 c1
            omega
          · by_cases c2 : v < T 6 (4 * n + 3)
            · have k2 : cf (geB (tcB T (dN T r) w) (fun n => T 6 (4 * n + 3)) (T 6 (4 * n + 3))) (T 0 3) 0 ≤ cf (geB (tcB T (dN T r) w) (fun n => T 6 (4 * n + 3)) (v + 1)) (T 0 3) 0 := cf_le _ _ (fun j _ _ q => by
                unfold geB at q ⊢
                rw [bd_t] at q ⊢
                exact ⟨q.1, by have := q.2; omega⟩)
              have k1 : S < cf (geB (tcB T (dN T r) w) (fun n => T 6 (4 * n + 3)) (T 6 (4 * n + 3))) (T 0 3) 0 := k1
              omega
            · omega
        rw [e]
        exact ⟨_, rfl, rfl⟩
      · have e : T 6 (4 * n + 3) = 0 := by
          by_cases c2 : T 6 (4 * n + 3) = 0
          · exact c2
          · have k2 : cf (geB (tcB T (dN T r) w) (fun n => T 6 (4 * n + 3)) (T 6 (4 * n + 3))) (T 0 3) 0 ≤ cf (geB (tcB T (dN T r) w) (fun n => T 6 (4 * n + 3)) 1) (T 0 3) 0 := cf_le _ _ (fun j _ _ q => by
                unfold geB at q ⊢
                rw [bd_t] at q ⊢
                exact ⟨q.1, by have := q.2; omega⟩)
            have k1 : S < cf (geB (tcB T (dN T r) w) (fun n => T 6 (4 * n + 3)) (T 6 (4 * n + 3))) (T 0 3) 0 := k1
            omega
        rw [e]
        exact ⟨_, rfl, rfl⟩
    · rcases d2 with ⟨v, v1, v2, v3, v4, rfl⟩ | ⟨rfl, v1⟩
      · obtain ⟨n, m1, m2, m3⟩ := pr_c v3 v4
        exact absurd m3 (n1 n (Nat.zero_le _) m1 m2)
      · exact ⟨_, rfl, rfl⟩
  · rw [hw, ite_f] at q1 q2
    refine R_of (v := -1000000001) ?_ ?_
    · simp only [f_X8_price, nb1, x1, cond_true, zac_zI, Option.bind_some, q1, if_pos]
    · simp only [f_X9_price, nb144, y1, cond_true, zac_zI, Option.bind_some, q2, if_pos]
end PRI
