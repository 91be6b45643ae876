/-! cheapest: rounds, the kind, the call -/
def mtB (T : Nat → Nat → Nat) (r : Nat → Nat) (p : Nat) (g : Nat → Nat) (w k : Nat) : Bool := decide (g w ≠ BG ∧ ckB T r p g w k = g w)
def kdI (b0 b1 b2 b3 : Bool) : Int32 := if b0 = true then 0 else if b1 = true then 1 else if b2 = true then 2 else if b3 = true then 3 else -1
section CHC
variable {B : zM} {tw s u c np p v k S a w : Nat} {T : Nat → Nat → Nat} {r g : Nat → Nat} {I : Nat → Nat → Int32} {x y z : Int32}
theorem stp_at (h : a % T 0 1 = v) (hk : k < 4) : stp T r p (4 * a + k) g = up1 g v (ckB T r p g v k) := by
  unfold stp
  rw [show (4 * a + k) / 4 = a by omega, show (4 * a + k) % 4 = k by omega, h]
theorem up1_n {c : Nat} (h : g v ≤ c) : up1 g v c = g := by unfold up1; rw [if_neg (by omega)]
theorem up1_y {c : Nat} (h : c < g v) : up1 g v c = va_up g v c := by unfold up1; rw [if_pos h]
theorem enc_l {x y : Nat} (h : x ≤ BG) (h2 : y ≤ BG) (hx : x ≠ BG) (hy : y ≠ BG) : enc x ≤ enc y ↔ x ≤ y := by
  have := BGe
  rw [enc_n hx, enc_n hy]
  exact nI_leI (by omega) (by omega)
theorem X_50 (hB : GB B tw s u) (hT : TI T) (hr : rI r) (hp : p < 5) (hv : v < T 0 1) (hav : a % T 0 1 = v) : ∀ m k n g I, k + m = 4 → m < n → gOk g → AR 130 g I → XS s r I → XT tw T I → ∃ I', L_X8_workOutCheap_50 n 1 (nI p) x (nI v) (nI k) (zI B I) = some (zI B I') ∧ AR 130 (itr (stp T r p) m (4 * a + k) g) I' ∧ gOk (itr (stp T r p) m (4 * a + k) g) ∧ ∀ i j, i ≠ 130 → I' i j = I i j := by
  have htw := hB.hw
  have hse := hB.hs
  obtain ⟨x1, -⟩ := hB.hx
  obtain ⟨k1, k2, k3, -⟩ := hB.ch
  have hBG := BGe
  have b1 := hT.2.1
  have hW : 0 < T 0 1 := by omega
  intro m
  induction m with
  | zero =>
    intro k n g I hk hn hg ha hS hX
    obtain ⟨n, rfl⟩ := Nat.exists_eq_succ_of_ne_zero (show n ≠ 0 by omega)
    have c1 : (4 : Int32) ≤ nI k := (nI_leI (a := 4) (by omega) (by omega)).mpr (by omega)
    refine ⟨I, ?_, ha, hg, fun _ _ _ => rfl⟩
    simp only [L_X8_workOutCheap_50, if_pos c1]
  | succ m ih =>
    intro k n g I hk hn hg ha hS hX
    obtain ⟨n, rfl⟩ := Nat.exists_eq_succ_of_ne_zero (show n ≠ 0 by omega)
    have c1 : ¬ (4 : Int32) ≤ nI k := fun q => absurd ((nI_leI (a := 4) (by omega) (by omega)).mp q) (by omega)
    have g1 := X_cost hB hT hX hS hr hg ha hp hv (k := k) (by omega)
    have e1 := stp_at (T := T) (r := r) (p := p) (g := g) hav (show k < 4 by omega)
    have hg1 := gOk_stp (r := r) (p := p) (t := 4 * a + k) hT hW hg
    have a1 := aI_at (B := B) (I := I) (by omega) (by rw [k2]; omega) (ha v (by omega))
    have hc := ckB_le (r := r) (p := p) (g := g) (k := k) hT hv
    have hgv := hg.1 v
    have z1 := enc_m hc
    have z2 := enc_m hgv
    simp only [itr]
    rw [e1] at hg1 ⊢
    generalize hcc : ckB T r p g v k = c at *
    have stay : up1 g v c = g → L_X8_workOutCheap_50 (n + 1) 1 (nI p) x (nI v) (nI k) (zI B I) = L_X8_workOutCheap_50 n 1 (nI p) x (nI v) (nI (k + 1)) (zI B I) → ∃ I', L_X8_workOutCheap_50 (n + 1) 1 (nI p) x (nI v) (nI k) (zI B I) = some (zI B I') ∧ AR 130 (itr (stp T r p) m (4 * a + k + 1) (up1 g v c)) I' ∧ gOk (itr (stp T r p) m (4 * a + k + 1) (up1 g v c)) ∧ ∀ i j, i ≠ 130 → I' i j = I i j := by
      intro q1 q2
      obtain ⟨I', d1, d2, d3, d4⟩ := ih (k + 1) n g I (by omega) (by omega) hg ha hS hX
      rw [q1, q2]
      exact ⟨I', d1, d2, d3, d4⟩
    have move : c < g v → L_X8_workOutCheap_50 (n + 1) 1 (nI p) x (nI v) (nI k) (zI B I) = L_X8_workOutCheap_50 n 1 (nI p) x (nI v) (nI (k + 1)) (zI B (cu I 130 v (enc c))) → ∃ I', L_X8_workOutCheap_50 (n + 1) 1 (nI p) x (nI v) (nI k) (zI B I) = some (zI B I') ∧ AR 130 (itr (stp T r p) m (4 * a + k + 1) (up1 g v c)) I' ∧ gOk (itr (stp T r p) m (4 * a + k + 1) (up1 g v c)) ∧ ∀ i j, i ≠ 130 → I' i j = I i j := by
      intro q1 q2
      rw [up1_y q1] at hg1 ⊢
      obtain ⟨I', d1, d2, d3, d4⟩ := ih (k + 1) n (va_up g v c) (cu I 130 v (enc c)) (by omega) (by omega) hg1 ha.set (hS.fp (fun i j h1 h2 => cu_o (by omega))) (hX.fr (a := 130) (b := 130) (fun i hi => cu_F (by omega)) (by omega))
      rw [q2]
      exact ⟨I', d1, d2, d3, fun i j h => by rw [d4 i j h, cu_o (by omega)]⟩
    have s1 : sI (zI B I) 130 (nI v) (enc c) = some (zI B (cu I 130 v (enc c))) := sI_cu (by omega) (by rw [k3]; omega)
    by_cases kc : c = BG
    · refine stay (up1_n (by omega)) ?_
      simp only [L_X8_workOutCheap_50, if_neg c1, x1, cond_true, zac_zI, g1, Option.bind_some, z1, if_pos kc, nI_1]
    · by_cases kg : g v = BG
      · refine move (by omega) ?_
        simp only [L_X8_workOutCheap_50, if_neg c1, x1, k1, cond_true, oR_eq, zac_zI, g1, Option.bind_some, z1, if_neg kc, a1, z2, if_pos kg, s1, nI_1]
      · have z3 := enc_l hgv hc kg kc
        by_cases kl : g v ≤ c
        · refine stay (up1_n kl) ?_
          simp only [L_X8_workOutCheap_50, if_neg c1, x1, k1, cond_true, oR_eq, zac_zI, g1, Option.bind_some, z1, if_neg kc, a1, z2, if_neg kg, z3, if_pos kl, nI_1]
        · refine move (by omega) ?_
          simp only [L_X8_workOutCheap_50, if_neg c1, x1, k1, cond_true, oR_eq, zac_zI, g1, Option.bind_some, z1, if_neg kc, a1, z2, if_neg kg, z3, if_neg kl, s1, nI_1]
theorem Y_81 (hB : GB B tw s u) (hT : TI T) (hr : rI r) (hp : p < 5) (hv : v < T 0 1) (hav : a % T 0 1 = v) : ∀ m k n g I, k + m = 4 → m < n → gOk g → AR 162 g I → YS 145 r I → YT T I → ∃ I', L_X9_cheapest_81 n 144 (nI p) x y z (nI v) (nI k) (zI B I) = some (zI B I') ∧ AR 162 (itr (stp T r p) m (4 * a + k) g) I' ∧ gOk (itr (stp T r p) m (4 * a + k) g) ∧ ∀ i j, i ≠ 162 → I' i j = I i j := by
  obtain ⟨y1, -⟩ := hB.hy'
  obtain ⟨-, -, -, k1, k2, k3, -⟩ := hB.ch
  have hBG := BGe
  have b1 := hT.2.1
  have hW : 0 < T 0 1 := by omega
  intro m
  induction m with
  | zero =>
    intro k n g I hk hn hg ha hS hX
    obtain ⟨n, rfl⟩ := Nat.exists_eq_succ_of_ne_zero (show n ≠ 0 by omega)
    have c1 : (4 : Int32) ≤ nI k := (nI_leI (a := 4) (by omega) (by omega)).mpr (by omega)
    refine ⟨I, ?_, ha, hg, fun _ _ _ => rfl⟩
    simp only [L_X9_cheapest_81, if_pos c1]
  | succ m ih =>
    intro k n g I hk hn hg ha hS hX
    obtain ⟨n, rfl⟩ := Nat.exists_eq_succ_of_ne_zero (show n ≠ 0 by omega)
    have c1 : ¬ (4 : Int32) ≤ nI k := fun q => absurd ((nI_leI (a := 4) (by omega) (by omega)).mp q) (by omega)
    have g1 := Y_cost hB hT hX hS hr hg ha hp hv (k := k) (by omega)
    have e1 := stp_at (T := T) (r := r) (p := p) (g := g) hav (show k < 4 by omega)
    have hg1 := gOk_stp (r := r) (p := p) (t := 4 * a + k) hT hW hg
    have a1 := aI_at (B := B) (I := I) (by omega) (by rw [k2]; omega) (ha v (by omega))
    have hc := ckB_le (r := r) (p := p) (g := g) (k := k) hT hv
    have hgv := hg.1 v
    have z1 := enc_m hc
    have z2 := enc_m hgv
    simp only [itr]
    rw [e1] at hg1 ⊢
    generalize hcc : ckB T r p g v k = c at *
    have go : ∀ e, AR 162 (up1 g v c) (cu I 162 v e) → L_X9_cheapest_81 (n + 1) 144 (nI p) x y z (nI v) (nI k) (zI B I) = L_X9_cheapest_81 n 144 (nI p) x y z (nI v) (nI (k + 1)) (zI B (cu I 162 v e)) → ∃ I', L_X9_cheapest_81 (n + 1) 144 (nI p) x y z (nI v) (nI k) (zI B I) = some (zI B I') ∧ AR 162 (itr (stp T r p) m (4 * a + k + 1) (up1 g v c)) I' ∧ gOk (itr (stp T r p) m (4 * a + k + 1) (up1 g v c)) ∧ ∀ i j, i ≠ 162 → I' i j = I i j := by
      intro e q1 q2
      obtain ⟨I', d1, d2, d3, d4⟩ := ih (k + 1) n (up1 g v c) (cu I 162 v e) (by omega) (by omega) hg1 q1 (fun j hj => by rw [cu_o (by omega)]; exact hS j hj) (hX.same (YTs.fr (a := 162) (b := 162) (fun i hi => cu_F (by omega)) (by omega)))
      rw [q2]
      exact ⟨I', d1, d2, d3, fun i j h => by rw [d4 i j h, cu_o (by omega)]⟩
    have s1 : ∀ e, sI (zI B I) 162 (nI v) e = some (zI B (cu I 162 v e)) := fun e => sI_cu (by omega) (by rw [k3]; omega)
    by_cases kc : c = BG
    · refine go (enc (g v)) (by rw [up1_n (by omega)]; exact ha.same) ?_
      simp only [L_X9_cheapest_81, if_neg c1, y1, k1, cond_true, oR_eq, zac_zI, g1, Option.bind_some, z1, if_pos kc, a1, s1, nI_1]
    · by_cases kg : g v = BG
      · refine go (enc c) (by rw [up1_y (by omega)]; exact ha.set) ?_
        simp only [L_X9_cheapest_81, if_neg c1, y1, k1, cond_true, oR_eq, zac_zI, g1, Option.bind_some, z1, if_neg kc, a1, z2, if_pos kg, s1, nI_1]
      · have z3 := enc_l hgv hc kg kc
        by_cases kl : g v ≤ c
        · refine go (enc (g v)) (by rw [up1_n kl]; exact ha.same) ?_
          simp only [L_X9_cheapest_81, if_neg c1, y1, k1, cond_true, oR_eq, zac_zI, g1, Option.bind_some, z1, if_neg kc, a1, z2, if_neg kg, z3, if_pos kl, s1, nI_1]
        · refine go (enc c) (by rw [up1_y (by omega)]; exact ha.set) ?_
          simp only [L_X9_cheapest_81, if_neg c1, y1, k1, cond_true, oR_eq, zac_zI, g1, Option.bind_some, z1, if_neg kc, a1, z2, if_neg kg, z3, if_neg kl, s1, nI_1]
theorem X_36 (hB : GB B tw s u) (hT : TI T) (hr : rI r) (hp : p < 5) {q : Nat} : ∀ m v n g I, v + m = T 0 1 → m < n → gOk g → AR 130 g I → XS s r I → XT tw T I → ∃ I', L_X8_workOutCheap_36 n 1 (nI p) x (nI v) (zI B I) = some (zI B I') ∧ AR 130 (itr (stp T r p) (4 * m) (4 * (T 0 1 * q + v)) g) I' ∧ gOk (itr (stp T r p) (4 * m) (4 * (T 0 1 * q + v)) g) ∧ ∀ i j, i ≠ 130 → I' i j = I i j := by
  have htw := hB.hw
  have hse := hB.hs
  obtain ⟨x1, x2, -, -, x5, -⟩ := hB.hx
  have b1 := hT.2.1
  intro m
  induction m with
  | zero =>
    intro v n g I hv hn hg ha hS hX
    obtain ⟨n, rfl⟩ := Nat.exists_eq_succ_of_ne_zero (show n ≠ 0 by omega)
    have c1 : nI (T 0 1) ≤ nI v := (nI_leI (by omega) (by omega)).mpr (by omega)
    have e := hX.1.2.1
    refine ⟨I, ?_, ha, hg, fun _ _ _ => rfl⟩
    simp only [L_X8_workOutCheap_36, x1, x2, x5, cond_true, oR_eq, oI_eq, Option.bind_some, e, if_pos c1]
  | succ m ih =>
    intro v n g I hv hn hg ha hS hX
    obtain ⟨n, rfl⟩ := Nat.exists_eq_succ_of_ne_zero (show n ≠ 0 by omega)
    have c1 : ¬ nI (T 0 1) ≤ nI v := fun q => absurd ((nI_leI (by omega) (by omega)).mp q) (by omega)
    have e := hX.1.2.1
    obtain ⟨I1, a1, a2, a3, a4⟩ := X_50 (x := x) (a := T 0 1 * q + v) (v := v) hB hT hr hp (by omega) (by rw [Nat.mul_add_mod, Nat.mod_eq_of_lt (by omega)]) 4 0 zN g I (by omega) (by unfold zN; omega) hg ha hS hX
    rw [show nI 0 = (0 : Int32) from rfl] at a1
    rw [Nat.add_zero] at a2 a3
    obtain ⟨I2, d1, d2, d3, d4⟩ := ih (v + 1) n _ I1 (by omega) (by omega) a3 a2 (hS.fp (fun i j h1 h2 => a4 i j (by omega))) (hX.fr (a := 130) (b := 130) (fun i hi => funext fun j => a4 i j (by omega)) (by omega))
    have ee : itr (stp T r p) (4 * (m + 1)) (4 * (T 0 1 * q + v)) g = itr (stp T r p) (4 * m) (4 * (T 0 1 * q + (v + 1))) (itr (stp T r p) 4 (4 * (T 0 1 * q + v)) g) := by
      rw [show 4 * (m + 1) = 4 + 4 * m by omega, itr_add]
      congr 1
    rw [ee]
    refine ⟨I2, ?_, d2, d3, fun i j h => by rw [d4 i j h, a4 i j h]⟩
    simp only [L_X8_workOutCheap_36, x1, x2, x5, cond_true, oR_eq, oI_eq, Option.bind_some, e, if_neg c1, a1, nI_1, d1]
theorem Y_69 (hB : GB B tw s u) (hT : TI T) (hr : rI r) (hp : p < 5) {q : Nat} : ∀ m v n g I, v + m = T 0 1 → m < n → gOk g → AR 162 g I → YS 145 r I → YT T I → ∃ I', L_X9_cheapest_69 n 144 (nI p) x y z (nI v) (zI B I) = some (zI B I') ∧ AR 162 (itr (stp T r p) (4 * m) (4 * (T 0 1 * q + v)) g) I' ∧ gOk (itr (stp T r p) (4 * m) (4 * (T 0 1 * q + v)) g) ∧ ∀ i j, i ≠ 162 → I' i j = I i j := by
  obtain ⟨y1, -⟩ := hB.hy'
  have b1 := hT.2.1
  intro m
  induction m with
  | zero =>
    intro v n g I hv hn hg ha hS hX
    obtain ⟨n, rfl⟩ := Nat.exists_eq_succ_of_ne_zero (show n ≠ 0 by omega)
    have c1 : nI (T 0 1) ≤ nI v := (nI_leI (by omega) (by omega)).mpr (by omega)
    have e := hX.1.2.1
    refine ⟨I, ?_, ha, hg, fun _ _ _ => rfl⟩
    simp only [L_X9_cheapest_69, y1, cond_true, oI_eq, Option.bind_some, e, if_pos c1]
  | succ m ih =>
    intro v n g I hv hn hg ha hS hX
    obtain ⟨n, rfl⟩ := Nat.exists_eq_succ_of_ne_zero (show n ≠ 0 by omega)
    have c1 : ¬ nI (T 0 1) ≤ nI v := fun q => absurd ((nI_leI (by omega) (by omega)).mp q) (by omega)
    have e := hX.1.2.1
    obtain ⟨I1, a1, a2, a3, a4⟩ := Y_81 (x := x) (y := y) (z := z) (a := T 0 1 * q + v) (v := v) hB hT hr hp (by omega) (by rw [Nat.mul_add_mod, Nat.mod_eq_of_lt (by omega)]) 4 0 zN g I (by omega) (by unfold zN; omega) hg ha hS hX
    rw [show nI 0 = (0 : Int32) from rfl] at a1
    rw [Nat.add_zero] at a2 a3
    obtain ⟨I2, d1, d2, d3, d4⟩ := ih (v + 1) n _ I1 (by omega) (by omega) a3 a2 (fun j hj => by rw [a4 145 j (by omega)]; exact hS j hj) (hX.same (YTs.fr (a := 162) (b := 162) (fun i hi => funext fun j => a4 i j (by omega)) (by omega)))
    have ee : itr (stp T r p) (4 * (m + 1)) (4 * (T 0 1 * q + v)) g = itr (stp T r p) (4 * m) (4 * (T 0 1 * q + (v + 1))) (itr (stp T r p) 4 (4 * (T 0 1 * q + v)) g) := by
      rw [show 4 * (m + 1) = 4 + 4 * m by omega, itr_add]
      congr 1
    rw [ee]
    refine ⟨I2, ?_, d2, d3, fun i j h => by rw [d4 i j h, a4 i j h]⟩
    simp only [L_X9_cheapest_69, y1, cond_true, oI_eq, Option.bind_some, e, if_neg c1, a1, nI_1, d1]
theorem rnd_e (W : Nat) (m q : Nat) : itr (stp T r p) (4 * W * (m + 1)) (4 * (W * q)) g = itr (stp T r p) (4 * W * m) (4 * (W * (q + 1))) (itr (stp T r p) (4 * W) (4 * (W * q)) g) := by
  rw [show 4 * W * (m + 1) = 4 * W + 4 * W * m by rw [Nat.mul_succ, Nat.add_comm], itr_add]
  congr 1
  rw [Nat.mul_succ, Nat.mul_add]
theorem X_23 (hB : GB B tw s u) (hT : TI T) (hr : rI r) (hp : p < 5) : ∀ m q n g I, q + m = T 0 1 → m < n → gOk g → AR 130 g I → XS s r I → XT tw T I → ∃ I', L_X8_workOutCheap_23 n 1 (nI p) (nI q) (zI B I) = some (zI B I') ∧ AR 130 (itr (stp T r p) (4 * T 0 1 * m) (4 * (T 0 1 * q)) g) I' ∧ gOk (itr (stp T r p) (4 * T 0 1 * m) (4 * (T 0 1 * q)) g) ∧ ∀ i j, i ≠ 130 → I' i j = I i j := by
  have htw := hB.hw
  have hse := hB.hs
  obtain ⟨x1, x2, -, -, x5, -⟩ := hB.hx
  have b1 := hT.2.1
  intro m
  induction m with
  | zero =>
    intro q n g I hv hn hg ha hS hX
    obtain ⟨n, rfl⟩ := Nat.exists_eq_succ_of_ne_zero (show n ≠ 0 by omega)
    have c1 : nI (T 0 1) ≤ nI q := (nI_leI (by omega) (by omega)).mpr (by omega)
    have e := hX.1.2.1
    refine ⟨I, ?_, ha, hg, fun _ _ _ => rfl⟩
    simp only [L_X8_workOutCheap_23, x1, x2, x5, cond_true, oR_eq, oI_eq, Option.bind_some, e, if_pos c1]
  | succ m ih =>
    intro q n g I hv hn hg ha hS hX
    obtain ⟨n, rfl⟩ := Nat.exists_eq_succ_of_ne_zero (show n ≠ 0 by omega)
    have c1 : ¬ nI (T 0 1) ≤ nI q := fun q => absurd ((nI_leI (by omega) (by omega)).mp q) (by omega)
    have e := hX.1.2.1
    obtain ⟨I1, a1, a2, a3, a4⟩ := X_36 (x := nI q) (q := q) hB hT hr hp (T 0 1) 0 zN g I (by omega) (by unfold zN; omega) hg ha hS hX
    rw [show nI 0 = (0 : Int32) from rfl] at a1
    rw [Nat.add_zero] at a2 a3
    obtain ⟨I2, d1, d2, d3, d4⟩ := ih (q + 1) n _ I1 (by omega) (by omega) a3 a2 (hS.fp (fun i j h1 h2 => a4 i j (by omega))) (hX.fr (a := 130) (b := 130) (fun i hi => funext fun j => a4 i j (by omega)) (by omega))
    rw [rnd_e]
    refine ⟨I2, ?_, d2, d3, fun i j h => by rw [d4 i j h, a4 i j h]⟩
    simp only [L_X8_workOutCheap_23, x1, x2, x5, cond_true, oR_eq, oI_eq, Option.bind_some, e, if_neg c1, a1, nI_1, d1]
theorem Y_59 (hB : GB B tw s u) (hT : TI T) (hr : rI r) (hp : p < 5) : ∀ m q n g I, q + m = 10 → m < n → gOk g → AR 162 g I → YS 145 r I → YT T I → ∃ I', L_X9_cheapest_59 n 144 (nI p) x y (nI q) (zI B I) = some (zI B I') ∧ AR 162 (itr (stp T r p) (4 * T 0 1 * m) (4 * (T 0 1 * q)) g) I' ∧ gOk (itr (stp T r p) (4 * T 0 1 * m) (4 * (T 0 1 * q)) g) ∧ ∀ i j, i ≠ 162 → I' i j = I i j := by
  have b1 := hT.2.1
  intro m
  induction m with
  | zero =>
    intro q n g I hv hn hg ha hS hX
    obtain ⟨n, rfl⟩ := Nat.exists_eq_succ_of_ne_zero (show n ≠ 0 by omega)
    have c1 : (10 : Int32) ≤ nI q := (nI_leI (a := 10) (by omega) (by omega)).mpr (by omega)
    refine ⟨I, ?_, ha, hg, fun _ _ _ => rfl⟩
    simp only [L_X9_cheapest_59, if_pos c1]
  | succ m ih =>
    intro q n g I hv hn hg ha hS hX
    obtain ⟨n, rfl⟩ := Nat.exists_eq_succ_of_ne_zero (show n ≠ 0 by omega)
    have c1 : ¬ (10 : Int32) ≤ nI q := fun q => absurd ((nI_leI (a := 10) (by omega) (by omega)).mp q) (by omega)
    obtain ⟨I1, a1, a2, a3, a4⟩ := Y_69 (x := x) (y := y) (z := nI q) (q := q) hB hT hr hp (T 0 1) 0 zN g I (by omega) (by unfold zN; omega) hg ha hS hX
    rw [show nI 0 = (0 : Int32) from rfl] at a1
    rw [Nat.add_zero] at a2 a3
    obtain ⟨I2, d1, d2, d3, d4⟩ := ih (q + 1) n _ I1 (by omega) (by omega) a3 a2 (fun j hj => by rw [a4 145 j (by omega)]; exact hS j hj) (hX.same (YTs.fr (a := 162) (b := 162) (fun i hi => funext fun j => a4 i j (by omega)) (by omega)))
    rw [rnd_e]
    refine ⟨I2, ?_, d2, d3, fun i j h => by rw [d4 i j h, a4 i j h]⟩
    simp only [L_X9_cheapest_59, if_neg c1, a1, Option.bind_some, nI_1, d1]
theorem X_2n (hB : GB B tw s u) : ∀ m i n I, i + m = 8 → m < n → (∀ q, q < i → I 130 q = -1) → ∃ I', L_X8_workOutCheap_2 n 1 x (nI i) (zI B I) = some (zI B I') ∧ AR 130 (fun _ => BG) I' ∧ ∀ a q, a ≠ 130 → I' a q = I a q := by
  obtain ⟨x1, -⟩ := hB.hx
  obtain ⟨k1, k2, k3, -⟩ := hB.ch
  intro m
  induction m with
  | zero =>
    intro i n I hi hn h
    obtain ⟨n, rfl⟩ := Nat.exists_eq_succ_of_ne_zero (show n ≠ 0 by omega)
    have c1 : (8 : Int32) ≤ nI i := (nI_leI (a := 8) (by omega) (by omega)).mpr (by omega)
    refine ⟨I, ?_, fun q hq => by rw [h q (by omega), enc_b rfl], fun _ _ _ => rfl⟩
    simp only [L_X8_workOutCheap_2, if_pos c1]
  | succ m ih =>
    intro i n I hi hn h
    obtain ⟨n, rfl⟩ := Nat.exists_eq_succ_of_ne_zero (show n ≠ 0 by omega)
    have c1 : ¬ (8 : Int32) ≤ nI i := fun q => absurd ((nI_leI (a := 8) (by omega) (by omega)).mp q) (by omega)
    have s1 : sI (zI B I) 130 (nI i) (-1) = some (zI B (cu I 130 i (-1))) := sI_cu (by omega) (by rw [k3]; omega)
    obtain ⟨I2, b1, b2, b3⟩ := ih (i + 1) n (cu I 130 i (-1)) (by omega) (by omega) (fun q hq => by
      by_cases e : q = i
      · subst e; rw [cu_s]
      · rw [cu_o (by omega)]; exact h q (by omega))
    refine ⟨I2, ?_, b2, fun a q hn => by rw [b3 a q hn, cu_o (by omega)]⟩
    simp only [L_X8_workOutCheap_2, if_neg c1, x1, k1, cond_true, oR_eq, Option.bind_some, s1, nI_1, b1]
theorem Y_35n (hB : GB B tw s u) : ∀ m i n I, i + m = 8 → m < n → (∀ q, q < i → I 162 q = -1) → ∃ I', L_X9_cheapest_35 n 144 x y z (nI i) (zI B I) = some (zI B I') ∧ AR 162 (fun _ => BG) I' ∧ ∀ a q, a ≠ 162 → I' a q = I a q := by
  obtain ⟨y1, -⟩ := hB.hy'
  obtain ⟨-, -, -, k1, k2, k3, -⟩ := hB.ch
  intro m
  induction m with
  | zero =>
    intro i n I hi hn h
    obtain ⟨n, rfl⟩ := Nat.exists_eq_succ_of_ne_zero (show n ≠ 0 by omega)
    have c1 : (8 : Int32) ≤ nI i := (nI_leI (a := 8) (by omega) (by omega)).mpr (by omega)
    refine ⟨I, ?_, fun q hq => by rw [h q (by omega), enc_b rfl], fun _ _ _ => rfl⟩
    simp only [L_X9_cheapest_35, if_pos c1]
  | succ m ih =>
    intro i n I hi hn h
    obtain ⟨n, rfl⟩ := Nat.exists_eq_succ_of_ne_zero (show n ≠ 0 by omega)
    have c1 : ¬ (8 : Int32) ≤ nI i := fun q => absurd ((nI_leI (a := 8) (by omega) (by omega)).mp q) (by omega)
    have s1 : sI (zI B I) 162 (nI i) (-1) = some (zI B (cu I 162 i (-1))) := sI_cu (by omega) (by rw [k3]; omega)
    obtain ⟨I2, b1, b2, b3⟩ := ih (i + 1) n (cu I 162 i (-1)) (by omega) (by omega) (fun q hq => by
      by_cases e : q = i
      · subst e; rw [cu_s]
      · rw [cu_o (by omega)]; exact h q (by omega))
    refine ⟨I2, ?_, b2, fun a q hn => by rw [b3 a q hn, cu_o (by omega)]⟩
    simp only [L_X9_cheapest_35, if_neg c1, y1, k1, cond_true, oR_eq, Option.bind_some, s1, nI_1, b1]
theorem X_kd1 (hB : GB B tw s u) (hT : TI T) (hX : XT tw T I) (h : XS s r I) (hr : rI r) (hg : gOk g) (ha : AR 130 g I) (hp : p < 5) (hw : w < T 0 1) (hk : k < 4) {n : Nat} : L_X8_cheapestKind_2 (n + 1) 1 (nI p) (nI w) (nI k) (zI B I) = if mtB T r p g w k = true then some (.inl (nI k)) else L_X8_cheapestKind_2 n 1 (nI p) (nI w) (nI (k + 1)) (zI B I) := by
  obtain ⟨x1, -⟩ := hB.hx
  obtain ⟨k1, k2, k3, -⟩ := hB.ch
  have b1 := hT.2.1
  have c1 : ¬ (4 : Int32) ≤ nI k := fun q => absurd ((nI_leI (a := 4) (by omega) (by omega)).mp q) (by omega)
  have g1 := X_cost hB hT hX h hr hg ha hp hw hk
  have a1 := aI_at (B := B) (I := I) (by omega) (by rw [k2]; omega) (ha w (by omega))
  have hc := ckB_le (r := r) (p := p) (g := g) (k := k) hT hw
  have z1 := enc_m (hg.1 w)
  have z2 := enc_e hc (hg.1 w)
  simp only [L_X8_cheapestKind_2, if_neg c1, x1, k1, cond_true, oR_eq, zac_zI, Option.bind_some, a1, z1, g1, z2, nI_1]
  by_cases q1 : g w = BG
  · rw [if_pos q1, if_neg (by simp [mtB, q1])]
  · rw [if_neg q1]
    by_cases q2 : ckB T r p g w k = g w
    · rw [if_pos q2, if_pos (show mtB T r p g w k = true from decide_eq_true ⟨q1, q2⟩)]
    · rw [if_neg q2, if_neg (by simp [mtB, q2])]
theorem X_kd (hB : GB B tw s u) (hT : TI T) (hX : XT tw T I) (h : XS s r I) (hr : rI r) (hg : gOk g) (ha : AR 130 g I) (hp : p < 5) (hw : w < T 0 1) : f_X8_cheapestKind 1 (nI p) (nI w) (zI B I) = some (kdI (mtB T r p g w 0) (mtB T r p g w 1) (mtB T r p g w 2) (mtB T r p g w 3)) := by
  obtain ⟨z, hz⟩ : ∃ z, zN = z + 1 + 1 + 1 + 1 + 1 := ⟨1099511627771, by decide⟩
  have e4 : L_X8_cheapestKind_2 (z + 1) 1 (nI p) (nI w) (nI 4) (zI B I) = some (.inr ()) := by
    simp only [L_X8_cheapestKind_2]
    rw [if_pos (by decide)]
  have t0 := X_kd1 hB hT hX h hr hg ha hp hw (k := 0) (by omega) (n := z + 1 + 1 + 1 + 1)
  have t1 := X_kd1 hB hT hX h hr hg ha hp hw (k := 1) (by omega) (n := z + 1 + 1 + 1)
  have t2 := X_kd1 hB hT hX h hr hg ha hp hw (k := 2) (by omega) (n := z + 1 + 1)
  have t3 := X_kd1 hB hT hX h hr hg ha hp hw (k := 3) (by omega) (n := z + 1)
  unfold f_X8_cheapestKind
  rw [nb1, cond_true, hz, show (0 : Int32) = nI 0 from rfl, t0, t1, t2, t3, e4]
  unfold kdI
  cases mtB T r p g w 0
  · cases mtB T r p g w 1
    · cases mtB T r p g w 2
      · cases mtB T r p g w 3 <;> rfl
      · rfl
    · rfl
  · rfl
theorem Y_kd1 (hB : GB B tw s u) (hT : TI T) (hX : YT T I) (h : YS 145 r I) (hr : rI r) (hg : gOk g) (ha : AR 162 g I) (hp : p < 5) (hw : w < T 0 1) (hk : k < 4) {n : Nat} {y : Int32} : L_X9_cheapest_170 (n + 1) 144 (nI p) (nI w) x y (nI k) (zI B I) = if mtB T r p g w k = true then L_X9_cheapest_170 n 144 (nI p) (nI w) x (nI k) (nI k + (-1)) (zI B I) else L_X9_cheapest_170 n 144 (nI p) (nI w) x y (nI k + (-1)) (zI B I) := by
  obtain ⟨y1, -⟩ := hB.hy'
  obtain ⟨-, -, -, k1, k2, k3, -⟩ := hB.ch
  have b1 := hT.2.1
  have c1 : ¬ nI k < 0 := nI_pos (by omega)
  have g1 := Y_cost hB hT hX h hr hg ha hp hw hk
  have a1 := aI_at (B := B) (I := I) (by omega) (by rw [k2]; omega) (ha w (by omega))
  have hc := ckB_le (r := r) (p := p) (g := g) (k := k) hT hw
  have z1 := enc_m (hg.1 w)
  have z2 := enc_e hc (hg.1 w)
  simp only [L_X9_cheapest_170, if_neg c1, y1, k1, cond_true, oR_eq, zac_zI, Option.bind_some, a1, z1, g1, z2]
  by_cases q1 : g w = BG
  · rw [if_pos q1, if_neg (by simp [mtB, q1])]
  · rw [if_neg q1]
    by_cases q2 : ckB T r p g w k = g w
    · rw [if_pos q2, if_pos (show mtB T r p g w k = true from decide_eq_true ⟨q1, q2⟩)]
    · rw [if_neg q2, if_neg (by simp [mtB, q2])]
theorem Y_kd (hB : GB B tw s u) (hT : TI T) (hX : YT T I) (h : YS 145 r I) (hr : rI r) (hg : gOk g) (ha : AR 162 g I) (hp : p < 5) (hw : w < T 0 1) : L_X9_cheapest_170 zN 144 (nI p) (nI w) x (-1) 3 (zI B I) = some (kdI (mtB T r p g w 0) (mtB T r p g w 1) (mtB T r p g w 2) (mtB T r p g w 3)) := by
  obtain ⟨z, hz⟩ : ∃ z, zN = z + 1 + 1 + 1 + 1 + 1 := ⟨1099511627771, by decide⟩
  have e4 : ∀ y, L_X9_cheapest_170 (z + 1) 144 (nI p) (nI w) x y (nI 0 + (-1)) (zI B I) = some y := by
    intro y
    simp only [L_X9_cheapest_170]
    rw [if_pos (by decide)]
  have t3 := fun y => Y_kd1 (x := x) hB hT hX h hr hg ha hp hw (k := 3) (by omega) (n := z + 1 + 1 + 1 + 1) (y := y)
  have t2 := fun y => Y_kd1 (x := x) hB hT hX h hr hg ha hp hw (k := 2) (by omega) (n := z + 1 + 1 + 1) (y := y)
  have t1 := fun y => Y_kd1 (x := x) hB hT hX h hr hg ha hp hw (k := 1) (by omega) (n := z + 1 + 1) (y := y)
  have t0 := fun y => Y_kd1 (x := x) hB hT hX h hr hg ha hp hw (k := 0) (by omega) (n := z + 1) (y := y)
  have p3 : nI 3 + (-1) = nI 2 := rfl
  have p2 : nI 2 + (-1) = nI 1 := rfl
  have p1 : nI 1 + (-1) = nI 0 := rfl
  rw [p3] at t3
  rw [p2] at t2
  rw [p1] at t1
  rw [hz, show (3 : Int32) = nI 3 from rfl, t3]
  simp only [t2, t1, t0, e4]
  unfold kdI
  cases mtB T r p g w 0 <;> cases mtB T r p g w 1 <;> cases mtB T r p g w 2 <;> cases mtB T r p g w 3 <;> rfl
theorem w_cheapest (h : CR B I c) : W2 B I c (f_X8_cheapest 1 x y z (zI B I)) (f_X9_cheapest 144 x y z) := by
  have h' := h
  obtain ⟨tw, s, u, T, r, pa, pn, P, kf, K, tl, X, kn, kw, kd, kb, en, ew, el, sd, hB, hT, hN, hP, hI, hX, hK, hBk, hS⟩ := h
  have q1 := X_isPerson (x := x) hB hT
  have q2 := fun {J} (hJ : gT tw T J) => Y_isPerson (x := x) hB hJ
  have q3 := X_isWord (x := y) hB hT
  have q4 := fun {J} (hJ : gT tw T J) => Y_isWord (x := y) hB hJ
  have q5 := fun M => Y_btw (x := z) (a := 0) (b := 1) (M := M) (y := 0) (z := 1) rfl rfl (by omega) (by omega)
  have b1 := hT.1.2.1
  have b2 := hT.1.2.2.1
  have hse := hB.hs
  have htw := hB.hw
  obtain ⟨x1, x2, x3, x4, x5, -⟩ := hB.hx
  obtain ⟨y1, -⟩ := hB.hy'
  obtain ⟨k1, k2, k3, k4, k5, k6, -⟩ := hB.ch
  rcases Bool.eq_false_or_eq_true (wd x (T 0 2)) with hw | hw
  · rw [hw, ite_t] at q1
    simp only [hw, if_true] at q2
    obtain ⟨p, hp1, rfl⟩ := wd_t hw (by omega)
    rcases Bool.eq_false_or_eq_true (wd y (T 0 1)) with hw' | hw'
    · rw [hw', ite_t] at q3
      simp only [hw', if_true] at q4
      obtain ⟨w, hw1, rfl⟩ := wd_t hw' (by omega)
      have hp5 : p < 5 := by omega
      have hr := hN.2.2.1
      rcases Bool.eq_false_or_eq_true (btw z 0 1) with hb | hb
      · rw [hb, ite_t] at q5
        obtain ⟨v, -, hv, rfl⟩ := btw_t hb (by omega)
        have c1 : ¬ nI v < 0 := nI_pos (by omega)
        have c2 : nI v ≤ 1 := (nI_leI (b := 1) (by omega) (by omega)).mpr hv
        have z0 := nI_z (v := v) (by omega)
        obtain ⟨J, a1, a2, a3⟩ := X_2n (x := nI p) hB 8 0 zN I (by omega) (by unfold zN; omega) (fun q hq => absurd hq (by omega))
        obtain ⟨I1, d1, d2, d3, d4⟩ := X_23 hB hT.1 hr hp5 (T 0 1) 0 zN _ J (by omega) (by unfold zN; omega) gOk_0 a2 (hN.1.fp (fun i j h1 h2 => a3 i j (by omega))) (hT.2.2.1.fr (a := 130) (b := 130) (fun i hi => funext fun j => a3 i j (by omega)) (by omega))
        have o1 : ∀ i j, i ≠ 130 → I1 i j = I i j := fun i j q => by rw [d4 i j q, a3 i j q]
        have s1 : ∀ i j, ¬ scr i j → I1 i j = I i j := fun i j q => o1 i j (by unfold scr at q; omega)
        obtain ⟨f1, f2, -⟩ := F_scr htw hse s1
        obtain ⟨J2, e1, e2, e3⟩ := Y_35n (x := nI p) (y := nI w) (z := nI v) hB 8 0 zN I1 (by omega) (by unfold zN; omega) (fun q hq => absurd hq (by omega))
        obtain ⟨I2, g1, g2, g3, g4⟩ := Y_59 (x := nI w) (y := nI v) hB hT.1 hr hp5 10 0 zN _ J2 (by omega) (by unfold zN; omega) gOk_0 e2 (fun j hj => by rw [e3 145 j (by omega)]; exact (hN.fr f2).2.1 j hj) ((hT.fr f1).2.2.2.same (YTs.fr (a := 162) (b := 162) (fun i hi => funext fun j => e3 i j (by omega)) (by omega)))
        have o2 : ∀ i j, i ≠ 162 → I2 i j = I1 i j := fun i j q => by rw [g4 i j q, e3 i j q]
        have s2 : ∀ i j, ¬ scr i j → I2 i j = I1 i j := fun i j q => o2 i j (by unfold scr at q; omega)
        rw [show nI 0 = (0 : Int32) from rfl] at a1 d1 e1 g1
        rw [Nat.mul_zero, Nat.mul_zero] at d2 d3 g2 g3
        have hfx : itr (stp T r p) (4 * T 0 1 * 10) 0 (fun _ => BG) = itr (stp T r p) (4 * T 0 1 * T 0 1) 0 (fun _ => BG) := by
          have := sta_fixs (T := T) (r := r) (p := p) (t := 4 * T 0 1 * T 0 1) (by omega) (by rw [Nat.mul_comm]; exact Nat.le_refl _) (4 * T 0 1 * (10 - T 0 1))
          rw [← Nat.mul_add, Nat.add_sub_cancel' (by omega)] at this
          exact this
        rw [hfx] at g2 g3
        obtain ⟨g, hg⟩ : ∃ g, g = itr (stp T r p) (4 * T 0 1 * T 0 1) 0 (fun _ => BG) := ⟨_, rfl⟩
        rw [← hg] at d2 d3 g2 g3
        have hX1 := (hT.fr f1).2.2.1
        have hS1 := (hN.fr f2).1
        have hY2 : YT T I2 := (hT.fr f1).2.2.2.same (YTs.fr (a := 162) (b := 162) (fun i hi => funext fun j => o2 i j (by omega)) (by omega))
        have hZ2 : YS 145 r I2 := fun j hj => by rw [o2 145 j (by omega)]; exact (hN.fr f2).2.1 j hj
        have m1 := X_kd hB hT.1 hX1 hS1 hr d3 d2 hp5 hw1
        have m2 := Y_kd (x := nI v) hB hT.1 hY2 hZ2 hr d3 g2 hp5 hw1
        have n1 := aI_at (B := B) (I := I1) (by omega) (by rw [k2]; omega) (d2 w (by omega))
        have n2 := aI_at (B := B) (I := I2) (by omega) (by rw [k5]; omega) (g2 w (by omega))
        have q2' := q2 (hT.fr f1)
        have q4' := q4 (hT.fr f1)
        have w1 : f_X8_workOutCheap 1 (nI p) (zI B I) = some (zI B I1) := by
          simp only [f_X8_workOutCheap, nb1, cond_true, a1, d1, Option.bind_some]
        by_cases hz : v = 0
        · refine W_scr (v := enc (g w)) (I1 := I1) (I2 := I2) h' ?_ ?_ s1 s2
          · simp only [f_X8_cheapest, nb1, x1, k1, cond_true, oR_eq, zac_zI, Option.bind_some, q1, q3, if_neg ne10, if_neg c1, if_pos c2, w1, z0, if_pos hz, n1]
          · simp only [f_X9_cheapest, nb144, y1, k4, cond_true, oR_eq, zac_zI, Option.bind_some, q2', q4', q5, if_neg ne10, e1, g1, m2, z0, if_pos hz, n2]
        · refine W_scr (v := kdI (mtB T r p g w 0) (mtB T r p g w 1) (mtB T r p g w 2) (mtB T r p g w 3)) (I1 := I1) (I2 := I2) h' ?_ ?_ s1 s2
          · simp only [f_X8_cheapest, nb1, x1, k1, cond_true, oR_eq, zac_zI, Option.bind_some, q1, q3, if_neg ne10, if_neg c1, if_pos c2, w1, z0, if_neg hz, m1]
          · simp only [f_X9_cheapest, nb144, y1, k4, cond_true, oR_eq, zac_zI, Option.bind_some, q2', q4', q5, if_neg ne10, e1, g1, m2, z0, if_neg hz]
      · rw [hb, ite_f] at q5
        have q2' := q2 hT
        have q4' := q4 hT
        have hbn := btw_n hb (by omega) (by omega)
        refine W_no h' (v := -1000000002) ?_ ?_
        · rcases hbn with h1 | ⟨h1, h2, -⟩
          · have h1 : z < 0 := h1
            simp only [f_X8_cheapest, nb1, x1, cond_true, zac_zI, Option.bind_some, q1, q3, if_neg ne10, if_pos h1]
          · have h1 : ¬ z < 0 := h1
            have h2 : ¬ z ≤ 1 := h2
            simp only [f_X8_cheapest, nb1, x1, cond_true, zac_zI, Option.bind_some, q1, q3, if_neg ne10, if_neg h1, if_neg h2]
        · simp only [f_X9_cheapest, nb144, y1, cond_true, zac_zI, Option.bind_some, q2', q4', if_neg ne10, q5, if_pos]
    · rw [hw', ite_f] at q3
      simp only [hw', Bool.false_eq_true, if_false] at q4
      have q2' := q2 hT
      have q4' := q4 hT
      refine W_no h' (v := -1000000001) ?_ ?_
      · simp only [f_X8_cheapest, nb1, x1, cond_true, zac_zI, Option.bind_some, q1, q3, if_neg ne10, if_pos]
      · simp only [f_X9_cheapest, nb144, y1, cond_true, zac_zI, Option.bind_some, q2', q4', if_neg ne10, if_pos]
  · rw [hw, ite_f] at q1
    simp only [hw, Bool.false_eq_true, if_false] at q2
    have q2' := q2 hT
    refine W_no h' (v := -1000000001) ?_ ?_
    · simp only [f_X8_cheapest, nb1, x1, cond_true, zac_zI, Option.bind_some, q1, if_pos]
    · simp only [f_X9_cheapest, nb144, y1, cond_true, zac_zI, Option.bind_some, q2', if_pos]
end CHC
