/-! plan: what is to come, gathered by the class -/
def cmB (T : Nat → Nat → Nat) (d n : Nat) : Bool := decide (d ≤ T 6 (4 * n + 2))
def qn (T : Nat → Nat → Nat) (d i : Nat) : Nat := cf (cmB T d) i 0
def lsP (T : Nat → Nat → Nat) (d : Nat) : Nat → Nat → Nat
  | 0 => fun _ => 0
  | i + 1 => if cmB T d i = true then va_up (lsP T d i) (qn T d i) i else lsP T d i
theorem qn_t {T : Nat → Nat → Nat} {d i : Nat} (h : cmB T d i = true) : qn T d (i + 1) = qn T d i + 1 := by unfold qn; rw [cf_1, b01_t h]
theorem qn_f {T : Nat → Nat → Nat} {d i : Nat} (h : cmB T d i = false) : qn T d (i + 1) = qn T d i := by unfold qn; rw [cf_1, b01_f h]; rfl
theorem qn_mono {T : Nat → Nat → Nat} {d i j : Nat} (h : i ≤ j) : qn T d i ≤ qn T d j := by
  have := cf_add (cmB T d) i (j - i) 0
  rw [Nat.add_sub_cancel' h] at this
  unfold qn
  omega
theorem qn_lt {T : Nat → Nat → Nat} {d i j : Nat} (h : i < j) (hc : cmB T d i = true) : qn T d i < qn T d j := by
  have h1 := qn_t hc
  have h2 := qn_mono (T := T) (d := d) (show i + 1 ≤ j from h)
  omega
theorem qn_le {T : Nat → Nat → Nat} {d i : Nat} : qn T d i ≤ i := cf_lem i 0
theorem lsP_at {T : Nat → Nat → Nat} {d n : Nat} (hc : cmB T d n = true) : ∀ i, n < i → lsP T d i (qn T d n) = n := by
  intro i
  induction i with
  | zero => intro h; exact absurd h (Nat.not_lt_zero _)
  | succ i ih =>
    intro h
    by_cases e : n = i
    · subst e
      rw [lsP, if_pos hc, va_up, if_pos rfl]
    · rw [lsP]
      split
      · have := qn_lt (T := T) (d := d) (show n < i by omega) hc
        rw [va_up, if_neg (by omega)]
        exact ih (by omega)
      · exact ih (by omega)
theorem lsP_of {T : Nat → Nat → Nat} {d j m : Nat} (h : j < qn T d m) : lsP T d m j < m ∧ cmB T d (lsP T d m j) = true ∧ qn T d (lsP T d m j) = j := by
  obtain ⟨n, h1, h2, h3⟩ := cf_iv m h
  have h4 := lsP_at (T := T) (d := d) h2 m h1
  have h3 : qn T d n = j := h3
  rw [h3] at h4
  rw [h4]
  exact ⟨h1, h2, h3⟩
theorem one_sh : ∀ w, w < 8 → (1 : Int32) <<< (nI w &&& 31) = nI (2 ^ w) := by decide +kernel
section PLG
variable {B : zM} {tw s u c np N w q d : Nat} {T : Nat → Nat → Nat} {r : Nat → Nat} {I : Nat → Nat → Int32}
def gfP (a : Nat) : Prop := 115 ≤ a ∧ a ≤ 122
theorem X_gu (hB : GB B tw s u) (hT : TI T) (hX : XT tw T I) (hw : w < 8) (hq : q < 8) (e7 : I 115 7 = nI q) : ∃ I', f_X4_gatherUses 115 tw (nI w) (zI B I) = some (zI B I') ∧ (∀ b, b < 5 → I' 119 (5 * q + b) = eU T w b) ∧ ∀ a j, ¬ (a = 119 ∧ 5 * q ≤ j ∧ j < 5 * q + 5) → I' a j = I a j := by
  have htw := hB.hw
  obtain ⟨-, -, -, -, x5, -⟩ := hB.hx
  obtain ⟨-, k2, -, -, -, k6, -, -, -, -, -, -, -, -, -, p3, p4, -⟩ := hB.pl
  have t9 := hB.tl.2.2.2.2.2.2.2.2
  obtain ⟨J1, hJ1⟩ : ∃ J, J = cu I 119 (5 * q + 0) (nI 0) := ⟨_, rfl⟩
  obtain ⟨J2, hJ2⟩ : ∃ J, J = cu J1 119 (5 * q + 1) (nI (2 ^ w)) := ⟨_, rfl⟩
  obtain ⟨J3, hJ3⟩ : ∃ J, J = cu J2 119 (5 * q + 2) (eU T w 2) := ⟨_, rfl⟩
  obtain ⟨J4, hJ4⟩ : ∃ J, J = cu J3 119 (5 * q + 3) (eU T w 3) := ⟨_, rfl⟩
  obtain ⟨J5, hJ5⟩ : ∃ J, J = cu J4 119 (5 * q + 4) (eU T w 4) := ⟨_, rfl⟩
  have s1 : sI (zI B I) 119 (nI (5 * q + 0)) (nI 0) = some (zI B J1) := by rw [sI_cu (by omega) (by rw [p4]; omega), hJ1]
  have s2 : sI (zI B J1) 119 (nI (5 * q + 1)) (nI (2 ^ w)) = some (zI B J2) := by rw [sI_cu (by omega) (by rw [p4]; omega), hJ2]
  have s3 : sI (zI B J2) 119 (nI (5 * q + 2)) (eU T w 2) = some (zI B J3) := by rw [sI_cu (by omega) (by rw [p4]; omega), hJ3]
  have s4 : sI (zI B J3) 119 (nI (5 * q + 3)) (eU T w 3) = some (zI B J4) := by rw [sI_cu (by omega) (by rw [p4]; omega), hJ4]
  have s5 : sI (zI B J4) 119 (nI (5 * q + 4)) (eU T w 4) = some (zI B J5) := by rw [sI_cu (by omega) (by rw [p4]; omega), hJ5]
  have q0 : nI q * 5 + 0 = nI (5 * q + 0) := by rw [nl5, nl0, pk_mul, nI_add, Nat.mul_comm]
  have q1 : nI q * 5 + 1 = nI (5 * q + 1) := by rw [nl5, nl1, pk_mul, nI_add, Nat.mul_comm]
  have q2 : nI q * 5 + 2 + nI 0 = nI (5 * q + 2) := by rw [nl5, nl2, pk_mul, nI_add, nI_add, Nat.mul_comm]
  have q3 : nI q * 5 + 2 + nI 1 = nI (5 * q + 3) := by rw [nl5, nl2, pk_mul, nI_add, nI_add, Nat.mul_comm]
  have q4 : nI q * 5 + 4 = nI (5 * q + 4) := by rw [nl5, nl4, pk_mul, nI_add, Nat.mul_comm]
  have fX : ∀ J : Nat → Nat → Int32, (∀ a, a ≠ 119 → J a = I a) → XT tw T J := fun J h => hX.fr (a := 119) (b := 119) (fun i hi => h i (by omega)) (by omega)
  have o1 : ∀ a, a ≠ 119 → J1 a = I a := fun a h => by rw [hJ1, cu_F h]
  have o2 : ∀ a, a ≠ 119 → J2 a = I a := fun a h => by rw [hJ2, cu_F h, o1 a h]
  have o3 : ∀ a, a ≠ 119 → J3 a = I a := fun a h => by rw [hJ3, cu_F h, o2 a h]
  have o4 : ∀ a, a ≠ 119 → J4 a = I a := fun a h => by rw [hJ4, cu_F h, o3 a h]
  have w0 := X_wayRound (k := 0) hB.2.2.1 (fX J2 o2) hw (by omega)
  have w1 := X_wayRound (k := 1) hB.2.2.1 (fX J3 o3) hw (by omega)
  have w2 := X_canPoint hB.2.2.1 (fX J4 o4) hT hw
  have bw0 := hT.2.2.2.2.2.2.2.1 (2 * w) (by omega)
  have bw1 := hT.2.2.2.2.2.2.2.1 (2 * w + 1) (by omega)
  have b4 := hT.2.2.2.2.2.1 w
  have z0 := nI_z (v := T 3 (2 * w)) (by omega)
  have z1 := nI_z (v := T 3 (2 * w + 1)) (by omega)
  have z4 := nI_z (v := T 4 w) (by omega)
  have l2 : ∀ n, L_X4_gatherUses_30 (n + 1) 115 tw (nI w) (nI q * 5) (nI 2) (zI B J4) = some (zI B J4) := fun n => by
    simp only [L_X4_gatherUses_30]
    rw [if_pos (by decide)]
  have ok2 : okP T w 2 = decide (T 3 (2 * w) ≠ 0) := rfl
  have ok3 : okP T w 3 = decide (T 3 (2 * w + 1) ≠ 0) := rfl
  have ok4 : okP T w 4 = decide (T 4 w ≠ 0) := rfl
  have l1 : ∀ n, L_X4_gatherUses_30 (n + 1 + 1) 115 tw (nI w) (nI q * 5) (nI 1) (zI B J3) = some (zI B J4) := fun n => by
    rw [L_X4_gatherUses_30, if_neg (show ¬ (2 : Int32) ≤ nI 1 by decide)]
    simp only [zac_zI, x5, k2, k6, cond_true, oR_eq, Option.bind_some, w1, z1, q3]
    by_cases h : T 3 (2 * w + 1) = 0
    · rw [if_pos h]
      rw [eU_f (by rw [ok3]; exact decide_eq_false (fun q => q h))] at s4
      rw [s4, Option.bind_some, show nI 1 + 1 = nI 2 from rfl, l2]
    · rw [if_neg h]
      rw [eU_t (by rw [ok3]; exact decide_eq_true h)] at s4
      have s4 : sI (zI B J3) 119 (nI (5 * q + 3)) (nI (T 3 (2 * w + 1))) = some (zI B J4) := s4
      rw [s4, Option.bind_some, show nI 1 + 1 = nI 2 from rfl, l2]
  have l0 : ∀ n, L_X4_gatherUses_30 (n + 1 + 1 + 1) 115 tw (nI w) (nI q * 5) (nI 0) (zI B J2) = some (zI B J4) := fun n => by
    rw [L_X4_gatherUses_30, if_neg (show ¬ (2 : Int32) ≤ nI 0 by decide)]
    simp only [zac_zI, x5, k2, k6, cond_true, oR_eq, Option.bind_some, w0, Nat.add_zero, z0, q2]
    by_cases h : T 3 (2 * w) = 0
    · rw [if_pos h]
      rw [eU_f (by rw [ok2]; exact decide_eq_false (fun q => q h))] at s3
      rw [s3, Option.bind_some, show nI 0 + 1 = nI 1 from rfl, l1]
    · rw [if_neg h]
      rw [eU_t (by rw [ok2]; exact decide_eq_true h)] at s3
      have s3 : sI (zI B J2) 119 (nI (5 * q + 2)) (nI (T 3 (2 * w))) = some (zI B J3) := s3
      rw [s3, Option.bind_some, show nI 0 + 1 = nI 1 from rfl, l1]
  obtain ⟨z, hz⟩ : ∃ z, zN = z + 1 + 1 + 1 := ⟨1099511627773, by decide⟩
  have ll := l0 z
  rw [← hz, show nI 0 = (0 : Int32) from rfl] at ll
  have sh := one_sh w hw
  have s1' : sI (zI B I) 119 (nI (5 * q + 0)) 0 = some (zI B J1) := s1
  have e72 : J1 115 7 = nI q := by rw [o1 115 (by omega), e7]
  refine ⟨J5, ?_, fun b hb => ?_, fun a j hn => ?_⟩
  · simp only [f_X4_gatherUses, show Nat.ble 1 115 = true from rfl, t9, k2, k6, x5, cond_true, oR_eq, oI_eq, zac_zI, Option.bind_some, e7, q0, s1', q1, sh, s2, ll, w2, z4, q4]
    by_cases h : T 4 w = 0
    · rw [if_pos h]
      rw [eU_f (by rw [ok4]; exact decide_eq_false (fun q => q h))] at s5
      rw [s5, Option.bind_some]
    · rw [if_neg h]
      rw [eU_t (by rw [ok4]; exact decide_eq_true h)] at s5
      have s5 : sI (zI B J4) 119 (nI (5 * q + 4)) 0 = some (zI B J5) := s5
      rw [s5, Option.bind_some]
  · have : b = 0 ∨ b = 1 ∨ b = 2 ∨ b = 3 ∨ b = 4 := by omega
    rcases this with rfl | rfl | rfl | rfl | rfl
    · rw [hJ5, cu_o (by omega), hJ4, cu_o (by omega), hJ3, cu_o (by omega), hJ2, cu_o (by omega), hJ1, cu_s]; rfl
    · rw [hJ5, cu_o (by omega), hJ4, cu_o (by omega), hJ3, cu_o (by omega), hJ2, cu_s]; rfl
    · rw [hJ5, cu_o (by omega), hJ4, cu_o (by omega), hJ3, cu_s]
    · rw [hJ5, cu_o (by omega), hJ4, cu_s]
    · rw [hJ5, cu_s]
  · rw [hJ5, cu_o (by omega), hJ4, cu_o (by omega), hJ3, cu_o (by omega), hJ2, cu_o (by omega), hJ1, cu_o (by omega)]
theorem X_g2 (hB : GB B tw s u) (hr : rI r) : ∀ m i n I, i + m = 8 → m < n → XS s r I → (∀ v, v < i → I 116 v = nI (r (13 + v) + hsum r v 5 0)) → ∃ I', L_X4_gather_2 n 115 tw s (nI i) (zI B I) = some (zI B I') ∧ (∀ v, v < 8 → I' 116 v = nI (r (13 + v) + hsum r v 5 0)) ∧ ∀ a j, a ≠ 116 → I' a j = I a j := by
  have hse := hB.hs
  obtain ⟨-, -, -, x4, -⟩ := hB.hx
  obtain ⟨-, k2, k3, -, -, -, -, -, -, k10, k11, -⟩ := hB.pl
  intro m
  induction m with
  | zero =>
    intro i n I hi hn h hI
    obtain ⟨n, rfl⟩ := Nat.exists_eq_succ_of_ne_zero (show n ≠ 0 by omega)
    have c1 : (8 : Int32) ≤ nI i := (nI_leI (a := 8) (by omega) (by omega)).mpr (by omega)
    refine ⟨I, ?_, fun v hv => hI v (by omega), fun _ _ _ => rfl⟩
    simp only [L_X4_gather_2, if_pos c1]
  | succ m ih =>
    intro i n I hi hn h hI
    obtain ⟨n, rfl⟩ := Nat.exists_eq_succ_of_ne_zero (show n ≠ 0 by omega)
    have c1 : ¬ (8 : Int32) ≤ nI i := fun q => absurd ((nI_leI (a := 8) (by omega) (by omega)).mp q) (by omega)
    have g := X_supply hB.2.2.2.2.2.1 h hr (show i < 8 by omega)
    have s1 : sI (zI B I) 116 (nI i) (nI (r (13 + i) + hsum r i 5 0)) = some (zI B (cu I 116 i (nI (r (13 + i) + hsum r i 5 0)))) := sI_cu (by omega) (by rw [k11]; omega)
    obtain ⟨I', g1, g2, g3⟩ := ih (i + 1) n (cu I 116 i (nI (r (13 + i) + hsum r i 5 0))) (by omega) (by omega) (h.fp (fun a j h1 h2 => cu_o (by omega))) (fun v hv => by
      by_cases e : v = i
      · subst e; rw [cu_s]
      · rw [cu_o (by omega)]; exact hI v (by omega))
    refine ⟨I', ?_, g2, fun a j q => by rw [g3 a j q, cu_o (Or.inl q)]⟩
    simp only [L_X4_gather_2, if_neg c1, k2, k3, x4, cond_true, oR_eq, zac_zI, Option.bind_some, g, s1, nI_1, g1]
/-- what is gathered of the first i needs -/
def GTx (T : Nat → Nat → Nat) (d i : Nat) (I : Nat → Nat → Int32) : Prop := I 115 7 = nI (qn T d i) ∧ (∀ n, n < i → I 117 n = if cmB T d n = true then nI (qn T d n) else -1) ∧ ∀ n, n < i → cmB T d n = true → I 118 (qn T d n) = nI (T 6 (4 * n + 3)) ∧ ∀ b, b < 5 → I 119 (5 * qn T d n + b) = eU T (T 6 (4 * n + 1)) b
theorem X_g32 (hB : GB B tw s u) (hT : TI T) (h0 : 0 < T 0 3 → 0 < T 0 0) (hr : rI r) (hb : r 0 ≤ 9060) : ∀ m i n I, i + m = T 0 3 → m < n → XS s r I → XT tw T I → GTx T (dN T r) i I → ∃ I', L_X4_gather_32 n 115 tw s (nI i) (zI B I) = some (zI B I') ∧ GTx T (dN T r) (T 0 3) I' ∧ ∀ a j, ¬ ((a = 115 ∧ j = 7) ∨ a = 117 ∨ a = 118 ∨ a = 119) → I' a j = I a j := by
  have htw := hB.hw
  have hse := hB.hs
  have b0 := hT.1
  have b1 := hT.2.1
  have b3 := hT.2.2.2.1
  obtain ⟨-, -, -, x4, x5, -⟩ := hB.hx
  obtain ⟨-, k2, k3, k4, k5, k6, k7, -, -, -, -, l3, l4, l5, l6, p3, p4, -⟩ := hB.pl
  obtain ⟨t1, t2, t3, t4, t5, t6, t7, t8, t9⟩ := hB.tl
  intro m
  induction m with
  | zero =>
    intro i n I hi hn h hX hG
    obtain ⟨n, rfl⟩ := Nat.exists_eq_succ_of_ne_zero (show n ≠ 0 by omega)
    have c1 : nI (T 0 3) ≤ nI i := (nI_leI (by omega) (by omega)).mpr (by omega)
    have e4 := hX.1.2.2.2.2.1
    refine ⟨I, ?_, by rw [show T 0 3 = i by omega]; exact hG, fun _ _ _ => rfl⟩
    simp only [L_X4_gather_32, x5, cond_true, oI_eq, Option.bind_some, e4, if_pos c1]
  | succ m ih =>
    intro i n I hi hn h hX hG
    obtain ⟨n, rfl⟩ := Nat.exists_eq_succ_of_ne_zero (show n ≠ 0 by omega)
    have hi3 : i < T 0 3 := by omega
    have c1 : ¬ nI (T 0 3) ≤ nI i := fun q => absurd ((nI_leI (by omega) (by omega)).mp q) (by omega)
    have e4 := hX.1.2.2.2.2.1
    obtain ⟨G1, G2, G3⟩ := hG
    obtain ⟨J1, hJ1⟩ : ∃ J, J = cu I 117 i (-1) := ⟨_, rfl⟩
    have s1 : sI (zI B I) 117 (nI i) (-1) = some (zI B J1) := by rw [sI_cu (by omega) (by rw [l4]; omega), hJ1]
    have o1 : ∀ a, a ≠ 117 → J1 a = I a := fun a h => by rw [hJ1, cu_F h]
    have eg : J1 s 4 = nI (r 0) := by rw [o1 s (by omega)]; exact h.sc (j := 0) (by omega)
    have hX1 : XT tw T J1 := hX.fr (a := 117) (b := 117) (fun i hi => o1 i (by omega)) (by omega)
    have hday : f_X7_dayOfYear tw (nI (r 0)) (zI B J1) = some (nI (dN T r)) := by
      have h00 := h0 (by omega)
      rcases X_dayOfYear hB.2.2.1 hX1 hT (g := r 0) (by omega) with q | q
      · rw [q]; unfold dN; rw [if_neg (by omega)]
      · omega
    have hdl : dN T r < 1000 := by
      unfold dN
      split
      · omega
      · have := Nat.mod_lt (r 0) (show T 0 0 > 0 by omega)
        omega
    have gc := X_isToCome (d := dN T r) hB.2.2.1 hX1 hT hi3 hdl
    have hql : qn T (dN T r) i ≤ i := qn_le
    rcases Bool.eq_false_or_eq_true (cmB T (dN T r) i) with hc | hc
    · have hc' : dN T r ≤ T 6 (4 * i + 2) := of_decide_eq_true hc
      rw [if_pos hc'] at gc
      obtain ⟨J2, hJ2⟩ : ∃ J, J = cu J1 117 i (nI (qn T (dN T r) i)) := ⟨_, rfl⟩
      have s2 : sI (zI B J1) 117 (nI i) (nI (qn T (dN T r) i)) = some (zI B J2) := by rw [sI_cu (by omega) (by rw [l4]; omega), hJ2]
      have o2 : ∀ a, a ≠ 117 → J2 a = I a := fun a h => by rw [hJ2, cu_F h, o1 a h]
      have hX2 : XT tw T J2 := hX.fr (a := 117) (b := 117) (fun i hi => o2 i (by omega)) (by omega)
      have v3 := aI_at (B := B) (I := J2) (by omega) (by rw [t8]; omega) (hX2.2.2.2 i hi3).2.2.2
      obtain ⟨J3, hJ3⟩ : ∃ J, J = cu J2 118 (qn T (dN T r) i) (nI (T 6 (4 * i + 3))) := ⟨_, rfl⟩
      have s3 : sI (zI B J2) 118 (nI (qn T (dN T r) i)) (nI (T 6 (4 * i + 3))) = some (zI B J3) := by rw [sI_cu (by omega) (by rw [l6]; omega), hJ3]
      have o3 : ∀ a, a ≠ 117 → a ≠ 118 → J3 a = I a := fun a h h2 => by rw [hJ3, cu_F h2, o2 a h]
      have hX3 : XT tw T J3 := hX.fr (a := 117) (b := 118) (fun i hi => o3 i (by omega) (by omega)) (by omega)
      have v4 := aI_at (B := B) (I := J3) (by omega) (by rw [t6]; omega) (hX3.2.2.2 i hi3).2.1
      have bn := hT.2.2.2.2.2.2.2.2.1 i hi3
      have e71 : J1 115 7 = nI (qn T (dN T r) i) := by rw [o1 115 (by omega), G1]
      have e72 : J2 115 7 = nI (qn T (dN T r) i) := by rw [o2 115 (by omega), G1]
      have e73 : J3 115 7 = nI (qn T (dN T r) i) := by rw [o3 115 (by omega) (by omega), G1]
      obtain ⟨J4, g1, g2, g3⟩ := X_gu (w := T 6 (4 * i + 1)) (q := qn T (dN T r) i) hB hT hX3 (by omega) (by omega) e73
      have e74 : J4 115 7 = nI (qn T (dN T r) i) := by rw [g3 115 7 (by omega), e73]
      obtain ⟨J5, hJ5⟩ : ∃ J, J = cu J4 115 7 (nI (qn T (dN T r) i + 1)) := ⟨_, rfl⟩
      have hq1 := qn_t hc
      have f5 : ∀ a j, ¬ ((a = 115 ∧ j = 7) ∨ a = 117 ∨ a = 118 ∨ a = 119) → J5 a j = I a j := fun a j q => by rw [hJ5, cu_o (by omega), g3 a j (by omega), o3 a (by omega) (by omega)]
      have hG5 : GTx T (dN T r) (i + 1) J5 := by
        refine ⟨by rw [hJ5, cu_s, hq1], fun n hn => ?_, fun n hn hcn => ?_⟩
        · by_cases e : n = i
          · subst e
            rw [hJ5, cu_o (by omega), g3 117 _ (by omega), hJ3, cu_o (by omega), hJ2, cu_s, if_pos hc]
          · rw [hJ5, cu_o (by omega), g3 117 _ (by omega), hJ3, cu_o (by omega), hJ2, cu_o (by omega), hJ1, cu_o (by omega)]
            exact G2 n (by omega)
        · by_cases e : n = i
          · subst e
            refine ⟨by rw [hJ5, cu_o (by omega), g3 118 _ (by omega), hJ3, cu_s], fun b hb => ?_⟩
            rw [hJ5, cu_o (by omega)]
            exact g2 b hb
          · have hlt := qn_lt (T := T) (d := dN T r) (show n < i by omega) hcn
            obtain ⟨a1, a2⟩ := G3 n (by omega) hcn
            refine ⟨by rw [hJ5, cu_o (by omega), g3 118 _ (by omega), hJ3, cu_o (by omega), o2 118 (by omega)]; exact a1, fun b hb => ?_⟩
            rw [hJ5, cu_o (by omega), g3 119 _ (by omega), o3 119 (by omega) (by omega)]
            exact a2 b hb
      obtain ⟨I', d1, d2, d3⟩ := ih (i + 1) n J5 (by omega) (by omega) (h.fp (fun a j h1 h2 => f5 a j (by omega))) (hX.fr (a := 115) (b := 119) (fun a ha => funext fun j => f5 a j (by omega)) (by omega)) hG5
      refine ⟨I', ?_, d2, fun a j q => by rw [d3 a j q, f5 a j q]⟩
      simp only [L_X4_gather_32, x4, x5, k2, k4, k5, t2, t4, cond_true, oI_eq, oR_eq, pI_cu, zac_zI, Option.bind_some, e4, if_neg c1, s1, eg, hday, gc, if_neg ne10, e71, s2, e72, v3, s3, v4, g1, e74, nI_1, ← hJ5, d1]
    · have hc' : ¬ dN T r ≤ T 6 (4 * i + 2) := of_decide_eq_false hc
      rw [if_neg hc'] at gc
      have hq1 := qn_f hc
      have hG5 : GTx T (dN T r) (i + 1) J1 := by
        refine ⟨by rw [o1 115 (by omega), hq1]; exact G1, fun n hn => ?_, fun n hn hcn => ?_⟩
        · by_cases e : n = i
          · subst e
            rw [hJ1, cu_s, if_neg (by rw [hc]; decide)]
          · rw [hJ1, cu_o (by omega)]
            exact G2 n (by omega)
        · by_cases e : n = i
          · subst e; rw [hc] at hcn; exact absurd hcn (by decide)
          · obtain ⟨a1, a2⟩ := G3 n (by omega) hcn
            exact ⟨by rw [o1 118 (by omega)]; exact a1, fun b hb => by rw [o1 119 (by omega)]; exact a2 b hb⟩
      obtain ⟨I', d1, d2, d3⟩ := ih (i + 1) n J1 (by omega) (by omega) (h.fp (fun a j h1 h2 => by rw [o1 a (by omega)])) hX1 hG5
      refine ⟨I', ?_, d2, fun a j q => by rw [d3 a j q, o1 a (by omega)]⟩
      simp only [L_X4_gather_32, x4, x5, k2, k4, cond_true, oI_eq, oR_eq, zac_zI, Option.bind_some, e4, if_neg c1, s1, eg, hday, gc, if_pos, nI_1, d1]
theorem X_g132 (hB : GB B tw s u) {wt : Nat → Nat} (hN : N ≤ 8) : ∀ m n I, m ≤ N → m < n → (∀ j, j < N → I 118 j = nI (wt j)) → (∀ j, m ≤ j → j ≤ N → I 120 j = nI (sm wt (N - j) j)) → ∃ I', L_X4_gather_132 n 115 (nI m + (-1)) (zI B I) = some (zI B I') ∧ (∀ j, j ≤ N → I' 120 j = nI (sm wt (N - j) j)) ∧ ∀ a j, a ≠ 120 → I' a j = I a j := by
  obtain ⟨-, k2, k3, k4, k5, k6, k7, -, -, -, -, -, -, l5, l6, -, -, p5, p6, -⟩ := hB.pl
  intro m
  induction m with
  | zero =>
    intro n I hm hn h hI
    obtain ⟨n, rfl⟩ := Nat.exists_eq_succ_of_ne_zero (show n ≠ 0 by omega)
    refine ⟨I, ?_, fun j hj => hI j (by omega) hj, fun _ _ _ => rfl⟩
    simp only [L_X4_gather_132]
    rw [if_pos (by decide)]
  | succ m ih =>
    intro n I hm hn h hI
    obtain ⟨n, rfl⟩ := Nat.exists_eq_succ_of_ne_zero (show n ≠ 0 by omega)
    have e1 : nI (m + 1) + (-1) = nI m := pk_m1 m
    have c1 : ¬ nI m < 0 := nI_pos (by omega)
    have a1 := aI_at (B := B) (I := I) (by omega) (by rw [p5]; omega) (hI (m + 1) (Nat.le_refl _) hm)
    have a2 := aI_at (B := B) (I := I) (by omega) (by rw [l5]; omega) (h m (by omega))
    have es : nI (sm wt (N - (m + 1)) (m + 1)) + nI (wt m) = nI (sm wt (N - m) m) := by
      rw [nI_add, show N - m = (N - (m + 1)) + 1 by omega, sm_1, Nat.add_comm]
    have s1 : sI (zI B I) 120 (nI m) (nI (sm wt (N - m) m)) = some (zI B (cu I 120 m (nI (sm wt (N - m) m)))) := sI_cu (by omega) (by rw [p6]; omega)
    obtain ⟨I', g1, g2, g3⟩ := ih n (cu I 120 m (nI (sm wt (N - m) m))) (by omega) (by omega) (fun j hj => by rw [cu_o (by omega)]; exact h j hj) (fun j h1 h2 => by
      by_cases e : j = m
      · subst e; rw [cu_s]
      · rw [cu_o (by omega)]; exact hI j (by omega) h2)
    refine ⟨I', ?_, g2, fun a j q => by rw [g3 a j q, cu_o (Or.inl q)]⟩
    rw [e1]
    simp only [L_X4_gather_132, if_neg c1, k2, k5, k7, cond_true, oR_eq, Option.bind_some, nI_1, a1, a2, es, s1, g1]
end PLG
