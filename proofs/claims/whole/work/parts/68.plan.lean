/-! plan: the class's search -/
def eU (T : Nat → Nat → Nat) (w b : Nat) : Int32 := if okP T w b = true then nI (stP T w b) else -1
theorem eU_t {T : Nat → Nat → Nat} {w b : Nat} (h : okP T w b = true) : eU T w b = nI (stP T w b) := by unfold eU; rw [if_pos h]
theorem eU_f {T : Nat → Nat → Nat} {w b : Nat} (h : okP T w b = false) : eU T w b = -1 := by unfold eU; rw [h]; rfl
def eW (b : Nat) : Int32 := if b = 0 then -1 else nI (b - 1)
theorem eW_s {b : Nat} : eW (b + 1) = nI b := by unfold eW; rw [if_neg (by omega)]; rfl
theorem eW_0 : eW 0 = -1 := rfl
theorem m1_lt {w : Nat} (h : w < 2147483648) : (-1 : Int32) < nI w := by
  rw [Int32.lt_iff_toInt_lt, nI_toInt h, show (-1 : Int32).toInt = -1 from rfl]
  omega
theorem eW_lt {b w : Nat} (hb : b < 100000) (hw : w < 100000) : eW b < nI w ↔ b < w + 1 := by
  by_cases h : b = 0
  · subst h
    rw [eW_0]
    exact ⟨fun _ => by omega, fun _ => m1_lt (by omega)⟩
  · unfold eW
    rw [if_neg h, nI_ltI (by omega) (by omega)]
    omega
theorem eW_eq {b w : Nat} (hb : b < 100000) (hw : w < 100000) : nI w = eW b ↔ b = w + 1 := by
  by_cases h : b = 0
  · subst h
    rw [eW_0]
    exact ⟨fun q => absurd q (nI_m1 (by omega)), fun q => absurd q (by omega)⟩
  · unfold eW
    rw [if_neg h, nI_eq (by omega) (by omega)]
    omega
theorem stP_lt {T : Nat → Nat → Nat} {w b : Nat} (hT : TI T) (hw : w < 8) : stP T w b < 256 := by
  unfold stP
  split
  · have : 2 ^ w ≤ 2 ^ 7 := Nat.pow_le_pow_right (by omega) (by omega)
    omega
  · split
    · exact hT.2.2.2.2.2.2.2.1 _ (by omega)
    · split
      · exact hT.2.2.2.2.2.2.2.1 _ (by omega)
      · omega
def SPx (a : Nat) (sp : Nat → Nat) (I : Nat → Nat → Int32) : Prop := ∀ v, v < 8 → I a v = nI (sp v)
def PXf (T : Nat → Nat → Nat) (wd wt : Nat → Nat) (N : Nat) (I : Nat → Nat → Int32) : Prop := I 115 7 = nI N ∧ (∀ j, j < N → ∀ b, b < 5 → I 119 (5 * j + b) = eU T (wd j) b) ∧ (∀ j, j < N → I 118 j = nI (wt j)) ∧ ∀ j, j ≤ N → I 120 j = nI (sm wt (N - j) j)
def BSx (N : Nat) (s : Nat × Nat × (Nat → Nat)) (I : Nat → Nat → Int32) : Prop := I 115 8 = eW s.1 ∧ I 115 9 = nI s.2.1 ∧ (0 < s.1 → ∀ j, j < N → I 122 j = nI (s.2.2 j))
def fxP (a j : Nat) : Prop := a = 116 ∨ a = 121 ∨ a = 122 ∨ (a = 115 ∧ (j = 8 ∨ j = 9))
theorem PXf.fr {T : Nat → Nat → Nat} {wd wt : Nat → Nat} {N : Nat} {I I' : Nat → Nat → Int32} (h : PXf T wd wt N I) (hf : ∀ a j, ¬ fxP a j → I' a j = I a j) : PXf T wd wt N I' := by
  obtain ⟨h1, h2, h3, h4⟩ := h
  refine ⟨by rw [hf _ _ (by unfold fxP; omega)]; exact h1, fun j hj b hb => by rw [hf _ _ (by unfold fxP; omega)]; exact h2 j hj b hb, fun j hj => by rw [hf _ _ (by unfold fxP; omega)]; exact h3 j hj, fun j hj => by rw [hf _ _ (by unfold fxP; omega)]; exact h4 j hj⟩
def odL (o : Nat → Nat) : Nat → Nat → List Nat
  | 0, _ => []
  | m + 1, k => o k :: odL o m (k + 1)
theorem fAll_s {sp : Nat → Nat} {S : Nat} : ∀ m i, fAll sp S m i = true → ∀ v, i ≤ v → v < i + m → hasB S v = true → 0 < sp v := by
  intro m
  induction m with
  | zero => intro i _ v h1 h2; exact absurd h2 (by omega)
  | succ m ih =>
    intro i h v h1 h2 h3
    simp only [fAll, Bool.and_eq_true] at h
    by_cases e : v = i
    · subst e
      have := h.1
      rw [h3] at this
      simpa using this
    · exact ih (i + 1) h.2 v (by omega) (by omega) h3
theorem fAll_t {sp : Nat → Nat} {S m i : Nat} (h : hasB S i = true) (h2 : 0 < sp i) : fAll sp S (m + 1) i = fAll sp S m (i + 1) := by
  rw [fAll, h, decide_eq_true h2]; rfl
theorem fAll_n {sp : Nat → Nat} {S m i : Nat} (h : hasB S i = false) : fAll sp S (m + 1) i = fAll sp S m (i + 1) := by
  rw [fAll, h]; rfl
theorem fAll_f {sp : Nat → Nat} {S m i : Nat} (h : hasB S i = true) (h2 : ¬ 0 < sp i) : fAll sp S (m + 1) i = false := by
  rw [fAll, h, decide_eq_false h2]; rfl
theorem lvP_u {T : Nat → Nat → Nat} {wd wt : Nat → Nat} {od : List Nat} : ∀ m i sp w c t, ∀ l ∈ lvP T wd wt od m i sp w c t, l.2.1 ≤ c + 8 * m := by
  intro m
  induction m with
  | zero =>
    intro i sp w c t l h
    simp only [lvP, List.mem_singleton] at h
    subst h
    exact Nat.le_refl _
  | succ m ih =>
    intro i sp w c t l h
    simp only [lvP, List.mem_flatMap] at h
    obtain ⟨b, -, hb⟩ := h
    split at hb
    · have h1 := ih _ _ _ _ _ _ hb
      have h2 := pcm_le (S := stP T (wd i) b) 8 0
      omega
    · exact absurd hb (by simp)
def sBd (s : Nat × Nat × (Nat → Nat)) : Prop := s.1 ≤ 6000 ∧ s.2.1 ≤ 6000
theorem fd_bd {T : Nat → Nat → Nat} {wd wt : Nat → Nat} {od : List Nat} {m i w c : Nat} {sp t : Nat → Nat} {s : Nat × Nat × (Nat → Nat)} (h : sBd s) (hw : w + sm wt m i ≤ 5000) (hc : c + 8 * m ≤ 5000) : sBd (fdP s (lvP T wd wt od m i sp w c t)) := by
  obtain ⟨-, -, h3⟩ := fdP_i (lvP T wd wt od m i sp w c t) s
  rcases h3 with h3 | ⟨l, hl, h3⟩
  · rw [h3]; exact h
  · rw [h3]
    have h4 := (lvP_b m i sp w c t l hl).1
    have h5 := lvP_u m i sp w c t l hl
    unfold sBd
    simp only []
    omega
section PLX
variable {B : zM} {tw s0 u0 N p v S : Nat} {T : Nat → Nat → Nat} {wd wt : Nat → Nat} {I : Nat → Nat → Int32}
theorem GB.pl (h : GB B tw s0 u0) : mR B 1 7 = 115 ∧ zac B 115 4 10 = true ∧ mR B 115 0 = 116 ∧ mR B 115 1 = 117 ∧ mR B 115 2 = 118 ∧ mR B 115 3 = 119 ∧ mR B 115 4 = 120 ∧ mR B 115 5 = 121 ∧ mR B 115 6 = 122 ∧ zlI B 116 = 8 ∧ zln B 10 116 = 8 ∧ zlI B 117 = 8 ∧ zln B 10 117 = 8 ∧ zlI B 118 = 8 ∧ zln B 10 118 = 8 ∧ zlI B 119 = 40 ∧ zln B 10 119 = 40 ∧ zlI B 120 = 9 ∧ zln B 10 120 = 9 ∧ zlI B 121 = 8 ∧ zln B 10 121 = 8 ∧ zlI B 122 = 8 ∧ zln B 10 122 = 8 ∧ B.1 = 178 := by
  have hx := h.1
  exact ⟨by simp only [hx], by simp only [hx], by simp only [hx], by simp only [hx], by simp only [hx], by simp only [hx], by simp only [hx], by simp only [hx], by simp only [hx], by simp only [hx], by simp only [hx], by simp only [hx], by simp only [hx], by simp only [hx], by simp only [hx], by simp only [hx], by simp only [hx], by simp only [hx], by simp only [hx], by simp only [hx], by simp only [hx], by simp only [hx], by simp only [hx], by simp only [hx]⟩
theorem aN_o (h : B.1 = 178) {l : Nat} (hl : l = 1000 ∨ l = 1001) : aN (zI B I) l = some (nI 5) ∧ zlI B l = 5 ∧ Nat.ble 1 l = true := by
  have e : zlI B l = 5 := by unfold zlI; rcases hl with rfl | rfl <;> rfl
  refine ⟨?_, e, by rcases hl with rfl | rfl <;> rfl⟩
  have e1 : (zI B I).1 = 178 := h
  have e2 : zlI (zI B I) l = 5 := by rw [zlI_zI, e]
  unfold aN
  rw [e1, e2]
  rcases hl with rfl | rfl <;> rfl
theorem X_af_lp (hB : GB B tw s0 u0) {sp : Nat → Nat} (hs : SPx 116 sp I) (hsp : ∀ v, sp v ≤ 1000) (hS : S < 1024) : ∀ m i n, i + m = 8 → m < n → L_X4_affords_9 n 115 (nI S) (nI i) (zI B I) = some (if fAll sp S m i = true then .inr () else .inl 0) := by
  obtain ⟨-, k2, k3, -, -, -, -, -, -, k10, k11, -⟩ := hB.pl
  intro m
  induction m with
  | zero =>
    intro i n hi hn
    obtain ⟨n, rfl⟩ := Nat.exists_eq_succ_of_ne_zero (show n ≠ 0 by omega)
    have c1 : (8 : Int32) ≤ nI i := (nI_leI (a := 8) (by omega) (by omega)).mpr (by omega)
    simp only [L_X4_affords_9, if_pos c1]
    rfl
  | succ m ih =>
    intro i n hi hn
    obtain ⟨n, rfl⟩ := Nat.exists_eq_succ_of_ne_zero (show n ≠ 0 by omega)
    have c1 : ¬ (8 : Int32) ≤ nI i := fun q => absurd ((nI_leI (a := 8) (by omega) (by omega)).mp q) (by omega)
    have e := nI_bit hS (show i < 8 by omega)
    have a1 := aI_at (B := B) (I := I) (by omega) (by rw [k10]; omega) (hs i (by omega))
    have hb1 := hsp i
    have z1 := nI_g0 (v := sp i) (by omega)
    have i1 := ih (i + 1) n (by omega) (by omega)
    rcases Bool.eq_false_or_eq_true (hasB S i) with hb | hb
    · have c2 : ¬ nI (S / 2 ^ i % 2) = 0 := by rw [hasB_t hb]; exact ne10
      by_cases k : 0 < sp i
      · rw [fAll_t hb k]
        simp only [L_X4_affords_9, if_neg c1, e, if_neg c2, k2, k3, cond_true, oR_eq, Option.bind_some, a1, z1, if_pos k, nI_1, i1]
      · rw [fAll_f hb k]
        simp only [L_X4_affords_9, if_neg c1, e, if_neg c2, k2, k3, cond_true, oR_eq, Option.bind_some, a1, z1, if_neg k]
        rfl
    · have c2 : nI (S / 2 ^ i % 2) = 0 := by rw [hasB_f hb]; rfl
      rw [fAll_n hb]
      simp only [L_X4_affords_9, if_neg c1, e, if_pos c2, nI_1, i1]
theorem X_af (hB : GB B tw s0 u0) (hT : TI T) {sp : Nat → Nat} {w b : Nat} (hw : w < 8) (hs : SPx 116 sp I) (hsp : ∀ v, sp v ≤ 1000) : f_X4_affords 115 (eU T w b) (zI B I) = some (if afP T sp w b = true then 1 else 0) := by
  have hS := stP_lt (b := b) hT hw
  have g := X_af_lp hB hs hsp (S := stP T w b) (by omega) 8 0 zN (by omega) (by unfold zN; omega)
  rw [show nI 0 = (0 : Int32) from rfl] at g
  unfold afP
  rcases Bool.eq_false_or_eq_true (okP T w b) with ho | ho
  · rw [eU_t ho, ho, Bool.true_and]
    simp only [f_X4_affords, show Nat.ble 1 115 = true from rfl, cond_true, if_neg (nI_m1 (v := stP T w b) (by omega)), g]
    cases fAll sp (stP T w b) 8 0 <;> rfl
  · rw [eU_f ho, ho, Bool.false_and]
    simp only [f_X4_affords, show Nat.ble 1 115 = true from rfl, cond_true, if_pos]
    rfl
theorem X_ch_lp (hB : GB B tw s0 u0) {f1 f2 : Nat → Nat} {y : Int32} (hS : S < 1024) (h : ∀ v, v < 8 → hasB S v = true → nI (f1 v) + y = nI (f2 v)) (h0 : ∀ v, v < 8 → hasB S v = false → f1 v = f2 v) : ∀ m i n I, i + m = 8 → m < n → (∀ v, v < 8 → I 116 v = nI (if v < i then f2 v else f1 v)) → ∃ I', L_X4_change_2 n 115 (nI S) y (nI i) (zI B I) = some (zI B I') ∧ SPx 116 f2 I' ∧ ∀ a j, a ≠ 116 → I' a j = I a j := by
  obtain ⟨-, k2, k3, -, -, -, -, -, -, k10, k11, -⟩ := hB.pl
  intro m
  induction m with
  | zero =>
    intro i n I hi hn hI
    obtain ⟨n, rfl⟩ := Nat.exists_eq_succ_of_ne_zero (show n ≠ 0 by omega)
    have c1 : (8 : Int32) ≤ nI i := (nI_leI (a := 8) (by omega) (by omega)).mpr (by omega)
    refine ⟨I, ?_, fun v hv => by rw [hI v hv, if_pos (by omega)], fun _ _ _ => rfl⟩
    simp only [L_X4_change_2, if_pos c1]
  | succ m ih =>
    intro i n I hi hn hI
    obtain ⟨n, rfl⟩ := Nat.exists_eq_succ_of_ne_zero (show n ≠ 0 by omega)
    have c1 : ¬ (8 : Int32) ≤ nI i := fun q => absurd ((nI_leI (a := 8) (by omega) (by omega)).mp q) (by omega)
    have e := nI_bit hS (show i < 8 by omega)
    have hi1 := hI i (by omega)
    rw [if_neg (by omega)] at hi1
    have a1 := aI_at (B := B) (I := I) (by omega) (by rw [k10]; omega) hi1
    rcases Bool.eq_false_or_eq_true (hasB S i) with hb | hb
    · have c2 : ¬ nI (S / 2 ^ i % 2) = 0 := by rw [hasB_t hb]; exact ne10
      have e2 := h i (by omega) hb
      have s1 : sI (zI B I) 116 (nI i) (nI (f2 i)) = some (zI B (cu I 116 i (nI (f2 i)))) := sI_cu (by omega) (by rw [k11]; omega)
      obtain ⟨I', g1, g2, g3⟩ := ih (i + 1) n (cu I 116 i (nI (f2 i))) (by omega) (by omega) (fun v hv => by
        by_cases ev : v = i
        · subst ev; rw [cu_s, if_pos (by omega)]
        · rw [cu_o (Or.inr ev), hI v hv]
          by_cases k : v < i
          · rw [if_pos k, if_pos (by omega)]
          · rw [if_neg k, if_neg (by omega)])
      refine ⟨I', ?_, g2, fun a j q => by rw [g3 a j q, cu_o (Or.inl q)]⟩
      simp only [L_X4_change_2, if_neg c1, e, if_neg c2, k2, k3, cond_true, oR_eq, Option.bind_some, a1, e2, s1, nI_1, g1]
    · have c2 : nI (S / 2 ^ i % 2) = 0 := by rw [hasB_f hb]; rfl
      obtain ⟨I', g1, g2, g3⟩ := ih (i + 1) n I (by omega) (by omega) (fun v hv => by
        rw [hI v hv]
        by_cases ev : v = i
        · subst ev; rw [if_neg (by omega), if_pos (by omega), h0 v hv hb]
        · by_cases k : v < i
          · rw [if_pos k, if_pos (by omega)]
          · rw [if_neg k, if_neg (by omega)])
      refine ⟨I', ?_, g2, g3⟩
      simp only [L_X4_change_2, if_neg c1, e, if_pos c2, nI_1, g1]
theorem dcP_t {sp : Nat → Nat} (h : hasB S v = true) : dcP sp S v = sp v - 1 := by unfold dcP; rw [if_pos h]
theorem dcP_f {sp : Nat → Nat} (h : hasB S v = false) : dcP sp S v = sp v := by unfold dcP; rw [h]; rfl
theorem dcP_le {sp : Nat → Nat} (h : ∀ v, sp v ≤ 1000) : ∀ v, dcP sp S v ≤ 1000 := by
  intro v
  have := h v
  unfold dcP
  split <;> omega
theorem X_dn (hB : GB B tw s0 u0) {sp : Nat → Nat} (hs : SPx 116 sp I) (hS : S < 1024) (hf : fAll sp S 8 0 = true) : ∃ I', f_X4_change 115 (nI S) (-1) (zI B I) = some (zI B I') ∧ SPx 116 (dcP sp S) I' ∧ ∀ a j, a ≠ 116 → I' a j = I a j := by
  obtain ⟨I', g1, g2, g3⟩ := X_ch_lp (f1 := sp) (f2 := dcP sp S) (y := -1) hB hS (fun v hv hb => by
    have := fAll_s 8 0 hf v (by omega) (by omega) hb
    rw [dcP_t hb, show sp v = (sp v - 1) + 1 by omega]
    exact pk_m1 _) (fun v hv hb => (dcP_f hb).symm) 8 0 zN I (by omega) (by unfold zN; omega) (fun v hv => by rw [if_neg (by omega)]; exact hs v hv)
  rw [show nI 0 = (0 : Int32) from rfl] at g1
  refine ⟨I', ?_, g2, g3⟩
  simp only [f_X4_change, show Nat.ble 1 115 = true from rfl, cond_true, g1, Option.bind_some]
theorem X_up' (hB : GB B tw s0 u0) {sp : Nat → Nat} (hs : SPx 116 (dcP sp S) I) (hS : S < 1024) (hf : fAll sp S 8 0 = true) : ∃ I', f_X4_change 115 (nI S) 1 (zI B I) = some (zI B I') ∧ SPx 116 sp I' ∧ ∀ a j, a ≠ 116 → I' a j = I a j := by
  obtain ⟨I', g1, g2, g3⟩ := X_ch_lp (f1 := dcP sp S) (f2 := sp) (y := 1) hB hS (fun v hv hb => by
    have := fAll_s 8 0 hf v (by omega) (by omega) hb
    rw [dcP_t hb, nI_1]
    congr 1
    omega) (fun v hv hb => dcP_f hb) 8 0 zN I (by omega) (by unfold zN; omega) (fun v hv => by rw [if_neg (by omega)]; exact hs v hv)
  rw [show nI 0 = (0 : Int32) from rfl] at g1
  refine ⟨I', ?_, g2, g3⟩
  simp only [f_X4_change, show Nat.ble 1 115 = true from rfl, cond_true, g1, Option.bind_some]
theorem cP_eq' {i0 i1 L0 L1 n : Nat} (h0 : zln B 10 i0 = L0) (h1 : zln B 10 i1 = L1) (hL0 : 0 < L0) (hL1 : 0 < L1) (g0 : n ≤ L0) (g1 : n ≤ L1) (hk : n < 2147483648) : cP (zI B I) i0 0 i1 0 (nI n) = some (zI B (va_up I i1 (va_cpy (I i0) (I i1) 0 0 n))) := by
  obtain ⟨a0, b0⟩ := zln_t h0 hL0
  obtain ⟨a1, b1⟩ := zln_t h1 hL1
  have c1 : Nat.ble ((0 : Int32).toNatClampNeg + (nI n).toNatClampNeg) L0 = true := by
    rw [nI_clamp hk, show (0 : Int32).toNatClampNeg = 0 from rfl, Nat.zero_add]; exact Nat.ble_eq.mpr g0
  have c2 : Nat.ble ((0 : Int32).toNatClampNeg + (nI n).toNatClampNeg) L1 = true := by
    rw [nI_clamp hk, show (0 : Int32).toNatClampNeg = 0 from rfl, Nat.zero_add]; exact Nat.ble_eq.mpr g1
  unfold cP
  simp only [zac_zI, b0, b1] at a0 a1 ⊢
  rw [a0, a1, c1, c2, nI_clamp hk]
  have d1 : decide (¬ (0 : Int32) < 0) = true := by decide
  have d2 : decide (¬ nI n < 0) = true := decide_eq_true (nI_pos hk)
  rw [d1, d2]
  rfl
theorem X_mb {s : Nat × Nat × (Nat → Nat)} {w c : Nat} (hB : GB B tw s0 u0) (hb : BSx N s I) (hs : sBd s) (hw : w ≤ 6000) (hc : c ≤ 6000) : (btP s w c → f_X4_mayBeBetter 115 (nI w) (nI c) (zI B I) = some 1) ∧ (¬ btP s w c → f_X4_mayBeBetter 115 (nI w) (nI c) (zI B I) = some 0) := by
  obtain ⟨-, k2, -⟩ := hB.pl
  obtain ⟨e1, e2, -⟩ := hb
  have z1 := eW_lt (b := s.1) (w := w) (by unfold sBd at hs; omega) (by omega)
  have z2 := eW_eq (b := s.1) (w := w) (by unfold sBd at hs; omega) (by omega)
  have z3 : nI s.2.1 ≤ nI c ↔ s.2.1 ≤ c := nI_leI (by unfold sBd at hs; omega) (by omega)
  unfold btP
  simp only [f_X4_mayBeBetter, show Nat.ble 1 115 = true from rfl, k2, cond_true, oI_eq, Option.bind_some, e1, e2, z1, z2, z3]
  constructor
  · intro h
    by_cases k : s.1 < w + 1
    · rw [if_pos k]
    · rw [if_neg k, if_pos (by omega), if_neg (by omega)]
  · intro h
    rw [if_neg (by omega)]
    by_cases k : s.1 = w + 1
    · rw [if_pos k, if_pos (by omega)]
    · rw [if_neg k]
theorem X_tk {t : Nat → Nat} {w c : Nat} (hB : GB B tw s0 u0) (hN : N ≤ 8) (h7 : I 115 7 = nI N) (ht : ∀ j, j < N → I 121 j = nI (t j)) : ∃ I', f_X4_take 115 (nI w) (nI c) (zI B I) = some (zI B I') ∧ BSx N (w + 1, c, t) I' ∧ ∀ a j, ¬ (a = 122 ∨ (a = 115 ∧ (j = 8 ∨ j = 9))) → I' a j = I a j := by
  obtain ⟨-, k2, k3, -, -, -, -, k8, k9, -, -, -, -, -, -, -, -, -, -, l1, l2, l3, l4, -⟩ := hB.pl
  obtain ⟨J1, hJ1⟩ : ∃ J, J = cu I 115 8 (nI w) := ⟨_, rfl⟩
  obtain ⟨J2, hJ2⟩ : ∃ J, J = cu J1 115 9 (nI c) := ⟨_, rfl⟩
  have e7 : J2 115 7 = nI N := by rw [hJ2, cu_o (by omega), hJ1, cu_o (by omega), h7]
  have g := cP_eq' (B := B) (I := J2) (i0 := 121) (i1 := 122) (n := N) l2 l4 (by omega) (by omega) (by omega) (by omega) (by omega)
  refine ⟨va_up J2 122 (va_cpy (J2 121) (J2 122) 0 0 N), ?_, ⟨?_, ?_, fun _ j hj => ?_⟩, fun a j hn => ?_⟩
  rotate_left
  · rw [va_up_o (by omega), hJ2, cu_o (by omega), hJ1, cu_s, eW_s]
  · rw [va_up_o (by omega), hJ2, cu_s]
  · rw [va_up_s, cpy0 hj, hJ2, cu_o (by omega), hJ1, cu_o (by omega), ht j hj]
  · rw [va_up_o (by omega), hJ2, cu_o (by omega), hJ1, cu_o (by omega)]
  · simp only [f_X4_take, show Nat.ble 1 115 = true from rfl, k2, k8, k9, cond_true, oR_eq, oI_eq, pI_cu, Option.bind_some, ← hJ1, ← hJ2, e7, g]
end PLX
