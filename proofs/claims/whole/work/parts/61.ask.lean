/-! ask -/
def pcm (S : Nat) : Nat → Nat → Nat
  | 0, _ => 0
  | m + 1, i => S / 2 ^ i % 2 + pcm S m (i + 1)
theorem pcm_add (S : Nat) : ∀ a b i, pcm S (a + b) i = pcm S a i + pcm S b (i + a) := by
  intro a
  induction a with
  | zero => intro b i; rw [Nat.zero_add, Nat.add_zero]; simp [pcm]
  | succ a ih =>
    intro b i
    rw [Nat.succ_add_eq_add_succ a b, Nat.add_succ]
    simp only [pcm]
    rw [ih, show i + 1 + a = i + (a + 1) by omega, Nat.add_assoc]
theorem pcm_0 {S : Nat} : ∀ m i, S < 2 ^ i → pcm S m i = 0 := by
  intro m
  induction m with
  | zero => intro i _; rfl
  | succ m ih =>
    intro i h
    have e : 2 ^ (i + 1) = 2 ^ i + 2 ^ i := by rw [Nat.pow_succ]; omega
    simp only [pcm]
    rw [Nat.div_eq_of_lt h, ih (i + 1) (by omega)]
theorem pcm_le {S : Nat} : ∀ m i, pcm S m i ≤ m := by
  intro m
  induction m with
  | zero => intro i; exact Nat.le_refl _
  | succ m ih =>
    intro i
    have := ih (i + 1)
    have := Nat.mod_lt (S / 2 ^ i) (show 2 > 0 by omega)
    simp only [pcm]
    omega
theorem pcm_n {S n : Nat} (h : S < 2 ^ n) (hn : n ≤ 8) : pcm S 8 0 = pcm S n 0 := by
  have e := pcm_add S n (8 - n) 0
  rw [Nat.add_sub_cancel' hn, Nat.zero_add, pcm_0 (8 - n) n h, Nat.add_zero] at e
  exact e
theorem bc_lit : ∀ S, S < 256 → f_J6_bitCount_0f7a4 (nI S) ((0, 0, fun _ _ => 0, fun _ _ => 0) : zM) = some (nI (pcm S 8 0)) := by decide +kernel
theorem J_bc {S : Nat} {M : zM} (h : S < 256) : f_J6_bitCount_0f7a4 (nI S) M = some (nI (pcm S 8 0)) := bc_lit S h
theorem Y_bits_lp {S : Nat} {M : zM} (h : S < 1024) : ∀ m i n q, i + m = 8 → m < n → L_X9_bits_4 n (nI S) (nI q) (nI i) M = some (nI (q + pcm S m i)) := by
  intro m
  induction m with
  | zero =>
    intro i n q hi hn
    obtain ⟨n, rfl⟩ := Nat.exists_eq_succ_of_ne_zero (show n ≠ 0 by omega)
    have c1 : (8 : Int32) ≤ nI i := (nI_leI (a := 8) (by omega) (by omega)).mpr (by omega)
    simp only [L_X9_bits_4, if_pos c1, pcm, Nat.add_zero]
  | succ m ih =>
    intro i n q hi hn
    obtain ⟨n, rfl⟩ := Nat.exists_eq_succ_of_ne_zero (show n ≠ 0 by omega)
    have c1 : ¬ (8 : Int32) ≤ nI i := fun q => absurd ((nI_leI (a := 8) (by omega) (by omega)).mp q) (by omega)
    have e := nI_bit h (show i < 8 by omega)
    simp only [L_X9_bits_4, if_neg c1, e, nI_add, nI_1]
    rw [ih (i + 1) n _ (by omega) (by omega)]
    simp only [pcm, Nat.add_assoc]
theorem Y_bits {S : Nat} {M : zM} (h : S < 1024) : f_X9_bits (nI S) M = some (nI (pcm S 8 0)) := by
  have g := Y_bits_lp (M := M) h 8 0 zN 0 (by omega) (by unfold zN; omega)
  rw [show nI 0 = (0 : Int32) from rfl, Nat.zero_add] at g
  simp only [f_X9_bits, g, Option.bind_some]
def spk (T : Nat → Nat → Nat) (S w d : Nat) : Nat → Nat → Nat
  | 0, _ => 0
  | m + 1, i => (if S / 2 ^ i % 2 = 1 then if wsB T i w d then 1 else 0 else 0) + spk T S w d m (i + 1)
def oth (T : Nat → Nat → Nat) (S w d : Nat) : Nat → Nat → Nat
  | 0, _ => 0
  | m + 1, i => (if S / 2 ^ i % 2 = 1 then if wsB T i w d then 0 else 1 else 0) + oth T S w d m (i + 1)
theorem spk_oth {T : Nat → Nat → Nat} {S w d : Nat} : ∀ m i, spk T S w d m i + oth T S w d m i = pcm S m i := by
  intro m
  induction m with
  | zero => intro i; rfl
  | succ m ih =>
    intro i
    have := ih (i + 1)
    have hb := Nat.mod_lt (S / 2 ^ i) (show 2 > 0 by omega)
    simp only [spk, oth, pcm]
    cases wsB T i w d <;> split <;> (try simp only [Bool.false_eq_true, if_false, if_true]) <;> omega
/-- the greater part -/
def gpN (T : Nat → Nat → Nat) (S w d : Nat) : Nat := if spk T S w d (T 0 2) 0 < oth T S w d (T 0 2) 0 then oth T S w d (T 0 2) 0 else spk T S w d (T 0 2) 0
def akD (f : Nat → Nat) (w : Nat) : Nat → Nat → Nat → Int32 → Nat × Int32
  | 0, _, a, b => (a, b)
  | m + 1, d, a, b => if a ≤ f d then akD f w m (d + 1) a b else akD f w m (d + 1) (f d) (nI (100 * w + d))
def akW (g : Nat → Nat → Nat) (D : Nat) : Nat → Nat → Nat → Int32 → Int32
  | 0, _, _, b => b
  | m + 1, w, a, b => akW g D m (w + 1) (akD (g w) w D 0 a b).1 (akD (g w) w D 0 a b).2
theorem akD_le {f : Nat → Nat} {w : Nat} : ∀ m d a b, (akD f w m d a b).1 ≤ a := by
  intro m
  induction m with
  | zero => intro d a b; exact Nat.le_refl _
  | succ m ih =>
    intro d a b
    simp only [akD]
    split
    · exact ih _ _ _
    · exact Nat.le_trans (ih _ _ _) (by omega)
section ASK
variable {B : zM} {tw s u c np p w d n kn S : Nat} {T : Nat → Nat → Nat} {r kw kd kb : Nat → Nat} {I : Nat → Nat → Int32} {x y : Int32}
theorem X_gp_lp (hB : GB B tw s u) (hT : gT tw T I) (hS : S < 1024) (hw : w < 1000) (hd : d < 1000) : ∀ m i n a b, i + m = T 0 2 → m < n → L_X8_greatestPart_9 n 1 (nI S) (nI w) (nI d) (nI a) (nI b) (nI i) (zI B I) = some (nI (a + spk T S w d m i), nI (b + oth T S w d m i)) := by
  obtain ⟨x1, x2, x3, x4, x5, -⟩ := hB.hx
  have b2 := hT.1.2.2.1
  have e3 := hT.2.2.1.1.2.2.2.1
  intro m
  induction m with
  | zero =>
    intro i n a b hi hn
    obtain ⟨n, rfl⟩ := Nat.exists_eq_succ_of_ne_zero (show n ≠ 0 by omega)
    have c1 : nI (T 0 2) ≤ nI i := (nI_leI (by omega) (by omega)).mpr (by omega)
    simp only [L_X8_greatestPart_9, x1, x2, x5, cond_true, oI_eq, oR_eq, Option.bind_some, e3, if_pos c1, spk, oth, Nat.add_zero]
  | succ m ih =>
    intro i n a b hi hn
    obtain ⟨n, rfl⟩ := Nat.exists_eq_succ_of_ne_zero (show n ≠ 0 by omega)
    have c1 : ¬ nI (T 0 2) ≤ nI i := fun q => absurd ((nI_leI (by omega) (by omega)).mp q) (by omega)
    have e := nI_bit hS (show i < 8 by omega)
    have hb := Nat.mod_lt (S / 2 ^ i) (show 2 > 0 by omega)
    have z0 := nI_z (v := S / 2 ^ i % 2) (by omega)
    have g := X_ws hB hT (p := i) (w := w) (d := d) (by omega) hw hd
    have i1 := fun a b => ih (i + 1) n a b (by omega) (by omega)
    simp only [L_X8_greatestPart_9, x1, x2, x5, cond_true, oI_eq, oR_eq, zac_zI, Option.bind_some, e3, if_neg c1, e, z0, g, nI_1, i1, spk, oth]
    by_cases k : S / 2 ^ i % 2 = 0
    · have k1 : ¬ S / 2 ^ i % 2 = 1 := by omega
      simp only [if_pos k, if_neg k1, Nat.zero_add]
    · have k1 : S / 2 ^ i % 2 = 1 := by omega
      simp only [if_neg k, if_pos k1]
      cases wsB T i w d
      · simp only [Bool.false_eq_true, if_false, if_true, Nat.zero_add, Nat.add_assoc]
      · simp only [if_true, if_neg ne10, Nat.zero_add, Nat.add_assoc]
theorem spk_le (h : S < 2 ^ T 0 2) (hn : T 0 2 ≤ 8) : spk T S w d (T 0 2) 0 + oth T S w d (T 0 2) 0 = pcm S 8 0 ∧ pcm S 8 0 ≤ 8 := by
  rw [spk_oth, pcm_n h hn]
  exact ⟨rfl, Nat.le_trans (pcm_le _ _) hn⟩
theorem X_gp (hB : GB B tw s u) (hT : gT tw T I) (hS : S < 2 ^ T 0 2) (hS5 : S < 32) (hw : w < 1000) (hd : d < 1000) : f_X8_greatestPart 1 (nI S) (nI w) (nI d) (zI B I) = some (nI (gpN T S w d)) := by
  have b2 := hT.1.2.2.1
  have g := X_gp_lp hB hT (S := S) (w := w) (d := d) (by omega) hw hd (T 0 2) 0 zN 0 0 (by omega) (by unfold zN; omega)
  rw [show nI 0 = (0 : Int32) from rfl, Nat.zero_add, Nat.zero_add] at g
  have l := spk_le (T := T) (w := w) (d := d) hS (by omega)
  have z : nI (spk T S w d (T 0 2) 0) < nI (oth T S w d (T 0 2) 0) ↔ spk T S w d (T 0 2) 0 < oth T S w d (T 0 2) 0 := nI_ltI (by omega) (by omega)
  simp only [f_X8_greatestPart, nb1, cond_true, g, b2_some, z, gpN]
  split <;> rfl
theorem Y_gp_lp (hB : GB B tw s u) (hT : gT tw T I) (hS : S < 1024) (hw : w < 1000) (hd : d < 1000) : ∀ m i n a, i + m = T 0 2 → m < n → L_X9_ask_42 n 144 (nI S) x y (nI w) (nI d) (nI a) (nI i) (zI B I) = some (nI (a + spk T S w d m i)) := by
  obtain ⟨y1, y2, -⟩ := hB.hy'
  have b2 := hT.1.2.2.1
  have e3 := hT.2.2.2.1.2.2.1
  intro m
  induction m with
  | zero =>
    intro i n a hi hn
    obtain ⟨n, rfl⟩ := Nat.exists_eq_succ_of_ne_zero (show n ≠ 0 by omega)
    have c1 : nI (T 0 2) ≤ nI i := (nI_leI (by omega) (by omega)).mpr (by omega)
    simp only [L_X9_ask_42, y1, cond_true, oI_eq, Option.bind_some, e3, if_pos c1, spk, Nat.add_zero]
  | succ m ih =>
    intro i n a hi hn
    obtain ⟨n, rfl⟩ := Nat.exists_eq_succ_of_ne_zero (show n ≠ 0 by omega)
    have c1 : ¬ nI (T 0 2) ≤ nI i := fun q => absurd ((nI_leI (by omega) (by omega)).mp q) (by omega)
    have e := Y_has (M := zI B I) hS (show i < 8 by omega)
    have g := Y_ws hB hT (p := i) (w := w) (d := d) (by omega) hw hd
    have i1 := fun a => ih (i + 1) n a (by omega) (by omega)
    simp only [L_X9_ask_42, y1, cond_true, oI_eq, zac_zI, Option.bind_some, e3, if_neg c1, e, g, nI_1, Int32.add_zero, i1, spk]
    by_cases k : S / 2 ^ i % 2 = 1
    · rw [if_pos k, show hasB S i = true from decide_eq_true k, if_pos rfl, if_neg ne10]
      cases wsB T i w d
      · simp only [Bool.false_eq_true, if_false, if_true, Nat.zero_add, Nat.add_assoc]
      · simp only [if_true, if_neg ne10, Nat.add_assoc]
    · rw [if_neg k, show hasB S i = false from decide_eq_false k, ite_f, if_pos rfl, Nat.zero_add]
theorem ak_in (hB : GB B tw s u) (hT : gT tw T I) (hS : S < 2 ^ T 0 2) (hS5 : S < 32) (hw : w < T 0 1) : ∀ m i n a b, i + m = T 0 0 → m < n → a ≤ 8 → L_X8_ask_37 n 1 (nI S) (nI a) b (nI w) (nI i) (zI B I) = some (nI (akD (gpN T S w) w m i a b).1, (akD (gpN T S w) w m i a b).2) ∧ L_X9_ask_27 n 144 (nI S) b (nI a) (nI w) (nI i) (zI B I) = some ((akD (gpN T S w) w m i a b).2, nI (akD (gpN T S w) w m i a b).1) := by
  obtain ⟨x1, x2, x3, x4, x5, -⟩ := hB.hx
  obtain ⟨y1, y2, -⟩ := hB.hy'
  have b0 := hT.1.1
  have b1 := hT.1.2.1
  have b2 := hT.1.2.2.1
  have e0 := hT.2.2.1.1.1
  have f0 := hT.2.2.2.1.1
  intro m
  induction m with
  | zero =>
    intro i n a b hi hn ha
    obtain ⟨n, rfl⟩ := Nat.exists_eq_succ_of_ne_zero (show n ≠ 0 by omega)
    have c1 : nI (T 0 0) ≤ nI i := (nI_leI (by omega) (by omega)).mpr (by omega)
    simp only [L_X8_ask_37, L_X9_ask_27, x1, x2, x5, y1, cond_true, oI_eq, oR_eq, Option.bind_some, e0, f0, if_pos c1, akD]
    exact ⟨trivial, trivial⟩
  | succ m ih =>
    intro i n a b hi hn ha
    obtain ⟨n, rfl⟩ := Nat.exists_eq_succ_of_ne_zero (show n ≠ 0 by omega)
    have c1 : ¬ nI (T 0 0) ≤ nI i := fun q => absurd ((nI_leI (by omega) (by omega)).mp q) (by omega)
    have g1 := X_gp hB hT hS hS5 (w := w) (d := i) (by omega) (by omega)
    have g2 := Y_gp_lp (x := b) (y := nI a) hB hT (S := S) (w := w) (d := i) (by omega) (by omega) (by omega) (T 0 2) 0 zN 0 (by omega) (by unfold zN; omega)
    rw [show nI 0 = (0 : Int32) from rfl, Nat.zero_add] at g2
    have g3 := Y_bits (S := S) (M := zI B I) (by omega)
    have l := spk_le (T := T) (w := w) (d := i) hS (by omega)
    have p1 : (100 : Int32) * nI w + nI i = nI (100 * w + i) := by rw [show (100 : Int32) = nI 100 from rfl, pk_mul, nI_add]
    have sb : nI (pcm S 8 0) - nI (spk T S w i (T 0 2) 0) = nI (oth T S w i (T 0 2) 0) := by
      rw [nI_sb (by omega)]
      congr 1
      omega
    have hg : gpN T S w i ≤ 8 := by unfold gpN; split <;> omega
    have z1 : nI a ≤ nI (gpN T S w i) ↔ a ≤ gpN T S w i := nI_leI (by omega) (by omega)
    have z2 : nI (spk T S w i (T 0 2) 0) ≤ nI (oth T S w i (T 0 2) 0) ↔ spk T S w i (T 0 2) 0 ≤ oth T S w i (T 0 2) 0 := nI_leI (by omega) (by omega)
    have z3 : nI a ≤ nI (oth T S w i (T 0 2) 0) ↔ a ≤ oth T S w i (T 0 2) 0 := nI_leI (by omega) (by omega)
    have z4 : nI a ≤ nI (spk T S w i (T 0 2) 0) ↔ a ≤ spk T S w i (T 0 2) 0 := nI_leI (by omega) (by omega)
    have i1 := fun a b h => (ih (i + 1) n a b (by omega) (by omega) h).1
    have i2 := fun a b h => (ih (i + 1) n a b (by omega) (by omega) h).2
    constructor
    · simp only [L_X8_ask_37, x1, x2, x5, cond_true, oI_eq, oR_eq, zac_zI, Option.bind_some, e0, if_neg c1, g1, z1, p1, nI_1, akD]
      by_cases k : a ≤ gpN T S w i
      · simp only [if_pos k]
        exact i1 a b ha
      · simp only [if_neg k]
        exact i1 _ _ hg
    · simp only [L_X9_ask_27, y1, cond_true, oI_eq, Option.bind_some, f0, if_neg c1, g2, g3, sb, z2, z3, z4, p1, nI_1, akD]
      by_cases k2 : spk T S w i (T 0 2) 0 ≤ oth T S w i (T 0 2) 0
      · have hge : gpN T S w i = oth T S w i (T 0 2) 0 := by unfold gpN; split <;> omega
        rw [if_pos k2, hge]
        by_cases k : a ≤ oth T S w i (T 0 2) 0
        · simp only [if_pos k]
          exact i2 a b ha
        · simp only [if_neg k]
          exact i2 _ _ (by omega)
      · have hge : gpN T S w i = spk T S w i (T 0 2) 0 := by unfold gpN; split <;> omega
        rw [if_neg k2, hge]
        by_cases k : a ≤ spk T S w i (T 0 2) 0
        · simp only [if_pos k]
          exact i2 a b ha
        · simp only [if_neg k]
          exact i2 _ _ (by omega)
theorem ak_out (hB : GB B tw s u) (hT : gT tw T I) (hS : S < 2 ^ T 0 2) (hS5 : S < 32) : ∀ m i n a b, i + m = T 0 1 → m < n → a ≤ 8 → L_X8_ask_22 n 1 (nI S) (nI a) b (nI i) (zI B I) = some (akW (gpN T S) (T 0 0) m i a b) ∧ L_X9_ask_15 n 144 (nI S) b (nI a) (nI i) (zI B I) = some (akW (gpN T S) (T 0 0) m i a b) := by
  obtain ⟨x1, x2, x3, x4, x5, -⟩ := hB.hx
  obtain ⟨y1, y2, -⟩ := hB.hy'
  have b0 := hT.1.1
  have b1 := hT.1.2.1
  have e0 := hT.2.2.1.1.2.1
  have f0 := hT.2.2.2.1.2.1
  intro m
  induction m with
  | zero =>
    intro i n a b hi hn ha
    obtain ⟨n, rfl⟩ := Nat.exists_eq_succ_of_ne_zero (show n ≠ 0 by omega)
    have c1 : nI (T 0 1) ≤ nI i := (nI_leI (by omega) (by omega)).mpr (by omega)
    simp only [L_X8_ask_22, L_X9_ask_15, x1, x2, x5, y1, cond_true, oI_eq, oR_eq, Option.bind_some, e0, f0, if_pos c1, akW]
    exact ⟨trivial, trivial⟩
  | succ m ih =>
    intro i n a b hi hn ha
    obtain ⟨n, rfl⟩ := Nat.exists_eq_succ_of_ne_zero (show n ≠ 0 by omega)
    have c1 : ¬ nI (T 0 1) ≤ nI i := fun q => absurd ((nI_leI (by omega) (by omega)).mp q) (by omega)
    obtain ⟨g1, g2⟩ := ak_in hB hT hS hS5 (w := i) (by omega) (T 0 0) 0 zN a b (by omega) (by unfold zN; omega) ha
    rw [show nI 0 = (0 : Int32) from rfl] at g1 g2
    have hl := akD_le (f := gpN T S i) (w := i) (T 0 0) 0 a b
    obtain ⟨i1, i2⟩ := ih (i + 1) n (akD (gpN T S i) i (T 0 0) 0 a b).1 (akD (gpN T S i) i (T 0 0) 0 a b).2 (by omega) (by omega) (by omega)
    simp only [L_X8_ask_22, L_X9_ask_15, x1, x2, x5, y1, cond_true, oI_eq, oR_eq, Option.bind_some, e0, f0, if_neg c1, g1, g2, b2_some, nI_1, i1, i2, akW]
    exact ⟨trivial, trivial⟩
theorem r_ask (hB : GB B tw s u) (hT : gT tw T I) (hK : gK T kn kw kd kb I) : R2 (f_X8_ask 1 (zI B I)) (f_X9_ask 144 (zI B I)) := by
  have g1 := X_fit hB hT hK
  have g2 := Y_fit hB hT hK
  have b1 := hT.1.2.1
  have b2 := hT.1.2.2.1
  obtain ⟨h1, h2⟩ := whoN_lt (kn := kn) (kw := kw) (kd := kd) (kb := kb) hT
  obtain ⟨S, hS⟩ : ∃ S, S = whoN T kn kw kd kb := ⟨_, rfl⟩
  rw [← hS] at g1 g2 h1 h2
  obtain ⟨x1, x2, x3, x4, x5, -⟩ := hB.hx
  obtain ⟨y1, y2, -⟩ := hB.hy'
  obtain ⟨k1, k2, -⟩ := hB.ks
  have c1 := J_bc (S := S) (M := zI B I) (by omega)
  have c2 := Y_bits (S := S) (M := zI B I) (by omega)
  have l := (spk_le (T := T) (w := 0) (d := 0) h1 (by omega)).2
  obtain ⟨d1, d2⟩ := ak_out hB hT h1 h2 (T 0 1) 0 zN (pcm S 8 0) (-1) (by omega) (by unfold zN; omega) l
  rw [show nI 0 = (0 : Int32) from rfl] at d1 d2
  refine R_of (v := akW (gpN T S) (T 0 0) (T 0 1) 0 (pcm S 8 0) (-1)) ?_ ?_
  · have o1 : oR (zI B I) 1 8 13 8 = some 123 := by rw [oR_eq, x1, cond_true, k1]
    have o2 : oR (zI B I) 1 8 13 1 = some tw := by rw [oR_eq, x1, cond_true, x2]
    have o3 : zac (zI B I) 123 2 4 = true := by rw [zac_zI, k2]
    unfold f_X8_ask
    rw [nb1, cond_true, o1, Option.bind_some, o2, Option.bind_some, o3, cond_true, g1, Option.bind_some, c1, Option.bind_some, d1, Option.bind_some]
  · have o3 : zac (zI B I) 144 9 58 = true := by rw [zac_zI, y1]
    unfold f_X9_ask
    rw [nb144, cond_true, o3, cond_true, g2, Option.bind_some, c2, Option.bind_some, d2, Option.bind_some]
end ASK
