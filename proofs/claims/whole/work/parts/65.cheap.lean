/-! cheapest: the class's and the reference's costs -/
def enc (x : Nat) : Int32 := if x = BG then -1 else nI x
theorem enc_b {x : Nat} (h : x = BG) : enc x = -1 := by unfold enc; rw [if_pos h]
theorem enc_n {x : Nat} (h : x ≠ BG) : enc x = nI x := by unfold enc; rw [if_neg h]
theorem BGe : BG = 1000000 := rfl
theorem nI_m1 {v : Nat} (h : v < 2147483648) : ¬ nI v = -1 := fun q => by
  have h1 : ¬ nI v < 0 := nI_pos h
  rw [q] at h1
  exact h1 (by decide)
theorem enc_m {x : Nat} (h : x ≤ BG) : enc x = -1 ↔ x = BG := by
  have := BGe
  by_cases k : x = BG
  · exact ⟨fun _ => k, fun _ => enc_b k⟩
  · rw [enc_n k]
    exact ⟨fun q => absurd q (nI_m1 (by omega)), fun q => absurd q k⟩
theorem enc_e {x y : Nat} (h : x ≤ BG) (h2 : y ≤ BG) : enc x = enc y ↔ x = y := by
  have := BGe
  by_cases k : x = BG
  · rw [enc_b k]
    exact ⟨fun q => by rw [k, (enc_m h2).mp q.symm], fun q => (enc_b (by omega)).symm⟩
  · by_cases k2 : y = BG
    · rw [enc_b k2, enc_n k]
      exact ⟨fun q => absurd q (nI_m1 (by omega)), fun q => absurd (q.trans k2) k⟩
    · rw [enc_n k, enc_n k2]
      exact nI_eq (by omega) (by omega)
def AR (a : Nat) (g : Nat → Nat) (I : Nat → Nat → Int32) : Prop := ∀ u, u < 8 → I a u = enc (g u)
theorem AR.set {a v c : Nat} {g : Nat → Nat} {I : Nat → Nat → Int32} (h : AR a g I) : AR a (va_up g v c) (cu I a v (enc c)) := by
  intro u hu
  by_cases e : u = v
  · subst e; rw [cu_s, va_up, if_pos rfl]
  · rw [cu_o (Or.inr e), va_up, if_neg e]; exact h u hu
theorem AR.same {a v : Nat} {g : Nat → Nat} {I : Nat → Nat → Int32} (h : AR a g I) : AR a g (cu I a v (enc (g v))) := by
  intro u hu
  by_cases e : u = v
  · subst e; rw [cu_s]
  · rw [cu_o (Or.inr e)]; exact h u hu
theorem sm_fin {g : Nat → Nat} {S : Nat} (hg : gOk g) : ∀ m i, i + m ≤ 8 → sm (mg g S) m i < BG → sm (mg g S) m i ≤ 25344 * m := by
  intro m
  induction m with
  | zero => intro i _ _; exact Nat.zero_le _
  | succ m ih =>
    intro i hi h
    simp only [sm] at h ⊢
    have h1 := ih (i + 1) (by omega) (by omega)
    have h2 : mg g S i ≤ 25344 := by
      have h3 := gOk_le hg (u := i) (by omega)
      unfold mg at h ⊢
      split
      · rename_i q
        rw [if_pos q] at h
        omega
      · omega
    omega
theorem sm_1 {f : Nat → Nat} {m i : Nat} : sm f (m + 1) i = f i + sm f m (i + 1) := rfl
theorem sm_0 {f : Nat → Nat} {i : Nat} : sm f 0 i = 0 := rfl
theorem mg_t {g : Nat → Nat} {S i : Nat} (h : hasB S i = true) : mg g S i = g i := by unfold mg; rw [if_pos h]
theorem mg_f {g : Nat → Nat} {S i : Nat} (h : hasB S i = false) : mg g S i = 0 := by unfold mg; rw [h]; rfl
theorem cw_0 {g : Nat → Nat} {S : Nat} (h : S = 0) : cw g S = BG := by unfold cw; rw [if_pos h]
theorem cw_n {g : Nat → Nat} {S : Nat} (h : ¬ S = 0) : cw g S = if BG ≤ sm (mg g S) 8 0 then BG else sm (mg g S) 8 0 := by unfold cw; rw [if_neg h]
section CHE
variable {B : zM} {tw s u c np p v k S a : Nat} {T : Nat → Nat → Nat} {r g : Nat → Nat} {I : Nat → Nat → Int32} {x y z : Int32}
theorem GB.ch (h : GB B tw s u) : mR B 1 10 = 130 ∧ zlI B 130 = 8 ∧ zln B 10 130 = 8 ∧ mR B 144 34 = 162 ∧ zlI B 162 = 8 ∧ zln B 10 162 = 8 ∧ mR B tw 8 = tw + 2 ∧ zlI B (tw + 2) = 8 ∧ mR B 144 9 = 148 ∧ zlI B 148 = 8 ∧ mR B 144 11 = 150 ∧ zlI B 150 = 16 ∧ mR B 144 12 = 151 ∧ zln B 11 151 = 8 := by
  obtain ⟨hx, hy, ht, -⟩ := h
  exact ⟨by simp only [hx], by simp only [hx], by simp only [hx], by simp only [hy], by simp only [hy], by simp only [hy], by simp only [ht], by simp only [ht], by simp only [hy], by simp only [hy], by simp only [hy], by simp only [hy], by simp only [hy], by simp only [hy]⟩
theorem X_ct_lp (hB : GB B tw s u) (hg : gOk g) (ha : AR 130 g I) (hS : S < 1024) : ∀ m i n q, i + m = 8 → m < n → q ≤ 30000 * i → L_X8_cheapTogether_4 n 1 (nI S) (nI q) (nI i) (zI B I) = some (if BG ≤ sm (mg g S) m i then .inl (-1) else .inr (nI (q + sm (mg g S) m i))) := by
  obtain ⟨x1, -⟩ := hB.hx
  obtain ⟨k1, k2, k3, -⟩ := hB.ch
  have hBG := BGe
  intro m
  induction m with
  | zero =>
    intro i n q hi hn hq
    obtain ⟨n, rfl⟩ := Nat.exists_eq_succ_of_ne_zero (show n ≠ 0 by omega)
    have c1 : (8 : Int32) ≤ nI i := (nI_leI (a := 8) (by omega) (by omega)).mpr (by omega)
    simp only [L_X8_cheapTogether_4, if_pos c1]
    rw [sm_0, if_neg (by omega)]
    rfl
  | succ m ih =>
    intro i n q hi hn hq
    obtain ⟨n, rfl⟩ := Nat.exists_eq_succ_of_ne_zero (show n ≠ 0 by omega)
    have c1 : ¬ (8 : Int32) ≤ nI i := fun q => absurd ((nI_leI (a := 8) (by omega) (by omega)).mp q) (by omega)
    have e := nI_bit hS (show i < 8 by omega)
    have z0 := nI_z (v := S / 2 ^ i % 2) (by have := Nat.mod_lt (S / 2 ^ i) (show 2 > 0 by omega); omega)
    have a1 := aI_at (B := B) (I := I) (by omega) (by rw [k2]; omega) (ha i (by omega))
    have z1 := enc_m (hg.1 i)
    simp only [L_X8_cheapTogether_4, if_neg c1, e, z0, x1, k1, cond_true, oR_eq, Option.bind_some, a1, z1, nI_1]
    rw [sm_1]
    rcases Bool.eq_false_or_eq_true (hasB S i) with hb | hb
    · have hb2 := hasB_t hb
      rw [if_neg (by omega), mg_t hb]
      by_cases k : g i = BG
      · rw [if_pos k, if_pos (by omega)]
      · have hl := (gOk_le hg (u := i) (by omega)).resolve_left k
        have hf := sm_fin (S := S) hg m (i + 1) (by omega)
        rw [if_neg k, enc_n k, nI_add, ih (i + 1) n _ (by omega) (by omega) (by omega)]
        by_cases kk : BG ≤ sm (mg g S) m (i + 1)
        · rw [if_pos kk, if_pos (by omega)]
        · rw [if_neg kk, if_neg (by omega), Nat.add_assoc]
    · have hb2 := hasB_f hb
      rw [if_pos hb2, mg_f hb, Nat.zero_add]
      exact ih (i + 1) n q (by omega) (by omega) (by omega)
theorem X_ct (hB : GB B tw s u) (hg : gOk g) (ha : AR 130 g I) (hS : S < 1024) : f_X8_cheapTogether 1 (nI S) (zI B I) = some (enc (cw g S)) := by
  have e := X_ct_lp hB hg ha hS 8 0 zN 0 (by omega) (by unfold zN; omega) (by omega)
  rw [show nI 0 = (0 : Int32) from rfl, Nat.zero_add] at e
  have z0 := nI_z (v := S) (by omega)
  have hBG := BGe
  simp only [f_X8_cheapTogether, nb1, cond_true, e, z0]
  by_cases kS : S = 0
  · rw [cw_0 kS, enc_b rfl]
    by_cases k : BG ≤ sm (mg g S) 8 0
    · rw [if_pos k]; rfl
    · rw [if_neg k, bs_inr, if_pos kS]
  · rw [cw_n kS]
    by_cases k : BG ≤ sm (mg g S) 8 0
    · rw [if_pos k, if_pos k, enc_b rfl]; rfl
    · rw [if_neg k, if_neg k, enc_n (by omega), bs_inr, if_neg kS]
theorem ckB_0 : ckB T r p g v 0 = if rCan r p v = true then T 1 v else BG := by unfold ckB; rw [if_pos rfl]
theorem ckB_1 : ckB T r p g v 1 = if T 4 v = 0 then BG else 0 := by unfold ckB; rw [if_neg (by omega), if_pos rfl]
theorem ckB_2 (h : 2 ≤ k) : ckB T r p g v k = cw g (T 3 (2 * v + (k - 2))) := by unfold ckB; rw [if_neg (by omega), if_neg (by omega)]
theorem X_cost (hB : GB B tw s u) (hT : TI T) (hX : XT tw T I) (h : XS s r I) (hr : rI r) (hg : gOk g) (ha : AR 130 g I) (hp : p < 5) (hv : v < T 0 1) (hk : k < 4) : f_X8_costBy 1 (nI p) (nI v) (nI k) (zI B I) = some (enc (ckB T r p g v k)) := by
  obtain ⟨x1, x2, x3, x4, x5, -⟩ := hB.hx
  obtain ⟨k1, k2, k3, k4, k5, k6, k7, k8, -⟩ := hB.ch
  have hBG := BGe
  have b1 := hT.2.1
  have hw8 : v < 8 := by omega
  have z0 : nI k = 0 ↔ k = 0 := nI_eq (b := 0) (by omega) (by omega)
  have z1 : nI k = 1 ↔ k = 1 := nI_eq (b := 1) (by omega) (by omega)
  have g1 := X_canSay hB.2.2.2.2.2.1 h hr hp hw8
  have a1 := aI_at (B := B) (I := I) (by omega) (by rw [k8]; omega) (hX.2.1 v hv).1
  have bT := (hT.2.2.2.2.2.2.2.2.2 v hv).1
  have g2 := X_canPoint hB.2.2.1 hX hT hw8
  have b4 := hT.2.2.2.2.2.1 v
  have z4 := nI_z (v := T 4 v) (by omega)
  by_cases c0 : k = 0
  · subst c0
    rw [ckB_0]
    simp only [f_X8_costBy, nb1, x1, x2, x3, x4, x5, k7, cond_true, oR_eq, zac_zI, Option.bind_some, z0, if_pos, g1, a1]
    rcases Bool.eq_false_or_eq_true (rCan r p v) with hc | hc
    · rw [hc, if_pos rfl, if_neg ne10, if_pos rfl, enc_n (by omega)]
    · rw [hc, ite_f, if_pos rfl, if_neg (by decide), enc_b rfl]
  · by_cases c1 : k = 1
    · subst c1
      rw [ckB_1]
      simp only [f_X8_costBy, nb1, x1, x2, x3, x4, x5, k7, cond_true, oR_eq, zac_zI, Option.bind_some, z0, if_neg c0, z1, if_pos, g2, z4]
      by_cases h4 : T 4 v = 0
      · rw [if_pos h4, if_pos h4, enc_b rfl]
      · rw [if_neg h4, if_neg h4, enc_n (by omega)]; rfl
    · rw [ckB_2 (by omega)]
      have p2 : nI k - 2 = nI (k - 2) := by rw [nl2, nI_sb (by omega)]
      have g3 := X_wayRound (k := k - 2) hB.2.2.1 hX hw8 (by omega)
      have hS : T 3 (2 * v + (k - 2)) < 1024 := by have := hT.2.2.2.2.2.2.2.1 (2 * v + (k - 2)) (by omega); omega
      have g4 := X_ct hB hg ha hS
      simp only [f_X8_costBy, nb1, x1, x2, x3, x4, x5, cond_true, oR_eq, zac_zI, Option.bind_some, z0, if_neg c0, z1, if_neg c1, p2, g3, g4]
theorem Y_cw_m1 (hB : GB B tw s u) (hS : S < 1024) : ∀ m i n, i + m = 8 → m < n → L_X9_costOfWay_12 n 144 (nI S) (-1) (nI i) (zI B I) = some (-1) := by
  intro m
  induction m with
  | zero =>
    intro i n hi hn
    obtain ⟨n, rfl⟩ := Nat.exists_eq_succ_of_ne_zero (show n ≠ 0 by omega)
    have c1 : (8 : Int32) ≤ nI i := (nI_leI (a := 8) (by omega) (by omega)).mpr (by omega)
    simp only [L_X9_costOfWay_12, if_pos c1]
  | succ m ih =>
    intro i n hi hn
    obtain ⟨n, rfl⟩ := Nat.exists_eq_succ_of_ne_zero (show n ≠ 0 by omega)
    have c1 : ¬ (8 : Int32) ≤ nI i := fun q => absurd ((nI_leI (a := 8) (by omega) (by omega)).mp q) (by omega)
    have e := Y_has (M := zI B I) hS (show i < 8 by omega)
    have i1 := ih (i + 1) n (by omega) (by omega)
    simp only [L_X9_costOfWay_12, if_neg c1, e, Option.bind_some, nI_1, i1, if_pos]
    split <;> rfl
theorem Y_ct_lp (hB : GB B tw s u) (hg : gOk g) (ha : AR 162 g I) (hS : S < 1024) : ∀ m i n q, i + m = 8 → m < n → q ≤ 30000 * i → L_X9_costOfWay_12 n 144 (nI S) (nI q) (nI i) (zI B I) = some (if BG ≤ sm (mg g S) m i then -1 else nI (q + sm (mg g S) m i)) := by
  obtain ⟨y1, -⟩ := hB.hy'
  obtain ⟨-, -, -, k4, k5, k6, -⟩ := hB.ch
  have hBG := BGe
  intro m
  induction m with
  | zero =>
    intro i n q hi hn hq
    obtain ⟨n, rfl⟩ := Nat.exists_eq_succ_of_ne_zero (show n ≠ 0 by omega)
    have c1 : (8 : Int32) ≤ nI i := (nI_leI (a := 8) (by omega) (by omega)).mpr (by omega)
    simp only [L_X9_costOfWay_12, if_pos c1]
    rw [sm_0, if_neg (by omega)]
    rfl
  | succ m ih =>
    intro i n q hi hn hq
    obtain ⟨n, rfl⟩ := Nat.exists_eq_succ_of_ne_zero (show n ≠ 0 by omega)
    have c1 : ¬ (8 : Int32) ≤ nI i := fun q => absurd ((nI_leI (a := 8) (by omega) (by omega)).mp q) (by omega)
    have e := Y_has (M := zI B I) hS (show i < 8 by omega)
    have a1 := aI_at (B := B) (I := I) (by omega) (by rw [k5]; omega) (ha i (by omega))
    have z1 := enc_m (hg.1 i)
    have c2 : ¬ nI q = -1 := nI_m1 (by omega)
    have c3 := Y_cw_m1 (I := I) hB hS m (i + 1) n (by omega) (by omega)
    simp only [L_X9_costOfWay_12, if_neg c1, e, y1, k4, cond_true, oR_eq, Option.bind_some, if_neg c2, a1, z1, nI_1, c3]
    rw [sm_1]
    rcases Bool.eq_false_or_eq_true (hasB S i) with hb | hb
    · rw [hb, ite_t, if_neg ne10, mg_t hb]
      by_cases k : g i = BG
      · rw [if_pos k, if_pos (by omega)]
      · have hl := (gOk_le hg (u := i) (by omega)).resolve_left k
        have hf := sm_fin (S := S) hg m (i + 1) (by omega)
        rw [if_neg k, enc_n k, nI_add, ih (i + 1) n _ (by omega) (by omega) (by omega)]
        by_cases kk : BG ≤ sm (mg g S) m (i + 1)
        · rw [if_pos kk, if_pos (by omega)]
        · rw [if_neg kk, if_neg (by omega), Nat.add_assoc]
    · rw [hb, ite_f, if_pos rfl, mg_f hb, Nat.zero_add]
      exact ih (i + 1) n q (by omega) (by omega) (by omega)
theorem Y_ct (hB : GB B tw s u) (hg : gOk g) (ha : AR 162 g I) (hS : S < 1024) : f_X9_costOfWay 144 (nI S) (zI B I) = some (enc (cw g S)) := by
  have e := Y_ct_lp hB hg ha hS 8 0 zN 0 (by omega) (by unfold zN; omega) (by omega)
  have e2 := Y_cw_m1 (I := I) hB hS 8 0 zN (by omega) (by unfold zN; omega)
  rw [show nI 0 = (0 : Int32) from rfl, Nat.zero_add] at e
  rw [show nI 0 = (0 : Int32) from rfl] at e2
  have z0 := nI_z (v := S) (by omega)
  have hBG := BGe
  simp only [f_X9_costOfWay, nb144, cond_true, e, e2, z0, Option.bind_some]
  by_cases kS : S = 0
  · rw [cw_0 kS, enc_b rfl, if_pos kS]
  · rw [cw_n kS, if_neg kS]
    by_cases k : BG ≤ sm (mg g S) 8 0
    · rw [if_pos k, if_pos k, enc_b rfl]
    · rw [if_neg k, if_neg k, enc_n (by omega)]
theorem Y_cost (hB : GB B tw s u) (hT : TI T) (hX : YT T I) (h : YS 145 r I) (hr : rI r) (hg : gOk g) (ha : AR 162 g I) (hp : p < 5) (hv : v < T 0 1) (hk : k < 4) : f_X9_costBy 144 (nI p) (nI v) (nI k) (zI B I) = some (enc (ckB T r p g v k)) := by
  obtain ⟨y1, y2, -, -, -, -, -, y8, -⟩ := hB.hy'
  obtain ⟨-, -, -, -, -, -, -, -, k1, k2, k3, k4, k5, k6⟩ := hB.ch
  have hBG := BGe
  have b1 := hT.2.1
  have hw8 : v < 8 := by omega
  have z0 : nI k = 0 ↔ k = 0 := nI_eq (b := 0) (by omega) (by omega)
  have z1 : nI k = 1 ↔ k = 1 := nI_eq (b := 1) (by omega) (by omega)
  have g1 := Y_canSay y8 h hr hp hw8
  have a1 := aI_at (B := B) (I := I) (by omega) (by rw [k2]; omega) (hX.2.1 v hv).1
  have bT := (hT.2.2.2.2.2.2.2.2.2 v hv).1
  have a2 := aZ_at (B := B) (I := I) (by omega) (by rw [k6]; omega) (hX.2.2.2.1 v hw8)
  have b4 := hT.2.2.2.2.2.1 v
  have z4 := nI_z (v := T 4 v) (by omega)
  by_cases c0 : k = 0
  · subst c0
    rw [ckB_0]
    simp only [f_X9_costBy, nb144, y1, y2, k1, cond_true, oR_eq, zac_zI, Option.bind_some, z0, if_pos, g1, a1]
    rcases Bool.eq_false_or_eq_true (rCan r p v) with hc | hc
    · rw [hc, if_pos rfl, if_neg ne10, if_pos rfl, enc_n (by omega)]
    · rw [hc, ite_f, if_pos rfl, if_neg (by decide), enc_b rfl]
  · by_cases c1 : k = 1
    · subst c1
      rw [ckB_1]
      simp only [f_X9_costBy, nb144, y1, y2, k5, cond_true, oR_eq, zac_zI, Option.bind_some, z0, if_neg c0, z1, if_pos, a2, z4]
      by_cases h4 : T 4 v = 0
      · rw [if_pos h4, if_pos h4, enc_b rfl]
      · rw [if_neg h4, if_neg h4, enc_n (by omega)]; rfl
    · rw [ckB_2 (by omega)]
      have p2 : (2 : Int32) * nI v + nI k - 2 = nI (2 * v + (k - 2)) := by
        rw [nl2, pk_mul, nI_add, nI_sb (by omega)]
        congr 1
        omega
      have a3 := aI_at (B := B) (I := I) (by omega) (by rw [k4]; omega) (hX.2.2.1 (2 * v + (k - 2)) (by omega))
      have hS : T 3 (2 * v + (k - 2)) < 1024 := by have := hT.2.2.2.2.2.2.2.1 (2 * v + (k - 2)) (by omega); omega
      have g4 := Y_ct hB hg ha hS
      simp only [f_X9_costBy, nb144, y1, y2, k3, cond_true, oR_eq, zac_zI, Option.bind_some, z0, if_neg c0, z1, if_neg c1, p2, a3, g4]
end CHE
