/-! cheapest: sums, steps, the fixed point behind as many rounds as there are words -/
def BG : Nat := 1000000
def sm (f : Nat → Nat) : Nat → Nat → Nat
  | 0, _ => 0
  | m + 1, i => f i + sm f m (i + 1)
theorem sm_le {f g : Nat → Nat} : ∀ m i, (∀ j, i ≤ j → j < i + m → f j ≤ g j) → sm f m i ≤ sm g m i := by
  intro m
  induction m with
  | zero => intro i _; exact Nat.le_refl _
  | succ m ih =>
    intro i h
    have h1 := h i (by omega) (by omega)
    have h2 := ih (i + 1) (fun j a b => h j (by omega) (by omega))
    simp only [sm]
    omega
theorem sm_lt {f g : Nat → Nat} : ∀ m i, sm f m i < sm g m i → ∃ j, i ≤ j ∧ j < i + m ∧ f j < g j := by
  intro m
  induction m with
  | zero => intro i h; exact absurd h (Nat.lt_irrefl _)
  | succ m ih =>
    intro i h
    simp only [sm] at h
    by_cases h1 : f i < g i
    · exact ⟨i, by omega, by omega, h1⟩
    · obtain ⟨j, a, b, c⟩ := ih (i + 1) (by omega)
      exact ⟨j, by omega, by omega, c⟩
theorem sm_mem {f : Nat → Nat} {j : Nat} : ∀ m i, i ≤ j → j < i + m → f j ≤ sm f m i := by
  intro m
  induction m with
  | zero => intro i h1 h2; exact absurd h2 (by omega)
  | succ m ih =>
    intro i h1 h2
    simp only [sm]
    by_cases h : j = i
    · subst h; omega
    · have := ih (i + 1) (by omega) (by omega)
      omega
theorem sm_o {f : Nat → Nat} {j x : Nat} : ∀ m i, (j < i ∨ i + m ≤ j) → sm (va_up f j x) m i = sm f m i := by
  intro m
  induction m with
  | zero => intro i _; rfl
  | succ m ih =>
    intro i h
    simp only [sm]
    rw [ih (i + 1) (by omega), va_up, if_neg (by omega)]
theorem sm_up {f : Nat → Nat} {j x : Nat} : ∀ m i, i ≤ j → j < i + m → sm (va_up f j x) m i + f j = sm f m i + x := by
  intro m
  induction m with
  | zero => intro i h1 h2; exact absurd h2 (by omega)
  | succ m ih =>
    intro i h1 h2
    simp only [sm]
    by_cases h : j = i
    · subst h
      rw [sm_o m (j + 1) (by omega), va_up, if_pos rfl]
      omega
    · have := ih (i + 1) (by omega) (by omega)
      rw [va_up, if_neg (fun q => h q.symm)]
      omega
theorem sm_eq {f g : Nat → Nat} (m i : Nat) (h : ∀ j, i ≤ j → j < i + m → f j = g j) : sm f m i = sm g m i :=
  Nat.le_antisymm (sm_le m i (fun j a b => Nat.le_of_eq (h j a b))) (sm_le m i (fun j a b => Nat.le_of_eq (h j a b).symm))
/-- the members of a set -/
def mg (g : Nat → Nat) (S u : Nat) : Nat := if hasB S u = true then g u else 0
def cw (g : Nat → Nat) (S : Nat) : Nat := if S = 0 then BG else if BG ≤ sm (mg g S) 8 0 then BG else sm (mg g S) 8 0
def ckB (T : Nat → Nat → Nat) (r : Nat → Nat) (p : Nat) (g : Nat → Nat) (v k : Nat) : Nat := if k = 0 then (if rCan r p v = true then T 1 v else BG) else if k = 1 then (if T 4 v = 0 then BG else 0) else cw g (T 3 (2 * v + (k - 2)))
def up1 (g : Nat → Nat) (v c : Nat) : Nat → Nat := if c < g v then va_up g v c else g
def stp (T : Nat → Nat → Nat) (r : Nat → Nat) (p : Nat) (t : Nat) (g : Nat → Nat) : Nat → Nat := up1 g (t / 4 % T 0 1) (ckB T r p g (t / 4 % T 0 1) (t % 4))
theorem itr_add {σ : Type} (f : Nat → σ → σ) : ∀ a b i s, itr f (a + b) i s = itr f b (i + a) (itr f a i s) := by
  intro a
  induction a with
  | zero => intro b i s; rw [Nat.zero_add, Nat.add_zero]; rfl
  | succ a ih =>
    intro b i s
    rw [Nat.succ_add_eq_add_succ a b, Nat.add_succ]
    simp only [itr]
    rw [ih, show i + 1 + a = i + (a + 1) by omega]
/-- the state ahead of step t -/
def sta (T : Nat → Nat → Nat) (r : Nat → Nat) (p t : Nat) : Nat → Nat := itr (stp T r p) t 0 (fun _ => BG)
theorem sta_s (T : Nat → Nat → Nat) (r : Nat → Nat) (p t : Nat) : sta T r p (t + 1) = stp T r p t (sta T r p t) := by
  unfold sta
  rw [itr_add (stp T r p) t 1 0, Nat.zero_add]
  rfl
theorem up1_le {g : Nat → Nat} {v c u : Nat} : up1 g v c u ≤ g u := by
  unfold up1
  split
  · by_cases e : u = v
    · subst e; rw [va_up, if_pos rfl]; omega
    · rw [va_up, if_neg e]; exact Nat.le_refl _
  · exact Nat.le_refl _
theorem up1_c {g : Nat → Nat} {v c : Nat} : up1 g v c v ≤ c := by
  unfold up1
  split
  · rw [va_up, if_pos rfl]; exact Nat.le_refl _
  · omega
theorem up1_lt {g : Nat → Nat} {v c u : Nat} (h : up1 g v c u < g u) : u = v ∧ up1 g v c u = c := by
  unfold up1 at h ⊢
  by_cases k : c < g v
  · rw [if_pos k] at h ⊢
    by_cases e : u = v
    · subst e; exact ⟨rfl, by rw [va_up, if_pos rfl]⟩
    · rw [va_up, if_neg e] at h; exact absurd h (Nat.lt_irrefl _)
  · rw [if_neg k] at h; exact absurd h (Nat.lt_irrefl _)
section FIX
variable {T : Nat → Nat → Nat} {r : Nat → Nat} {p : Nat}
theorem sta_le1 {t u : Nat} : sta T r p (t + 1) u ≤ sta T r p t u := by
  rw [sta_s]
  exact up1_le
theorem sta_le {u : Nat} : ∀ d t, sta T r p (t + d) u ≤ sta T r p t u := by
  intro d
  induction d with
  | zero => intro t; exact Nat.le_refl _
  | succ d ih => intro t; exact Nat.le_trans (sta_le1 (t := t + d)) (ih t)
theorem sta_last {u : Nat} : ∀ d t, sta T r p (t + d) u < sta T r p t u → ∃ q, t ≤ q ∧ q < t + d ∧ sta T r p (q + 1) u < sta T r p q u ∧ sta T r p (q + 1) u = sta T r p (t + d) u := by
  intro d
  induction d with
  | zero => intro t h; exact absurd h (Nat.lt_irrefl _)
  | succ d ih =>
    intro t h
    by_cases k : sta T r p (t + d + 1) u < sta T r p (t + d) u
    · exact ⟨t + d, by omega, by omega, k, rfl⟩
    · have e : sta T r p (t + d + 1) u = sta T r p (t + d) u := Nat.le_antisymm (sta_le1) (Nat.le_of_not_lt k)
      have h : sta T r p (t + d + 1) u < sta T r p t u := h
      obtain ⟨q, q1, q2, q3, q4⟩ := ih t (by omega)
      exact ⟨q, q1, by omega, q3, by rw [q4]; exact e.symm⟩
theorem imp_w {t u : Nat} (hW : 0 < T 0 1) (h : sta T r p (t + 1) u < sta T r p t u) : u < T 0 1 ∧ u = t / 4 % T 0 1 ∧ sta T r p (t + 1) u = ckB T r p (sta T r p t) u (t % 4) := by
  rw [sta_s] at h ⊢
  unfold stp at h ⊢
  obtain ⟨h1, h2⟩ := up1_lt h
  refine ⟨by rw [h1]; exact Nat.mod_lt _ hW, h1, ?_⟩
  rw [h2, h1]
theorem imp_b {t u : Nat} (hW : 0 < T 0 1) (h : sta T r p (t + 4 * T 0 1 + 1) u < sta T r p (t + 4 * T 0 1) u) : ∃ w q, w < T 0 1 ∧ t ≤ q ∧ q < t + 4 * T 0 1 ∧ sta T r p (q + 1) w < sta T r p q w ∧ sta T r p (q + 1) w = sta T r p (t + 4 * T 0 1) w ∧ sta T r p (t + 4 * T 0 1) w ≤ sta T r p (t + 4 * T 0 1 + 1) u := by
  obtain ⟨h1, h2, h3⟩ := imp_w hW h
  have e1 : (t + 4 * T 0 1) / 4 = t / 4 + T 0 1 := by omega
  have e2 : (t + 4 * T 0 1) % 4 = t % 4 := by omega
  rw [e1, Nat.add_mod_right] at h2
  rw [e2] at h3
  have h4 : sta T r p (t + 1) u ≤ ckB T r p (sta T r p t) u (t % 4) := by
    rw [sta_s]
    unfold stp
    rw [← h2]
    exact up1_c
  have h5 : sta T r p (t + 4 * T 0 1) u ≤ sta T r p (t + 1) u := by
    have := sta_le (T := T) (r := r) (p := p) (u := u) (4 * T 0 1 - 1) (t + 1)
    rw [show t + 1 + (4 * T 0 1 - 1) = t + 4 * T 0 1 by omega] at this
    exact this
  rw [h3] at h
  have h6 : ckB T r p (sta T r p (t + 4 * T 0 1)) u (t % 4) < ckB T r p (sta T r p t) u (t % 4) := by omega
  rw [h3]
  unfold ckB at h6 ⊢
  by_cases k0 : t % 4 = 0
  · rw [if_pos k0, if_pos k0] at h6; exact absurd h6 (Nat.lt_irrefl _)
  · by_cases k1 : t % 4 = 1
    · rw [if_neg k0, if_pos k1, if_neg k0, if_pos k1] at h6; exact absurd h6 (Nat.lt_irrefl _)
    · rw [if_neg k0, if_neg k1] at h6 ⊢
      rw [if_neg k0, if_neg k1] at h6
      unfold cw at h6 ⊢
      by_cases kS : T 3 (2 * u + (t % 4 - 2)) = 0
      · rw [if_pos kS, if_pos kS] at h6; exact absurd h6 (Nat.lt_irrefl _)
      · rw [if_neg kS] at h6 ⊢
        rw [if_neg kS] at h6
        by_cases kB : BG ≤ sm (mg (sta T r p (t + 4 * T 0 1)) (T 3 (2 * u + (t % 4 - 2)))) 8 0
        · rw [if_pos kB] at h6
          split at h6 <;> omega
        · rw [if_neg kB] at h6 ⊢
          have h7 : sm (mg (sta T r p (t + 4 * T 0 1)) (T 3 (2 * u + (t % 4 - 2)))) 8 0 < sm (mg (sta T r p t) (T 3 (2 * u + (t % 4 - 2)))) 8 0 := by
            split at h6 <;> omega
          obtain ⟨w, w1, w2, w3⟩ := sm_lt 8 0 h7
          have w4 := sm_mem (f := mg (sta T r p (t + 4 * T 0 1)) (T 3 (2 * u + (t % 4 - 2)))) 8 0 w1 w2
          unfold mg at w3
          by_cases kh : hasB (T 3 (2 * u + (t % 4 - 2))) w = true
          · rw [if_pos kh, if_pos kh] at w3
            have w5 : mg (sta T r p (t + 4 * T 0 1)) (T 3 (2 * u + (t % 4 - 2))) w = sta T r p (t + 4 * T 0 1) w := by
              unfold mg
              rw [if_pos kh]
            rw [w5] at w4
            obtain ⟨q, q1, q2, q3, q4⟩ := sta_last (4 * T 0 1) t w3
            exact ⟨w, q, (imp_w hW q3).1, q1, q2, q3, q4, w4⟩
          · rw [if_neg kh, if_neg kh] at w3
            exact absurd w3 (Nat.lt_irrefl _)
theorem cf_lt {P Q : Nat → Bool} {n u : Nat} (h : ∀ j, P j = true → Q j = true) (hu : u < n) (h1 : P u = false) (h2 : Q u = true) : cf P n 0 + 1 ≤ cf Q n 0 := by
  have e1 := cf_add P (u + 1) (n - (u + 1)) 0
  have e2 := cf_add Q (u + 1) (n - (u + 1)) 0
  rw [Nat.add_sub_cancel' hu, cf_1, b01_f h1] at e1
  rw [Nat.add_sub_cancel' hu, cf_1, b01_t h2] at e2
  have a1 := cf_le (P := P) (Q := Q) u 0 (fun j _ _ => h j)
  have a2 := cf_le (P := P) (Q := Q) (n - (u + 1)) (0 + (u + 1)) (fun j _ _ => h j)
  omega
theorem imp_n (hW : 0 < T 0 1) : ∀ i t u, i * (4 * T 0 1) ≤ t → sta T r p (t + 1) u < sta T r p t u → i ≤ cf (fun w => decide (sta T r p t w ≤ sta T r p (t + 1) u)) (T 0 1) 0 := by
  intro i
  induction i with
  | zero => intro t u _ _; exact Nat.zero_le _
  | succ i ih =>
    intro t u ht h
    rw [Nat.succ_mul] at ht
    obtain ⟨t', rfl⟩ : ∃ t', t = t' + 4 * T 0 1 := ⟨t - 4 * T 0 1, by omega⟩
    obtain ⟨w, q, w1, q1, q2, q3, q4, q5⟩ := imp_b hW h
    have h1 := ih q w (by omega) q3
    refine Nat.le_trans (Nat.succ_le_succ h1) ?_
    refine cf_lt (u := w) (fun j hj => ?_) w1 (decide_eq_false (by omega)) (decide_eq_true q5)
    have hj := of_decide_eq_true hj
    refine decide_eq_true ?_
    have h2 := sta_le (T := T) (r := r) (p := p) (u := j) (t' + 4 * T 0 1 - q) q
    rw [Nat.add_sub_cancel' (Nat.le_of_lt q2)] at h2
    omega
theorem sta_fix {t : Nat} (hW : 0 < T 0 1) (ht : T 0 1 * (4 * T 0 1) ≤ t) : sta T r p (t + 1) = sta T r p t := by
  funext u
  refine Nat.le_antisymm sta_le1 (Nat.le_of_not_lt (fun h => ?_))
  have h1 := imp_n hW (T 0 1) t u ht h
  obtain ⟨h2, -⟩ := imp_w hW h
  have h3 := cf_lt (P := fun w => decide (sta T r p t w ≤ sta T r p (t + 1) u)) (Q := fun _ => true) (n := T 0 1) (u := u) (fun _ _ => rfl) h2 (decide_eq_false (by omega)) rfl
  have h4 := cf_lem (P := fun _ => true) (T 0 1) 0
  omega
theorem sta_fixs {t : Nat} (hW : 0 < T 0 1) (ht : T 0 1 * (4 * T 0 1) ≤ t) : ∀ d, sta T r p (t + d) = sta T r p t := by
  intro d
  induction d with
  | zero => rfl
  | succ d ih => rw [← ih]; exact sta_fix (t := t + d) hW (Nat.le_trans ht (Nat.le_add_right t d))
/-- no number grows too great -/
def fin (g : Nat → Nat) (u : Nat) : Nat := if g u = BG then 0 else g u
def gOk (g : Nat → Nat) : Prop := (∀ u, g u ≤ BG) ∧ sm (fin g) 8 0 + 99 ≤ 99 * 2 ^ cf (fun u => decide (g u ≠ BG)) 8 0
theorem gOk_le {g : Nat → Nat} (h : gOk g) {u : Nat} (hu : u < 8) : g u = BG ∨ g u ≤ 25344 := by
  by_cases e : g u = BG
  · exact Or.inl e
  · right
    have h1 := sm_mem (f := fin g) (j := u) 8 0 (Nat.zero_le _) (by omega)
    have h2 := cf_lem (P := fun u => decide (g u ≠ BG)) 8 0
    have h3 : 2 ^ cf (fun u => decide (g u ≠ BG)) 8 0 ≤ 2 ^ 8 := Nat.pow_le_pow_right (by omega) h2
    have h4 := h.2
    unfold fin at h1
    rw [if_neg e] at h1
    have h5 : sm (fin g) 8 0 = sm (fun u => if g u = BG then 0 else g u) 8 0 := rfl
    omega
theorem gOk_up {g : Nat → Nat} {v c : Nat} (h : gOk g) (hv : v < 8) (hc : c < g v → c ≤ 99 ∨ c ≤ sm (fin g) 8 0) : gOk (up1 g v c) := by
  unfold up1
  by_cases k : c < g v
  · rw [if_pos k]
    have hcb : c < BG := Nat.lt_of_lt_of_le k (h.1 v)
    have ef : fin (va_up g v c) = va_up (fin g) v c := by
      funext u
      unfold fin
      by_cases e : u = v
      · subst e; rw [va_up, if_pos rfl, va_up, if_pos rfl, if_neg (by omega)]
      · rw [va_up, if_neg e, va_up, if_neg e]
    refine ⟨fun u => ?_, ?_⟩
    · by_cases e : u = v
      · subst e; rw [va_up, if_pos rfl]; omega
      · rw [va_up, if_neg e]; exact h.1 u
    · have s1 := sm_up (f := fin g) (j := v) (x := c) 8 0 (Nat.zero_le _) (by omega)
      rw [ef]
      have hc' := hc k
      by_cases kb : g v = BG
      · have f0 : fin g v = 0 := by unfold fin; rw [if_pos kb]
        have c1 := cf_lt (P := fun u => decide (g u ≠ BG)) (Q := fun u => decide (va_up g v c u ≠ BG)) (n := 8) (u := v) (fun j hj => by
          have hj := of_decide_eq_true hj
          refine decide_eq_true ?_
          by_cases e : j = v
          · subst e; exact absurd kb hj
          · rw [va_up, if_neg e]; exact hj) hv (decide_eq_false (fun q => q kb)) (decide_eq_true (by rw [va_up, if_pos rfl]; omega))
        have p1 : 2 ^ (cf (fun u => decide (g u ≠ BG)) 8 0 + 1) ≤ 2 ^ cf (fun u => decide (va_up g v c u ≠ BG)) 8 0 := Nat.pow_le_pow_right (by omega) c1
        rw [Nat.pow_succ] at p1
        have := h.2
        omega
      · have f0 : fin g v = g v := by unfold fin; rw [if_neg kb]
        have c1 := cf_le (P := fun u => decide (g u ≠ BG)) (Q := fun u => decide (va_up g v c u ≠ BG)) 8 0 (fun j _ _ hj => by
          have hj := of_decide_eq_true hj
          refine decide_eq_true ?_
          by_cases e : j = v
          · subst e; rw [va_up, if_pos rfl]; omega
          · rw [va_up, if_neg e]; exact hj)
        have p1 : 2 ^ cf (fun u => decide (g u ≠ BG)) 8 0 ≤ 2 ^ cf (fun u => decide (va_up g v c u ≠ BG)) 8 0 := Nat.pow_le_pow_right (by omega) c1
        have := h.2
        omega
  · rw [if_neg k]; exact h
theorem ckB_ok {g : Nat → Nat} {v k : Nat} (hT : TI T) (h : gOk g) (hv : v < T 0 1) : ckB T r p g v k < g v → ckB T r p g v k ≤ 99 ∨ ckB T r p g v k ≤ sm (fin g) 8 0 := by
  intro hc
  have hb := h.1 v
  unfold ckB at hc ⊢
  by_cases k0 : k = 0
  · rw [if_pos k0] at hc ⊢
    have := (hT.2.2.2.2.2.2.2.2.2 v hv).1
    split at hc
    · left; rename_i q; rw [if_pos q]; exact this
    · omega
  · rw [if_neg k0] at hc ⊢
    by_cases k1 : k = 1
    · rw [if_pos k1] at hc ⊢
      split at hc
      · omega
      · left; rename_i q; rw [if_neg q]; exact Nat.zero_le _
    · rw [if_neg k1] at hc ⊢
      unfold cw at hc ⊢
      by_cases kS : T 3 (2 * v + (k - 2)) = 0
      · rw [if_pos kS] at hc; omega
      · rw [if_neg kS] at hc ⊢
        by_cases kB : BG ≤ sm (mg g (T 3 (2 * v + (k - 2)))) 8 0
        · rw [if_pos kB] at hc; omega
        · rw [if_neg kB]
          right
          refine sm_le 8 0 (fun j h1 h2 => ?_)
          have h3 := sm_mem (f := mg g (T 3 (2 * v + (k - 2)))) 8 0 h1 h2
          unfold mg at h3 ⊢
          by_cases kh : hasB (T 3 (2 * v + (k - 2))) j = true
          · rw [if_pos kh] at h3 ⊢
            have h4 : sm (mg g (T 3 (2 * v + (k - 2)))) 8 0 = sm (fun u => if hasB (T 3 (2 * v + (k - 2))) u = true then g u else 0) 8 0 := rfl
            unfold fin
            rw [if_neg (by omega)]
            exact Nat.le_refl _
          · rw [if_neg kh]; exact Nat.zero_le _
theorem gOk_stp {g : Nat → Nat} {t : Nat} (hT : TI T) (hW : 0 < T 0 1) (h : gOk g) : gOk (stp T r p t g) := by
  have hm := Nat.mod_lt (t / 4) hW
  exact gOk_up h (by have := hT.2.1; omega) (ckB_ok hT h hm)
theorem gOk_0 : gOk (fun _ => BG) := ⟨fun _ => Nat.le_refl _, by decide⟩
theorem ckB_le {g : Nat → Nat} {v k : Nat} (hT : TI T) (hv : v < T 0 1) : ckB T r p g v k ≤ BG := by
  have := (hT.2.2.2.2.2.2.2.2.2 v hv).1
  have e : BG = 1000000 := rfl
  unfold ckB
  split
  · split <;> omega
  · split
    · split <;> omega
    · unfold cw
      split
      · exact Nat.le_refl _
      · split <;> omega
end FIX
