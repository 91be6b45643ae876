/-! the relation between class and reference -/
def rH (np : Nat) (r : Nat → Nat) : Prop := ∀ p w, np ≤ p → p < 5 → w < 8 → r (29 + (8 * p + w)) = 0
def rB (np c : Nat) (r : Nat → Nat) : Prop := rI r ∧ r 0 ≤ 9060 ∧ r 1 ≤ 480 * c ∧ rH np r
theorem rB.mono {np c d : Nat} {r : Nat → Nat} (h : rB np c r) (hcd : c ≤ d) : rB np d r := ⟨h.1, h.2.1, Nat.le_trans h.2.2.1 (Nat.mul_le_mul_left _ hcd), h.2.2.2⟩
def nz (f : Nat → Nat) : Nat → Nat → Nat
  | 0, _ => 0
  | m + 1, i => (if f i = 0 then 0 else 1) + nz f m (i + 1)
/-- cells changed: A i j; all else the same -/
def Fp (A : Nat → Nat → Prop) (I I' : Nat → Nat → Int32) : Prop := ∀ i j, ¬ A i j → I' i j = I i j
theorem Fr.fp {a b : Nat} {I I' : Nat → Nat → Int32} (h : Fr a b I I') : Fp (fun i _ => a ≤ i ∧ i ≤ b) I I' := fun i j hn => by rw [h i (by omega)]
theorem Fp.tr {A C : Nat → Nat → Prop} {I J K : Nat → Nat → Int32} (h : Fp A I J) (h2 : Fp C J K) : Fp (fun i j => A i j ∨ C i j) I K := fun i j hn => (h2 i j (fun q => hn (Or.inr q))).trans (h i j (fun q => hn (Or.inl q)))
theorem Fp.rf {A : Nat → Nat → Prop} {I : Nat → Nat → Int32} : Fp A I I := fun _ _ _ => rfl
theorem Fp.up {i j : Nat} {I : Nat → Nat → Int32} {x : Int32} : Fp (fun a k => a = i ∧ k = j) I (va_up I i (upd (I i) j x)) := by
  intro a k hn
  by_cases e : a = i
  · subst e
    have : k ≠ j := fun q => hn ⟨rfl, q⟩
    simp [va_up, upd, this]
  · simp [va_up, e]
def GB (B : zM) (tw s u : Nat) : Prop := isX B ∧ isY B ∧ isTw B tw ∧ mR B 1 1 = tw ∧ (tw = 4 ∨ tw = 13) ∧ isSt B s ∧ mR B 1 3 = s ∧ s = 22 ∧ isSt B u ∧ mR B 1 4 = u ∧ u = 27 ∧ (∀ j, j < 16 → isSt B (34 + 5 * j)) ∧ (∀ I j, j < 16 → aQ (zI B I) 33 13 (nI j) = some (34 + 5 * j)) ∧ isSt B 133 ∧ isSt B 139 ∧ (∀ I, aQ (zI B I) 114 12 (nI 0) = some 132) ∧ (∀ I, aQ (zI B I) 114 12 (nI 1) = some 138) ∧ mR B 132 0 = 133 ∧ mR B 138 0 = 139 ∧ isTw B (17 - tw) ∧ mR B 1 2 = 17 - tw
def gT (tw : Nat) (T : Nat → Nat → Nat) (I : Nat → Nat → Int32) : Prop := TI T ∧ ((T 0 0 = 0 → T 0 1 = 0 ∧ T 0 2 = 0) ∧ T 0 4 = nz (T 3) 16 0) ∧ XT tw T I ∧ YT T I
def gN (s np c : Nat) (r : Nat → Nat) (I : Nat → Nat → Int32) : Prop := XS s r I ∧ YS 145 r I ∧ rB np c r
def gP (np c pa pn : Nat) (P : Nat → Nat → Nat) (I : Nat → Nat → Int32) : Prop := pa ≤ 16 ∧ pn < 16 ∧ I 32 1 = nI pn ∧ I 32 2 = nI pa ∧ I 144 3 = nI pa ∧ ∀ j, j < pa → XS (34 + 5 * ((pn + 16 - pa + j) % 16)) (P j) I ∧ (∀ k, k < 69 → I 147 (69 * j + k) = nI (P j k)) ∧ rB np c (P j)
def gI (np c : Nat) (kf : Nat → Nat) (K : Nat → Nat → Nat) (I : Nat → Nat → Int32) : Prop := (I 132 2 = nI (kf 0) ∧ I 138 2 = nI (kf 1)) ∧ (∀ i, i < 2 → kf i ≤ 1 ∧ I 176 i = nI (kf i) ∧ (kf i = 1 → XS (133 + 6 * i) (K i) I ∧ (∀ k, k < 69 → I 177 (69 * i + k) = nI (K i k)) ∧ rB np c (K i) ∧ ∃ v, v < 2147483648 ∧ I (132 + 6 * i) 1 = nI v ∧ I 178 i = nI v))
def gX (tl : Nat) (X : Nat → Nat) (I : Nat → Nat → Int32) : Prop := tl ≤ 240 ∧ I 2 1 = nI tl ∧ I 144 16 = nI tl ∧ (∀ j, j < tl → I 3 j = nI (X j) ∧ I 154 j = nI (X j) ∧ X j ≤ 255) ∧ I 2 3 = I 144 20
def gK (T : Nat → Nat → Nat) (kn : Nat) (kw kd kb : Nat → Nat) (I : Nat → Nat → Int32) : Prop := kn ≤ 6 ∧ I 123 3 = nI kn ∧ I 144 48 = nI kn ∧ ∀ j, j < kn → (I 124 j = nI (kw j) ∧ I 171 j = nI (kw j) ∧ kw j < T 0 1) ∧ (I 125 j = nI (kd j) ∧ I 172 j = nI (kd j) ∧ kd j < 99) ∧ (I 126 j = nI (kb j) ∧ I 173 j = nI (kb j) ∧ kb j ≤ 1)
def gB (T : Nat → Nat → Nat) (en : Nat) (ew el : Nat → Nat) (I : Nat → Nat → Int32) : Prop := en ≤ 15 ∧ I 127 2 = nI en ∧ I 144 52 = nI en ∧ ∀ j, j < en → (I 128 j = nI (ew j) ∧ I 174 j = nI (ew j) ∧ ew j < T 0 1) ∧ (I 129 j = nI (el j) ∧ I 175 j = nI (el j) ∧ el j ≤ 99)
def gS (sd : Nat) (I : Nat → Nat → Int32) : Prop := sd < 2147483648 ∧ I 1 12 = nI sd ∧ I 144 4 = nI sd
def cT (tw i j : Nat) : Prop := (tw ≤ i ∧ i ≤ tw + 8) ∨ (i = 144 ∧ 5 ≤ j ∧ j ≤ 8) ∨ (148 ≤ i ∧ i ≤ 153)
def cN (s i : Nat) : Prop := (s ≤ i ∧ i ≤ s + 4) ∨ i = 145
def cP' (i j : Nat) : Prop := (i = 32 ∧ 1 ≤ j) ∨ (34 ≤ i ∧ i ≤ 113) ∨ (i = 144 ∧ j = 3) ∨ i = 147
def cI (i : Nat) : Prop := (132 ≤ i ∧ i ≤ 143) ∨ (176 ≤ i ∧ i ≤ 178)
def cX (i j : Nat) : Prop := (i = 2 ∧ (j = 1 ∨ j = 3)) ∨ i = 3 ∨ (i = 144 ∧ (j = 16 ∨ j = 20)) ∨ i = 154
def cK (i j : Nat) : Prop := (123 ≤ i ∧ i ≤ 126) ∨ (i = 144 ∧ j = 48) ∨ (171 ≤ i ∧ i ≤ 173)
def cB (i j : Nat) : Prop := (127 ≤ i ∧ i ≤ 129) ∨ (i = 144 ∧ j = 52) ∨ (174 ≤ i ∧ i ≤ 175)
def cS (i j : Nat) : Prop := (i = 1 ∧ j = 12) ∨ (i = 144 ∧ j = 4)
section GFR
variable {I I' : Nat → Nat → Int32}
theorem XS.fp {s : Nat} {r : Nat → Nat} (h : XS s r I) (hf : ∀ i j, s ≤ i → i ≤ s + 4 → I' i j = I i j) : XS s r I' := by
  intro k hk
  rw [hf (zxi s k) _ (by unfold zxi; repeat' split
                         all_goals omega) (by unfold zxi; repeat' split
                                              all_goals omega)]
  exact h k hk
theorem gT.fr {tw : Nat} {T : Nat → Nat → Nat} (h : gT tw T I) (hf : ∀ i j, cT tw i j → I' i j = I i j) : gT tw T I' := by
  obtain ⟨h1, h2, ⟨⟨a0, a1, a2, a3, a4, a5, a6⟩, a7, a8, a9⟩, ⟨b1, b2, b3, b4⟩, b5, b6, b7, b8, b9⟩ := h
  have e : ∀ i j, tw ≤ i → i ≤ tw + 8 → I' i j = I i j := fun i j x y => hf i j (Or.inl ⟨x, y⟩)
  have e4 : ∀ j, 5 ≤ j → j ≤ 8 → I' 144 j = I 144 j := fun j x y => hf _ _ (Or.inr (Or.inl ⟨rfl, x, y⟩))
  have e5 : ∀ i j, 148 ≤ i → i ≤ 153 → I' i j = I i j := fun i j x y => hf _ _ (Or.inr (Or.inr ⟨x, y⟩))
  refine ⟨h1, h2, ⟨⟨?_, ?_, ?_, ?_, ?_, ?_, ?_⟩, fun w hw => ?_, fun k hk => ?_, fun n hn => ?_⟩, ⟨?_, ?_, ?_, ?_⟩, fun w hw => ?_, fun k hk => ?_, fun w hw => ?_, fun p hp => ?_, fun n hn => ?_⟩
  · rw [e _ _ (by omega) (by omega)]; exact a0
  · rw [e _ _ (by omega) (by omega)]; exact a1
  · rw [e _ _ (by omega) (by omega)]; exact a2
  · rw [e _ _ (by omega) (by omega)]; exact a3
  · rw [e _ _ (by omega) (by omega)]; exact a4
  · rw [e _ _ (by omega) (by omega)]; exact a5
  · rw [e _ _ (by omega) (by omega)]; exact a6
  · rw [e _ _ (by omega) (by omega), e _ _ (by omega) (by omega)]; exact a7 w hw
  · rw [e _ _ (by omega) (by omega)]; exact a8 k hk
  · rw [e _ _ (by omega) (by omega), e _ _ (by omega) (by omega), e _ _ (by omega) (by omega), e _ _ (by omega) (by omega)]; exact a9 n hn
  · rw [e4 _ (by omega) (by omega)]; exact b1
  · rw [e4 _ (by omega) (by omega)]; exact b2
  · rw [e4 _ (by omega) (by omega)]; exact b3
  · rw [e4 _ (by omega) (by omega)]; exact b4
  · rw [e5 _ _ (by omega) (by omega), e5 _ _ (by omega) (by omega)]; exact b5 w hw
  · rw [e5 _ _ (by omega) (by omega)]; exact b6 k hk
  · rw [e5 _ _ (by omega) (by omega)]; exact b7 w hw
  · rw [e5 _ _ (by omega) (by omega)]; exact b8 p hp
  · rw [e5 _ _ (by omega) (by omega), e5 _ _ (by omega) (by omega), e5 _ _ (by omega) (by omega), e5 _ _ (by omega) (by omega)]; exact b9 n hn
theorem gN.fr {s np c : Nat} {r : Nat → Nat} (h : gN s np c r I) (hf : ∀ i j, cN s i → I' i j = I i j) : gN s np c r I' :=
  ⟨h.1.fp (fun i j x y => hf i j (Or.inl ⟨x, y⟩)), fun k hk => by rw [hf 145 k (Or.inr rfl)]; exact h.2.1 k hk, h.2.2⟩
theorem gP.fr {np c pa pn : Nat} {P : Nat → Nat → Nat} (h : gP np c pa pn P I) (hf : ∀ i j, cP' i j → I' i j = I i j) : gP np c pa pn P I' := by
  obtain ⟨h1, h2, h3, h4, h5, h6⟩ := h
  refine ⟨h1, h2, by rw [hf _ _ (Or.inl ⟨rfl, by omega⟩)]; exact h3, by rw [hf _ _ (Or.inl ⟨rfl, by omega⟩)]; exact h4, by rw [hf _ _ (Or.inr (Or.inr (Or.inl ⟨rfl, rfl⟩)))]; exact h5, fun j hj => ?_⟩
  obtain ⟨a, b, d⟩ := h6 j hj
  refine ⟨a.fp (fun i k x y => hf i k (Or.inr (Or.inl ⟨by omega, by omega⟩))), fun k hk => ?_, d⟩
  rw [hf 147 _ (Or.inr (Or.inr (Or.inr rfl)))]
  exact b k hk
theorem gI.fr {np c : Nat} {kf : Nat → Nat} {K : Nat → Nat → Nat} (h : gI np c kf K I) (hf : ∀ i j, cI i → I' i j = I i j) : gI np c kf K I' := by
  obtain ⟨⟨h1, h2⟩, h3⟩ := h
  refine ⟨⟨by rw [hf _ _ (Or.inl ⟨by omega, by omega⟩)]; exact h1, by rw [hf _ _ (Or.inl ⟨by omega, by omega⟩)]; exact h2⟩, fun i hi => ?_⟩
  obtain ⟨a, b, d⟩ := h3 i hi
  refine ⟨a, by rw [hf _ _ (Or.inr ⟨by omega, by omega⟩)]; exact b, fun hk => ?_⟩
  obtain ⟨x, y, z, v, e1, e2, e3⟩ := d hk
  refine ⟨x.fp (fun i k x y => hf i k (Or.inl ⟨by omega, by omega⟩)), fun k hk => by rw [hf _ _ (Or.inr ⟨by omega, by omega⟩)]; exact y k hk, z, v, e1, by rw [hf _ _ (Or.inl ⟨by omega, by omega⟩)]; exact e2, by rw [hf _ _ (Or.inr ⟨by omega, by omega⟩)]; exact e3⟩
theorem gX.fr {tl : Nat} {X : Nat → Nat} (h : gX tl X I) (hf : ∀ i j, cX i j → I' i j = I i j) : gX tl X I' := by
  obtain ⟨h1, h2, h3, h4, h5⟩ := h
  refine ⟨h1, by rw [hf _ _ (Or.inl ⟨rfl, Or.inl rfl⟩)]; exact h2, by rw [hf _ _ (Or.inr (Or.inr (Or.inl ⟨rfl, Or.inl rfl⟩)))]; exact h3, fun j hj => ?_, by rw [hf 2 3 (Or.inl ⟨rfl, Or.inr rfl⟩), hf 144 20 (Or.inr (Or.inr (Or.inl ⟨rfl, Or.inr rfl⟩)))]; exact h5⟩
  rw [hf 3 j (Or.inr (Or.inl rfl)), hf 154 j (Or.inr (Or.inr (Or.inr rfl)))]
  exact h4 j hj
theorem gK.fr {T : Nat → Nat → Nat} {kn : Nat} {kw kd kb : Nat → Nat} (h : gK T kn kw kd kb I) (hf : ∀ i j, cK i j → I' i j = I i j) : gK T kn kw kd kb I' := by
  obtain ⟨h1, h2, h3, h4⟩ := h
  refine ⟨h1, by rw [hf _ _ (Or.inl ⟨by omega, by omega⟩)]; exact h2, by rw [hf _ _ (Or.inr (Or.inl ⟨rfl, rfl⟩))]; exact h3, fun j hj => ?_⟩
  rw [hf 124 j (Or.inl ⟨by omega, by omega⟩), hf 125 j (Or.inl ⟨by omega, by omega⟩), hf 126 j (Or.inl ⟨by omega, by omega⟩), hf 171 j (Or.inr (Or.inr ⟨by omega, by omega⟩)), hf 172 j (Or.inr (Or.inr ⟨by omega, by omega⟩)), hf 173 j (Or.inr (Or.inr ⟨by omega, by omega⟩))]
  exact h4 j hj
theorem gB.fr {T : Nat → Nat → Nat} {en : Nat} {ew el : Nat → Nat} (h : gB T en ew el I) (hf : ∀ i j, cB i j → I' i j = I i j) : gB T en ew el I' := by
  obtain ⟨h1, h2, h3, h4⟩ := h
  refine ⟨h1, by rw [hf _ _ (Or.inl ⟨by omega, by omega⟩)]; exact h2, by rw [hf _ _ (Or.inr (Or.inl ⟨rfl, rfl⟩))]; exact h3, fun j hj => ?_⟩
  rw [hf 128 j (Or.inl ⟨by omega, by omega⟩), hf 129 j (Or.inl ⟨by omega, by omega⟩), hf 174 j (Or.inr (Or.inr ⟨by omega, by omega⟩)), hf 175 j (Or.inr (Or.inr ⟨by omega, by omega⟩))]
  exact h4 j hj
theorem gS.fr {sd : Nat} (h : gS sd I) (hf : ∀ i j, cS i j → I' i j = I i j) : gS sd I' := ⟨h.1, by rw [hf _ _ (Or.inl ⟨rfl, rfl⟩)]; exact h.2.1, by rw [hf _ _ (Or.inr ⟨rfl, rfl⟩)]; exact h.2.2⟩
end GFR
/-- class and reference stand alike, after c calls -/
def CR (B : zM) (I : Nat → Nat → Int32) (c : Nat) : Prop := ∃ (tw s u : Nat) (T : Nat → Nat → Nat) (r : Nat → Nat) (pa pn : Nat) (P : Nat → Nat → Nat) (kf : Nat → Nat) (K : Nat → Nat → Nat) (tl : Nat) (X : Nat → Nat) (kn : Nat) (kw kd kb : Nat → Nat) (en : Nat) (ew el : Nat → Nat) (sd : Nat),
  GB B tw s u ∧ gT tw T I ∧ gN s (T 0 2) c r I ∧ gP (T 0 2) c pa pn P I ∧ gI (T 0 2) c kf K I ∧ gX tl X I ∧ gK T kn kw kd kb I ∧ gB T en ew el I ∧ gS sd I
theorem gN.mono {s np c d : Nat} {r : Nat → Nat} {I : Nat → Nat → Int32} (h : gN s np c r I) (hcd : c ≤ d) : gN s np d r I := ⟨h.1, h.2.1, h.2.2.mono hcd⟩
theorem gP.mono {np c d pa pn : Nat} {P : Nat → Nat → Nat} {I : Nat → Nat → Int32} (h : gP np c pa pn P I) (hcd : c ≤ d) : gP np d pa pn P I := ⟨h.1, h.2.1, h.2.2.1, h.2.2.2.1, h.2.2.2.2.1, fun j hj => ⟨(h.2.2.2.2.2 j hj).1, (h.2.2.2.2.2 j hj).2.1, (h.2.2.2.2.2 j hj).2.2.mono hcd⟩⟩
theorem gI.mono {np c d : Nat} {kf : Nat → Nat} {K : Nat → Nat → Nat} {I : Nat → Nat → Int32} (h : gI np c kf K I) (hcd : c ≤ d) : gI np d kf K I := ⟨h.1, fun i hi => ⟨(h.2 i hi).1, (h.2 i hi).2.1, fun hk => ⟨((h.2 i hi).2.2 hk).1, ((h.2 i hi).2.2 hk).2.1, ((h.2 i hi).2.2 hk).2.2.1.mono hcd, ((h.2 i hi).2.2 hk).2.2.2⟩⟩⟩
theorem CR.up {B : zM} {I : Nat → Nat → Int32} {c d : Nat} (h : CR B I c) (hcd : c ≤ d) : CR B I d := by
  obtain ⟨tw, s, u, T, r, pa, pn, P, kf, K, tl, X, kn, kw, kd, kb, en, ew, el, sd, hB, hT, hN, hP, hI, hX, hK, hBk, hS⟩ := h
  exact ⟨tw, s, u, T, r, pa, pn, P, kf, K, tl, X, kn, kw, kd, kb, en, ew, el, sd, hB, hT, hN.mono hcd, hP.mono hcd, hI.mono hcd, hX, hK, hBk, hS⟩
/-- a number is one of the first n -/
def wd (x : Int32) (n : Nat) : Bool := decide (0 ≤ x.toInt ∧ x.toInt < n)
theorem wd_t {x : Int32} {n : Nat} (h : wd x n = true) (hn : n < 2147483648) : ∃ j, j < n ∧ x = nI j := by
  simp only [wd, decide_eq_true_eq] at h
  refine ⟨x.toInt.toNat, by omega, Int32.toInt_inj.mp ?_⟩
  rw [nI_toInt (by omega)]
  omega
theorem wd_nI {j n : Nat} (hj : j < 2147483648) : wd (nI j) n = decide (j < n) := by
  unfold wd
  rw [nI_toInt hj]
  apply decide_eq_decide.mpr
  omega
theorem x_wd {x : Int32} {n : Nat} (hn : n < 2147483648) : (if x < 0 then some (0 : Int32) else if nI n ≤ x then some 0 else some 1) = some (if wd x n then 1 else 0) := by
  have e0 : (0 : Int32).toInt = 0 := rfl
  by_cases h : wd x n = true
  · rw [if_pos h]
    simp only [wd, decide_eq_true_eq] at h
    rw [if_neg (by rw [Int32.lt_iff_toInt_lt, e0]; omega), if_neg (by rw [Int32.le_iff_toInt_le, nI_toInt hn]; omega)]
  · rw [if_neg h]
    simp only [wd, decide_eq_true_eq] at h
    by_cases h1 : x < 0
    · rw [if_pos h1]
    · rw [Int32.lt_iff_toInt_lt, e0] at h1
      rw [if_neg (by rw [Int32.lt_iff_toInt_lt, e0]; omega), if_pos (by rw [Int32.le_iff_toInt_le, nI_toInt hn]; omega)]
theorem nI_sb {a b : Nat} (h : b ≤ a) : nI a - nI b = nI (a - b) := by
  have e : nI a = nI (a - b) + nI b := by rw [nI_add, Nat.sub_add_cancel h]
  rw [e, Int32.add_sub_cancel]
theorem i64_lt (a b : Int32) : a.toInt64 < b.toInt64 ↔ a.toInt < b.toInt := by
  rw [Int64.lt_iff_toInt_lt]; simp
theorem i64_eq (a b : Int32) : a.toInt64 = b.toInt64 ↔ a.toInt = b.toInt := by
  rw [← Int64.toInt_inj]; simp
theorem lg_neg {a b : Int32} : lg_cmp a.toInt64 b.toInt64 < 0 ↔ a.toInt < b.toInt := by
  unfold lg_cmp
  have h1 := i64_lt a b
  have h2 := i64_lt b a
  have h3 := i64_eq a b
  split
  · rename_i h
    have h : b.toInt < a.toInt := h2.mp h
    constructor
    · intro q
      exact absurd q (by decide)
    · intro q
      omega
  · split
    · rename_i h
      have h : a.toInt = b.toInt := h3.mp h
      constructor
      · intro q
        exact absurd q (by decide)
      · intro q
        omega
    · rename_i ha hb
      have z1 : ¬ b.toInt < a.toInt := fun q => ha (h2.mpr q)
      have z2 : ¬ a.toInt = b.toInt := fun q => hb (h3.mpr q)
      constructor
      · intro q
        omega
      · intro q
        decide
theorem lg_pos {a b : Int32} : 0 < lg_cmp a.toInt64 b.toInt64 ↔ b.toInt < a.toInt := by
  unfold lg_cmp
  have h1 := i64_lt a b
  have h2 := i64_lt b a
  have h3 := i64_eq a b
  split
  · rename_i h
    have h : b.toInt < a.toInt := h2.mp h
    constructor
    · intro q
      omega
    · intro q
      decide
  · split
    · rename_i h
      have h : a.toInt = b.toInt := h3.mp h
      constructor
      · intro q
        exact absurd q (by decide)
      · intro q
        omega
    · rename_i ha hb
      have z1 : ¬ b.toInt < a.toInt := fun q => ha (h2.mpr q)
      constructor
      · intro q
        exact absurd q (by decide)
      · intro q
        omega
theorem Y_in {x y z : Int32} {M : zM} : f_X9_in x.toInt64 y.toInt64 z.toInt64 M = some (if y.toInt ≤ x.toInt ∧ x.toInt ≤ z.toInt then 1 else 0) := by
  unfold f_X9_in
  by_cases h : y.toInt ≤ x.toInt ∧ x.toInt ≤ z.toInt
  · rw [if_pos h, if_neg (by rw [lg_neg]; omega), if_neg (by rw [lg_pos]; omega)]
  · rw [if_neg h]
    by_cases h1 : x.toInt < y.toInt
    · rw [if_pos (by rw [lg_neg]; omega)]
    · rw [if_neg (by rw [lg_neg]; omega), if_pos (by rw [lg_pos]; omega)]
/-- x stands from a to b -/
def btw (x : Int32) (a b : Nat) : Bool := decide ((a : Int) ≤ x.toInt ∧ x.toInt ≤ b)
theorem Y_btw {x : Int32} {a b : Nat} {y z : Int64} {M : zM} (hy : y = (nI a).toInt64) (hz : z = (nI b).toInt64) (ha : a < 2147483648) (hb : b < 2147483648) : f_X9_in x.toInt64 y z M = some (if btw x a b then 1 else 0) := by
  rw [hy, hz, Y_in, nI_toInt ha, nI_toInt hb]
  unfold btw
  simp only [decide_eq_true_eq]
theorem btw_t {x : Int32} {a b : Nat} (h : btw x a b = true) (hb : b < 2147483648) : ∃ j, a ≤ j ∧ j ≤ b ∧ x = nI j := by
  simp only [btw, decide_eq_true_eq] at h
  refine ⟨x.toInt.toNat, by omega, by omega, Int32.toInt_inj.mp ?_⟩
  rw [nI_toInt (by omega)]
  omega
theorem Y_wd {x : Int32} {n : Nat} {M : zM} (hn : n < 2147483648) : f_X9_in x.toInt64 0 (nI n - 1).toInt64 M = some (if wd x n then 1 else 0) := by
  have e0 : (0 : Int64) = (0 : Int32).toInt64 := rfl
  have ez : (0 : Int32).toInt = 0 := rfl
  rw [e0, Y_in, ez]
  by_cases h0 : n = 0
  · subst h0
    have e1 : (nI 0 - 1).toInt = -1 := rfl
    rw [e1, if_neg (by omega)]
    have : wd x 0 = false := by
      simp only [wd, decide_eq_false_iff_not]
      omega
    rw [this]; rfl
  · have e1 : nI n - 1 = nI (n - 1) := by rw [nl1, nI_sb (by omega)]
    rw [e1, nI_toInt (by omega)]
    by_cases h : wd x n = true
    · rw [if_pos h]
      simp only [wd, decide_eq_true_eq] at h
      rw [if_pos (by omega)]
    · rw [if_neg h]
      simp only [wd, decide_eq_true_eq] at h
      rw [if_neg (by omega)]
theorem x_btw {α : Type} {x : Int32} {a b : Nat} {u v : α} (ha : a < 2147483648) (hb : b < 2147483648) : (if x < nI a then u else if nI b < x then u else v) = if btw x a b then v else u := by
  by_cases h : btw x a b = true
  · rw [if_pos h]
    simp only [btw, decide_eq_true_eq] at h
    rw [if_neg (by rw [Int32.lt_iff_toInt_lt, nI_toInt ha]; omega), if_neg (by rw [Int32.lt_iff_toInt_lt, nI_toInt hb]; omega)]
  · rw [if_neg h]
    simp only [btw, decide_eq_true_eq] at h
    by_cases h1 : x < nI a
    · rw [if_pos h1]
    · rw [Int32.lt_iff_toInt_lt, nI_toInt ha] at h1
      rw [if_neg (by rw [Int32.lt_iff_toInt_lt, nI_toInt ha]; omega), if_pos (by rw [Int32.lt_iff_toInt_lt, nI_toInt hb]; omega)]
theorem x_btw' {α : Type} {x : Int32} {a b : Nat} {u v : α} (ha : a < 2147483648) (hb : b < 2147483648) : (if x < nI a then u else if x ≤ nI b then v else u) = if btw x a b then v else u := by
  rw [← x_btw ha hb]
  by_cases h1 : x < nI a
  · rw [if_pos h1, if_pos h1]
  · rw [if_neg h1, if_neg h1]
    by_cases h2 : nI b < x
    · rw [if_pos h2, if_neg (fun q => by rw [Int32.lt_iff_toInt_lt] at h2; rw [Int32.le_iff_toInt_le] at q; omega)]
    · rw [if_neg h2, if_pos (by rw [Int32.lt_iff_toInt_lt] at h2; rw [Int32.le_iff_toInt_le]; omega)]
