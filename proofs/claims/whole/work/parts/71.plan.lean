/-! plan: worked out by the class -/
def wdP (T : Nat → Nat → Nat) (d j : Nat) : Nat := T 6 (4 * lsP T d (T 0 3) j + 1)
def wtP (T : Nat → Nat → Nat) (d j : Nat) : Nat := T 6 (4 * lsP T d (T 0 3) j + 3)
def sp0 (r : Nat → Nat) (v : Nat) : Nat := if v < 8 then r (13 + v) + hsum r v 5 0 else 0
def oE (k : Nat) : Nat := [4, 1, 2, 3, 0].getD k 0
def oG (k : Nat) : Nat := [0, 1, 2, 3, 4].getD k 0
theorem oE_c : ∀ q, q < 5 → zEag q = nI (oE q) ∧ zRis q = nI (oG q) ∧ oE q < 5 ∧ oG q < 5 := by decide +kernel
theorem oE_m : (∀ b, b ∈ odL oE 5 0 → b ∈ odL oG 5 0) ∧ (∀ b, b ∈ odL oG 5 0 → b ∈ odL oE 5 0) ∧ 0 ∈ odL oG 5 0 := by
  have e1 : odL oE 5 0 = [4, 1, 2, 3, 0] := rfl
  have e2 : odL oG 5 0 = [0, 1, 2, 3, 4] := rfl
  rw [e1, e2]
  refine ⟨fun b h => ?_, fun b h => ?_, by decide⟩
  · simp only [List.mem_cons, List.not_mem_nil, or_false] at h ⊢
    omega
  · simp only [List.mem_cons, List.not_mem_nil, or_false] at h ⊢
    omega
/-- the plan: worth and one, words, how each need is met -/
noncomputable def bsP (T : Nat → Nat → Nat) (r : Nat → Nat) : Nat × Nat × (Nat → Nat) := fdP (0, 0, fun _ => 0) (lvP T (wdP T (dN T r)) (wtP T (dN T r)) (odL oG 5 0) (qn T (dN T r) (T 0 3)) 0 (sp0 r) 0 0 (fun _ => 0))
section PLW
variable {B : zM} {tw s u c np N : Nat} {T : Nat → Nat → Nat} {r : Nat → Nat} {I : Nat → Nat → Int32}
theorem sp0_le (hr : rI r) : ∀ v, sp0 r v ≤ 1000 := by
  intro v
  unfold sp0
  split
  · rename_i hv
    have h1 := hsum_le (r := r) (w := v) hr hv 5 0 (by omega)
    have h2 := (hr.b (p := 0) (w := v) (by omega) hv).2.1
    omega
  · omega
theorem pl_ok (hT : TI T) {d : Nat} : qn T d (T 0 3) ≤ 8 ∧ (∀ j, j < qn T d (T 0 3) → wdP T d j < 8 ∧ wtP T d j ≤ 99) ∧ sm (wtP T d) (qn T d (T 0 3)) 0 ≤ 99 * 8 := by
  have h3 := hT.2.2.2.1
  have h1 := hT.2.1
  have hq : qn T d (T 0 3) ≤ 8 := Nat.le_trans qn_le h3
  have hw : ∀ j, j < qn T d (T 0 3) → wdP T d j < 8 ∧ wtP T d j ≤ 99 := fun j hj => by
    obtain ⟨a, -, -⟩ := lsP_of hj
    have bn := hT.2.2.2.2.2.2.2.2.1 _ a
    unfold wdP wtP
    exact ⟨by omega, bn.2.2.2⟩
  refine ⟨hq, hw, ?_⟩
  have key : ∀ m i, i + m ≤ qn T d (T 0 3) → sm (wtP T d) m i ≤ 99 * m := by
    intro m
    induction m with
    | zero => intro i _; exact Nat.le_refl _
    | succ m ih =>
      intro i h
      rw [sm_1]
      have := ih (i + 1) (by omega)
      have := (hw i (by omega)).2
      omega
  have := key (qn T d (T 0 3)) 0 (by omega)
  omega
theorem X_gat (hB : GB B tw s u) (hT : gT tw T I) (hN : gN s np c r I) : ∃ I', f_X4_gather 115 tw s (zI B I) = some (zI B I') ∧ PXf T (wdP T (dN T r)) (wtP T (dN T r)) (qn T (dN T r) (T 0 3)) I' ∧ SPx 116 (sp0 r) I' ∧ (∀ n, n < T 0 3 → I' 117 n = if cmB T (dN T r) n = true then nI (qn T (dN T r) n) else -1) ∧ ∀ a j, ¬ (115 ≤ a ∧ a ≤ 122) → I' a j = I a j := by
  have htw := hB.hw
  have hse := hB.hs
  have hr := hN.2.2.1
  obtain ⟨n8, nw, -⟩ := pl_ok hT.1 (d := dN T r)
  obtain ⟨-, k2, k3, k4, k5, k6, k7, -, -, -, -, l3, l4, l5, l6, p3, p4, p5, p6, -⟩ := hB.pl
  have t9 := hB.tl.2.2.2.2.2.2.2.2
  have t8 : Nat.ble 1 s = true := by rw [hse]; rfl
  have h0 : 0 < T 0 3 → 0 < T 0 0 := fun h => by
    have := (hT.1.2.2.2.2.2.2.2.2.1 0 h).1
    have := hT.2.1.1
    omega
  obtain ⟨J1, a1, a2, a3⟩ := X_g2 hB hr 8 0 zN I (by omega) (by unfold zN; omega) hN.1 (fun v hv => absurd hv (by omega))
  obtain ⟨J2, hJ2⟩ : ∃ J, J = cu J1 115 7 0 := ⟨_, rfl⟩
  have o2 : ∀ a j, ¬ (a = 116 ∨ a = 115) → J2 a j = I a j := fun a j q => by rw [hJ2, cu_o (by omega), a3 a j (by omega)]
  obtain ⟨J3, b1, b2, b3⟩ := X_g32 hB hT.1 h0 hr hN.2.2.2.1 (T 0 3) 0 zN J2 (by omega) (by have := hT.1.2.2.2.1; unfold zN; omega) (hN.1.fp (fun a j h1 h2 => o2 a j (by omega))) (hT.2.2.1.fr (a := 115) (b := 116) (fun a ha => funext fun j => o2 a j (by omega)) (by omega)) ⟨by rw [hJ2, cu_s]; rfl, fun n hn => absurd hn (by omega), fun n hn => absurd hn (by omega)⟩
  obtain ⟨G1, G2, G3⟩ := b2
  obtain ⟨N, hNe⟩ : ∃ N, N = qn T (dN T r) (T 0 3) := ⟨_, rfl⟩
  rw [← hNe] at G1 n8 nw
  obtain ⟨J4, hJ4⟩ : ∃ J, J = cu J3 120 N 0 := ⟨_, rfl⟩
  have s4 : sI (zI B J3) 120 (nI N) 0 = some (zI B J4) := by rw [sI_cu (by omega) (by rw [p6]; omega), hJ4]
  have e7 : J4 115 7 = nI N := by rw [hJ4, cu_o (by omega), G1]
  have w4 : ∀ j, j < N → J4 118 j = nI (wtP T (dN T r) j) := fun j hj => by
    obtain ⟨h1, h2, h3⟩ := lsP_of (show j < qn T (dN T r) (T 0 3) by omega)
    have := (G3 _ h1 h2).1
    rw [h3] at this
    rw [hJ4, cu_o (by omega)]
    exact this
  obtain ⟨J5, d1, d2, d3⟩ := X_g132 hB (wt := wtP T (dN T r)) n8 N zN J4 (Nat.le_refl _) (by unfold zN; omega) w4 (fun j h1 h2 => by
    rw [show j = N by omega, hJ4, cu_s, show N - N = 0 by omega]
    rfl)
  have ez : nI N - 1 = nI N + (-1) := Int32.sub_eq_add_neg _ _
  rw [show nI 0 = (0 : Int32) from rfl] at a1 b1
  rw [← hNe]
  refine ⟨J5, ?_, ⟨by rw [d3 115 7 (by omega), e7], fun j hj b hb => ?_, fun j hj => by rw [d3 118 j (by omega)]; exact w4 j hj, d2⟩, fun v hv => ?_, fun n hn => ?_, fun a j q => ?_⟩
  · simp only [f_X4_gather, show Nat.ble 1 115 = true from rfl, t9, t8, k2, k7, cond_true, oR_eq, oI_eq, pI_cu, zac_zI, Option.bind_some, a1, ← hJ2, b1, G1, s4, e7, ez, d1]
  · obtain ⟨h1, h2, h3⟩ := lsP_of (show j < qn T (dN T r) (T 0 3) by omega)
    have := (G3 _ h1 h2).2 b hb
    rw [h3] at this
    rw [d3 119 _ (by omega), hJ4, cu_o (by omega)]
    exact this
  · rw [d3 116 v (by omega), hJ4, cu_o (by omega), b3 116 v (by omega), hJ2, cu_o (by omega), a2 v hv]
    unfold sp0
    rw [if_pos hv]
  · rw [d3 117 n (by omega), hJ4, cu_o (by omega)]
    exact G2 n hn
  · rw [d3 a j (by omega), hJ4, cu_o (by omega), b3 a j (by omega), o2 a j (by omega)]
theorem X_wo (hB : GB B tw s u) (hT : gT tw T I) (hN : gN s np c r I) (hE : I 1000 = zEag) (hR : I 1001 = zRis) : ∃ I', f_X4_workOut 115 tw s (zI B I) = some (zI B I') ∧ I' 115 8 = eW (bsP T r).1 ∧ I' 115 9 = nI (bsP T r).2.1 ∧ (∀ j, j < qn T (dN T r) (T 0 3) → I' 122 j = nI ((bsP T r).2.2 j)) ∧ (∀ n, n < T 0 3 → I' 117 n = if cmB T (dN T r) n = true then nI (qn T (dN T r) n) else -1) ∧ 0 < (bsP T r).1 ∧ ∀ a j, ¬ (115 ≤ a ∧ a ≤ 122) → I' a j = I a j := by
  have htw := hB.hw
  have hse := hB.hs
  have hr := hN.2.2.1
  obtain ⟨n8, nw, nsm⟩ := pl_ok hT.1 (d := dN T r)
  obtain ⟨-, k2, -⟩ := hB.pl
  have t9 := hB.tl.2.2.2.2.2.2.2.2
  have t8 : Nat.ble 1 s = true := by rw [hse]; rfl
  obtain ⟨J1, a1, a2, a3, a4, a5⟩ := X_gat hB hT hN
  unfold bsP
  generalize hNe : qn T (dN T r) (T 0 3) = N at *
  generalize hwd : wdP T (dN T r) = wd at *
  generalize hwt : wtP T (dN T r) = wt at *
  obtain ⟨J2, hJ2⟩ : ∃ J, J = cu J1 115 8 (-1) := ⟨_, rfl⟩
  obtain ⟨J3, hJ3⟩ : ∃ J, J = cu J2 115 9 0 := ⟨_, rfl⟩
  have o3 : ∀ a j, ¬ fxP a j → J3 a j = J1 a j := fun a j q => by rw [hJ3, cu_o (by unfold fxP at q; omega), hJ2, cu_o (by unfold fxP at q; omega)]
  have S3 : SRx T wd wt N 0 (sp0 r) (fun _ => 0) (0, 0, fun _ => 0) J3 := ⟨a2.fr o3, fun v hv => by rw [hJ3, cu_o (by omega), hJ2, cu_o (by omega)]; exact a3 v hv, fun j hj => absurd hj (by omega), ⟨by rw [hJ3, cu_o (by omega), hJ2, cu_s]; rfl, by rw [hJ3, cu_s]; rfl, fun h => absurd h (Nat.lt_irrefl _)⟩, by unfold sBd; simp only []; omega⟩
  have hO3 : ∀ q, q < 5 → J3 1000 q = nI (oE q) := fun q hq => by rw [o3 1000 q (by unfold fxP; omega), a5 1000 q (by omega), hE]; exact (oE_c q hq).1
  obtain ⟨J4, b1, b2, b3⟩ := X_sr (l1 := 1000) (o := oE) hB hT.1 (Or.inl rfl) n8 (fun j hj => (nw j hj).1) (fun k hk => (oE_c k hk).2.2.1) N 0 20 J3 (sp0 r) 0 0 (fun _ => 0) (0, 0, fun _ => 0) (by omega) (by omega) (sp0_le hr) (by omega) (by omega) hO3 S3
  obtain ⟨L1, hL1⟩ : ∃ L, L = lvP T wd wt (odL oE 5 0) N 0 (sp0 r) 0 0 (fun _ => 0) := ⟨_, rfl⟩
  obtain ⟨L2, hL2⟩ : ∃ L, L = lvP T wd wt (odL oG 5 0) N 0 (sp0 r) 0 0 (fun _ => 0) := ⟨_, rfl⟩
  rw [← hL1] at b2
  rw [← hL2]
  have mm1 : ∀ l, l ∈ L1 → l ∈ L2 := by rw [hL1, hL2]; exact lvP_m oE_m.1 _ _ _ _ _ _
  have mm2 : ∀ l, l ∈ L2 → l ∈ L1 := by rw [hL1, hL2]; exact lvP_m oE_m.2.1 _ _ _ _ _ _
  have mm0 : ∃ l, l ∈ L2 := by rw [hL2]; exact lvP_ne oE_m.2.2 _ _ _ _ _ _
  obtain ⟨e1, e2, -, e4, e5⟩ := b2
  have hcb : (fdP (0, 0, fun _ => 0) L1).2.1 ≤ 64 := by
    obtain ⟨-, -, h3⟩ := fdP_i L1 (0, 0, fun _ => 0)
    rcases h3 with h3 | ⟨l, hl, h3⟩
    · rw [h3]; exact Nat.zero_le _
    · rw [h3]
      rw [hL1] at hl
      have := lvP_u N 0 (sp0 r) 0 0 (fun _ => 0) l hl
      simp only []
      omega
  obtain ⟨s1, hs1⟩ : ∃ s1, s1 = fdP (0, 0, fun _ => 0) L1 := ⟨_, rfl⟩
  rw [← hs1] at e4 e5 hcb
  obtain ⟨J5, hJ5⟩ : ∃ J, J = cu J4 115 9 (nI (s1.2.1 + 1)) := ⟨_, rfl⟩
  have o5 : ∀ a j, ¬ fxP a j → J5 a j = J3 a j := fun a j q => by rw [hJ5, cu_o (by unfold fxP at q; omega), b3 a j q]
  have S5 : SRx T wd wt N 0 (sp0 r) (fun _ => 0) (s1.1, s1.2.1 + 1, s1.2.2) J5 := ⟨(a2.fr o3).fr o5, fun v hv => by rw [hJ5, cu_o (by omega)]; exact e2 v hv, fun j hj => absurd hj (by omega), ⟨by rw [hJ5, cu_o (by omega)]; exact e4.1, by rw [hJ5, cu_s], fun h j hj => by rw [hJ5, cu_o (by omega)]; exact e4.2.2 h j hj⟩, by unfold sBd at e5 ⊢; simp only []; omega⟩
  have hO5 : ∀ q, q < 5 → J5 1001 q = nI (oG q) := fun q hq => by rw [o5 1001 q (by unfold fxP; omega), o3 1001 q (by unfold fxP; omega), a5 1001 q (by omega), hR]; exact (oE_c q hq).2.1
  obtain ⟨J6, d1, d2, d3⟩ := X_sr (l1 := 1001) (o := oG) hB hT.1 (Or.inr rfl) n8 (fun j hj => (nw j hj).1) (fun k hk => (oE_c k hk).2.2.2) N 0 20 J5 (sp0 r) 0 0 (fun _ => 0) (s1.1, s1.2.1 + 1, s1.2.2) (by omega) (by omega) (sp0_le hr) (by omega) (by omega) hO5 S5
  rw [← hL2] at d2
  have ee : fdP (s1.1, s1.2.1 + 1, s1.2.2) L2 = fdP (0, 0, fun _ => 0) L2 := by rw [hs1]; exact two_P mm1 mm2 mm0
  rw [ee] at d2
  obtain ⟨-, -, -, f4, -⟩ := d2
  have hpos : 0 < (fdP (0, 0, fun _ => 0) L2).1 := by
    obtain ⟨h1, -, h3⟩ := fdP_i L2 (0, 0, fun _ => 0)
    rcases h3 with h3 | ⟨y, hy, h3⟩
    · obtain ⟨l, hl⟩ := mm0
      have := h1 l hl
      rw [h3] at this
      exact absurd (Or.inl (Nat.succ_pos _)) this
    · rw [h3]; exact Nat.succ_pos _
  have e49 : J4 115 9 = nI s1.2.1 := e4.2.1
  rw [show nI 0 = (0 : Int32) from rfl] at b1 d1
  refine ⟨J6, ?_, f4.1, f4.2.1, f4.2.2 hpos, fun n hn => ?_, hpos, fun a j q => ?_⟩
  · simp only [f_X4_workOut, show Nat.ble 1 115 = true from rfl, t9, t8, k2, cond_true, oI_eq, pI_cu, zac_zI, Option.bind_some, a1, ← hJ2, ← hJ3, b1, e49, nI_1, ← hJ5, d1]
  · rw [d3 117 n (by unfold fxP; omega), o5 117 n (by unfold fxP; omega), o3 117 n (by unfold fxP; omega)]
    exact a4 n hn
  · rw [d3 a j (by unfold fxP; omega), o5 a j (by unfold fxP; omega), o3 a j (by unfold fxP; omega), a5 a j q]
theorem X_hm (hB : GB B tw s u) (hT : TI T) {n d : Nat} {f : Nat → Nat} (hn : n < T 0 3) (h1 : I 117 n = if cmB T d n = true then nI (qn T d n) else -1) (h2 : ∀ j, j < qn T d (T 0 3) → I 122 j = nI (f j)) : f_X4_howMet 115 (nI n) (zI B I) = some (if cmB T d n = true then nI (f (qn T d n)) else -1) := by
  obtain ⟨-, k2, k3, k4, k5, k6, k7, k8, k9, -, -, l3, l4, l5, l6, p3, p4, p5, p6, p7, p8, p9, -⟩ := hB.pl
  have h3 := hT.2.2.2.1
  have hq : qn T d n ≤ n := qn_le
  rcases Bool.eq_false_or_eq_true (cmB T d n) with hc | hc
  · rw [hc, if_pos rfl] at h1 ⊢
    have a1 := aI_at (B := B) (I := I) (by omega) (by rw [l3]; omega) h1
    have a2 := aI_at (B := B) (I := I) (by omega) (by rw [p9]; omega) (h2 _ (qn_lt hn hc))
    simp only [f_X4_howMet, show Nat.ble 1 115 = true from rfl, k2, k4, k9, cond_true, oR_eq, Option.bind_some, a1, if_neg (nI_m1 (v := qn T d n) (by omega)), a2]
  · rw [hc, if_neg (by decide)] at h1 ⊢
    have a1 := aI_at (B := B) (I := I) (by omega) (by rw [l3]; omega) h1
    simp only [f_X4_howMet, show Nat.ble 1 115 = true from rfl, k2, k4, cond_true, oR_eq, Option.bind_some, a1, if_pos]
end PLW
