/-! plan: the call -/
theorem bnY_lt : ∀ m, m ≤ 8 → bnY m + 1 ≤ zN := by decide +kernel
section PLC
variable {B : zM} {tw s u c np : Nat} {T : Nat → Nat → Nat} {r : Nat → Nat} {I : Nat → Nat → Int32} {x : Int32}
def GTy (T : Nat → Nat → Nat) (d i : Nat) (I : Nat → Nat → Int32) : Prop := I 144 35 = nI (qn T d i) ∧ ∀ n, n < i → cmB T d n = true → I 163 (qn T d n) = nI n
theorem Y_p7 (hB : GB B tw s u) : ∀ m i n I, i + m = T 0 3 → m < n → gT tw T I → gN s np c r I → GTy T (dN T r) i I → ∃ I', L_X9_findPlan_7 n 144 (nI i) (zI B I) = some (zI B I') ∧ GTy T (dN T r) (T 0 3) I' ∧ ∀ a j, ¬ (a = 163 ∨ (a = 144 ∧ j = 35)) → I' a j = I a j := by
  obtain ⟨y1, -⟩ := hB.hy'
  obtain ⟨n1, -, -, -, -, -, l1, l2, -⟩ := hB.py
  have htw := hB.hw
  have hse := hB.hs
  intro m
  induction m with
  | zero =>
    intro i n I hi hn hT hN hG
    obtain ⟨n, rfl⟩ := Nat.exists_eq_succ_of_ne_zero (show n ≠ 0 by omega)
    have b3 := hT.1.2.2.2.1
    have c1 : nI (T 0 3) ≤ nI i := (nI_leI (by omega) (by omega)).mpr (by omega)
    have e4 := hT.2.2.2.1.2.2.2
    refine ⟨I, ?_, by rw [show T 0 3 = i by omega]; exact hG, fun _ _ _ => rfl⟩
    simp only [L_X9_findPlan_7, y1, cond_true, oI_eq, Option.bind_some, e4, if_pos c1]
  | succ m ih =>
    intro i n I hi hn hT hN hG
    obtain ⟨n, rfl⟩ := Nat.exists_eq_succ_of_ne_zero (show n ≠ 0 by omega)
    have b3 := hT.1.2.2.2.1
    have hi3 : i < T 0 3 := by omega
    have c1 : ¬ nI (T 0 3) ≤ nI i := fun q => absurd ((nI_leI (by omega) (by omega)).mp q) (by omega)
    have e4 := hT.2.2.2.1.2.2.2
    have gc := Y_isToCome hB hT hN hi3
    have hql : qn T (dN T r) i ≤ i := qn_le
    obtain ⟨G1, G2⟩ := id hG
    rcases Bool.eq_false_or_eq_true (cmB T (dN T r) i) with hc | hc
    · have hc' : dN T r ≤ T 6 (4 * i + 2) := of_decide_eq_true hc
      rw [if_pos hc'] at gc
      obtain ⟨J1, hJ1⟩ : ∃ J, J = cu I 163 (qn T (dN T r) i) (nI i) := ⟨_, rfl⟩
      obtain ⟨J2, hJ2⟩ : ∃ J, J = cu J1 144 35 (nI (qn T (dN T r) i + 1)) := ⟨_, rfl⟩
      have s1 : sI (zI B I) 163 (nI (qn T (dN T r) i)) (nI i) = some (zI B J1) := by rw [sI_cu (by omega) (by rw [l2]; omega), hJ1]
      have e1 : J1 144 35 = nI (qn T (dN T r) i) := by rw [hJ1, cu_o (by omega), G1]
      have o2 : ∀ a j, ¬ (a = 163 ∨ (a = 144 ∧ j = 35)) → J2 a j = I a j := fun a j q => by rw [hJ2, cu_o (by omega), hJ1, cu_o (by omega)]
      have s2 : ∀ i j, ¬ scr i j → J2 i j = I i j := fun i j q => o2 i j (by unfold scr at q; omega)
      obtain ⟨f1, f2, -⟩ := F_scr htw hse s2
      have hq1 := qn_t hc
      obtain ⟨I', d1, d2, d3⟩ := ih (i + 1) n J2 (by omega) (by omega) (hT.fr f1) (hN.fr f2) ⟨by rw [hJ2, cu_s, hq1], fun n hn hcn => by
        by_cases e : n = i
        · subst e; rw [hJ2, cu_o (by omega), hJ1, cu_s]
        · have hlt := qn_lt (T := T) (d := dN T r) (show n < i by omega) hcn
          rw [hJ2, cu_o (by omega), hJ1, cu_o (by omega)]
          exact G2 n (by omega) hcn⟩
      refine ⟨I', ?_, d2, fun a j q => by rw [d3 a j q, o2 a j q]⟩
      simp only [L_X9_findPlan_7, y1, n1, cond_true, oI_eq, oR_eq, pI_cu, zac_zI, Option.bind_some, e4, if_neg c1, gc, if_neg ne10, G1, s1, e1, nI_1, ← hJ2, d1]
    · have hc' : ¬ dN T r ≤ T 6 (4 * i + 2) := of_decide_eq_false hc
      rw [if_neg hc'] at gc
      have hq1 := qn_f hc
      obtain ⟨I', d1, d2, d3⟩ := ih (i + 1) n I (by omega) (by omega) hT hN ⟨by rw [hq1]; exact G1, fun n hn hcn => by
        by_cases e : n = i
        · subst e; rw [hc] at hcn; exact absurd hcn (by decide)
        · exact G2 n (by omega) hcn⟩
      refine ⟨I', ?_, d2, d3⟩
      simp only [L_X9_findPlan_7, y1, cond_true, oI_eq, oR_eq, zac_zI, Option.bind_some, e4, if_neg c1, gc, if_pos, nI_1, d1]
theorem Y_p51 (hB : GB B tw s u) : ∀ m i n I, i + m = 8 → m < n → gT tw T I → gN s (T 0 2) c r I → (∀ v, v < i → I 167 v = nI (sp0 r v) ∧ I 166 v = 0) → ∃ I', L_X9_findPlan_51 n 144 (nI i) (zI B I) = some (zI B I') ∧ (∀ v, v < 8 → I' 167 v = nI (sp0 r v) ∧ I' 166 v = 0) ∧ ∀ a j, ¬ (a = 166 ∨ a = 167) → I' a j = I a j := by
  obtain ⟨y1, y2, -, y4, -, -, -, y8, -⟩ := hB.hy'
  obtain ⟨-, -, -, n4, n5, -, -, -, -, -, -, -, l1, l2, l3, l4, -⟩ := hB.py
  have htw := hB.hw
  have hse := hB.hs
  intro m
  induction m with
  | zero =>
    intro i n I hi hn hT hN hI
    obtain ⟨n, rfl⟩ := Nat.exists_eq_succ_of_ne_zero (show n ≠ 0 by omega)
    have c1 : (8 : Int32) ≤ nI i := (nI_leI (a := 8) (by omega) (by omega)).mpr (by omega)
    refine ⟨I, ?_, fun v hv => hI v (by omega), fun _ _ _ => rfl⟩
    simp only [L_X9_findPlan_51, if_pos c1]
  | succ m ih =>
    intro i n I hi hn hT hN hI
    obtain ⟨n, rfl⟩ := Nat.exists_eq_succ_of_ne_zero (show n ≠ 0 by omega)
    have c1 : ¬ (8 : Int32) ≤ nI i := fun q => absurd ((nI_leI (a := 8) (by omega) (by omega)).mp q) (by omega)
    have hi8 : i < 8 := by omega
    have g := Y_hOf hB y8 hT hN.2.1 hi8
    have a1 := aI_at (B := B) (I := I) (by omega) (by rw [y4]; omega) (hN.2.1 (13 + i) (by omega))
    have p13 : (13 : Int32) + nI i = nI (13 + i) := nI_add 13 i
    have e : nI (r (13 + i)) + nI (hsum r i (T 0 2) 0) = nI (sp0 r i) := by
      rw [nI_add, ← hsum_H hN.2.2.2.2.2 hT.1.2.2.1 hi8]
      unfold sp0
      rw [if_pos hi8]
    obtain ⟨J1, hJ1⟩ : ∃ J, J = cu I 167 i (nI (sp0 r i)) := ⟨_, rfl⟩
    obtain ⟨J2, hJ2⟩ : ∃ J, J = cu J1 166 i 0 := ⟨_, rfl⟩
    have s1 : sI (zI B I) 167 (nI i) (nI (sp0 r i)) = some (zI B J1) := by rw [sI_cu (by omega) (by rw [l4]; omega), hJ1]
    have s2 : sI (zI B J1) 166 (nI i) 0 = some (zI B J2) := by rw [sI_cu (by omega) (by rw [l2]; omega), hJ2]
    have o2 : ∀ a j, ¬ (a = 166 ∨ a = 167) → J2 a j = I a j := fun a j q => by rw [hJ2, cu_o (by omega), hJ1, cu_o (by omega)]
    have sc : ∀ i j, ¬ scr i j → J2 i j = I i j := fun i j q => o2 i j (by unfold scr at q; omega)
    obtain ⟨f1, f2, -⟩ := F_scr htw hse sc
    obtain ⟨I', d1, d2, d3⟩ := ih (i + 1) n J2 (by omega) (by omega) (hT.fr f1) (hN.fr f2) (fun v hv => by
      by_cases ev : v = i
      · subst ev
        exact ⟨by rw [hJ2, cu_o (by omega), hJ1, cu_s], by rw [hJ2, cu_s]⟩
      · obtain ⟨h1, h2⟩ := hI v (by omega)
        exact ⟨by rw [hJ2, cu_o (by omega), hJ1, cu_o (by omega), h1], by rw [hJ2, cu_o (by omega), hJ1, cu_o (by omega), h2]⟩)
    refine ⟨I', ?_, d2, fun a j q => by rw [d3 a j q, o2 a j q]⟩
    simp only [L_X9_findPlan_51, if_neg c1, y1, y2, n4, n5, cond_true, oR_eq, zac_zI, Option.bind_some, p13, a1, g, e, s1, s2, nI_1, d1]
theorem Y_p112 (hB : GB B tw s u) (hT : TI T) {d : Nat} : ∀ m n I, m ≤ qn T d (T 0 3) → m < n → YT T I → (∀ j, j < qn T d (T 0 3) → I 163 j = nI (lsP T d (T 0 3) j)) → (∀ j, m ≤ j → j ≤ qn T d (T 0 3) → I 164 j = nI (sm (wtP T d) (qn T d (T 0 3) - j) j)) → ∃ I', L_X9_findPlan_112 n 144 (nI m + (-1)) (zI B I) = some (zI B I') ∧ (∀ j, j ≤ qn T d (T 0 3) → I' 164 j = nI (sm (wtP T d) (qn T d (T 0 3) - j) j)) ∧ ∀ a j, a ≠ 164 → I' a j = I a j := by
  obtain ⟨y1, -⟩ := hB.hy'
  obtain ⟨n1, n2, -, -, -, -, l1, -, l3, l4, -⟩ := hB.py
  obtain ⟨n8, nw, -⟩ := pl_ok hT (d := d)
  intro m
  induction m with
  | zero =>
    intro n I hm hn hY h hI
    obtain ⟨n, rfl⟩ := Nat.exists_eq_succ_of_ne_zero (show n ≠ 0 by omega)
    refine ⟨I, ?_, fun j hj => hI j (by omega) hj, fun _ _ _ => rfl⟩
    simp only [L_X9_findPlan_112]
    rw [if_pos (by decide)]
  | succ m ih =>
    intro n I hm hn hY h hI
    obtain ⟨n, rfl⟩ := Nat.exists_eq_succ_of_ne_zero (show n ≠ 0 by omega)
    have e1 : nI (m + 1) + (-1) = nI m := pk_m1 m
    have c1 : ¬ nI m < 0 := nI_pos (by omega)
    have a1 := aI_at (B := B) (I := I) (by omega) (by rw [l3]; omega) (hI (m + 1) (Nat.le_refl _) hm)
    have a2 := aI_at (B := B) (I := I) (by omega) (by rw [l1]; omega) (h m (by omega))
    have g := (Y_wof hB hT hY (lsP_of (show m < qn T d (T 0 3) by omega)).1).2
    have ew : T 6 (4 * lsP T d (T 0 3) m + 3) = wtP T d m := rfl
    rw [ew] at g
    have es : nI (sm (wtP T d) (qn T d (T 0 3) - (m + 1)) (m + 1)) + nI (wtP T d m) = nI (sm (wtP T d) (qn T d (T 0 3) - m) m) := by
      rw [nI_add, show qn T d (T 0 3) - m = (qn T d (T 0 3) - (m + 1)) + 1 by omega, sm_1, Nat.add_comm]
    obtain ⟨J, hJ⟩ : ∃ J, J = cu I 164 m (nI (sm (wtP T d) (qn T d (T 0 3) - m) m)) := ⟨_, rfl⟩
    have s1 : sI (zI B I) 164 (nI m) (nI (sm (wtP T d) (qn T d (T 0 3) - m) m)) = some (zI B J) := by rw [sI_cu (by omega) (by rw [l4]; omega), hJ]
    obtain ⟨I', g1, g2, g3⟩ := ih n J (by omega) (by omega) (hY.same (YTs.fr (a := 164) (b := 164) (fun i hi => by rw [hJ, cu_F (by omega)]) (by omega))) (fun j hj => by rw [hJ, cu_o (by omega)]; exact h j hj) (fun j h1 h2 => by
      by_cases e : j = m
      · subst e; rw [hJ, cu_s]
      · rw [hJ, cu_o (by omega)]; exact hI j (by omega) h2)
    refine ⟨I', ?_, g2, fun a j q => by rw [g3 a j q, hJ, cu_o (Or.inl q)]⟩
    rw [e1]
    simp only [L_X9_findPlan_112, if_neg c1, y1, n1, n2, cond_true, oR_eq, zac_zI, Option.bind_some, nI_1, a1, a2, g, es, s1, g1]
theorem Y_fp (hB : GB B tw s u) (hT : gT tw T I) (hN : gN s (T 0 2) c r I) : ∃ I', f_X9_findPlan 144 (zI B I) = some (zI B I') ∧ I' 144 35 = nI (qn T (dN T r) (T 0 3)) ∧ (∀ j, j < qn T (dN T r) (T 0 3) → I' 163 j = nI (lsP T (dN T r) (T 0 3) j)) ∧ I' 144 44 = eW (bsP T r).1 ∧ I' 144 45 = nI (bsP T r).2.1 ∧ (0 < (bsP T r).1 → ∀ j, j < qn T (dN T r) (T 0 3) → I' 168 j = nI ((bsP T r).2.2 j)) ∧ ∀ a j, ¬ scr a j → I' a j = I a j := by
  obtain ⟨y1, -⟩ := hB.hy'
  obtain ⟨n1, n2, n3, n4, n5, n6, l1, l2, l3, l4, l5, l6, -⟩ := hB.py
  have htw := hB.hw
  have hse := hB.hs
  have hr := hN.2.2.1
  obtain ⟨n8, nw, nsm⟩ := pl_ok hT.1 (d := dN T r)
  have b3 := hT.1.2.2.2.1
  obtain ⟨J1, hJ1⟩ : ∃ J, J = cu I 144 35 0 := ⟨_, rfl⟩
  have o1 : ∀ a j, ¬ (a = 144 ∧ j = 35) → J1 a j = I a j := fun a j q => by rw [hJ1, cu_o (by omega)]
  have s1 : ∀ i j, ¬ scr i j → J1 i j = I i j := fun i j q => o1 i j (by unfold scr at q; omega)
  obtain ⟨f1, f2, -⟩ := F_scr htw hse s1
  obtain ⟨J2, a1, ⟨a2, a2'⟩, a3⟩ := Y_p7 hB (T 0 3) 0 zN J1 (by omega) (by unfold zN; omega) (hT.fr f1) (hN.fr f2) ⟨by rw [hJ1, cu_s]; rfl, fun n hn => absurd hn (by omega)⟩
  have s2 : ∀ i j, ¬ scr i j → J2 i j = I i j := fun i j q => by rw [a3 i j (by unfold scr at q; omega), s1 i j q]
  obtain ⟨f3, f4, -⟩ := F_scr htw hse s2
  obtain ⟨J3, b1, b2, b3'⟩ := Y_p51 hB 8 0 zN J2 (by omega) (by unfold zN; omega) (hT.fr f3) (hN.fr f4) (fun v hv => absurd hv (by omega))
  have s3 : ∀ i j, ¬ scr i j → J3 i j = I i j := fun i j q => by rw [b3' i j (by unfold scr at q; omega), s2 i j q]
  have e3 : J3 144 35 = nI (qn T (dN T r) (T 0 3)) := by rw [b3' 144 35 (by omega), a2]
  obtain ⟨J4, hJ4⟩ : ∃ J, J = cu J3 164 (qn T (dN T r) (T 0 3)) 0 := ⟨_, rfl⟩
  have w4 : sI (zI B J3) 164 (nI (qn T (dN T r) (T 0 3))) 0 = some (zI B J4) := by rw [sI_cu (by omega) (by rw [l4]; omega), hJ4]
  have s4 : ∀ i j, ¬ scr i j → J4 i j = I i j := fun i j q => by rw [hJ4, cu_o (by unfold scr at q; omega), s3 i j q]
  obtain ⟨f5, f6, -⟩ := F_scr htw hse s4
  have e4 : J4 144 35 = nI (qn T (dN T r) (T 0 3)) := by rw [hJ4, cu_o (by omega), e3]
  have g4 : ∀ j, j < qn T (dN T r) (T 0 3) → J4 163 j = nI (lsP T (dN T r) (T 0 3) j) := fun j hj => by
    obtain ⟨h1, h2, h3⟩ := lsP_of hj
    have := a2' _ h1 h2
    rw [h3] at this
    rw [hJ4, cu_o (by omega), b3' 163 j (by omega)]
    exact this
  obtain ⟨J5, d1, d2, d3⟩ := Y_p112 hB hT.1 (d := dN T r) (qn T (dN T r) (T 0 3)) zN J4 (Nat.le_refl _) (by unfold zN; omega) (hT.fr f5).2.2.2 g4 (fun j h1 h2 => by
    rw [show j = qn T (dN T r) (T 0 3) by omega, hJ4, cu_s, Nat.sub_self]
    rfl)
  obtain ⟨J6, hJ6⟩ : ∃ J, J = cu J5 144 41 0 := ⟨_, rfl⟩
  obtain ⟨J7, hJ7⟩ : ∃ J, J = cu J6 144 42 0 := ⟨_, rfl⟩
  obtain ⟨J8, hJ8⟩ : ∃ J, J = cu J7 144 44 (-1) := ⟨_, rfl⟩
  obtain ⟨J9, hJ9⟩ : ∃ J, J = cu J8 144 45 0 := ⟨_, rfl⟩
  obtain ⟨K, hK⟩ : ∃ J, J = cu J9 165 0 (-1) := ⟨_, rfl⟩
  have w9 : sI (zI B J9) 165 0 (-1) = some (zI B K) := by
    have := sI_cu (B := B) (I := J9) (i := 165) (k := 0) (x := -1) (by omega) (by rw [l6]; omega)
    rw [hK]
    exact this
  have oK : ∀ a j, ¬ (a = 165 ∨ (a = 144 ∧ (j = 41 ∨ j = 42 ∨ j = 44 ∨ j = 45))) → K a j = J5 a j := fun a j q => by rw [hK, cu_o (by omega), hJ9, cu_o (by omega), hJ8, cu_o (by omega), hJ7, cu_o (by omega), hJ6, cu_o (by omega)]
  have sK : ∀ i j, ¬ scr i j → K i j = I i j := fun i j q => by rw [oK i j (by unfold scr at q; omega), d3 i j (by unfold scr at q; omega), s4 i j q]
  obtain ⟨f7, f8, -⟩ := F_scr htw hse sK
  have hR : SRy T (dN T r) 0 (sp0 r) (sp0 r) 0 0 (fun _ => 0) (0, 0, fun _ => 0) K := by
    refine ⟨⟨by rw [oK 144 35 (by omega), d3 144 35 (by omega), e4], fun j hj => by rw [oK 163 j (by omega), d3 163 j (by omega)]; exact g4 j hj, fun j hj => by rw [oK 164 j (by omega)]; exact d2 j hj, fun v hv => by rw [oK 167 v (by omega), d3 167 v (by omega), hJ4, cu_o (by omega)]; exact (b2 v hv).1, (hT.fr f7).2.2.2⟩, fun v hv => ⟨by rw [oK 166 v (by omega), d3 166 v (by omega), hJ4, cu_o (by omega), (b2 v hv).2, Nat.sub_self]; rfl, Nat.le_refl _⟩, by rw [hK, cu_o (by omega), hJ9, cu_o (by omega), hJ8, cu_o (by omega), hJ7, cu_o (by omega), hJ6, cu_s]; rfl, by rw [hK, cu_o (by omega), hJ9, cu_o (by omega), hJ8, cu_o (by omega), hJ7, cu_s]; rfl, fun j hj => absurd hj (by omega), ⟨by rw [hK, cu_o (by omega), hJ9, cu_o (by omega), hJ8, cu_s]; rfl, by rw [hK, cu_o (by omega), hJ9, cu_s]; rfl, fun h => absurd h (Nat.lt_irrefl _)⟩, by unfold sBd; simp only []; omega⟩
  obtain ⟨q, I', q1, q2, q3, q4⟩ := Y_sr hB hT.1 (sp0_le hr) (qn T (dN T r) (T 0 3)) 0 K (sp0 r) 0 0 (fun _ => 0) (0, 0, fun _ => 0) (by omega) (by omega) (by omega) (fun _ => by rw [hK, cu_s]) hR
  have hz := bnY_lt (qn T (dN T r) (T 0 3)) n8
  have hq := q2 (zN - q)
  rw [Nat.sub_add_cancel (by omega)] at hq
  obtain ⟨z, hz2⟩ : ∃ z, zN - q = z + 1 := ⟨zN - q - 1, by omega⟩
  have hend : L_X9_findPlan_176 (zN - q) 144 (nI 0 + (-1)) (zI B I') = some (zI B I') := by
    rw [hz2]
    simp only [L_X9_findPlan_176]
    rw [if_pos (by decide)]
  rw [hend, show nI 0 = (0 : Int32) from rfl] at hq
  have ez : nI (qn T (dN T r) (T 0 3)) - 1 = nI (qn T (dN T r) (T 0 3)) + (-1) := Int32.sub_eq_add_neg _ _
  rw [show nI 0 = (0 : Int32) from rfl] at a1 b1
  obtain ⟨p1, p2, p3, p4, p5, p6, p7⟩ := q3
  refine ⟨I', ?_, p1.1, p1.2.1, p6.1, p6.2.1, p6.2.2, fun a j h => by rw [q4 a j (by unfold scr at h; unfold fyP; omega), sK a j h]⟩
  simp only [f_X9_findPlan, nb144, y1, n2, n3, cond_true, oR_eq, oI_eq, pI_cu, Option.bind_some, ← hJ1, a1, b1, e3, w4, e4, ez, d1, ← hJ6, ← hJ7, ← hJ8, ← hJ9, w9, hq]
theorem Y_lk (hB : GB B tw s u) {d n N : Nat} {f : Nat → Nat} (hNe : N = qn T d (T 0 3)) (hn : n < T 0 3) (h3 : T 0 3 ≤ 8) (h7 : I 144 35 = nI N) (hl : ∀ j, j < N → I 163 j = nI (lsP T d (T 0 3) j)) (hf : ∀ j, j < N → I 168 j = nI (f j)) : ∀ m k z y, k + m = N → m < z → L_X9_plan_51 z 144 (nI n) y (nI k) (zI B I) = some (if cmB T d n = true then (if k ≤ qn T d n then nI (f (qn T d n)) else y) else y) := by
  obtain ⟨y1, -⟩ := hB.hy'
  obtain ⟨n1, -, -, -, -, n6, l1, -, -, -, -, -, -, -, -, -, l2, -⟩ := hB.py
  have hN8 : N ≤ 8 := by rw [hNe]; exact Nat.le_trans qn_le h3
  intro m
  induction m with
  | zero =>
    intro k z y hk hz
    obtain ⟨z, rfl⟩ := Nat.exists_eq_succ_of_ne_zero (show z ≠ 0 by omega)
    have c1 : nI N ≤ nI k := (nI_leI (by omega) (by omega)).mpr (by omega)
    simp only [L_X9_plan_51, y1, cond_true, oI_eq, Option.bind_some, h7, if_pos c1]
    split
    · rename_i hc
      have := qn_lt (T := T) (d := d) hn hc
      rw [if_neg (by omega)]
    · rfl
  | succ m ih =>
    intro k z y hk hz
    obtain ⟨z, rfl⟩ := Nat.exists_eq_succ_of_ne_zero (show z ≠ 0 by omega)
    have c1 : ¬ nI N ≤ nI k := fun q => absurd ((nI_leI (by omega) (by omega)).mp q) (by omega)
    obtain ⟨h1, h2, h4⟩ := lsP_of (show k < qn T d (T 0 3) by omega)
    have a1 := aI_at (B := B) (I := I) (by omega) (by rw [l1]; omega) (hl k (by omega))
    have a2 := aI_at (B := B) (I := I) (by omega) (by rw [l2]; omega) (hf k (by omega))
    have z1 : nI (lsP T d (T 0 3) k) = nI n ↔ lsP T d (T 0 3) k = n := nI_eq (by omega) (by omega)
    have i1 := fun y => ih (k + 1) z y (by omega) (by omega)
    simp only [L_X9_plan_51, y1, n1, n6, cond_true, oI_eq, oR_eq, Option.bind_some, h7, if_neg c1, a1, a2, z1, nI_1, i1]
    by_cases e : lsP T d (T 0 3) k = n
    · rw [e] at h2 h4
      rw [if_pos e, if_pos h2, if_pos h2, if_neg (by omega), if_pos (by omega), h4]
    · rw [if_neg e]
      by_cases hc : cmB T d n = true
      · have hne : qn T d n ≠ k := fun q => e (by
          have := lsP_at (T := T) (d := d) hc (T 0 3) hn
          rw [q] at this
          exact this)
        rw [if_pos hc, if_pos hc]
        by_cases hk2 : k + 1 ≤ qn T d n
        · rw [if_pos hk2, if_pos (by omega)]
        · rw [if_neg hk2, if_neg (by omega)]
      · rw [if_neg hc, if_neg hc]
theorem w_plan (h : CR B I c) (hE : I 1000 = zEag) (hR : I 1001 = zRis) : W2 B I c (f_X8_plan 1 x (zI B I)) (f_X9_plan 144 x) := by
  have h' := h
  obtain ⟨tw, s, u, T, r, pa, pn, P, kf, K, tl, X, kn, kw, kd, kb, en, ew, el, sd, hB, hT, hN, hP, hI, hX, hK, hBk, hS⟩ := h
  have htw := hB.hw
  have hse := hB.hs
  have b3 := hT.1.2.2.2.1
  obtain ⟨x1, x2, x3, x4, x5, -⟩ := hB.hx
  obtain ⟨y1, -⟩ := hB.hy'
  obtain ⟨k1, k2, -⟩ := hB.pl
  have q1 := fun {J} (hJ : gT tw T J) => Y_isNeed (x := x) hB hJ
  have e4 := hT.2.2.1.1.2.2.2.2.1
  obtain ⟨I1, a1, a2, a3, a4, a5, a6, a7⟩ := X_wo hB hT hN hE hR
  have s1 : ∀ i j, ¬ scr i j → I1 i j = I i j := fun i j q => a7 i j (by unfold scr at q; omega)
  obtain ⟨f1, f2, -⟩ := F_scr htw hse s1
  obtain ⟨I2, d1, d2, d3, d4, d5, d6, d7⟩ := Y_fp hB (hT.fr f1) (hN.fr f2)
  have d6 := d6 a6
  have q1' := q1 (hT.fr f1)
  have m1t : (-1 : Int32).toInt = -1 := rfl
  have m2t : (-2 : Int32).toInt = -2 := rfl
  by_cases c1 : x = -1
  · subst c1
    have hw : wd (-1 : Int32) (T 0 3) = false := by unfold wd; rw [m1t]; exact decide_eq_false (by omega)
    rw [hw, ite_f] at q1'
    have e1 : ¬ (-1 : Int32) < -2 := by decide
    have e2 : (-1 : Int32) < nI (T 0 3) := m1_lt (by omega)
    have e3 : ¬ (-1 : Int32) = -2 := by decide
    have e5 : ¬ (0 : Int32) ≤ -1 := by decide
    refine W_scr (v := eW (bsP T r).1) (I1 := I1) (I2 := I2) h' ?_ ?_ s1 d7
    · simp only [f_X8_plan, nb1, x1, x2, x3, x5, k1, k2, cond_true, oR_eq, oI_eq, zac_zI, Option.bind_some, if_neg e1, e4, if_pos e2, a1, if_neg e3, if_pos, a2]
    · simp only [f_X9_plan, nb144, y1, cond_true, oI_eq, zac_zI, Option.bind_some, q1', if_pos, d1, if_neg e5, d4]
  · by_cases c2 : x = -2
    · subst c2
      have hw : wd (-2 : Int32) (T 0 3) = false := by unfold wd; rw [m2t]; exact decide_eq_false (by omega)
      rw [hw, ite_f] at q1'
      have e1 : ¬ (-2 : Int32) < -2 := by decide
      have e2 : (-2 : Int32) < nI (T 0 3) := by rw [Int32.lt_iff_toInt_lt, nI_toInt (by omega), m2t]; omega
      have e3 : ¬ (-2 : Int32) = -1 := by decide
      have e5 : ¬ (0 : Int32) ≤ -2 := by decide
      refine W_scr (v := nI (bsP T r).2.1) (I1 := I1) (I2 := I2) h' ?_ ?_ s1 d7
      · simp only [f_X8_plan, nb1, x1, x2, x3, x5, k1, k2, cond_true, oR_eq, oI_eq, zac_zI, Option.bind_some, if_neg e1, e4, if_pos e2, a1, if_pos, a3]
      · simp only [f_X9_plan, nb144, y1, cond_true, oI_eq, zac_zI, Option.bind_some, q1', if_pos, if_neg e3, d1, if_neg e5, d5]
    · rcases Bool.eq_false_or_eq_true (wd x (T 0 3)) with hw | hw
      · rw [hw, ite_t] at q1'
        obtain ⟨n, hn, rfl⟩ := wd_t hw (by omega)
        have e1 : ¬ nI n < -2 := by rw [Int32.lt_iff_toInt_lt, nI_toInt (by omega), m2t]; omega
        have e2 : nI n < nI (T 0 3) := (nI_ltI (by omega) (by omega)).mpr hn
        have e5 : (0 : Int32) ≤ nI n := by rw [Int32.le_iff_toInt_le, nI_toInt (by omega), show (0 : Int32).toInt = 0 from rfl]; omega
        have g1 := X_hm hB hT.1 hn (a5 n hn) a4
        have g2 := Y_lk (I := I2) hB rfl hn b3 d2 d3 d6 (qn T (dN T r) (T 0 3)) 0 zN (-1) (by omega) (by have : qn T (dN T r) (T 0 3) ≤ T 0 3 := qn_le; unfold zN; omega)
        rw [show nI 0 = (0 : Int32) from rfl] at g2
        rw [if_pos (Nat.zero_le _)] at g2
        refine W_scr (v := if cmB T (dN T r) n = true then nI ((bsP T r).2.2 (qn T (dN T r) n)) else -1) (I1 := I1) (I2 := I2) h' ?_ ?_ s1 d7
        · simp only [f_X8_plan, nb1, x1, x2, x3, x5, k1, k2, cond_true, oR_eq, oI_eq, zac_zI, Option.bind_some, if_neg e1, e4, if_pos e2, a1, if_neg c1, if_neg c2, g1]
        · simp only [f_X9_plan, nb144, y1, cond_true, oI_eq, zac_zI, Option.bind_some, q1', if_neg ne10, d1, if_pos e5, g2]
      · have q2 := q1 hT
        rw [hw, ite_f] at q2
        simp only [wd, decide_eq_false_iff_not] at hw
        refine W_no h' (v := -1000000001) ?_ ?_
        · by_cases e1 : x < -2
          · simp only [f_X8_plan, nb1, cond_true, if_pos e1]
          · have e2 : ¬ x < nI (T 0 3) := by
              have n1 : x.toInt ≠ -1 := fun q => c1 (Int32.toInt_inj.mp (q.trans m1t.symm))
              have n2 : x.toInt ≠ -2 := fun q => c2 (Int32.toInt_inj.mp (q.trans m2t.symm))
              rw [Int32.lt_iff_toInt_lt, m2t] at e1
              rw [Int32.lt_iff_toInt_lt, nI_toInt (by omega)]
              omega
            simp only [f_X8_plan, nb1, x1, x2, x5, cond_true, oR_eq, oI_eq, Option.bind_some, if_neg e1, e4, if_neg e2]
        · simp only [f_X9_plan, nb144, y1, cond_true, zac_zI, Option.bind_some, q2, if_pos, if_neg c1, if_neg c2]
end PLC
