/-! plan: the reference's search -/
def bnY : Nat → Nat
  | 0 => 1
  | m + 1 => 1 + 5 * (bnY m + 1)
/-- what the reference does at a need, once what stood there is taken back -/
def kYp (n z : Nat) (l1 b : Int32) (M : zM) : Option zM := b2 (bs (L_X9_nextPick_9 n 144 l1 b M) some (fun M6 => some (5, M6))) fun r43 M44 => (sI M44 165 l1 r43).bind fun M46 => (oR M46 144 9 58 38).bind fun v48 => (aI M46 v48 l1).bind fun v50 => if v50 = 5 then ((oR M46 144 9 58 38).bind fun v53 => (sI M46 v53 l1 (-1)).bind fun M55 => L_X9_findPlan_176 z 144 (l1 + (-1)) M55) else ((oI M46 144 9 58 41).bind fun v57 => (oR M46 144 9 58 37).bind fun v59 => (aI M46 v59 (l1 + 1)).bind fun v61 => (oI M46 144 9 58 44).bind fun v63 => if v57 + v61 < v63 then (L_X9_findPlan_176 z 144 l1 M46) else ((oR M46 144 9 58 38).bind fun v66 => (sI M46 v66 (l1 + 1) (-1)).bind fun M68 => L_X9_findPlan_176 z 144 (l1 + 1) M68))
def SRy (T : Nat → Nat → Nat) (d i : Nat) (S0 sp : Nat → Nat) (w c : Nat) (t : Nat → Nat) (s : Nat × Nat × (Nat → Nat)) (I : Nat → Nat → Int32) : Prop := PYf T d (qn T d (T 0 3)) S0 I ∧ USy S0 sp I ∧ I 144 41 = nI w ∧ I 144 42 = nI c ∧ (∀ j, j < i → I 165 j = nI (t j)) ∧ BSy (qn T d (T 0 3)) s I ∧ sBd s
section PLZ
variable {B : zM} {tw s0 u0 d : Nat} {T : Nat → Nat → Nat} {S0 : Nat → Nat}
theorem Y_hd0 (hB : GB B tw s0 u0) {N i z : Nat} {I : Nat → Nat → Int32} (hi : i < N) (hN : N ≤ 8) (h7 : I 144 35 = nI N) (hp : I 165 i = -1) : L_X9_findPlan_176 (z + 1) 144 (nI i) (zI B I) = kYp zN z (nI i) (nI 0) (zI B I) := by
  obtain ⟨y1, -⟩ := hB.hy'
  obtain ⟨-, -, n3, -, -, -, -, -, -, -, l1, l2, -⟩ := hB.py
  have c1 : ¬ nI i < 0 := nI_pos (by omega)
  have c2 : ¬ nI i = nI N := fun q => absurd ((nI_eq (by omega) (by omega)).mp q) (by omega)
  have a1 := aI_at (B := B) (I := I) (by omega) (by rw [l1]; omega) hp
  have e0 : (-1 : Int32) + 1 = nI 0 := rfl
  unfold kYp
  simp only [L_X9_findPlan_176, f_X9_nextPick, nb144, if_neg c1, y1, n3, cond_true, oI_eq, oR_eq, zac_zI, Option.bind_some, h7, if_neg c2, a1, if_pos, e0]
theorem Y_hdb (hB : GB B tw s0 u0) {N i z b : Nat} {I J : Nat → Nat → Int32} (hi : i < N) (hN : N ≤ 8) (hb : b < 5) (h7 : I 144 35 = nI N) (hp : I 165 i = nI b) (hu : f_X9_use 144 (nI i) (nI b) (-1) (zI B I) = some (zI B J)) (hj : J 165 i = nI b) : L_X9_findPlan_176 (z + 1) 144 (nI i) (zI B I) = kYp zN z (nI i) (nI (b + 1)) (zI B J) := by
  obtain ⟨y1, -⟩ := hB.hy'
  obtain ⟨-, -, n3, -, -, -, -, -, -, -, l1, l2, -⟩ := hB.py
  have c1 : ¬ nI i < 0 := nI_pos (by omega)
  have c2 : ¬ nI i = nI N := fun q => absurd ((nI_eq (by omega) (by omega)).mp q) (by omega)
  have c3 : ¬ nI b = -1 := nI_m1 (by omega)
  have a1 := aI_at (B := B) (I := I) (by omega) (by rw [l1]; omega) hp
  have a2 := aI_at (B := B) (I := J) (by omega) (by rw [l1]; omega) hj
  unfold kYp
  simp only [L_X9_findPlan_176, f_X9_nextPick, nb144, if_neg c1, y1, n3, cond_true, oI_eq, oR_eq, zac_zI, Option.bind_some, h7, if_neg c2, a1, if_neg c3, hu, a2, nI_1]
theorem Y_sr (hB : GB B tw s0 u0) (hT : TI T) (hS0 : ∀ v, S0 v ≤ 1000) : ∀ m i I sp w c t s, i + m = qn T d (T 0 3) → w + sm (wtP T d) m i ≤ 5000 → c + 8 * m ≤ 5000 → (0 < m → I 165 i = -1) → SRy T d i S0 sp w c t s I → ∃ q I', q ≤ bnY m ∧ (∀ z, L_X9_findPlan_176 (z + q) 144 (nI i) (zI B I) = L_X9_findPlan_176 z 144 (nI i + (-1)) (zI B I')) ∧ SRy T d i S0 sp w c t (fdP s (lvP T (wdP T d) (wtP T d) (odL oG 5 0) m i sp w c t)) I' ∧ ∀ a j, ¬ fyP a j → I' a j = I a j := by
  obtain ⟨y1, -⟩ := hB.hy'
  obtain ⟨-, n2, n3, -, -, -, -, -, r1, r2, l1, l2, -⟩ := hB.py
  obtain ⟨n8, nw, -⟩ := pl_ok hT (d := d)
  intro m
  induction m with
  | zero =>
    intro i I sp w c t s hi hw hc hp hR
    obtain ⟨hP, hU, e41, e42, hA, hb, hs⟩ := hR
    rw [sm_0] at hw
    have h7 := hP.1
    have c1 : ¬ nI i < 0 := nI_pos (by omega)
    have c2 : nI i = nI (qn T d (T 0 3)) := by rw [show i = qn T d (T 0 3) by omega]
    obtain ⟨I', g1, g2, g3⟩ := Y_cp (t := t) (w := w) (c := c) hB n8 h7 (fun j hj => hA j (by omega)) hb hs (by omega) (by omega) e41 e42
    have hf : ∀ a j, ¬ fyP a j → I' a j = I a j := fun a j q => g3 a j (by unfold fyP at q; omega)
    have ef : fdP s (lvP T (wdP T d) (wtP T d) (odL oG 5 0) 0 i sp w c t) = tkP s (w, c, t) := by
      simp only [lvP]
      rw [fdP_cons, fdP_nil]
    refine ⟨1, I', Nat.le_refl _, fun z => ?_, ?_, hf⟩
    · simp only [L_X9_findPlan_176, if_neg c1, y1, cond_true, oI_eq, zac_zI, Option.bind_some, h7, if_pos c2, g1]
    · refine ⟨hP.fr hf, fun v hv => by rw [g3 166 v (by omega)]; exact hU v hv, by rw [g3 144 41 (by omega)]; exact e41, by rw [g3 144 42 (by omega)]; exact e42, fun j hj => by rw [g3 165 j (by omega)]; exact hA j hj, ?_, fd_bd hs (by rw [sm_0]; omega) (by omega)⟩
      rw [ef]
      exact g2
  | succ m ih =>
    intro i I sp w c t s hi hw hc hp hR
    have hiN : i < qn T d (T 0 3) := by omega
    have hw' : w + (wtP T d i + sm (wtP T d) m (i + 1)) ≤ 5000 := hw
    have inner : ∀ jj b n I s, b + jj = 5 → jj < n → SRy T d i S0 sp w c t s I → ∃ q I', q ≤ jj * (bnY m + 1) ∧ (∀ z, kYp n (z + q) (nI i) (nI b) (zI B I) = L_X9_findPlan_176 z 144 (nI i + (-1)) (zI B I')) ∧ SRy T d i S0 sp w c t (fdP s ((odL oG jj b).flatMap (fun b => if afP T sp (wdP T d i) b = true then lvP T (wdP T d) (wtP T d) (odL oG 5 0) m (i + 1) (dcP sp (stP T (wdP T d i) b)) (w + gnP (wtP T d) i b) (c + pcm (stP T (wdP T d i) b) 8 0) (va_up t i b) else []))) I' ∧ ∀ a j, ¬ fyP a j → I' a j = I a j := by
      intro jj
      induction jj with
      | zero =>
        intro b n I s hbj hn hR
        obtain ⟨n, rfl⟩ := Nat.exists_eq_succ_of_ne_zero (show n ≠ 0 by omega)
        have hb5 : b = 5 := by omega
        subst hb5
        obtain ⟨J1, hJ1⟩ : ∃ J, J = cu I 165 i 5 := ⟨_, rfl⟩
        obtain ⟨J2, hJ2⟩ : ∃ J, J = cu J1 165 i (-1) := ⟨_, rfl⟩
        have s1 : sI (zI B I) 165 (nI i) 5 = some (zI B J1) := by rw [sI_cu (by omega) (by rw [l2]; omega), hJ1]
        have a1 := aI_at (B := B) (I := J1) (i := 165) (k := i) (v := 5) (by omega) (by rw [l1]; omega) (by rw [hJ1, cu_s])
        have s2 : sI (zI B J1) 165 (nI i) (-1) = some (zI B J2) := by rw [sI_cu (by omega) (by rw [l2]; omega), hJ2]
        have o2 : ∀ a j, ¬ (a = 165 ∧ j = i) → J2 a j = I a j := fun a j q => by rw [hJ2, cu_o (by omega), hJ1, cu_o (by omega)]
        have hf : ∀ a j, ¬ fyP a j → J2 a j = I a j := fun a j q => o2 a j (by unfold fyP at q; omega)
        obtain ⟨hP, hU, e41, e42, hA, hb, hs⟩ := hR
        refine ⟨0, J2, Nat.zero_le _, fun z => ?_, ⟨hP.fr hf, fun v hv => by rw [o2 166 v (by omega)]; exact hU v hv, by rw [o2 144 41 (by omega)]; exact e41, by rw [o2 144 42 (by omega)]; exact e42, fun j hj => by rw [o2 165 j (by omega)]; exact hA j hj, ⟨by rw [o2 144 44 (by omega)]; exact hb.1, by rw [o2 144 45 (by omega)]; exact hb.2.1, fun h0 j hj => by rw [o2 168 j (by omega)]; exact hb.2.2 h0 j hj⟩, hs⟩, hf⟩
        have en : L_X9_nextPick_9 (n + 1) 144 (nI i) (nI 5) (zI B I) = some (.inr (zI B I)) := by
          simp only [L_X9_nextPick_9]
          rw [if_pos (by decide)]
        unfold kYp
        rw [Nat.succ_eq_add_one, en]
        simp only [bs_inr, b2_some, s1, y1, n3, cond_true, oR_eq, Option.bind_some, a1, if_pos, s2, Nat.add_zero]
      | succ jj ihj =>
        intro b n I s hbj hn hR
        obtain ⟨n, rfl⟩ := Nat.exists_eq_succ_of_ne_zero (show n ≠ 0 by omega)
        have hR' := hR
        obtain ⟨hP, hU, e41, e42, hA, hb, hs⟩ := hR
        have hb5 : b < 5 := by omega
        have ho : oG b = b := by
          have : b = 0 ∨ b = 1 ∨ b = 2 ∨ b = 3 ∨ b = 4 := by omega
          rcases this with rfl | rfl | rfl | rfl | rfl <;> rfl
        have c5 : ¬ (5 : Int32) ≤ nI b := fun q => absurd ((nI_leI (a := 5) (by omega) (by omega)).mp q) (by omega)
        have gf := Y_ft (b := b) hB hT hP hU hS0 hiN hb5
        rw [show odL oG (jj + 1) b = oG b :: odL oG jj (b + 1) from rfl, ho, lvP_c]
        rcases Bool.eq_false_or_eq_true (afP T sp (wdP T d i) b) with hf | hf
        · rw [hf, ite_t] at gf
          rw [if_pos hf]
          have hoo : okP T (wdP T d i) b = true ∧ fAll sp (stP T (wdP T d i) b) 8 0 = true := by
            unfold afP at hf
            simpa [Bool.and_eq_true] using hf
          have hpos := fAll_s 8 0 hoo.2
          have hpc := pcm_le (S := stP T (wdP T d i) b) 8 0
          have hgn : gnP (wtP T d) i b ≤ wtP T d i := by unfold gnP; split <;> omega
          have hwtb := (nw i hiN).2
          -- use
          obtain ⟨I1, u1, u2, u3, u4, u5⟩ := Y_use (b := b) (f1 := fun v => S0 v - sp v) (f2 := fun v => S0 v - dcP sp (stP T (wdP T d i) b) v) (y := 1) (w := w) (c := c) (w' := w + gnP (wtP T d) i b) (c' := c + pcm (stP T (wdP T d i) b) 8 0) hB hT hP hiN hb5 (fun v hv hh => by
              have h1 := hpos v (by omega) (by omega) hh
              have h2 := (hU v hv).2
              show nI (S0 v - sp v) + 1 = nI (S0 v - dcP sp (stP T (wdP T d i) b) v)
              rw [dcP_t hh, nI_1]
              congr 1
              omega) (fun v hv hh => by
              show S0 v - sp v = S0 v - dcP sp (stP T (wdP T d i) b) v
              rw [dcP_f hh]) (fun v hv => (hU v hv).1) e41 e42 (by rw [Int32.one_mul, nI_add]) (by
              unfold gnP
              by_cases h0 : b = 0
              · rw [if_pos h0, if_pos h0, Int32.add_zero]; rfl
              · rw [if_neg h0, if_neg h0, Int32.one_mul, nI_add])
          obtain ⟨I2, hI2⟩ : ∃ J, J = cu I1 165 i (nI b) := ⟨_, rfl⟩
          have s1 : sI (zI B I1) 165 (nI i) (nI b) = some (zI B I2) := by rw [sI_cu (by omega) (by rw [l2]; omega), hI2]
          have a1 := aI_at (B := B) (I := I2) (i := 165) (k := i) (v := nI b) (by omega) (by rw [l1]; omega) (by rw [hI2, cu_s])
          have f2 : ∀ a j, ¬ (a = 166 ∨ (a = 144 ∧ (j = 41 ∨ j = 42)) ∨ (a = 165 ∧ j = i)) → I2 a j = I a j := fun a j q => by rw [hI2, cu_o (by omega), u5 a j (by omega)]
          have x2 : ∀ a j, ¬ fyP a j → I2 a j = I a j := fun a j q => f2 a j (by unfold fyP at q; omega)
          have hR2 : SRy T d (i + 1) S0 (dcP sp (stP T (wdP T d i) b)) (w + gnP (wtP T d) i b) (c + pcm (stP T (wdP T d i) b) 8 0) (va_up t i b) s I2 := by
            refine ⟨hP.fr x2, fun v hv => ⟨by rw [hI2, cu_o (by omega)]; exact u2 v hv, ?_⟩, by rw [hI2, cu_o (by omega)]; exact u3, by rw [hI2, cu_o (by omega)]; exact u4, fun j hj => ?_, ⟨by rw [f2 144 44 (by omega)]; exact hb.1, by rw [f2 144 45 (by omega)]; exact hb.2.1, fun h0 j hj => by rw [f2 168 j (by omega)]; exact hb.2.2 h0 j hj⟩, hs⟩
            · have h2 := (hU v hv).2
              unfold dcP
              split <;> omega
            · by_cases ej : j = i
              · subst ej; rw [hI2, cu_s, va_up, if_pos rfl]
              · rw [f2 165 j (by omega), va_up, if_neg ej]; exact hA j (by omega)
          -- the way back: from any state of the level below
          have back : ∀ (s' : Nat × Nat × (Nat → Nat)) (I4 : Nat → Nat → Int32), SRy T d (i + 1) S0 (dcP sp (stP T (wdP T d i) b)) (w + gnP (wtP T d) i b) (c + pcm (stP T (wdP T d i) b) 8 0) (va_up t i b) s' I4 → ∃ q I', q ≤ jj * (bnY m + 1) + 1 ∧ (∀ z, L_X9_findPlan_176 (z + q) 144 (nI i) (zI B I4) = L_X9_findPlan_176 z 144 (nI i + (-1)) (zI B I')) ∧ SRy T d i S0 sp w c t (fdP s' ((odL oG jj (b + 1)).flatMap (fun b => if afP T sp (wdP T d i) b = true then lvP T (wdP T d) (wtP T d) (odL oG 5 0) m (i + 1) (dcP sp (stP T (wdP T d i) b)) (w + gnP (wtP T d) i b) (c + pcm (stP T (wdP T d i) b) 8 0) (va_up t i b) else []))) I' ∧ ∀ a j, ¬ fyP a j → I' a j = I4 a j := by
            intro s' I4 hR4
            obtain ⟨hP4, hU4, e4a, e4b, hA4, hb4, hs4⟩ := hR4
            have p4 := hA4 i (by omega)
            rw [va_up, if_pos rfl] at p4
            obtain ⟨I5, v1, v2, v3, v4, v5⟩ := Y_use (b := b) (f1 := fun v => S0 v - dcP sp (stP T (wdP T d i) b) v) (f2 := fun v => S0 v - sp v) (y := -1) (w := w + gnP (wtP T d) i b) (c := c + pcm (stP T (wdP T d i) b) 8 0) (w' := w) (c' := c) hB hT hP4 hiN hb5 (fun v hv hh => by
                have h1 := hpos v (by omega) (by omega) hh
                have h2 := (hU v hv).2
                show nI (S0 v - dcP sp (stP T (wdP T d i) b) v) + -1 = nI (S0 v - sp v)
                rw [dcP_t hh, show S0 v - (sp v - 1) = (S0 v - sp v) + 1 by omega]
                exact pk_m1 _) (fun v hv hh => by
                show S0 v - dcP sp (stP T (wdP T d i) b) v = S0 v - sp v
                rw [dcP_f hh]) (fun v hv => (hU4 v hv).1) e4a e4b (by rw [m1_mul, ← Int32.sub_eq_add_neg, nI_sb (by omega), Nat.add_sub_cancel]) (by
                unfold gnP
                by_cases h0 : b = 0
                · rw [if_pos h0, if_pos h0, Int32.add_zero]; rfl
                · rw [if_neg h0, if_neg h0, m1_mul, ← Int32.sub_eq_add_neg, nI_sb (by omega), Nat.add_sub_cancel])
            have hR5 : SRy T d i S0 sp w c t s' I5 := by
              have x5 : ∀ a j, ¬ fyP a j → I5 a j = I4 a j := fun a j q => v5 a j (by unfold fyP at q; omega)
              refine ⟨hP4.fr x5, fun v hv => ⟨v2 v hv, (hU v hv).2⟩, v3, v4, fun j hj => ?_, ⟨by rw [v5 144 44 (by omega)]; exact hb4.1, by rw [v5 144 45 (by omega)]; exact hb4.2.1, fun h0 j hj => by rw [v5 168 j (by omega)]; exact hb4.2.2 h0 j hj⟩, hs4⟩
              have := hA4 j (by omega)
              rw [va_up, if_neg (by omega)] at this
              rw [v5 165 j (by omega)]
              exact this
            obtain ⟨q, I', q1, q2, q3, q4⟩ := ihj (b + 1) zN I5 s' (by omega) (by unfold zN; omega) hR5
            refine ⟨q + 1, I', by omega, fun z => ?_, q3, fun a j h => by rw [q4 a j h, v5 a j (by unfold fyP at h; omega)]⟩
            rw [← Nat.add_assoc, Y_hdb hB hiN n8 hb5 hP4.1 p4 v1 (by rw [v5 165 i (by omega)]; exact p4)]
            exact q2 z
          have r5 := hP.2.2.1 (i + 1) (by omega)
          rw [show qn T d (T 0 3) - (i + 1) = m by omega] at r5
          have a2 := aI_at (B := B) (I := I2) (i := 164) (k := i + 1) (v := nI (sm (wtP T d) m (i + 1))) (by omega) (by rw [r1]; omega) (by rw [f2 164 _ (by omega)]; exact r5)
          have e41' : I2 144 41 = nI (w + gnP (wtP T d) i b) := hR2.2.2.1
          have e44' : I2 144 44 = eW s.1 := hR2.2.2.2.2.2.1.1
          have zc : nI (w + gnP (wtP T d) i b + sm (wtP T d) m (i + 1)) < eW s.1 ↔ w + gnP (wtP T d) i b + sm (wtP T d) m (i + 1) + 1 < s.1 := eW_gt (by unfold sBd at hs; omega) (by omega)
          have c55 : ¬ nI b = 5 := fun q => absurd ((nI_eq (b := 5) (by omega) (by omega)).mp q) (by omega)
          have en : L_X9_nextPick_9 (n + 1) 144 (nI i) (nI b) (zI B I) = some (.inl (nI b, zI B I1)) := by
            simp only [L_X9_nextPick_9, if_neg c5, y1, cond_true, zac_zI, gf, Option.bind_some, if_neg ne10, u1]
          by_cases hk : w + gnP (wtP T d) i b + sm (wtP T d) m (i + 1) + 1 < s.1
          · have ef : fdP s (lvP T (wdP T d) (wtP T d) (odL oG 5 0) m (i + 1) (dcP sp (stP T (wdP T d i) b)) (w + gnP (wtP T d) i b) (c + pcm (stP T (wdP T d i) b) 8 0) (va_up t i b)) = s := prP (by unfold btP; omega)
            rw [ef]
            obtain ⟨q, I', q1, q2, q3, q4⟩ := back s I2 hR2
            refine ⟨q, I', ?_, fun z => ?_, q3, fun a j h => by rw [q4 a j h, x2 a j h]⟩
            · rw [Nat.succ_mul]; omega
            · rw [← q2 z]
              unfold kYp
              rw [Nat.succ_eq_add_one, en]
              simp only [bs_inl, b2_some, s1, y1, n2, n3, cond_true, oR_eq, oI_eq, Option.bind_some, a1, if_neg c55, e41', nI_1, a2, e44', nI_add, zc, if_pos hk]
          · obtain ⟨I3, hI3⟩ : ∃ J, J = cu I2 165 (i + 1) (-1) := ⟨_, rfl⟩
            have s3 : sI (zI B I2) 165 (nI (i + 1)) (-1) = some (zI B I3) := by rw [sI_cu (by omega) (by rw [l2]; omega), hI3]
            have f3 : ∀ a j, ¬ (a = 165 ∧ j = i + 1) → I3 a j = I2 a j := fun a j q => by rw [hI3, cu_o (by omega)]
            have x3 : ∀ a j, ¬ fyP a j → I3 a j = I2 a j := fun a j q => f3 a j (by unfold fyP at q; omega)
            have hR3 : SRy T d (i + 1) S0 (dcP sp (stP T (wdP T d i) b)) (w + gnP (wtP T d) i b) (c + pcm (stP T (wdP T d i) b) 8 0) (va_up t i b) s I3 := by
              obtain ⟨k1, k2, k3, k4, k5, k6, k7⟩ := hR2
              exact ⟨k1.fr x3, fun v hv => by rw [f3 166 v (by omega)]; exact k2 v hv, by rw [f3 144 41 (by omega)]; exact k3, by rw [f3 144 42 (by omega)]; exact k4, fun j hj => by rw [f3 165 j (by omega)]; exact k5 j hj, ⟨by rw [f3 144 44 (by omega)]; exact k6.1, by rw [f3 144 45 (by omega)]; exact k6.2.1, fun h0 j hj => by rw [f3 168 j (by omega)]; exact k6.2.2 h0 j hj⟩, k7⟩
            obtain ⟨q1, I4, w1, w2, w3, w4⟩ := ih (i + 1) I3 (dcP sp (stP T (wdP T d i) b)) (w + gnP (wtP T d) i b) (c + pcm (stP T (wdP T d i) b) 8 0) (va_up t i b) s (by omega) (by omega) (by omega) (fun _ => by rw [hI3, cu_s]) hR3
            obtain ⟨q2, I', v1, v2, v3, v4⟩ := back _ I4 w3
            refine ⟨q2 + q1, I', ?_, fun z => ?_, v3, fun a j h => by rw [v4 a j h, w4 a j h, x3 a j h, x2 a j h]⟩
            · rw [Nat.succ_mul]; omega
            · rw [← v2 z]
              have e1 : nI (i + 1) + (-1) = nI i := pk_m1 i
              have w2' := w2 (z + q2)
              rw [e1] at w2'
              rw [← w2', ← Nat.add_assoc]
              unfold kYp
              rw [Nat.succ_eq_add_one, en]
              simp only [bs_inl, b2_some, s1, y1, n2, n3, cond_true, oR_eq, oI_eq, Option.bind_some, a1, if_neg c55, e41', nI_1, a2, e44', nI_add, zc, if_neg hk, s3]
        · rw [hf, ite_f] at gf
          rw [if_neg (show ¬ afP T sp (wdP T d i) b = true by rw [hf]; decide)]
          obtain ⟨q, I', q1, q2, q3, q4⟩ := ihj (b + 1) n I s (by omega) (by omega) hR'
          refine ⟨q, I', by rw [Nat.succ_mul]; omega, fun z => ?_, q3, q4⟩
          rw [← q2 z]
          have en : L_X9_nextPick_9 (n + 1) 144 (nI i) (nI b) (zI B I) = L_X9_nextPick_9 n 144 (nI i) (nI (b + 1)) (zI B I) := by
            rw [L_X9_nextPick_9, if_neg c5, zac_zI, y1, cond_true, gf, Option.bind_some, if_pos rfl, nI_1]
          unfold kYp
          rw [Nat.succ_eq_add_one, en]
    obtain ⟨q, I', q1, q2, q3, q4⟩ := inner 5 0 zN I s (by omega) (by unfold zN; omega) hR
    refine ⟨q + 1, I', by unfold bnY; omega, fun z => ?_, q3, q4⟩
    rw [← Nat.add_assoc, Y_hd0 hB hiN n8 hR.1.1 (hp (by omega))]
    exact q2 z
end PLZ
