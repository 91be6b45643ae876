/-! plan: the class's search, level by level -/
section PLS
variable {B : zM} {tw s0 u0 N : Nat} {T : Nat → Nat → Nat} {wd wt o : Nat → Nat} {l1 : Nat}
/-- what stands while a search goes on: supply, what was tried, the best -/
def SRx (T : Nat → Nat → Nat) (wd wt : Nat → Nat) (N i : Nat) (sp t : Nat → Nat) (s : Nat × Nat × (Nat → Nat)) (I : Nat → Nat → Int32) : Prop := PXf T wd wt N I ∧ SPx 116 sp I ∧ (∀ j, j < i → I 121 j = nI (t j)) ∧ BSx N s I ∧ sBd s
theorem X_sr (hB : GB B tw s0 u0) (hT : TI T) (hl : l1 = 1000 ∨ l1 = 1001) (hN : N ≤ 8) (hd : ∀ j, j < N → wd j < 8) (ho5 : ∀ k, k < 5 → o k < 5) : ∀ m i k I sp w c t s, i + m = N → m < k → (∀ v, sp v ≤ 1000) → w + sm wt m i ≤ 5000 → c + 8 * m ≤ 5000 → (∀ q, q < 5 → I l1 q = nI (o q)) → SRx T wd wt N i sp t s I → ∃ I', f_X4_search k 115 l1 (nI i) (nI w) (nI c) (zI B I) = some (zI B I') ∧ SRx T wd wt N i sp t (fdP s (lvP T wd wt (odL o 5 0) m i sp w c t)) I' ∧ ∀ a j, ¬ fxP a j → I' a j = I a j := by
  obtain ⟨-, k2, k3, -, k5, k6, k7, k8, k9, -, -, -, -, p1, p2, p3, p4, p5, p6, p7, p8, -, -, hB1⟩ := hB.pl
  intro m
  induction m with
  | zero =>
    intro i k I sp w c t s hi hk hsp hw hc hO hR
    obtain ⟨k, rfl⟩ := Nat.exists_eq_succ_of_ne_zero (show k ≠ 0 by omega)
    obtain ⟨-, -, n1⟩ := aN_o (I := I) hB1 hl
    obtain ⟨hP, hS, hA, hBs, hsb⟩ := hR
    obtain ⟨r1, r2, r3, r4⟩ := id hP
    have r5 := r4 i (by omega)
    rw [show N - i = 0 by omega, sm_0] at r5
    rw [sm_0] at hw
    have a1 := aI_at (B := B) (I := I) (by omega) (by rw [p5]; omega) r5
    obtain ⟨m1, m2⟩ := X_mb (w := w + 0) (c := c) hB hBs hsb (by omega) (by omega)
    have c1 : ¬ nI i < nI N := fun q => absurd ((nI_ltI (by omega) (by omega)).mp q) (by omega)
    rcases btP_dec s (w + 0) c with hb | hb
    · have m1' := m1 hb
      obtain ⟨I', g1, g2, g3⟩ := X_tk (w := w) (c := c) (t := t) hB hN r1 (fun j hj => hA j (by omega))
      have ef : fdP s (lvP T wd wt (odL o 5 0) 0 i sp w c t) = (w + 1, c, t) := by
        simp only [lvP]
        rw [fdP_cons, fdP_nil, tkP_t (l := (w, c, t)) hb]
      have hf : ∀ a j, ¬ fxP a j → I' a j = I a j := fun a j q => g3 a j (by unfold fxP at q; omega)
      rw [ef]
      refine ⟨I', ?_, ⟨hP.fr hf, fun v hv => by rw [g3 116 v (by omega)]; exact hS v hv, fun j hj => by rw [g3 121 j (by omega)]; exact hA j hj, g2, by unfold sBd; simp only []; omega⟩, hf⟩
      simp only [f_X4_search, show Nat.ble 1 115 = true from rfl, n1, k2, k7, cond_true, oR_eq, oI_eq, zac_zI, Option.bind_some, a1, nI_add, m1', if_neg ne10, r1, if_neg c1, g1]
    · have m2' := m2 hb
      have ef : fdP s (lvP T wd wt (odL o 5 0) 0 i sp w c t) = s := prP (m := 0) (by rw [sm_0]; exact hb)
      rw [ef]
      refine ⟨I, ?_, ⟨hP, hS, hA, hBs, hsb⟩, fun _ _ _ => rfl⟩
      simp only [f_X4_search, show Nat.ble 1 115 = true from rfl, n1, k2, k7, cond_true, oR_eq, oI_eq, zac_zI, Option.bind_some, a1, nI_add, m2', if_pos]
  | succ m ih =>
    intro i k I sp w c t s hi hk hsp hw hc hO hR
    obtain ⟨k, rfl⟩ := Nat.exists_eq_succ_of_ne_zero (show k ≠ 0 by omega)
    obtain ⟨n0, n2, n1⟩ := aN_o (I := I) hB1 hl
    have hR' := hR
    obtain ⟨hP, hS, hA, hBs, hsb⟩ := hR
    obtain ⟨r1, r2, r3, r4⟩ := id hP
    have hiN : i < N := by omega
    have r5 := r4 i (by omega)
    rw [show N - i = m + 1 by omega] at r5
    have a1 := aI_at (B := B) (I := I) (by omega) (by rw [p5]; omega) r5
    obtain ⟨m1, m2⟩ := X_mb (w := w + sm wt (m + 1) i) (c := c) hB hBs hsb (by omega) (by omega)
    have c1 : nI i < nI N := (nI_ltI (by omega) (by omega)).mpr hiN
    have hw' : w + (wt i + sm wt m (i + 1)) ≤ 5000 := hw
    have inner : ∀ mm kk n I s, kk + mm = 5 → mm < n → (∀ q, q < 5 → I l1 q = nI (o q)) → SRx T wd wt N i sp t s I → ∃ I', L_X4_search_45 (f_X4_search k) n 115 l1 (nI i) (nI w) (nI c) l1 (nI 5) (nI kk) (zI B I) = some (zI B I') ∧ SRx T wd wt N i sp t (fdP s ((odL o mm kk).flatMap (fun b => if afP T sp (wd i) b = true then lvP T wd wt (odL o 5 0) m (i + 1) (dcP sp (stP T (wd i) b)) (w + gnP wt i b) (c + pcm (stP T (wd i) b) 8 0) (va_up t i b) else []))) I' ∧ ∀ a j, ¬ fxP a j → I' a j = I a j := by
      intro mm
      induction mm with
      | zero =>
        intro kk n I s hkk hn hO hR
        obtain ⟨n, rfl⟩ := Nat.exists_eq_succ_of_ne_zero (show n ≠ 0 by omega)
        have c5 : nI 5 ≤ nI kk := (nI_leI (by omega) (by omega)).mpr (by omega)
        refine ⟨I, ?_, hR, fun _ _ _ => rfl⟩
        simp only [L_X4_search_45, if_pos c5]
      | succ mm ihm =>
        intro kk n I s hkk hn hO hR
        obtain ⟨n, rfl⟩ := Nat.exists_eq_succ_of_ne_zero (show n ≠ 0 by omega)
        have c5 : ¬ nI 5 ≤ nI kk := fun q => absurd ((nI_leI (by omega) (by omega)).mp q) (by omega)
        obtain ⟨hP, hS, hA, hBs, hsb⟩ := id hR
        obtain ⟨r1, r2, r3, r4⟩ := id hP
        have a2 := aI_at (B := B) (I := I) (i := l1) (k := kk) (by omega) (by rw [n2]; omega) (hO kk (by omega))
        have hb5 := ho5 kk (by omega)
        rw [show odL o (mm + 1) kk = o kk :: odL o mm (kk + 1) from rfl, lvP_c]
        generalize hbb : o kk = b at *
        have a3 := aI_at (B := B) (I := I) (i := 119) (k := 5 * i + b) (by omega) (by rw [p3]; omega) (r2 i hiN b hb5)
        have q1 : nI i * 5 + nI b = nI (5 * i + b) := by rw [nl5, pk_mul, nI_add, Nat.mul_comm]
        have g0 := X_af (b := b) hB hT (hd i hiN) hS hsp
        rcases Bool.eq_false_or_eq_true (afP T sp (wd i) b) with hf | hf
        · rw [hf, ite_t] at g0
          have ho : okP T (wd i) b = true ∧ fAll sp (stP T (wd i) b) 8 0 = true := by
            unfold afP at hf
            simpa [Bool.and_eq_true] using hf
          have hSt := stP_lt (b := b) hT (hd i hiN)
          rw [eU_t ho.1] at a3 g0
          obtain ⟨I1, d1, d2, d3⟩ := X_dn hB hS (show stP T (wd i) b < 1024 by omega) ho.2
          obtain ⟨I2, hI2⟩ : ∃ J, J = cu I1 121 i (nI b) := ⟨_, rfl⟩
          have s1 : sI (zI B I1) 121 (nI i) (nI b) = some (zI B I2) := by rw [sI_cu (by omega) (by rw [p8]; omega), hI2]
          have f2 : ∀ a j, ¬ (a = 116 ∨ (a = 121 ∧ j = i)) → I2 a j = I a j := fun a j q => by rw [hI2, cu_o (by omega), d3 a j (by omega)]
          have x2 : ∀ a j, ¬ fxP a j → I2 a j = I a j := fun a j q => f2 a j (by unfold fxP at q; omega)
          have bc := J_bc (S := stP T (wd i) b) (M := zI B I2) hSt
          have hpc := pcm_le (S := stP T (wd i) b) 8 0
          have hgn : gnP wt i b ≤ wt i := by unfold gnP; split <;> omega
          have hO2 : ∀ q, q < 5 → I2 l1 q = nI (o q) := fun q hq => by rw [x2 l1 q (by unfold fxP; omega)]; exact hO q hq
          have hR2 : SRx T wd wt N (i + 1) (dcP sp (stP T (wd i) b)) (va_up t i b) s I2 := by
            refine ⟨hP.fr x2, fun v hv => by rw [hI2, cu_o (by omega)]; exact d2 v hv, fun j hj => ?_, ?_, hsb⟩
            · by_cases ej : j = i
              · subst ej; rw [hI2, cu_s, va_up, if_pos rfl]
              · rw [f2 121 j (by omega), va_up, if_neg ej]; exact hA j (by omega)
            · exact ⟨by rw [f2 115 8 (by omega)]; exact hBs.1, by rw [f2 115 9 (by omega)]; exact hBs.2.1, fun h0 j hj => by rw [f2 122 j (by omega)]; exact hBs.2.2 h0 j hj⟩
          obtain ⟨I3, e1, e2, e3⟩ := ih (i + 1) k I2 (dcP sp (stP T (wd i) b)) (w + gnP wt i b) (c + pcm (stP T (wd i) b) 8 0) (va_up t i b) s (by omega) (by omega) (dcP_le hsp) (by omega) (by omega) hO2 hR2
          obtain ⟨e4, e5, e6, e7, e8⟩ := e2
          obtain ⟨I4, h1, h2, h3⟩ := X_up' hB e5 (show stP T (wd i) b < 1024 by omega) ho.2
          have x4 : ∀ a j, ¬ fxP a j → I4 a j = I a j := fun a j q => by rw [h3 a j (by unfold fxP at q; omega), e3 a j q, x2 a j q]
          have hR4 : SRx T wd wt N i sp t (fdP s (lvP T wd wt (odL o 5 0) m (i + 1) (dcP sp (stP T (wd i) b)) (w + gnP wt i b) (c + pcm (stP T (wd i) b) 8 0) (va_up t i b))) I4 := by
            refine ⟨hP.fr x4, h2, fun j hj => ?_, ?_, e8⟩
            · have := e6 j (by omega)
              rw [va_up, if_neg (by omega)] at this
              rw [h3 121 j (by omega)]
              exact this
            · exact ⟨by rw [h3 115 8 (by omega)]; exact e7.1, by rw [h3 115 9 (by omega)]; exact e7.2.1, fun h0 j hj => by rw [h3 122 j (by omega)]; exact e7.2.2 h0 j hj⟩
          obtain ⟨I5, v1, v2, v3⟩ := ihm (kk + 1) n I4 _ (by omega) (by omega) (fun q hq => by rw [x4 l1 q (by unfold fxP; omega)]; exact hO q hq) hR4
          rw [if_pos hf]
          refine ⟨I5, ?_, v2, fun a j q => by rw [v3 a j q, x4 a j q]⟩
          have z0 := nI_z (v := b) (by omega)
          by_cases hb0 : b = 0
          · have ge : nI w + 0 = nI (w + gnP wt i b) := by unfold gnP; rw [if_pos hb0, Int32.add_zero]; rfl
            simp only [L_X4_search_45, if_neg c5, k2, k6, k8, cond_true, oR_eq, zac_zI, Option.bind_some, a2, q1, a3, g0, if_neg ne10, d1, s1, z0, if_pos hb0]
            rw [bc, Option.bind_some, nI_1, ge, nI_add, e1, Option.bind_some, zac_zI, k2, cond_true, h1, Option.bind_some, nI_1, v1]
          · have a4 := aI_at (B := B) (I := I2) (i := 118) (k := i) (v := nI (wt i)) (by omega) (by rw [p1]; omega) (by rw [f2 118 i (by omega)]; exact r3 i hiN)
            have ge : nI w + nI (wt i) = nI (w + gnP wt i b) := by unfold gnP; rw [if_neg hb0, nI_add]
            simp only [L_X4_search_45, if_neg c5, k2, k5, k6, k8, cond_true, oR_eq, zac_zI, Option.bind_some, a2, q1, a3, g0, if_neg ne10, d1, s1, z0, if_neg hb0, a4]
            rw [bc, Option.bind_some, nI_1, ge, nI_add, e1, Option.bind_some, zac_zI, k2, cond_true, h1, Option.bind_some, nI_1, v1]
        · rw [hf, ite_f] at g0
          obtain ⟨I5, v1, v2, v3⟩ := ihm (kk + 1) n I s (by omega) (by omega) hO hR
          rw [if_neg (show ¬ afP T sp (wd i) b = true by rw [hf]; decide)]
          refine ⟨I5, ?_, v2, v3⟩
          simp only [L_X4_search_45, if_neg c5, k2, k6, cond_true, oR_eq, zac_zI, Option.bind_some, a2, q1, a3, g0, if_pos, nI_1, v1]
    rcases btP_dec s (w + sm wt (m + 1) i) c with hb | hb
    · have m1' := m1 hb
      obtain ⟨I', g1, g2, g3⟩ := inner 5 0 zN I s (by omega) (by unfold zN; omega) hO hR'
      rw [show nI 0 = (0 : Int32) from rfl] at g1
      refine ⟨I', ?_, ?_, g3⟩
      · simp only [f_X4_search, show Nat.ble 1 115 = true from rfl, n1, k2, k7, cond_true, oR_eq, oI_eq, zac_zI, Option.bind_some, a1, nI_add, m1', if_neg ne10, r1, if_pos c1, n0, g1]
      · exact g2
    · have m2' := m2 hb
      have ef : fdP s (lvP T wd wt (odL o 5 0) (m + 1) i sp w c t) = s := prP (m := m + 1) hb
      rw [ef]
      refine ⟨I, ?_, ⟨hP, hS, hA, hBs, hsb⟩, fun _ _ _ => rfl⟩
      simp only [f_X4_search, show Nat.ble 1 115 = true from rfl, n1, k2, k7, cond_true, oR_eq, oI_eq, zac_zI, Option.bind_some, a1, nI_add, m2', if_pos]
end PLS
