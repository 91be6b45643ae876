/-! town, the reference; town -/
section TWY
variable {B : zM} {tw s u t tl a lo n c : Nat} {X : Nat → Nat} {D : Nat → Nat → Nat} {I : Nat → Nat → Int32} {r : Nat → Nat}
theorem Y_town (hB : GB B tw s u) (hT : TYt tl X I) (hb : BR I) (hSD : (pL X tl tl D0 (sk X tl 0)).1 = none → SD (pL X tl tl D0 (sk X tl 0)).2) :
    (∃ q I1, (pL X tl tl D0 (sk X tl 0)).1 = some q ∧ f_X9_town 144 (zI B I) = some ((-10) - nI q.1, zI B I1) ∧ I1 144 16 = 0 ∧ I1 144 20 = nI q.2 ∧ BR I1 ∧ ∀ i j, ¬ ((i = 144 ∧ 16 ≤ j ∧ j ≤ 33) ∨ (155 ≤ i ∧ i ≤ 161)) → I1 i j = I i j) ∨
    (∃ D I1, (pL X tl tl D0 (sk X tl 0)).1 = none ∧ (pL X tl tl D0 (sk X tl 0)).2 = D ∧ f_X9_town 144 (zI B I) = some (nI (D 0 1), zI B I1) ∧ YT D I1 ∧ YS 145 (rBeg D) I1 ∧ I1 144 16 = 0 ∧ I1 144 20 = -1 ∧ I1 144 3 = 0 ∧ I1 144 48 = 0 ∧ I1 144 52 = 0 ∧ I1 176 0 = 0 ∧ I1 176 1 = 0 ∧ BR I1 ∧ ∀ i j, ¬ ((i = 144 ∧ (j = 3 ∨ (5 ≤ j ∧ j ≤ 8) ∨ (16 ≤ j ∧ j ≤ 33) ∨ j = 48 ∨ j = 52)) ∨ i = 145 ∨ (148 ≤ i ∧ i ≤ 153) ∨ (155 ≤ i ∧ i ≤ 161) ∨ i = 176) → I1 i j = I i j) := by
  obtain ⟨y1, -⟩ := hB.hy'
  obtain ⟨m55, -, -, -, -, -, -, z176⟩ := hB.iy
  obtain ⟨b, J1, a1, a2, a3, a4, a5⟩ := Y_ra hB hT
  have hb1 : BR J1 := fun p hp => (a5 p).elim (fun e => by rw [e]; exact hb p hp) id
  obtain ⟨J2, h2⟩ : ∃ J, J = cu J1 144 16 0 := ⟨_, rfl⟩
  have o2 : ∀ i j, ¬ (i = 144 ∧ j = 16) → J2 i j = J1 i j := fun i j q => by rw [h2]; exact cu_o (by omega)
  have j16 : J2 144 16 = 0 := by rw [h2, cu_s]
  cases hP : (pL X tl tl D0 (sk X tl 0)).1 with
  | some q =>
    rw [hP] at a2
    obtain ⟨e2, e3, q1, q4⟩ := a2
    have f2 : J2 144 18 = nI q.1 := by rw [o2 _ _ (by omega)]; exact e2
    have f3 : J2 144 19 = nI q.2 := by rw [o2 _ _ (by omega)]; exact e3
    have f0 : ¬ nI q.1 = 0 := fun e => absurd ((nI_z (by omega)).mp e) (by omega)
    obtain ⟨J3, h3⟩ : ∃ J, J = cu J2 144 20 (nI q.2) := ⟨_, rfl⟩
    have f4 : J3 144 18 = nI q.1 := by rw [h3, cu_o (by omega)]; exact f2
    refine Or.inl ⟨q, J3, rfl, ?_, by rw [h3, cu_o (by omega)]; exact j16, by rw [h3, cu_s], fun p hp => by rw [h3, cu_o (by omega), o2 _ _ (by omega)]; exact hb1 p hp, fun i j qq => by rw [h3, cu_o (by omega), o2 i j (by omega), a4 i j (by omega)]⟩
    simp only [f_X9_town, nb144, y1, cond_true, zac_zI, oI_eq, pI_cu, Option.bind_some, a1, ← h2, f2, if_neg f0, f3, ← h3, f4]
  | none =>
    rw [hP] at a2
    have hD := a3 hP
    have hS := hSD hP
    obtain ⟨e2, e3, -⟩ := a2
    generalize hDD : (pL X tl tl D0 (sk X tl 0)).2 = D at *
    have h8 := hS.1.2.1
    have h5 := hS.1.2.2.1
    have hN := hS.1.2.2.2.1
    have f2 : J2 144 18 = 0 := by rw [o2 _ _ (by omega)]; exact e2
    obtain ⟨J3, h3⟩ : ∃ J, J = cu J2 144 20 (-1) := ⟨_, rfl⟩
    have o3 : ∀ i j, ¬ (i = 144 ∧ (j = 16 ∨ j = 20)) → J3 i j = J1 i j := fun i j q => by rw [h3, cu_o (by omega)]; exact o2 i j (by omega)
    have f4 : J3 144 18 = 0 := by rw [h3, cu_o (by omega)]; exact f2
    obtain ⟨⟨g21, g22, g23, g24, -⟩, d1, d2, d3, d4, d5⟩ := id hD
    obtain ⟨K1, k1⟩ : ∃ J, J = cu J3 144 5 (nI (D 0 0)) := ⟨_, rfl⟩
    obtain ⟨K2, k2⟩ : ∃ J, J = cu K1 144 6 (nI (D 0 1)) := ⟨_, rfl⟩
    obtain ⟨K3, k3⟩ : ∃ J, J = cu K2 144 7 (nI (D 0 2)) := ⟨_, rfl⟩
    obtain ⟨K4, k4⟩ : ∃ J, J = cu K3 144 8 (nI (D 0 3)) := ⟨_, rfl⟩
    have c1 : J3 144 21 = nI (D 0 0) := by rw [o3 _ _ (by omega)]; exact g21
    have c2 : K1 144 22 = nI (D 0 1) := by rw [k1, cu_o (by omega), o3 _ _ (by omega)]; exact g22
    have c3 : K2 144 23 = nI (D 0 2) := by rw [k2, cu_o (by omega), k1, cu_o (by omega), o3 _ _ (by omega)]; exact g23
    have c4 : K3 144 24 = nI (D 0 3) := by rw [k3, cu_o (by omega), k2, cu_o (by omega), k1, cu_o (by omega), o3 _ _ (by omega)]; exact g24
    have oK : ∀ i j, ¬ (i = 144 ∧ ((5 ≤ j ∧ j ≤ 8) ∨ j = 16 ∨ j = 20)) → K4 i j = J1 i j := fun i j q => by rw [k4, cu_o (by omega), k3, cu_o (by omega), k2, cu_o (by omega), k1, cu_o (by omega)]; exact o3 i j (by omega)
    have s5 : K4 144 5 = nI (D 0 0) := by rw [k4, cu_o (by omega), k3, cu_o (by omega), k2, cu_o (by omega), k1, cu_s]
    have s6 : K4 144 6 = nI (D 0 1) := by rw [k4, cu_o (by omega), k3, cu_o (by omega), k2, cu_s]
    have s7 : K4 144 7 = nI (D 0 2) := by rw [k4, cu_o (by omega), k3, cu_s]
    have s8 : K4 144 8 = nI (D 0 3) := by rw [k4, cu_s]
    have s16 : K4 144 16 = 0 := by rw [k4, cu_o (by omega), k3, cu_o (by omega), k2, cu_o (by omega), k1, cu_o (by omega), h3, cu_o (by omega)]; exact j16
    have s20 : K4 144 20 = -1 := by rw [k4, cu_o (by omega), k3, cu_o (by omega), k2, cu_o (by omega), k1, cu_o (by omega), h3, cu_s]
    obtain ⟨L1, l1, l2, l3⟩ := Y_77 hB 69 0 zN K4 (by omega) (by unfold zN; omega) (fun j hj => absurd hj (by omega))
    have n9 : ∀ w, w < 8 → L1 159 w = nI (D 4 w) := fun w hw => by rw [l3 _ _ (by omega), oK _ _ (by omega)]; exact d3 w hw
    obtain ⟨L2, p1, p2, p3⟩ := Y_98 (D := D) (J := L1) hB h8 (by rw [l3 _ _ (by omega)]; exact s6) (fun w hw => by rw [l3 _ _ (by omega), oK _ _ (by omega)]; exact (d1 w hw).1) (fun w hw => by
      rw [n9 w hw]
      have := hS.1.2.2.2.2.2.1 w
      rcases (show D 4 w = 0 ∨ D 4 w = 1 by omega) with e | e
      · left; rw [e]; rfl
      · right; rw [e]; rfl) 8 0 zN L1 (by omega) (by unfold zN; omega) ⟨fun j hj => absurd hj (by omega), fun _ _ _ => rfl⟩
    obtain ⟨L3, q1, q2, q3⟩ := Y_191 (J := L2) hB 16 0 zN L2 (by omega) (by unfold zN; omega) (fun j hj => absurd hj (by omega)) (fun _ _ _ => rfl)
    obtain ⟨L4, r1, r2, r3⟩ := Y_217 (J := L3) hB (fun j hj => by rw [q3 _ _ (by omega), p3 _ _ (by omega), l3 _ _ (by omega), oK _ _ (by omega)]; exact hb1 j hj) 5 0 zN L3 (by omega) (by unfold zN; omega) (fun j hj => absurd hj (by omega)) (fun _ _ _ => rfl)
    obtain ⟨L5, t1, t2, t3⟩ := Y_242 (J := L4) hB 32 0 zN L4 (by omega) (by unfold zN; omega) (fun j hj => absurd hj (by omega)) (fun _ _ _ => rfl)
    obtain ⟨L6, u1⟩ : ∃ J, J = cu (cu (cu L5 144 3 0) 144 48 0) 144 52 0 := ⟨_, rfl⟩
    obtain ⟨L7, u2⟩ : ∃ J, J = cu L6 176 0 0 := ⟨_, rfl⟩
    obtain ⟨L8, u3⟩ : ∃ J, J = cu L7 176 1 0 := ⟨_, rfl⟩
    have w2 : sZ (zI B L6) 176 (nI 0) 0 = some (zI B L7) := by rw [sZ_cu (by omega) (Or.inl rfl) (by rw [z176]; omega), u2]
    have w3 : sZ (zI B L7) 176 (nI 1) 0 = some (zI B L8) := by rw [sZ_cu (by omega) (Or.inl rfl) (by rw [z176]; omega), u3]
    have o8 : ∀ i j, ¬ ((i = 144 ∧ (j = 3 ∨ j = 48 ∨ j = 52)) ∨ i = 176) → L8 i j = L5 i j := fun i j q => by rw [u3, cu_o (by omega), u2, cu_o (by omega), u1, cu_o (by omega), cu_o (by omega), cu_o (by omega)]
    -- rows outside the copies
    have oo : ∀ i j, ¬ ((i = 144 ∧ (j = 3 ∨ j = 48 ∨ j = 52)) ∨ i = 176 ∨ i = 145 ∨ (148 ≤ i ∧ i ≤ 153)) → L8 i j = K4 i j := fun i j q => by rw [o8 i j (by omega), t3 i j (by omega), r3 i j (by omega), q3 i j (by omega), p3 i j (by omega), l3 i j (by omega)]
    have e6 : L8 144 6 = nI (D 0 1) := by rw [oo _ _ (by omega)]; exact s6
    refine Or.inr ⟨D, L8, rfl, rfl, ?_, ⟨⟨by rw [oo _ _ (by omega)]; exact s5, e6, by rw [oo _ _ (by omega)]; exact s7, by rw [oo _ _ (by omega)]; exact s8⟩, fun w hw => ?_, fun k hk => ?_, fun w hw => ?_, fun p hp => ?_, fun n hn => ?_⟩, fun k hk => ?_, by rw [oo _ _ (by omega)]; exact s16, by rw [oo _ _ (by omega)]; exact s20, ?_, ?_, ?_, ?_, ?_, fun p hp => by rw [oo _ _ (by omega), oK _ _ (by omega)]; exact hb1 p hp, fun i j q => by rw [oo i j (by omega), oK i j (by omega), a4 i j (by omega)]⟩
    · rw [show nI 0 = (0 : Int32) from rfl] at l1 p1 q1 r1 t1 w2
      rw [show nI 1 = (1 : Int32) from rfl] at w3
      simp only [f_X9_town, nb144, y1, cond_true, zac_zI, oI_eq, oR_eq, pI_cu, Option.bind_some, a1, ← h2, f2, if_pos, ← h3, f4, c1, ← k1, c2, ← k2, c3, ← k3, c4, ← k4, l1, p1, q1, r1, t1, ← u1, m55, w2, w3, e6]
    · have h := p2 w (by omega)
      rw [o8 _ _ (by omega), t3 _ _ (by omega), r3 _ _ (by omega), q3 _ _ (by omega), h.2.2.1, o8 _ _ (by omega), t3 _ _ (by omega), r3 _ _ (by omega), q3 _ _ (by omega), h.2.2.2.1, l3 _ _ (by omega), l3 _ _ (by omega), oK _ _ (by omega), oK _ _ (by omega)]
      exact ⟨(d1 w hw).2.1, (d1 w hw).2.2⟩
    · rw [o8 _ _ (by omega), t3 _ _ (by omega), r3 _ _ (by omega), q2 k hk, p3 _ _ (by omega), l3 _ _ (by omega), oK _ _ (by omega)]
      exact d2 k hk
    · rw [o8 _ _ (by omega), t3 _ _ (by omega), r3 _ _ (by omega), q3 _ _ (by omega), (p2 w hw).2.2.2.2]
      exact n9 w hw
    · rw [o8 _ _ (by omega), t3 _ _ (by omega), r2 p (by omega), q3 _ _ (by omega), p3 _ _ (by omega), l3 _ _ (by omega), oK _ _ (by omega)]
      exact d4 p hp
    · have g : ∀ j, j < 32 → L8 153 j = J1 161 j := fun j hj => by rw [o8 _ _ (by omega), t2 j hj, r3 _ _ (by omega), q3 _ _ (by omega), p3 _ _ (by omega), l3 _ _ (by omega), oK _ _ (by omega)]
      rw [g _ (by omega), g _ (by omega), g _ (by omega), g _ (by omega)]
      exact d5 n hn
    · rw [o8 _ _ (by omega), t3 _ _ (by omega), r3 _ _ (by omega), q3 _ _ (by omega)]
      by_cases h1 : k < 5
      · rw [p3 _ _ (by omega), l2 k hk, rBeg_0 (Or.inl h1)]; rfl
      · by_cases h2 : k < 13
        · have e := (p2 (k - 5) (by omega)).1
          have e' := (rBeg_i (D := D) (w := k - 5) (by omega)).1
          rw [show 5 + (k - 5) = k by omega] at e e'
          rw [e, e']
        · by_cases h3 : k < 21
          · have e := (p2 (k - 13) (by omega)).2.1
            have e' := (rBeg_i (D := D) (w := k - 13) (by omega)).2
            rw [show 13 + (k - 13) = k by omega] at e e'
            rw [e, e']
          · rw [p3 _ _ (by omega), l2 k hk, rBeg_0 (Or.inr (by omega))]; rfl
    · rw [u3, cu_o (by omega), u2, cu_o (by omega), u1]; repeat (first | rw [cu_s] | rw [cu_o (by omega)])
    · rw [u3, cu_o (by omega), u2, cu_o (by omega), u1]; repeat (first | rw [cu_s] | rw [cu_o (by omega)])
    · rw [u3, cu_o (by omega), u2, cu_o (by omega), u1]; repeat (first | rw [cu_s] | rw [cu_o (by omega)])
    · rw [u3, cu_o (by omega), u2, cu_s]
    · rw [u3, cu_s]
def KQ (B B' : zM) (I I' : Nat → Nat → Int32) : Prop := B'.1 = B.1 ∧ B'.2.1 = B.2.1 ∧ mR B' 1002 = mR B 1002 ∧ ∀ z, 1000 ≤ z → I' z = I z
/-- town, told to both -/
theorem w_town (h : CR B I c) (hb : BR I) : ∃ v B1 I1 B2 I2, f_X8_town 1 (zI B I) = some (v, zI B1 I1) ∧ f_X9_town 144 (zI B1 I1) = some (v, zI B2 I2) ∧ CR B2 I2 (c + 1) ∧ BR I2 ∧ KQ B B1 I I1 ∧ KQ B B2 I I2 := by
  obtain ⟨tw, s, u, T, r, pa, pn, P, kf, K, tl, X, kn, kw, kd, kb, en, ew, el, sd, hB, hT, hN, hP, hI, hX, hK, hBk, hS⟩ := h
  have htw := hB.hw
  have hs := hB.hs
  have hx : TXt tl X I := ⟨hX.1, hX.2.1, hX.2.2.1, hX.2.2.2.1⟩
  rcases X_town (r := r) hB hx hN.1 with ⟨q, I1, e1, e2, e3, e4, e5⟩ | ⟨D, I1, e1, eD, hSD, e2, hXD, hXS, e3, e4, z1, z2, z3, z4, z5, e5⟩
  · have hy : TYt tl X I1 := ⟨hX.1, trivial, by rw [e5 _ _ (by omega)]; exact hX.2.2.1, fun j hj => ⟨trivial, by rw [e5 _ _ (by omega)]; exact (hX.2.2.2.1 j hj).2⟩⟩
    have hb1 : BR I1 := fun p hp => by rw [e5 _ _ (by omega)]; exact hb p hp
    rcases Y_town hB hy hb1 (fun hh => by rw [e1] at hh; exact absurd hh (by simp)) with ⟨q', I2, f1, f2, f3, f4, f5, f6⟩ | ⟨D, I2, f1, -⟩
    · rw [e1] at f1
      have qq : q' = q := (Option.some.inj f1).symm
      rw [qq] at f2 f4
      refine ⟨_, B, I1, B, I2, e2, f2, ?_, f5, ⟨rfl, rfl, rfl, fun z hz => funext fun j => e5 z j (by omega)⟩, rfl, rfl, rfl, fun z hz => funext fun j => by rw [f6 z j (by omega), e5 z j (by omega)]⟩
      have o : ∀ i j, ¬ (i = 2 ∨ (17 - tw ≤ i ∧ i ≤ 17 - tw + 8) ∨ (i = 144 ∧ 16 ≤ j ∧ j ≤ 33) ∨ (155 ≤ i ∧ i ≤ 161)) → I2 i j = I i j := fun i j q => by rw [f6 i j (by omega), e5 i j (by omega)]
      have hc : c ≤ c + 1 := Nat.le_succ c
      refine ⟨tw, s, u, T, r, pa, pn, P, kf, K, 0, X, kn, kw, kd, kb, en, ew, el, sd, hB, hT.fr (fun i j q => o i j ?_), (hN.mono hc).fr (fun i j q => o i j ?_), (hP.mono hc).fr (fun i j q => o i j ?_), (hI.mono hc).fr (fun i j q => o i j ?_), ⟨by omega, by rw [f6 _ _ (by omega)]; exact e3, f3, fun j hj => absurd hj (by omega), by rw [f6 _ _ (by omega), e4, f4]⟩, hK.fr (fun i j q => o i j ?_), hBk.fr (fun i j q => o i j ?_), hS.fr (fun i j q => o i j ?_)⟩
      · unfold cT at q; omega
      · unfold cN at q; omega
      · unfold cP' at q; omega
      · unfold cI at q; omega
      · unfold cK at q; omega
      · unfold cB at q; omega
      · unfold cS at q; omega
    · rw [e1] at f1; exact absurd f1 (by simp)
  · have hB2 := hB.sw
    have hy : TYt tl X I1 := ⟨hX.1, trivial, by rw [e5 _ _ (by omega)]; exact hX.2.2.1, fun j hj => ⟨trivial, by rw [e5 _ _ (by omega)]; exact (hX.2.2.2.1 j hj).2⟩⟩
    have hb1 : BR I1 := fun p hp => by rw [e5 _ _ (by omega)]; exact hb p hp
    rcases Y_town hB2 hy hb1 (fun _ => by rw [eD]; exact hSD) with ⟨q', I2, f1, -⟩ | ⟨D', I2, f1, fD, f2, g1, g2, g3, g4, g5, g6, g7, g8, g9, g10, f6⟩
    · rw [e1] at f1; exact absurd f1 (by simp)
    · rw [eD] at fD
      rw [← fD] at f2 g1 g2
      refine ⟨_, bSw B (17 - tw) tw, I1, bSw B (17 - tw) tw, I2, e2, f2, ?_, g10, ⟨rfl, rfl, rfl, fun z hz => funext fun j => e5 z j (by omega)⟩, rfl, rfl, rfl, fun z hz => funext fun j => by rw [f6 z j (by omega), e5 z j (by omega)]⟩
      have o2 : ∀ i j, i < 144 → I2 i j = I1 i j := fun i j q => f6 i j (by omega)
      have hpn := hP.2.1
      have h32 := hP.2.2.1
      refine ⟨17 - tw, s, u, D, rBeg D, 0, pn, fun _ _ => 0, fun _ => 0, fun _ _ => 0, 0, X, 0, fun _ => 0, fun _ => 0, fun _ => 0, 0, fun _ => 0, fun _ => 0, sd, hB2, ⟨hSD.1, ⟨hSD.2.2.2.2.1, hSD.2.2.1⟩, ?_, g1⟩, ⟨hXS.fp (fun i j p1 p2 => o2 i j (by omega)), g2, rBeg_B hSD⟩, ⟨by omega, hpn, ?_, ?_, g5, fun j hj => absurd hj (by omega)⟩, ⟨⟨?_, ?_⟩, fun i hi => ⟨Nat.zero_le 1, ?_, fun hk => absurd (show (0 : Nat) = 1 from hk) (by decide)⟩⟩, ⟨by omega, ?_, g3, fun j hj => absurd hj (by omega), ?_⟩, ⟨by omega, ?_, g6, fun j hj => absurd hj (by omega)⟩, ⟨by omega, ?_, g7, fun j hj => absurd hj (by omega)⟩, hS.fr (fun i j q => ?_)⟩
      · obtain ⟨⟨e0, e1, e2, e3, e4, e5, e6⟩, h2, h3, h4⟩ := hXD.1
        refine ⟨⟨?_, ?_, ?_, ?_, ?_, ?_, ?_⟩, fun w hw => ?_, fun k hk => ?_, fun n hn => ?_⟩
        · rw [o2 _ _ (by omega)]; exact e0
        · rw [o2 _ _ (by omega)]; exact e1
        · rw [o2 _ _ (by omega)]; exact e2
        · rw [o2 _ _ (by omega)]; exact e3
        · rw [o2 _ _ (by omega)]; exact e4
        · rw [o2 _ _ (by omega)]; exact e5
        · rw [o2 _ _ (by omega)]; exact e6
        · rw [o2 _ _ (by omega), o2 _ _ (by omega)]; exact h2 w hw
        · rw [o2 _ _ (by omega)]; exact h3 k hk
        · rw [o2 _ _ (by omega), o2 _ _ (by omega), o2 _ _ (by omega), o2 _ _ (by omega)]; exact h4 n hn
      · rw [o2 _ _ (by omega), e5 _ _ (by omega)]; exact h32
      · rw [o2 _ _ (by omega)]; exact z1
      · rw [o2 _ _ (by omega)]; exact z4
      · rw [o2 _ _ (by omega)]; exact z5
      · rcases (show i = 0 ∨ i = 1 by omega) with rfl | rfl
        · exact g8
        · exact g9
      · rw [o2 _ _ (by omega)]; exact e3
      · rw [o2 _ _ (by omega), e4, g4]
      · rw [o2 _ _ (by omega)]; exact z2
      · rw [o2 _ _ (by omega)]; exact z3
      · unfold cS at q
        rw [f6 i j (by omega), e5 i j (by omega)]
end TWY
