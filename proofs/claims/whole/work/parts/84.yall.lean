/-! the text, read by the reference -/
section YAL
variable {B : zM} {tw s u tl a lo n : Nat} {X : Nat → Nat} {D : Nat → Nat → Nat} {I : Nat → Nat → Int32} {st : PSt} {hi : Int32}
theorem clP_y (h : X a = 121) (h0 : D 0 0 = 0) : clP X tl D a = clE X tl (bY D (pNum X tl none 1 100 (a + 1))) := by
  have f : fnP D (X a) = 0 := by unfold fnP; rw [h, if_pos rfl, if_pos h0]
  unfold clP
  rw [f, if_pos rfl]
  unfold bdP
  rw [h, if_neg (by decide), if_neg (by decide), if_neg (by decide), if_neg (by decide), if_pos rfl]
theorem clP_y3 (h : X a = 121) (h0 : ¬ D 0 0 = 0) : clP X tl D a = (some (3, a), a, D) := by
  have f : fnP D (X a) = 3 := by unfold fnP; rw [h, if_pos rfl, if_neg h0]
  unfold clP
  rw [f, if_neg (by decide)]
theorem clP_1 (h : ¬ X a = 121) (h0 : D 0 0 = 0) : clP X tl D a = (some (1, a), a, D) := by
  have f : fnP D (X a) = 1 := by unfold fnP; rw [if_neg h, if_pos h0]
  unfold clP
  rw [f, if_neg (by decide)]
theorem clP_u (h : ¬ X a = 121) (h0 : ¬ D 0 0 = 0) (h1 : ¬ X a = 97) (h2 : ¬ X a = 110) (h3 : ¬ X a = 111) (h4 : ¬ X a = 112) (h5 : ¬ X a = 119) : clP X tl D a = (some (1, a), a, D) := by
  have f : fnP D (X a) = 1 := by unfold fnP; rw [if_neg h, if_neg h0, if_neg h1, if_neg h2, if_neg h3, if_neg h4, if_neg h5]
  unfold clP
  rw [f, if_neg (by decide)]
theorem clP_a (h : X a = 97) (h0 : ¬ D 0 0 = 0) : clP X tl D a = if 10 ≤ D 0 4 then (some (3, a), a, D) else clE X tl (bA X tl D (pNum X tl none 0 (D 0 1) (a + 1))) := by
  have f : fnP D (X a) = if 10 ≤ D 0 4 then 3 else 0 := by unfold fnP; rw [h, if_neg (by decide), if_neg h0, if_pos rfl]
  unfold clP
  rw [f]
  by_cases k : 10 ≤ D 0 4
  · rw [if_pos k, if_pos k, if_neg (by decide)]
  · rw [if_neg k, if_neg k, if_pos rfl]
    unfold bdP
    rw [h, if_pos rfl]
theorem clP_n (h : X a = 110) (h0 : ¬ D 0 0 = 0) : clP X tl D a = if 8 ≤ D 0 3 then (some (3, a), a, D) else clE X tl (bN X tl D (pNum X tl none 0 (D 0 2) (a + 1))) := by
  have f : fnP D (X a) = if 8 ≤ D 0 3 then 3 else 0 := by unfold fnP; rw [h, if_neg (by decide), if_neg h0, if_neg (by decide), if_pos rfl]
  unfold clP
  rw [f]
  by_cases k : 8 ≤ D 0 3
  · rw [if_pos k, if_pos k, if_neg (by decide)]
  · rw [if_neg k, if_neg k, if_pos rfl]
    unfold bdP
    rw [h, if_neg (by decide), if_neg (by decide), if_neg (by decide), if_neg (by decide), if_neg (by decide)]
theorem clP_o (h : X a = 111) (h0 : ¬ D 0 0 = 0) : clP X tl D a = clE X tl (bO D (pNum X tl none 0 (D 0 1) (a + 1))) := by
  have f : fnP D (X a) = 0 := by unfold fnP; rw [h, if_neg (by decide), if_neg h0, if_neg (by decide), if_neg (by decide), if_pos rfl]
  unfold clP
  rw [f, if_pos rfl]
  unfold bdP
  rw [h, if_neg (by decide), if_pos rfl]
theorem clP_p (h : X a = 112) (h0 : ¬ D 0 0 = 0) : clP X tl D a = if 5 ≤ D 0 2 then (some (3, a), a, D) else clE X tl (bP D (pNum X tl none 0 2 (a + 1))) := by
  have f : fnP D (X a) = if 5 ≤ D 0 2 then 3 else 0 := by unfold fnP; rw [h, if_neg (by decide), if_neg h0, if_neg (by decide), if_neg (by decide), if_neg (by decide), if_pos rfl]
  unfold clP
  rw [f]
  by_cases k : 5 ≤ D 0 2
  · rw [if_pos k, if_pos k, if_neg (by decide)]
  · rw [if_neg k, if_neg k, if_pos rfl]
    unfold bdP
    rw [h, if_neg (by decide), if_neg (by decide), if_pos rfl]
theorem clP_w (h : X a = 119) (h0 : ¬ D 0 0 = 0) : clP X tl D a = if 8 ≤ D 0 1 then (some (3, a), a, D) else clE X tl (bW X tl D (pNum X tl none 0 100 (a + 1))) := by
  have f : fnP D (X a) = if 8 ≤ D 0 1 then 3 else 0 := by unfold fnP; rw [h, if_neg (by decide), if_neg h0, if_neg (by decide), if_neg (by decide), if_neg (by decide), if_neg (by decide), if_pos rfl]
  unfold clP
  rw [f]
  by_cases k : 8 ≤ D 0 1
  · rw [if_pos k, if_pos k, if_neg (by decide)]
  · rw [if_neg k, if_neg k, if_pos rfl]
    unfold bdP
    rw [h, if_neg (by decide), if_neg (by decide), if_neg (by decide), if_pos rfl]
theorem bd_b {c b : Nat} (hb : b ≤ tl) : b ≤ (bdP X tl D c b).2.1 ∧ (bdP X tl D c b).2.1 ≤ tl := by
  have g : ∀ st lo n b, b ≤ tl → b ≤ (pNum X tl st lo n b).2.2.1 ∧ (pNum X tl st lo n b).2.2.1 ≤ tl := fun st lo n b h => pNum_b h
  unfold bdP
  split
  · have q1 := g none 0 (D 0 1) b hb
    unfold bA bA2
    generalize pNum X tl none 0 (D 0 1) b = n1 at *
    have q2 := g (sA D n1) 1 256 n1.2.2.1 q1.2
    exact ⟨Nat.le_trans q1.1 q2.1, q2.2⟩
  · split
    · exact g none 0 (D 0 1) b hb
    · split
      · exact g none 0 2 b hb
      · split
        · have q1 := g none 0 100 b hb
          unfold bW
          generalize pNum X tl none 0 100 b = n1 at *
          have q2 := g n1.1 1 100 n1.2.2.1 q1.2
          unfold bW2
          generalize pNum X tl n1.1 1 100 n1.2.2.1 = n2 at *
          have q3 := g n2.1 0 10 n2.2.2.1 q2.2
          exact ⟨Nat.le_trans q1.1 (Nat.le_trans q2.1 q3.1), q3.2⟩
        · split
          · exact g none 1 100 b hb
          · have q1 := g none 0 (D 0 2) b hb
            unfold bN
            generalize pNum X tl none 0 (D 0 2) b = n1 at *
            have q2 := g n1.1 0 (D 0 1) n1.2.2.1 q1.2
            unfold bN2
            generalize pNum X tl n1.1 0 (D 0 1) n1.2.2.1 = n2 at *
            have q3 := g n2.1 0 (D 0 0) n2.2.2.1 q2.2
            unfold bN3
            generalize pNum X tl n2.1 0 (D 0 0) n2.2.2.1 = n3 at *
            have q4 := g n3.1 0 100 n3.2.2.1 q3.2
            exact ⟨Nat.le_trans q1.1 (Nat.le_trans q2.1 (Nat.le_trans q3.1 q4.1)), q4.2⟩
theorem cl_b (ha : a < tl) : (clP X tl D a).2.1 ≤ tl ∧ ((clP X tl D a).1 = none → a < (clP X tl D a).2.1) := by
  unfold clP
  by_cases k : fnP D (X a) = 0
  · rw [if_pos k]
    have q1 := bd_b (X := X) (D := D) (c := X a) (b := a + 1) (tl := tl) ha
    have q2 := pE_b (X := X) (tl := tl) (st := (bdP X tl D (X a) (a + 1)).1) q1.2
    exact ⟨q2.2, fun _ => Nat.lt_of_lt_of_le (Nat.lt_of_lt_of_le (Nat.lt_succ_self a) q1.1) q2.1⟩
  · rw [if_neg k]
    exact ⟨Nat.le_of_lt ha, fun q => absurd q (by simp)⟩
theorem YG.cg {f g : zM → Option zM} {R : PSt × Nat × (Nat → Nat → Nat)} (h : YG f B I R) (e : ∀ I', f (zI B I) = some (zI B I') → g (zI B I) = some (zI B I')) : YG g B I R := by
  obtain ⟨I', h1, h2, h3, h4, h5⟩ := h
  exact ⟨I', e I' h1, h2, h3, h4, h5⟩
theorem Y_rc (hB : GB B tw s u) (hT : TYt tl X I) (ha : a < tl) (hC : RS none a I) (h : YD D I) (hS : SD D) : YG (f_X9_readClause 144 (nI (X a))) B I (clP X tl D a) := by
  obtain ⟨y1, -⟩ := hB.hy'
  have hx := (hT.2.2.2 a ha).2.2
  have i0 := hS.1.1
  have e21 : I 144 21 = nI (D 0 0) := h.1.1
  have e17 : I 144 17 = nI a := hC.2.2
  have z0 := nI_z (v := D 0 0) (by omega)
  have c1 : nI (X a) = 97 ↔ X a = 97 := nI_eq (b := 97) (by omega) (by omega)
  have c2 : nI (X a) = 110 ↔ X a = 110 := nI_eq (b := 110) (by omega) (by omega)
  have c3 : nI (X a) = 111 ↔ X a = 111 := nI_eq (b := 111) (by omega) (by omega)
  have c4 : nI (X a) = 112 ↔ X a = 112 := nI_eq (b := 112) (by omega) (by omega)
  have c5 : nI (X a) = 119 ↔ X a = 119 := nI_eq (b := 119) (by omega) (by omega)
  have c6 : nI (X a) = 121 ↔ X a = 121 := nI_eq (b := 121) (by omega) (by omega)
  have bad1 : ∃ I', f_X9_bad 144 1 (I 144 17) (zI B I) = some (zI B I') ∧ RS (some (1, a)) 0 I' ∧ ∀ i j, ¬ (i = 144 ∧ (j = 18 ∨ j = 19)) → I' i j = I i j := by
    obtain ⟨I', g1, g2, g3⟩ := Y_bad (f := 1) (p := a) (y := I 144 17) hB (by omega) (by omega) hC (fun _ => e17)
    exact ⟨I', g1, g2, g3⟩
  obtain ⟨J, b1, b2', b3'⟩ := bad1
  by_cases k0 : D 0 0 = 0
  · by_cases k6 : X a = 121
    · rw [clP_y k6 k0]
      refine (Y_rY hB hT ha hC h (hS.2.2.2.2.1 k0).1).cg (fun I' g => ?_)
      have n1 : ¬ X a = 97 := by omega
      have n2 : ¬ X a = 110 := by omega
      have n3 : ¬ X a = 111 := by omega
      have n4 : ¬ X a = 112 := by omega
      have n5 : ¬ X a = 119 := by omega
      have le : nI (D 0 0) ≤ 0 := by rw [k0]; decide
      simp only [f_X9_readClause, nb144, y1, cond_true, oI_eq, zac_zI, Option.bind_some, e21, z0, if_pos k0, c6, if_pos k6, c1, if_neg n1, c2, if_neg n2, c3, if_neg n3, c4, if_neg n4, c5, if_neg n5, if_pos le, g]
    · rw [clP_1 k6 k0]
      refine YG_s (I' := J) ?_ b2' rfl (fun i j q => b3' i j (by omega))
      simp only [f_X9_readClause, nb144, y1, cond_true, oI_eq, zac_zI, Option.bind_some, e21, z0, if_pos k0, c6, if_neg k6, b1]
  · by_cases k1 : X a = 97
    · rw [clP_a k1 k0]
      refine (Y_rA hB hT ha hC h hS).cg (fun I' g => ?_)
      simp only [f_X9_readClause, nb144, y1, cond_true, oI_eq, zac_zI, Option.bind_some, e21, z0, if_neg k0, c1, if_pos k1, g]
    · by_cases k2 : X a = 110
      · rw [clP_n k2 k0]
        refine (Y_rN hB hT ha hC h hS).cg (fun I' g => ?_)
        simp only [f_X9_readClause, nb144, y1, cond_true, oI_eq, zac_zI, Option.bind_some, e21, z0, if_neg k0, c1, if_neg k1, c2, if_pos k2, g]
      · by_cases k3 : X a = 111
        · rw [clP_o k3 k0]
          refine (Y_rO hB hT ha hC h hS).cg (fun I' g => ?_)
          simp only [f_X9_readClause, nb144, y1, cond_true, oI_eq, zac_zI, Option.bind_some, e21, z0, if_neg k0, c1, if_neg k1, c2, if_neg k2, c3, if_pos k3, g]
        · by_cases k4 : X a = 112
          · rw [clP_p k4 k0]
            refine (Y_rP hB hT ha hC h hS.1.2.2.1).cg (fun I' g => ?_)
            simp only [f_X9_readClause, nb144, y1, cond_true, oI_eq, zac_zI, Option.bind_some, e21, z0, if_neg k0, c1, if_neg k1, c2, if_neg k2, c3, if_neg k3, c4, if_pos k4, g]
          · by_cases k5 : X a = 119
            · rw [clP_w k5 k0]
              refine (Y_rW hB hT ha hC h hS.1.2.1).cg (fun I' g => ?_)
              simp only [f_X9_readClause, nb144, y1, cond_true, oI_eq, zac_zI, Option.bind_some, e21, z0, if_neg k0, c1, if_neg k1, c2, if_neg k2, c3, if_neg k3, c4, if_neg k4, c5, if_pos k5, g]
            · by_cases k6 : X a = 121
              · rw [clP_y3 k6 k0]
                have le : ¬ nI (D 0 0) ≤ 0 := fun q => absurd ((nI_leI (b := 0) (by omega) (by omega)).mp q) (by omega)
                obtain ⟨J1, g1, g2, g3⟩ := Y_bad (f := 3) (p := a) (y := I 144 17) hB (by omega) (by omega) hC (fun _ => e17)
                have g2 : RS (some (3, a)) 0 J1 := g2
                obtain ⟨J2, hJ⟩ : ∃ J, J = cu J1 144 17 (J1 144 17 + 1) := ⟨_, rfl⟩
                have o2 : ∀ i j, ¬ (i = 144 ∧ 17 ≤ j ∧ j ≤ 19) → J2 i j = I i j := fun i j q => by rw [hJ, cu_o (by omega), g3 i j (by omega)]
                have R2 : RS (some (3, a)) 0 J2 := by rw [hJ]; exact RS.nx g2
                have T2 : TYt tl X J2 := hT.fr (fun i j q => o2 i j (by omega))
                obtain ⟨v1, K1, a1, a2, a3, a4⟩ := Y_numF (lo := 1) (n := 100) (hi := 99) hB T2 R2 rfl (by omega) (by omega)
                obtain ⟨K2, h2⟩ : ∃ K, K = cu K1 144 21 v1 := ⟨_, rfl⟩
                have o3 : ∀ i j, ¬ (i = 144 ∧ j = 21) → K2 i j = K1 i j := fun i j q => by rw [h2, cu_o (by omega)]
                obtain ⟨K4, d1, d2, d3⟩ := Y_endF hB (a3.fr (I' := K2) (fun i j q => o3 i j (by omega))) (a2.fr (I' := K2) (fun j x y => o3 _ _ (by omega)))
                rw [show nI 1 = (1 : Int32) from rfl] at a1
                rw [show nI 3 = (3 : Int32) from rfl] at g1
                refine YG_s (I' := K4) ?_ d2 rfl (fun i j q => by rw [d3 i j (by omega), o3 i j (by omega), a4 i j (by omega), o2 i j (by omega)])
                simp only [f_X9_readClause, f_X9_readYear, nb144, y1, cond_true, oI_eq, pI_cu, zac_zI, Option.bind_some, e21, z0, if_neg k0, c1, if_neg k1, c2, if_neg k2, c3, if_neg k3, c4, if_neg k4, c5, if_neg k5, c6, if_pos k6, if_neg le, g1, ← hJ, a1, b2_some, ← h2, d1]
              · rw [clP_u k6 k0 k1 k2 k3 k4 k5]
                refine YG_s (I' := J) ?_ b2' rfl (fun i j q => b3' i j (by omega))
                simp only [f_X9_readClause, nb144, y1, cond_true, oI_eq, zac_zI, Option.bind_some, e21, z0, if_neg k0, c1, if_neg k1, c2, if_neg k2, c3, if_neg k3, c4, if_neg k4, c5, if_neg k5, c6, if_neg k6, b1]
theorem Y_ra_lp (hB : GB B tw s u) : ∀ m n a D I, tl - a ≤ m → m + 1 < n → a ≤ tl → TYt tl X I → RS none a I → SD D → YD D I → ∃ b I', L_X9_readAll_87 n 144 (if a < tl then nI (X a) else -1) (zI B I) = some (zI B I') ∧ RS (pL X tl m D a).1 b I' ∧ ((pL X tl m D a).1 = none → YD (pL X tl m D a).2 I') ∧ (∀ i j, ¬ ((i = 144 ∧ 17 ≤ j ∧ j ≤ 33 ∧ j ≠ 20) ∨ (155 ≤ i ∧ i ≤ 161)) → I' i j = I i j) ∧ ∀ j, I' 160 j = I 160 j ∨ I' 160 j = 0 ∨ I' 160 j = 1 := by
  obtain ⟨y1, -⟩ := hB.hy'
  intro m
  induction m with
  | zero =>
    intro n a D I ha hn hal hT hC hS h
    obtain ⟨n, rfl⟩ := Nat.exists_eq_succ_of_ne_zero (show n ≠ 0 by omega)
    refine ⟨a, I, ?_, hC, fun _ => h, fun _ _ _ => rfl, fun _ => Or.inl rfl⟩
    rw [if_neg (by omega), L_X9_readAll_87, if_pos rfl]
  | succ m ih =>
    intro n a D I ha hn hal hT hC hS h
    obtain ⟨n, rfl⟩ := Nat.exists_eq_succ_of_ne_zero (show n ≠ 0 by omega)
    rw [pL]
    by_cases e : a < tl
    · rw [if_pos e, if_pos e]
      have hx := (hT.2.2.2 a e).2.2
      have n1 : ¬ nI (X a) = -1 := fun q => by
        have h0 : ¬ nI (X a) < 0 := nI_pos (by omega)
        rw [q] at h0
        exact h0 (by decide)
      obtain ⟨J, g1, g2, g3, g4, g5⟩ := Y_rc hB hT e hC h hS
      have hb := cl_b (X := X) (D := D) e
      have T1 : TYt tl X J := hT.fr (fun i j q => g4 i j (by omega))
      obtain ⟨J2, v1, v2, v3⟩ := Y_ln hB T1 hb.1 g2
      have hs := sk_b (X := X) hb.1
      have step : L_X9_readAll_87 (n + 1) 144 (nI (X a)) (zI B I) = L_X9_readAll_87 n 144 (ltS X tl (clP X tl D a).1 (clP X tl D a).2.1) (zI B J2) := by
        rw [L_X9_readAll_87, if_neg n1]
        simp only [y1, cond_true, zac_zI, g1, Option.bind_some, v1, b2_some]
      rw [step]
      by_cases kn : (clP X tl D a).1 = none
      · rw [if_pos kn]
        rw [kn] at v2 ⊢
        have v2 : RS none (sk X tl (clP X tl D a).2.1) J2 := v2
        have := hb.2 kn
        obtain ⟨b, I', w1, w2, w3, w4, w5⟩ := ih n (sk X tl (clP X tl D a).2.1) (clP X tl D a).2.2 J2 (by omega) (by omega) hs.2 (T1.fr (fun i j q => v3 i j (by omega))) v2 (SD_cl hS kn) ((g3 kn).fr (fun i j q => v3 i j (by omega)))
        exact ⟨b, I', w1, w2, w3, fun i j q => by rw [w4 i j q, v3 i j (by omega), g4 i j q], fun j => (w5 j).elim (fun e => by rw [e, v3 160 j (by omega)]; exact g5 j) Or.inr⟩
      · rw [if_neg kn]
        refine ⟨_, J2, ?_, v2, fun q => absurd q kn, fun i j q => by rw [v3 i j (by omega), g4 i j q], fun j => by rw [v3 160 j (by omega)]; exact g5 j⟩
        obtain ⟨q, hq⟩ : ∃ q, (clP X tl D a).1 = some q := by
          cases hh : (clP X tl D a).1 with
          | none => exact absurd hh kn
          | some q => exact ⟨q, rfl⟩
        obtain ⟨n, rfl⟩ := Nat.exists_eq_succ_of_ne_zero (show n ≠ 0 by omega)
        rw [hq]
        show L_X9_readAll_87 (n + 1) 144 (-1) (zI B J2) = some (zI B J2)
        rw [L_X9_readAll_87, if_pos rfl]
    · rw [if_neg e, if_neg e]
      refine ⟨a, I, ?_, hC, fun _ => h, fun _ _ _ => rfl, fun _ => Or.inl rfl⟩
      rw [L_X9_readAll_87, if_pos rfl]
theorem Y_42 (hB : GB B tw s u) : ∀ m k n I, k + m = 16 → m < n → (∀ j, j < k → I 158 j = 0) → ∃ I', L_X9_readAll_42 n 144 (nI k) (zI B I) = some (zI B I') ∧ (∀ j, j < 16 → I' 158 j = 0) ∧ ∀ i j, i ≠ 158 → I' i j = I i j := by
  obtain ⟨y1, -⟩ := hB.hy'
  obtain ⟨-, -, -, m29, -, -, -, -, -, -, z158, -⟩ := hB.hz
  intro m
  induction m with
  | zero =>
    intro k n I hk hn h
    obtain ⟨n, rfl⟩ := Nat.exists_eq_succ_of_ne_zero (show n ≠ 0 by omega)
    refine ⟨I, ?_, fun j hj => h j (by omega), fun _ _ _ => rfl⟩
    have c1 : 16 ≤ nI k := (nI_leI (a := 16) (by omega) (by omega)).mpr (by omega)
    rw [L_X9_readAll_42, if_pos c1]
  | succ m ih =>
    intro k n I hk hn h
    obtain ⟨n, rfl⟩ := Nat.exists_eq_succ_of_ne_zero (show n ≠ 0 by omega)
    have c1 : ¬ 16 ≤ nI k := fun q => absurd ((nI_leI (a := 16) (by omega) (by omega)).mp q) (by omega)
    obtain ⟨J, hJ⟩ : ∃ J, J = cu I 158 k 0 := ⟨_, rfl⟩
    have s1 : sI (zI B I) 158 (nI k) 0 = some (zI B J) := by rw [sI_cu (by omega) (by rw [z158]; omega), hJ]
    obtain ⟨I', g1, g2, g3⟩ := ih (k + 1) n J (by omega) (by omega) (fun j hj => by
      rw [hJ]
      by_cases e : j = k
      · rw [e, cu_s]
      · rw [cu_o (by omega)]; exact h j (by omega))
    refine ⟨I', ?_, g2, fun i j q => by rw [g3 i j q, hJ, cu_o (by omega)]⟩
    rw [L_X9_readAll_42, if_neg c1]
    simp only [oR_eq, y1, m29, cond_true, Option.bind_some, s1, nI_1, g1]
theorem Y_63 (hB : GB B tw s u) : ∀ m k n I, k + m = 8 → m < n → (∀ j, j < k → I 159 j = 0) → ∃ I', L_X9_readAll_63 n 144 (nI k) (zI B I) = some (zI B I') ∧ (∀ j, j < 8 → I' 159 j = 0) ∧ ∀ i j, i ≠ 159 → I' i j = I i j := by
  obtain ⟨y1, -⟩ := hB.hy'
  obtain ⟨-, -, -, -, m30, -, -, -, -, -, -, -, z159, -⟩ := hB.hz
  intro m
  induction m with
  | zero =>
    intro k n I hk hn h
    obtain ⟨n, rfl⟩ := Nat.exists_eq_succ_of_ne_zero (show n ≠ 0 by omega)
    refine ⟨I, ?_, fun j hj => h j (by omega), fun _ _ _ => rfl⟩
    have c1 : 8 ≤ nI k := (nI_leI (a := 8) (by omega) (by omega)).mpr (by omega)
    rw [L_X9_readAll_63, if_pos c1]
  | succ m ih =>
    intro k n I hk hn h
    obtain ⟨n, rfl⟩ := Nat.exists_eq_succ_of_ne_zero (show n ≠ 0 by omega)
    have c1 : ¬ 8 ≤ nI k := fun q => absurd ((nI_leI (a := 8) (by omega) (by omega)).mp q) (by omega)
    obtain ⟨J, hJ⟩ : ∃ J, J = cu I 159 k 0 := ⟨_, rfl⟩
    have s1 : sZ (zI B I) 159 (nI k) 0 = some (zI B J) := by rw [sZ_cu (by omega) (Or.inl rfl) (by rw [z159]; omega), hJ]
    obtain ⟨I', g1, g2, g3⟩ := ih (k + 1) n J (by omega) (by omega) (fun j hj => by
      rw [hJ]
      by_cases e : j = k
      · rw [e, cu_s]
      · rw [cu_o (by omega)]; exact h j (by omega))
    refine ⟨I', ?_, g2, fun i j q => by rw [g3 i j q, hJ, cu_o (by omega)]⟩
    rw [L_X9_readAll_63, if_neg c1]
    simp only [oR_eq, y1, m30, cond_true, Option.bind_some, s1, nI_1, g1]
theorem Y_ra (hB : GB B tw s u) (hT : TYt tl X I) : ∃ b I', f_X9_readAll 144 (zI B I) = some (zI B I') ∧ RS (pL X tl tl D0 (sk X tl 0)).1 b I' ∧ ((pL X tl tl D0 (sk X tl 0)).1 = none → YD (pL X tl tl D0 (sk X tl 0)).2 I') ∧ (∀ i j, ¬ ((i = 144 ∧ 17 ≤ j ∧ j ≤ 33 ∧ j ≠ 20) ∨ (155 ≤ i ∧ i ≤ 161)) → I' i j = I i j) ∧ ∀ j, I' 160 j = I 160 j ∨ I' 160 j = 0 ∨ I' 160 j = 1 := by
  obtain ⟨y1, -⟩ := hB.hy'
  have htl := hT.1
  obtain ⟨J, hJ⟩ : ∃ J, J = cu (cu (cu (cu (cu (cu (cu (cu I 144 17 0) 144 18 0) 144 19 (-1)) 144 21 0) 144 22 0) 144 23 0) 144 24 0) 144 25 0 := ⟨_, rfl⟩
  have oJ : ∀ i j, ¬ (i = 144 ∧ 17 ≤ j ∧ j ≤ 25 ∧ j ≠ 20) → J i j = I i j := fun i j q => by rw [hJ, cu_o (by omega), cu_o (by omega), cu_o (by omega), cu_o (by omega), cu_o (by omega), cu_o (by omega), cu_o (by omega), cu_o (by omega)]
  have zJ : ∀ j, (j = 17 ∨ j = 18 ∨ j = 21 ∨ j = 22 ∨ j = 23 ∨ j = 24 ∨ j = 25) → J 144 j = 0 := fun j hj => by
    rcases hj with rfl | rfl | rfl | rfl | rfl | rfl | rfl
    all_goals rw [hJ]
    all_goals repeat (first | rw [cu_s] | rw [cu_o (by omega)])
  have z19 : J 144 19 = -1 := by
    rw [hJ]
    repeat (first | rw [cu_s] | rw [cu_o (by omega)])
  obtain ⟨J1, a1, a2, a3⟩ := Y_42 hB 16 0 zN J (by omega) (by unfold zN; omega) (fun j hj => absurd hj (by omega))
  obtain ⟨J2, b1, b2', b3'⟩ := Y_63 hB 8 0 zN J1 (by omega) (by unfold zN; omega) (fun j hj => absurd hj (by omega))
  have o2 : ∀ i j, ¬ (i = 158 ∨ i = 159) → J2 i j = J i j := fun i j q => by rw [b3' i j (by omega), a3 i j (by omega)]
  have T2 : TYt tl X J2 := hT.fr (fun i j q => by rw [o2 i j (by omega), oJ i j (by omega)])
  have R2 : RS none 0 J2 := ⟨by rw [o2 _ _ (by omega)]; exact zJ 18 (by omega), by rw [o2 _ _ (by omega)]; exact z19, by rw [o2 _ _ (by omega)]; exact zJ 17 (by omega)⟩
  obtain ⟨J3, c1, c2, c3⟩ := Y_ln hB T2 (Nat.zero_le tl) R2
  have c2 : RS none (sk X tl 0) J3 := c2
  have hs := sk_b (X := X) (Nat.zero_le tl)
  have hD : YD D0 J3 := by
    refine ⟨⟨?_, ?_, ?_, ?_, ?_⟩, fun w hw => absurd hw (by unfold D0; omega), fun k hk => ?_, fun w hw => ?_, fun p hp => absurd hp (by unfold D0; omega), fun n hn => absurd hn (by unfold D0; omega)⟩
    · rw [c3 _ _ (by omega), o2 _ _ (by omega)]; exact zJ 21 (by omega)
    · rw [c3 _ _ (by omega), o2 _ _ (by omega)]; exact zJ 22 (by omega)
    · rw [c3 _ _ (by omega), o2 _ _ (by omega)]; exact zJ 23 (by omega)
    · rw [c3 _ _ (by omega), o2 _ _ (by omega)]; exact zJ 24 (by omega)
    · rw [c3 _ _ (by omega), o2 _ _ (by omega)]; exact zJ 25 (by omega)
    · rw [c3 _ _ (by omega), b3' _ _ (by omega)]; exact a2 k hk
    · rw [c3 _ _ (by omega)]; exact b2' w hw
  obtain ⟨b, I', w1, w2, w3, w4, w5⟩ := Y_ra_lp hB tl zN (sk X tl 0) D0 J3 (by omega) (by unfold zN; omega) hs.2 (T2.fr (fun i j q => c3 i j (by omega))) c2 SD_0 hD
  refine ⟨b, I', ?_, w2, w3, fun i j q => by rw [w4 i j q, c3 i j (by omega), o2 i j (by omega), oJ i j (by omega)], fun j => (w5 j).elim (fun e => Or.inl (by rw [e, c3 160 j (by omega), o2 160 j (by omega), oJ 160 j (by omega)])) Or.inr⟩
  have c1 : f_X9_letterNow 144 (zI B J2) = some (if sk X tl 0 < tl then nI (X (sk X tl 0)) else -1, zI B J3) := c1
  rw [show nI 0 = (0 : Int32) from rfl] at a1 b1
  simp only [f_X9_readAll, nb144, y1, cond_true, pI_cu, zac_zI, Option.bind_some, ← hJ, a1, b1, c1, b2_some, w1]
end YAL
