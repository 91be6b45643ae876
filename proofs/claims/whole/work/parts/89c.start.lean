/-! the invariant at the loop's start, the law -/
section STA
variable {A : Nat → Nat → Int32} {C : Nat → Nat → Nat} {M : zM}
theorem GB_0 (h : cF M) : GB (ph A C M) 4 22 27 := by
  obtain ⟨hX, hY, ⟨s1, s2, s3, s4, t1, t2⟩, C_ps, ⟨q1, q2, q3, r1, r2, m1, m2, m3, m4, -⟩, -⟩ := h
  refine ⟨?_, ?_, isTw_ph t1, by rw [mR_ph (by decide)]; exact m1, Or.inl rfl, isSt_ph s1, by rw [mR_ph (by decide)]; exact m3, rfl, isSt_ph s2, by rw [mR_ph (by decide)]; exact m4, rfl, fun j hj => isSt_ph (C_ps j hj), fun I j hj => by rw [aQ_ph (by decide)]; exact q1 j hj, isSt_ph s3, isSt_ph s4, fun I => by rw [aQ_ph (by decide)]; exact q2, fun I => by rw [aQ_ph (by decide)]; exact q3, by rw [mR_ph (by decide)]; exact r1, by rw [mR_ph (by decide)]; exact r2, isTw_ph t2, by rw [mR_ph (by decide)]; exact m2⟩
  · have h := hX
    unfold isX at h ⊢
    simp (disch := decide) only [mR_ph, zlI_ph, zac_ph, zln_ph, ph_1]
    exact h
  · have h := hY
    unfold isY at h ⊢
    simp (disch := decide) only [mR_ph, zlI_ph, zac_ph, zln_ph, ph_1]
    exact h
theorem CR_0 (h : cF M) : CR (ph A C M) (mI (ph A C M)) 0 ∧ BR (mI (ph A C M)) := by
  have e : ∀ i j, i < 1000 → mI (ph A C M) i j = mI M i j := fun i j h => by rw [mI_ph h]
  have hG := GB_0 (A := A) (C := C) h
  obtain ⟨-, -, -, -, -, C_c1, C_c2, C_c3, C_c4, ⟨p1, p2, p3, p4, p5, p6, p7, p8, p9, p10, p11, p12⟩⟩ := h
  have hi : ∀ k, k < 69 → zxi 22 k < 1000 := fun k _ => by
    unfold zxi
    repeat' split
    all_goals omega
  refine ⟨⟨4, 22, 27, D0, fun _ => 0, 0, 0, fun _ _ => 0, fun _ => 0, fun _ _ => 0, 0, fun _ => 0, 0, fun _ => 0, fun _ => 0, fun _ => 0, 0, fun _ => 0, fun _ => 0, 0, hG, ⟨SD_0.1, ⟨fun _ => ⟨rfl, rfl⟩, rfl⟩, ?_, ?_⟩, ⟨fun k hk => ?_, fun k hk => ?_, ?_⟩, ⟨by omega, by omega, ?_, ?_, ?_, fun j hj => absurd hj (by omega)⟩, ⟨⟨?_, ?_⟩, fun i hi => ⟨Nat.zero_le 1, ?_, fun hk => absurd (show (0 : Nat) = 1 from hk) (by decide)⟩⟩, ⟨by omega, ?_, ?_, fun j hj => absurd hj (by omega), ?_⟩, ⟨by omega, ?_, ?_, fun j hj => absurd hj (by omega)⟩, ⟨by omega, ?_, ?_, fun j hj => absurd hj (by omega)⟩, ⟨by omega, ?_, ?_⟩⟩, fun p hp => Or.inl ?_⟩
  · have z : ∀ j, j < 9 → mI (ph A C M) 4 j = 0 := fun j hj => by rw [e _ _ (by decide)]; exact (C_c4 j hj).1
    exact ⟨⟨z 0 (by omega), z 1 (by omega), z 2 (by omega), z 3 (by omega), z 4 (by omega), z 5 (by omega), z 6 (by omega)⟩, fun w hw => absurd hw (by unfold D0; omega), fun k hk => by rw [e _ _ (by decide)]; exact (C_c3 k hk).1, fun n hn => absurd hn (by unfold D0; omega)⟩
  · have z : ∀ j, j < 9 → mI (ph A C M) 144 j = 0 := fun j hj => by rw [e _ _ (by decide)]; exact (C_c4 j hj).2
    exact ⟨⟨z 5 (by omega), z 6 (by omega), z 7 (by omega), z 8 (by omega)⟩, fun w hw => absurd hw (by unfold D0; omega), fun k hk => by rw [e _ _ (by decide)]; exact (C_c3 k hk).2.1, fun w hw => by rw [e _ _ (by decide)]; exact (C_c3 w (by omega)).2.2.1, fun p hp => absurd hp (by unfold D0; omega), fun n hn => absurd hn (by unfold D0; omega)⟩
  · rw [e _ _ (hi k hk)]; exact C_c1 k hk
  · rw [e _ _ (by decide)]; exact C_c2 k hk
  · exact ⟨⟨fun w hw => ⟨Nat.zero_le _, Nat.zero_le _⟩, fun w hw => Nat.zero_le _, Nat.zero_le _, Nat.zero_le _, Nat.zero_le _, Nat.zero_le _, Nat.zero_le _⟩, Nat.zero_le _, Nat.zero_le _, fun p w _ _ _ => rfl⟩
  · rw [e _ _ (by decide)]; exact p1
  · rw [e _ _ (by decide)]; exact p2
  · rw [e _ _ (by decide)]; exact (C_c4 3 (by omega)).2
  · rw [e _ _ (by decide)]; exact p3
  · rw [e _ _ (by decide)]; exact p4
  · rw [e _ _ (by decide)]; exact (C_c3 i (by omega)).2.2.2.2
  · rw [e _ _ (by decide)]; exact p5
  · rw [e _ _ (by decide)]; exact p6
  · rw [e _ _ (by decide), e _ _ (by decide)]; exact p7
  · rw [e _ _ (by decide)]; exact p8
  · rw [e _ _ (by decide)]; exact p9
  · rw [e _ _ (by decide)]; exact p10
  · rw [e _ _ (by decide)]; exact p11
  · rw [e _ _ (by decide)]; exact p12
  · rw [e _ _ (by decide)]; exact (C_c4 4 (by omega)).2
  · rw [e _ _ (by decide)]; exact (C_c3 p (by omega)).2.2.2.1
end STA
theorem LI_0 {M : zM} (h : cF M) (L : Nat) (xs : Nat → Int32) : LI (ph (zM0 L xs).2.2.1 (zM0 L xs).2.2.2 M) (mI (ph (zM0 L xs).2.2.1 (zM0 L xs).2.2.2 M)) 0 L xs := by
  have h' := CR_0 (A := (zM0 L xs).2.2.1) (C := (zM0 L xs).2.2.2) h
  obtain ⟨-, -, -, -, ⟨-, -, -, -, -, -, -, -, -, n1, n2⟩, -⟩ := h
  exact ⟨h'.1, h'.2, rfl, rfl, rfl, rfl, n1, n2⟩
theorem sh_144 : ∀ i, i < 1000 → zsh i = (9, 58) → i = 144 := by decide +kernel
theorem mk_144 {M3 M5 : zM} (h : mk M3 9 58 = some M5) : M3.1 + 1 = 144 := by
  unfold mk at h
  cases h1 : decide (zsh (M3.1 + 1) = (9, 58)) with
  | false => rw [h1] at h; exact absurd h (by simp)
  | true =>
    have e := of_decide_eq_true h1
    exact sh_144 _ (zsh_lt (by rw [e]; decide)) e
/-- two names fixed: what the constructors leave -/
theorem pure_law : ∀ (L : Nat) (xs : Nat → Int32), L ≤ 320 → ∃ M' : zM, f_L_law 1002 (zM0 L xs) = some (1, M') ∧ M'.1 = 178 ∧ M'.2.1 = 4062 := by
  intro L xs h3
  obtain ⟨M, hM, hF⟩ := C_all
  have hi : zIn (zM0 L xs) = some (ph (zM0 L xs).2.2.1 (zM0 L xs).2.2.2 M) := by
    rw [zM0_ph L xs, in_ph, hM]
    rw [← zM0_ph L xs]
    rfl
  obtain ⟨M', g1, g2⟩ := law_loop h3 64 zN 0 _ _ (by omega) (by omega) (by unfold zN; omega) (LI_0 hF L xs)
  refine ⟨M', ?_, g2⟩
  rw [zI_self, show nI (5 * 0) = (0 : Int32) from rfl] at g1
  have e0 : (zM0 L xs).1 = 0 := rfl
  generalize ph (zM0 L xs).2.2.1 (zM0 L xs).2.2.2 M = M7 at hi g1
  generalize hM0 : zM0 L xs = M0 at hi e0 ⊢
  unfold zIn at hi
  unfold f_L_law
  rw [e0]
  cases a1 : mk M0 8 13 with
  | none => rw [a1] at hi; exact absurd hi (by simp)
  | some M1 =>
    rw [a1, Option.bind_some] at hi
    cases a2 : f_X8_init 1 M1 with
    | none => rw [a2] at hi; exact absurd hi (by simp)
    | some M3 =>
      rw [a2, Option.bind_some] at hi
      cases a3 : mk M3 9 58 with
      | none => rw [a3] at hi; exact absurd hi (by simp)
      | some M5 =>
        rw [a3, Option.bind_some] at hi
        have e3 := mk_144 a3
        simp only [show Nat.ble 1 1002 = true from rfl, cond_true, Option.bind_some, a2, a3, e3, hi, g1, bs_inr, Nat.zero_add]
