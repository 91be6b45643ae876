def f_X0_init (l0 : Nat) (M : zM) : Option (zM) := bif Nat.ble 1 l0 then ((mk M 10 15).bind fun M1 => (pR M1 l0 0 3 0 (M.1 + 1)).bind fun M3 => (mk M3 10 15).bind fun M5 => (pR M5 l0 0 3 1 (M3.1 + 1)).bind fun M7 => some M7) else none
theorem E_X0_init {G : zG} {d : Nat} {l0 : Nat} {M MR : zM} (h : f_X0_init l0 M = some MR) : Ex G d yX0_init cX0_init 1 none 0 (zent0 [.ref l0] 1) [] M (none, MR) := by
  unfold f_X0_init at h
  obtain ⟨zz0, h⟩ := bt h
  have hl0 := bz zz0
  show Ex _ _ _ _ _ _ 0 [.ref l0] [] _ _
  refine x_aload_n (pc := 0) dX0_init_0 rfl rfl hl0 ?_
  refine y_oinit (pc := 1) dX0_init_1 zm_X0_3 hl0 ?_
  refine x_aload_n (pc := 4) dX0_init_4 rfl rfl hl0 ?_
  refine x_bipush (pc := 5) dX0_init_5 (v := 15) (by decide) ?_
  obtain ⟨M1, e2, h⟩ := ob h
  refine y_newa (pc := 7) dX0_init_7 (N := 15) (by decide) (by decide) (by decide) e2 ?_
  obtain ⟨M3, e4, h⟩ := ob h
  refine y_putF (pc := 9) dX0_init_9 zf_X0_9 rfl (by intro C T n q; cases q; rfl) e4 ?_
  refine x_aload_n (pc := 12) dX0_init_12 rfl rfl hl0 ?_
  refine x_bipush (pc := 13) dX0_init_13 (v := 15) (by decide) ?_
  obtain ⟨M5, e6, h⟩ := ob h
  refine y_newa (pc := 15) dX0_init_15 (N := 15) (by decide) (by decide) (by decide) e6 ?_
  obtain ⟨M7, e8, h⟩ := ob h
  refine y_putF (pc := 17) dX0_init_17 zf_X0_15 rfl (by intro C T n q; cases q; rfl) e8 ?_
  obtain rfl := s1 h
  exact x_vret (pc := 20) dX0_init_20 rfl
def f_X0_clear (l0 : Nat) (M : zM) : Option (zM) := bif Nat.ble 1 l0 then ((pI M l0 0 3 2 0).bind fun M1 => some M1) else none
theorem E_X0_clear {G : zG} {d : Nat} {l0 : Nat} {M MR : zM} (h : f_X0_clear l0 M = some MR) : Ex G d yX0_clear cX0_clear 1 none 0 (zent0 [.ref l0] 1) [] M (none, MR) := by
  unfold f_X0_clear at h
  obtain ⟨zz0, h⟩ := bt h
  have hl0 := bz zz0
  show Ex _ _ _ _ _ _ 0 [.ref l0] [] _ _
  refine x_aload_n (pc := 0) dX0_clear_0 rfl rfl hl0 ?_
  refine x_iconst (pc := 1) dX0_clear_1 (v := 0) rfl ?_
  obtain ⟨M1, e2, h⟩ := ob h
  refine y_putI (pc := 2) dX0_clear_2 zf_X0_18 e2 ?_
  obtain rfl := s1 h
  exact x_vret (pc := 5) dX0_clear_5 rfl
def f_X0_enter (l0 : Nat) (l1 : Int32) (l2 : Int32) (M : zM) : Option (zM) := bif Nat.ble 1 l0 then ((oI M l0 0 3 2).bind fun v1 => if 15 ≤ v1 then (some M) else ((oR M l0 0 3 0).bind fun v4 => (oI M l0 0 3 2).bind fun v6 => (sI M v4 v6 l1).bind fun M8 => (oR M8 l0 0 3 1).bind fun v10 => (oI M8 l0 0 3 2).bind fun v12 => (sI M8 v10 v12 l2).bind fun M14 => (oI M14 l0 0 3 2).bind fun v16 => (pI M14 l0 0 3 2 (v16 + 1)).bind fun M18 => some M18)) else none
theorem E_X0_enter {G : zG} {d : Nat} {l0 : Nat} {l1 : Int32} {l2 : Int32} {M MR : zM} (h : f_X0_enter l0 l1 l2 M = some MR) : Ex G d yX0_enter cX0_enter 3 none 0 (zent0 [.ref l0, .int l1, .int l2] 3) [] M (none, MR) := by
  unfold f_X0_enter at h
  obtain ⟨zz0, h⟩ := bt h
  have hl0 := bz zz0
  show Ex _ _ _ _ _ _ 0 [.ref l0, .int l1, .int l2] [] _ _
  refine x_aload_n (pc := 0) dX0_enter_0 rfl rfl hl0 ?_
  obtain ⟨v1, e2, h⟩ := ob h
  refine y_getI (pc := 1) dX0_enter_1 zf_X0_18 e2 (by decide) ?_
  refine x_bipush (pc := 4) dX0_enter_4 (v := 15) (by decide) ?_
  refine x_icmp_ge (pc := 6) dX0_enter_6 (t := 39) rfl (fun c3 => ?_) (fun c3 => ?_)
  · rw [if_pos c3] at h
    obtain rfl := s1 h
    exact x_vret (pc := 39) dX0_enter_39 rfl
  · rw [if_neg c3] at h
    refine x_aload_n (pc := 9) dX0_enter_9 rfl rfl hl0 ?_
    obtain ⟨v4, e5, h⟩ := ob h
    refine y_getR (pc := 10) dX0_enter_10 zf_X0_9 e5 ?_
    refine x_aload_n (pc := 13) dX0_enter_13 rfl rfl hl0 ?_
    obtain ⟨v6, e7, h⟩ := ob h
    refine y_getI (pc := 14) dX0_enter_14 zf_X0_18 e7 (by decide) ?_
    refine x_iload_n (pc := 17) dX0_enter_17 rfl rfl ?_
    obtain ⟨M8, e9, h⟩ := ob h
    refine y_iast (pc := 18) dX0_enter_18 e9 ?_
    refine x_aload_n (pc := 19) dX0_enter_19 rfl rfl hl0 ?_
    obtain ⟨v10, e11, h⟩ := ob h
    refine y_getR (pc := 20) dX0_enter_20 zf_X0_15 e11 ?_
    refine x_aload_n (pc := 23) dX0_enter_23 rfl rfl hl0 ?_
    obtain ⟨v12, e13, h⟩ := ob h
    refine y_getI (pc := 24) dX0_enter_24 zf_X0_18 e13 (by decide) ?_
    refine x_iload_n (pc := 27) dX0_enter_27 rfl rfl ?_
    obtain ⟨M14, e15, h⟩ := ob h
    refine y_iast (pc := 28) dX0_enter_28 e15 ?_
    refine x_aload_n (pc := 29) dX0_enter_29 rfl rfl hl0 ?_
    refine x_dup (pc := 30) dX0_enter_30 rv_cr ?_
    obtain ⟨v16, e17, h⟩ := ob h
    refine y_getI (pc := 31) dX0_enter_31 zf_X0_18 e17 (by decide) ?_
    refine x_iconst (pc := 34) dX0_enter_34 (v := 1) rfl ?_
    refine x_iadd (pc := 35) dX0_enter_35 ?_
    obtain ⟨M18, e19, h⟩ := ob h
    refine y_putI (pc := 36) dX0_enter_36 zf_X0_18 e19 ?_
    obtain rfl := s1 h
    exact x_vret (pc := 39) dX0_enter_39 rfl
def L_X0_firstWrong_2 : Nat → Nat → Nat → Int32 → zM → Option ((Int32) ⊕ (Unit))
  | 0, _, _, _, _ => none
  | n + 1, l0, l1, l2, M => (oI M l0 0 3 2).bind fun v1 => if v1 ≤ l2 then (some (.inr ())) else ((oR M l1 5 9 1).bind fun v4 => (oR M l0 0 3 0).bind fun v6 => (aI M v6 l2).bind fun v8 => (aI M v4 v8).bind fun v10 => (oR M l0 0 3 1).bind fun v12 => (aI M v12 l2).bind fun v14 => if v10 = v14 then (L_X0_firstWrong_2 n l0 l1 (l2 + 1) M) else (some (.inl l2)))
def f_X0_firstWrong (l0 : Nat) (l1 : Nat) (M : zM) : Option (Int32) := bif Nat.ble 1 l0 then (bif Nat.ble 1 l1 then (bs (L_X0_firstWrong_2 zN l0 l1 0 M) some (fun _ => some (-1))) else none) else none
theorem LX_X0_firstWrong_2 {G : zG} {d : Nat} : ∀ (n : Nat) (l0 : Nat) (l1 : Nat) (l2 : Int32) (M : zM) (hl0 : l0 ≠ 0) (hl1 : l1 ≠ 0) (e : (Int32) ⊕ (Unit)) {res : Option Value × zM}, L_X0_firstWrong_2 n l0 l1 l2 M = some e → (∀ r, e = .inl r → res = (some (.int r), M)) → (e = .inr () → Ex G d yX0_firstWrong cX0_firstWrong 3 (some .int) 38 [.null, .null, .null] [] M res) → Ex G d yX0_firstWrong cX0_firstWrong 3 (some .int) 2 [.ref l0, .ref l1, .int l2] [] M res := by
  intro n
  induction n with
  | zero =>
    intro l0 l1 l2 M hl0 hl1 e res h K1 K2
    simp [L_X0_firstWrong_2] at h
  | succ n ih =>
    intro l0 l1 l2 M hl0 hl1 e res h K1 K2
    simp only [L_X0_firstWrong_2] at h
    refine x_iload_n (pc := 2) dX0_firstWrong_2 rfl rfl ?_
    refine x_aload_n (pc := 3) dX0_firstWrong_3 rfl rfl hl0 ?_
    obtain ⟨v1, e2, h⟩ := ob h
    refine y_getI (pc := 4) dX0_firstWrong_4 zf_X0_18 e2 (by decide) ?_
    refine x_icmp_ge (pc := 7) dX0_firstWrong_7 (t := 38) rfl (fun c3 => ?_) (fun c3 => ?_)
    · rw [if_pos c3] at h
      obtain rfl := s1 h
      refine ex_weak (Ls2 := [.null, .null, .null]) ⟨Or.inl rfl, Or.inl rfl, Or.inl rfl, trivial⟩ ?_
      exact K2  rfl
    · rw [if_neg c3] at h
      refine x_aload_n (pc := 10) dX0_firstWrong_10 rfl rfl hl1 ?_
      obtain ⟨v4, e5, h⟩ := ob h
      refine y_getR (pc := 11) dX0_firstWrong_11 zf_X0_22 e5 ?_
      refine x_aload_n (pc := 14) dX0_firstWrong_14 rfl rfl hl0 ?_
      obtain ⟨v6, e7, h⟩ := ob h
      refine y_getR (pc := 15) dX0_firstWrong_15 zf_X0_9 e7 ?_
      refine x_iload_n (pc := 18) dX0_firstWrong_18 rfl rfl ?_
      obtain ⟨v8, e9, h⟩ := ob h
      refine y_iald (pc := 19) dX0_firstWrong_19 e9 ?_
      obtain ⟨v10, e11, h⟩ := ob h
      refine y_iald (pc := 20) dX0_firstWrong_20 e11 ?_
      refine x_aload_n (pc := 21) dX0_firstWrong_21 rfl rfl hl0 ?_
      obtain ⟨v12, e13, h⟩ := ob h
      refine y_getR (pc := 22) dX0_firstWrong_22 zf_X0_15 e13 ?_
      refine x_iload_n (pc := 25) dX0_firstWrong_25 rfl rfl ?_
      obtain ⟨v14, e15, h⟩ := ob h
      refine y_iald (pc := 26) dX0_firstWrong_26 e15 ?_
      refine x_icmp_eq (pc := 27) dX0_firstWrong_27 (t := 32) rfl (fun c16 => ?_) (fun c16 => ?_)
      · rw [if_pos c16] at h
        refine x_iinc (pc := 32) dX0_firstWrong_32 rfl rfl (by decide) rfl ?_
        refine x_goto (pc := 35) dX0_firstWrong_35 (t := 2) rfl ?_
        refine ex_weak (Ls2 := [.ref l0, .ref l1, .int (l2 + 1)]) ⟨Or.inr rfl, Or.inr rfl, Or.inr rfl, trivial⟩ ?_
        exact ih _ _ _ _ hl0 hl1 _ h K1 K2
      · rw [if_neg c16] at h
        refine x_iload_n (pc := 30) dX0_firstWrong_30 rfl rfl ?_
        obtain rfl := s1 h
        rw [K1 _ rfl]
        exact y_retI (pc := 31) dX0_firstWrong_31 rfl
theorem E_X0_firstWrong {G : zG} {d : Nat} {l0 : Nat} {l1 : Nat} {M : zM} {r : Int32} (h : f_X0_firstWrong l0 l1 M = some r) : Ex G d yX0_firstWrong cX0_firstWrong 3 (some .int) 0 (zent0 [.ref l0, .ref l1] 3) [] M (some (.int r), M) := by
  unfold f_X0_firstWrong at h
  obtain ⟨zz0, h⟩ := bt h
  have hl0 := bz zz0
  obtain ⟨zz1, h⟩ := bt h
  have hl1 := bz zz1
  show Ex _ _ _ _ _ _ 0 [.ref l0, .ref l1, .null] [] _ _
  refine x_iconst (pc := 0) dX0_firstWrong_0 (v := 0) rfl ?_
  refine x_istore_n (pc := 1) dX0_firstWrong_1 rfl (by decide) rfl ?_
  refine ex_weak (Ls2 := [.ref l0, .ref l1, .int 0]) ⟨Or.inr rfl, Or.inr rfl, Or.inr rfl, trivial⟩ ?_
  rcases obs h with ⟨r2, e1, h⟩ | ⟨_, e1, h⟩
  · cases h
    exact LX_X0_firstWrong_2 zN _ _ _ _ hl0 hl1 _ e1 (fun r q => by cases q; rfl) (by intros; contradiction)
  · refine LX_X0_firstWrong_2 zN _ _ _ _ hl0 hl1 _ e1 (fun r q => by cases q) ?_
    intro q
    cases q
    refine x_iconst (pc := 38) dX0_firstWrong_38 (v := (-1)) rfl ?_
    obtain rfl := s1 h
    exact y_retI (pc := 39) dX0_firstWrong_39 rfl
def f_X5_init (l0 : Nat) (M : zM) : Option (zM) := bif Nat.ble 1 l0 then ((mk M 10 8).bind fun M1 => (pR M1 l0 5 9 0 (M.1 + 1)).bind fun M3 => (mk M3 10 8).bind fun M5 => (pR M5 l0 5 9 1 (M3.1 + 1)).bind fun M7 => (mk M7 10 8).bind fun M9 => (pR M9 l0 5 9 2 (M7.1 + 1)).bind fun M11 => (mk M11 10 40).bind fun M13 => (pR M13 l0 5 9 3 (M11.1 + 1)).bind fun M15 => some M15) else none
theorem E_X5_init {G : zG} {d : Nat} {l0 : Nat} {M MR : zM} (h : f_X5_init l0 M = some MR) : Ex G d yX5_init cX5_init 1 none 0 (zent0 [.ref l0] 1) [] M (none, MR) := by
  unfold f_X5_init at h
  obtain ⟨zz0, h⟩ := bt h
  have hl0 := bz zz0
  show Ex _ _ _ _ _ _ 0 [.ref l0] [] _ _
  refine x_aload_n (pc := 0) dX5_init_0 rfl rfl hl0 ?_
  refine y_oinit (pc := 1) dX5_init_1 zm_X5_3 hl0 ?_
  refine x_aload_n (pc := 4) dX5_init_4 rfl rfl hl0 ?_
  refine x_bipush (pc := 5) dX5_init_5 (v := 8) (by decide) ?_
  obtain ⟨M1, e2, h⟩ := ob h
  refine y_newa (pc := 7) dX5_init_7 (N := 8) (by decide) (by decide) (by decide) e2 ?_
  obtain ⟨M3, e4, h⟩ := ob h
  refine y_putF (pc := 9) dX5_init_9 zf_X5_9 rfl (by intro C T n q; cases q; rfl) e4 ?_
  refine x_aload_n (pc := 12) dX5_init_12 rfl rfl hl0 ?_
  refine x_bipush (pc := 13) dX5_init_13 (v := 8) (by decide) ?_
  obtain ⟨M5, e6, h⟩ := ob h
  refine y_newa (pc := 15) dX5_init_15 (N := 8) (by decide) (by decide) (by decide) e6 ?_
  obtain ⟨M7, e8, h⟩ := ob h
  refine y_putF (pc := 17) dX5_init_17 zf_X5_15 rfl (by intro C T n q; cases q; rfl) e8 ?_
  refine x_aload_n (pc := 20) dX5_init_20 rfl rfl hl0 ?_
  refine x_bipush (pc := 21) dX5_init_21 (v := 8) (by decide) ?_
  obtain ⟨M9, e10, h⟩ := ob h
  refine y_newa (pc := 23) dX5_init_23 (N := 8) (by decide) (by decide) (by decide) e10 ?_
  obtain ⟨M11, e12, h⟩ := ob h
  refine y_putF (pc := 25) dX5_init_25 zf_X5_18 rfl (by intro C T n q; cases q; rfl) e12 ?_
  refine x_aload_n (pc := 28) dX5_init_28 rfl rfl hl0 ?_
  refine x_bipush (pc := 29) dX5_init_29 (v := 40) (by decide) ?_
  obtain ⟨M13, e14, h⟩ := ob h
  refine y_newa (pc := 31) dX5_init_31 (N := 40) (by decide) (by decide) (by decide) e14 ?_
  obtain ⟨M15, e16, h⟩ := ob h
  refine y_putF (pc := 33) dX5_init_33 zf_X5_21 rfl (by intro C T n q; cases q; rfl) e16 ?_
  obtain rfl := s1 h
  exact x_vret (pc := 36) dX5_init_36 rfl
def f_X1_init (l0 : Nat) (M : zM) : Option (zM) := bif Nat.ble 1 l0 then ((mk M 5 9).bind fun M1 => (f_X5_init (M.1 + 1) M1).bind fun M3 => (pR M3 l0 1 3 0 (M.1 + 1)).bind fun M5 => some M5) else none
theorem E_X1_init {G : zG} {d : Nat} {l0 : Nat} {M MR : zM} (h : f_X1_init l0 M = some MR) : Ex G (d + 1) yX1_init cX1_init 1 none 0 (zent0 [.ref l0] 1) [] M (none, MR) := by
  unfold f_X1_init at h
  obtain ⟨zz0, h⟩ := bt h
  have hl0 := bz zz0
  show Ex _ _ _ _ _ _ 0 [.ref l0] [] _ _
  refine x_aload_n (pc := 0) dX1_init_0 rfl rfl hl0 ?_
  refine y_oinit (pc := 1) dX1_init_1 zm_X1_1 hl0 ?_
  refine x_aload_n (pc := 4) dX1_init_4 rfl rfl hl0 ?_
  obtain ⟨M1, e2, h⟩ := ob h
  refine y_new (pc := 5) dX1_init_5 zn_X1_7 e2 ?_
  refine x_dup (pc := 8) dX1_init_8 rv_cr ?_
  obtain ⟨M3, e4, h⟩ := ob h
  refine x_callN (av := []) (st := [.ref (M.1 + 1), .ref l0]) (pc := 9) dX1_init_9 (E_X5_init (d := d) e4) rfl (Nat.le_of_ble_eq_true rfl) zc_X5_init rfl zm_X1_9 zi_X5_init rfl (Nat.succ_ne_zero _) rfl (zst_ok rfl (Nat.le_of_ble_eq_true rfl)) rfl ?_
  obtain ⟨M5, e6, h⟩ := ob h
  refine y_putF (pc := 12) dX1_init_12 zf_X1_10 rfl (by intro C T n q; cases q; rfl) e6 ?_
  obtain rfl := s1 h
  exact x_vret (pc := 15) dX1_init_15 rfl
def f_X2_init (l0 : Nat) (M : zM) : Option (zM) := bif Nat.ble 1 l0 then ((mk M 10 6).bind fun M1 => (pR M1 l0 2 4 0 (M.1 + 1)).bind fun M3 => (mk M3 10 6).bind fun M5 => (pR M5 l0 2 4 1 (M3.1 + 1)).bind fun M7 => (mk M7 11 6).bind fun M9 => (pR M9 l0 2 4 2 (M7.1 + 1)).bind fun M11 => some M11) else none
theorem E_X2_init {G : zG} {d : Nat} {l0 : Nat} {M MR : zM} (h : f_X2_init l0 M = some MR) : Ex G d yX2_init cX2_init 1 none 0 (zent0 [.ref l0] 1) [] M (none, MR) := by
  unfold f_X2_init at h
  obtain ⟨zz0, h⟩ := bt h
  have hl0 := bz zz0
  show Ex _ _ _ _ _ _ 0 [.ref l0] [] _ _
  refine x_aload_n (pc := 0) dX2_init_0 rfl rfl hl0 ?_
  refine y_oinit (pc := 1) dX2_init_1 zm_X2_3 hl0 ?_
  refine x_aload_n (pc := 4) dX2_init_4 rfl rfl hl0 ?_
  refine x_bipush (pc := 5) dX2_init_5 (v := 6) (by decide) ?_
  obtain ⟨M1, e2, h⟩ := ob h
  refine y_newa (pc := 7) dX2_init_7 (N := 6) (by decide) (by decide) (by decide) e2 ?_
  obtain ⟨M3, e4, h⟩ := ob h
  refine y_putF (pc := 9) dX2_init_9 zf_X2_9 rfl (by intro C T n q; cases q; rfl) e4 ?_
  refine x_aload_n (pc := 12) dX2_init_12 rfl rfl hl0 ?_
  refine x_bipush (pc := 13) dX2_init_13 (v := 6) (by decide) ?_
  obtain ⟨M5, e6, h⟩ := ob h
  refine y_newa (pc := 15) dX2_init_15 (N := 6) (by decide) (by decide) (by decide) e6 ?_
  obtain ⟨M7, e8, h⟩ := ob h
  refine y_putF (pc := 17) dX2_init_17 zf_X2_15 rfl (by intro C T n q; cases q; rfl) e8 ?_
  refine x_aload_n (pc := 20) dX2_init_20 rfl rfl hl0 ?_
  refine x_bipush (pc := 21) dX2_init_21 (v := 6) (by decide) ?_
  obtain ⟨M9, e10, h⟩ := ob h
  refine y_newz (pc := 23) dX2_init_23 (N := 6) (by decide) (by decide) (by decide) e10 ?_
  obtain ⟨M11, e12, h⟩ := ob h
  refine y_putF (pc := 25) dX2_init_25 zf_X2_18 rfl (by intro C T n q; cases q; rfl) e12 ?_
  obtain rfl := s1 h
  exact x_vret (pc := 28) dX2_init_28 rfl
def f_X2_clear (l0 : Nat) (M : zM) : Option (zM) := bif Nat.ble 1 l0 then ((pI M l0 2 4 3 0).bind fun M1 => some M1) else none
theorem E_X2_clear {G : zG} {d : Nat} {l0 : Nat} {M MR : zM} (h : f_X2_clear l0 M = some MR) : Ex G d yX2_clear cX2_clear 1 none 0 (zent0 [.ref l0] 1) [] M (none, MR) := by
  unfold f_X2_clear at h
  obtain ⟨zz0, h⟩ := bt h
  have hl0 := bz zz0
  show Ex _ _ _ _ _ _ 0 [.ref l0] [] _ _
  refine x_aload_n (pc := 0) dX2_clear_0 rfl rfl hl0 ?_
  refine x_iconst (pc := 1) dX2_clear_1 (v := 0) rfl ?_
  obtain ⟨M1, e2, h⟩ := ob h
  refine y_putI (pc := 2) dX2_clear_2 zf_X2_22 e2 ?_
  obtain rfl := s1 h
  exact x_vret (pc := 5) dX2_clear_5 rfl
def f_X2_tie (l0 : Nat) (l1 : Int32) (l2 : Int32) (l3 : Int32) (M : zM) : Option (zM) := bif Nat.ble 1 l0 then ((oI M l0 2 4 3).bind fun v1 => if 6 ≤ v1 then (some M) else ((oR M l0 2 4 0).bind fun v4 => (oI M l0 2 4 3).bind fun v6 => (sI M v4 v6 l1).bind fun M8 => (oR M8 l0 2 4 1).bind fun v10 => (oI M8 l0 2 4 3).bind fun v12 => (sI M8 v10 v12 l2).bind fun M14 => (oR M14 l0 2 4 2).bind fun v16 => (oI M14 l0 2 4 3).bind fun v18 => (sZ M14 v16 v18 l3).bind fun M20 => (oI M20 l0 2 4 3).bind fun v22 => (pI M20 l0 2 4 3 (v22 + 1)).bind fun M24 => some M24)) else none
theorem E_X2_tie {G : zG} {d : Nat} {l0 : Nat} {l1 : Int32} {l2 : Int32} {l3 : Int32} {M MR : zM} (h : f_X2_tie l0 l1 l2 l3 M = some MR) : Ex G d yX2_tie cX2_tie 4 none 0 (zent0 [.ref l0, .int l1, .int l2, .int l3] 4) [] M (none, MR) := by
  unfold f_X2_tie at h
  obtain ⟨zz0, h⟩ := bt h
  have hl0 := bz zz0
  show Ex _ _ _ _ _ _ 0 [.ref l0, .int l1, .int l2, .int l3] [] _ _
  refine x_aload_n (pc := 0) dX2_tie_0 rfl rfl hl0 ?_
  obtain ⟨v1, e2, h⟩ := ob h
  refine y_getI (pc := 1) dX2_tie_1 zf_X2_22 e2 (by decide) ?_
  refine x_bipush (pc := 4) dX2_tie_4 (v := 6) (by decide) ?_
  refine x_icmp_ge (pc := 6) dX2_tie_6 (t := 49) rfl (fun c3 => ?_) (fun c3 => ?_)
  · rw [if_pos c3] at h
    obtain rfl := s1 h
    exact x_vret (pc := 49) dX2_tie_49 rfl
  · rw [if_neg c3] at h
    refine x_aload_n (pc := 9) dX2_tie_9 rfl rfl hl0 ?_
    obtain ⟨v4, e5, h⟩ := ob h
    refine y_getR (pc := 10) dX2_tie_10 zf_X2_9 e5 ?_
    refine x_aload_n (pc := 13) dX2_tie_13 rfl rfl hl0 ?_
    obtain ⟨v6, e7, h⟩ := ob h
    refine y_getI (pc := 14) dX2_tie_14 zf_X2_22 e7 (by decide) ?_
    refine x_iload_n (pc := 17) dX2_tie_17 rfl rfl ?_
    obtain ⟨M8, e9, h⟩ := ob h
    refine y_iast (pc := 18) dX2_tie_18 e9 ?_
    refine x_aload_n (pc := 19) dX2_tie_19 rfl rfl hl0 ?_
    obtain ⟨v10, e11, h⟩ := ob h
    refine y_getR (pc := 20) dX2_tie_20 zf_X2_15 e11 ?_
    refine x_aload_n (pc := 23) dX2_tie_23 rfl rfl hl0 ?_
    obtain ⟨v12, e13, h⟩ := ob h
    refine y_getI (pc := 24) dX2_tie_24 zf_X2_22 e13 (by decide) ?_
    refine x_iload_n (pc := 27) dX2_tie_27 rfl rfl ?_
    obtain ⟨M14, e15, h⟩ := ob h
    refine y_iast (pc := 28) dX2_tie_28 e15 ?_
    refine x_aload_n (pc := 29) dX2_tie_29 rfl rfl hl0 ?_
    obtain ⟨v16, e17, h⟩ := ob h
    refine y_getR (pc := 30) dX2_tie_30 zf_X2_18 e17 ?_
    refine x_aload_n (pc := 33) dX2_tie_33 rfl rfl hl0 ?_
    obtain ⟨v18, e19, h⟩ := ob h
    refine y_getI (pc := 34) dX2_tie_34 zf_X2_22 e19 (by decide) ?_
    refine x_iload_n (pc := 37) dX2_tie_37 rfl rfl ?_
    obtain ⟨M20, e21, h⟩ := ob h
    refine y_zast (pc := 38) dX2_tie_38 e21 ?_
    refine x_aload_n (pc := 39) dX2_tie_39 rfl rfl hl0 ?_
    refine x_dup (pc := 40) dX2_tie_40 rv_cr ?_
    obtain ⟨v22, e23, h⟩ := ob h
    refine y_getI (pc := 41) dX2_tie_41 zf_X2_22 e23 (by decide) ?_
    refine x_iconst (pc := 44) dX2_tie_44 (v := 1) rfl ?_
    refine x_iadd (pc := 45) dX2_tie_45 ?_
    obtain ⟨M24, e25, h⟩ := ob h
    refine y_putI (pc := 46) dX2_tie_46 zf_X2_22 e25 ?_
    obtain rfl := s1 h
    exact x_vret (pc := 49) dX2_tie_49 rfl
def L_X7_wouldHaveSaid_21 : Nat → Nat → Int32 → Int32 → Int32 → Int32 → Int32 → zM → Option ((Int32) ⊕ (Unit))
  | 0, _, _, _, _, _, _, _ => none
  | n + 1, l0, l1, l2, l3, l4, l5, M => (oI M l0 7 15 4).bind fun v4 => if v4 ≤ l5 then (some (.inr ())) else ((oR M l0 7 15 11).bind fun v7 => (aI M v7 l5).bind fun v9 => if v9 = l1 then ((oR M l0 7 15 12).bind fun v12 => (aI M v12 l5).bind fun v14 => if v14 = l2 then ((oR M l0 7 15 13).bind fun v17 => (aI M v17 l5).bind fun v19 => if v19 = l3 then ((zb l4).bind fun v22 => some (.inl v22)) else (L_X7_wouldHaveSaid_21 n l0 l1 l2 l3 l4 (l5 + 1) M)) else (L_X7_wouldHaveSaid_21 n l0 l1 l2 l3 l4 (l5 + 1) M)) else (L_X7_wouldHaveSaid_21 n l0 l1 l2 l3 l4 (l5 + 1) M))
def f_X7_wouldHaveSaid (l0 : Nat) (l1 : Int32) (l2 : Int32) (l3 : Int32) (M : zM) : Option (Int32) := bif Nat.ble 1 l0 then ((oI M l0 7 15 6).bind fun v1 => if (v1 >>> (l1 &&& 31)) &&& 1 = 0 then (bs (L_X7_wouldHaveSaid_21 zN l0 l1 l2 l3 0 0 M) some (fun _ => some 1)) else (bs (L_X7_wouldHaveSaid_21 zN l0 l1 l2 l3 1 0 M) some (fun _ => some 0))) else none
theorem LX_X7_wouldHaveSaid_21 {G : zG} {d : Nat} : ∀ (n : Nat) (l0 : Nat) (l1 : Int32) (l2 : Int32) (l3 : Int32) (l4 : Int32) (l5 : Int32) (M : zM) (hl0 : l0 ≠ 0) (e : (Int32) ⊕ (Unit)) {res : Option Value × zM}, L_X7_wouldHaveSaid_21 n l0 l1 l2 l3 l4 l5 M = some e → (∀ r, e = .inl r → res = (some (.int r), M)) → (e = .inr () → Ex G d yX7_wouldHaveSaid cX7_wouldHaveSaid 6 (some .boolean) 72 [.null, .null, .null, .null, .int l4, .null] [] M res) → Ex G d yX7_wouldHaveSaid cX7_wouldHaveSaid 6 (some .boolean) 21 [.ref l0, .int l1, .int l2, .int l3, .int l4, .int l5] [] M res := by
  intro n
  induction n with
  | zero =>
    intro l0 l1 l2 l3 l4 l5 M hl0 e res h K1 K2
    simp [L_X7_wouldHaveSaid_21] at h
  | succ n ih =>
    intro l0 l1 l2 l3 l4 l5 M hl0 e res h K1 K2
    simp only [L_X7_wouldHaveSaid_21] at h
    refine x_iload (pc := 21) dX7_wouldHaveSaid_21 rfl ?_
    refine x_aload_n (pc := 23) dX7_wouldHaveSaid_23 rfl rfl hl0 ?_
    obtain ⟨v4, e5, h⟩ := ob h
    refine y_getI (pc := 24) dX7_wouldHaveSaid_24 zf_X7_49 e5 (by decide) ?_
    refine x_icmp_ge (pc := 27) dX7_wouldHaveSaid_27 (t := 72) rfl (fun c6 => ?_) (fun c6 => ?_)
    · rw [if_pos c6] at h
      obtain rfl := s1 h
      refine ex_weak (Ls2 := [.null, .null, .null, .null, .int l4, .null]) ⟨Or.inl rfl, Or.inl rfl, Or.inl rfl, Or.inl rfl, Or.inr rfl, Or.inl rfl, trivial⟩ ?_
      exact K2  rfl
    · rw [if_neg c6] at h
      refine x_aload_n (pc := 30) dX7_wouldHaveSaid_30 rfl rfl hl0 ?_
      obtain ⟨v7, e8, h⟩ := ob h
      refine y_getR (pc := 31) dX7_wouldHaveSaid_31 zf_X7_24 e8 ?_
      refine x_iload (pc := 34) dX7_wouldHaveSaid_34 rfl ?_
      obtain ⟨v9, e10, h⟩ := ob h
      refine y_iald (pc := 36) dX7_wouldHaveSaid_36 e10 ?_
      refine x_iload_n (pc := 37) dX7_wouldHaveSaid_37 rfl rfl ?_
      refine x_icmp_ne (pc := 38) dX7_wouldHaveSaid_38 (t := 66) rfl (fun c11 => ?_) (fun c11 => ?_)
      · rw [if_neg c11] at h
        refine x_iinc (pc := 66) dX7_wouldHaveSaid_66 rfl rfl (by decide) rfl ?_
        refine x_goto (pc := 69) dX7_wouldHaveSaid_69 (t := 21) rfl ?_
        refine ex_weak (Ls2 := [.ref l0, .int l1, .int l2, .int l3, .int l4, .int (l5 + 1)]) ⟨Or.inr rfl, Or.inr rfl, Or.inr rfl, Or.inr rfl, Or.inr rfl, Or.inr rfl, trivial⟩ ?_
        exact ih _ _ _ _ _ _ _ hl0 _ h K1 K2
      · rw [if_pos c11] at h
        refine x_aload_n (pc := 41) dX7_wouldHaveSaid_41 rfl rfl hl0 ?_
        obtain ⟨v12, e13, h⟩ := ob h
        refine y_getR (pc := 42) dX7_wouldHaveSaid_42 zf_X7_27 e13 ?_
        refine x_iload (pc := 45) dX7_wouldHaveSaid_45 rfl ?_
        obtain ⟨v14, e15, h⟩ := ob h
        refine y_iald (pc := 47) dX7_wouldHaveSaid_47 e15 ?_
        refine x_iload_n (pc := 48) dX7_wouldHaveSaid_48 rfl rfl ?_
        refine x_icmp_ne (pc := 49) dX7_wouldHaveSaid_49 (t := 66) rfl (fun c16 => ?_) (fun c16 => ?_)
        · rw [if_neg c16] at h
          refine x_iinc (pc := 66) dX7_wouldHaveSaid_66 rfl rfl (by decide) rfl ?_
          refine x_goto (pc := 69) dX7_wouldHaveSaid_69 (t := 21) rfl ?_
          refine ex_weak (Ls2 := [.ref l0, .int l1, .int l2, .int l3, .int l4, .int (l5 + 1)]) ⟨Or.inr rfl, Or.inr rfl, Or.inr rfl, Or.inr rfl, Or.inr rfl, Or.inr rfl, trivial⟩ ?_
          exact ih _ _ _ _ _ _ _ hl0 _ h K1 K2
        · rw [if_pos c16] at h
          refine x_aload_n (pc := 52) dX7_wouldHaveSaid_52 rfl rfl hl0 ?_
          obtain ⟨v17, e18, h⟩ := ob h
          refine y_getR (pc := 53) dX7_wouldHaveSaid_53 zf_X7_30 e18 ?_
          refine x_iload (pc := 56) dX7_wouldHaveSaid_56 rfl ?_
          obtain ⟨v19, e20, h⟩ := ob h
          refine y_iald (pc := 58) dX7_wouldHaveSaid_58 e20 ?_
          refine x_iload_n (pc := 59) dX7_wouldHaveSaid_59 rfl rfl ?_
          refine x_icmp_ne (pc := 60) dX7_wouldHaveSaid_60 (t := 66) rfl (fun c21 => ?_) (fun c21 => ?_)
          · rw [if_neg c21] at h
            refine x_iinc (pc := 66) dX7_wouldHaveSaid_66 rfl rfl (by decide) rfl ?_
            refine x_goto (pc := 69) dX7_wouldHaveSaid_69 (t := 21) rfl ?_
            refine ex_weak (Ls2 := [.ref l0, .int l1, .int l2, .int l3, .int l4, .int (l5 + 1)]) ⟨Or.inr rfl, Or.inr rfl, Or.inr rfl, Or.inr rfl, Or.inr rfl, Or.inr rfl, trivial⟩ ?_
            exact ih _ _ _ _ _ _ _ hl0 _ h K1 K2
          · rw [if_pos c21] at h
            refine x_iload (pc := 63) dX7_wouldHaveSaid_63 rfl ?_
            obtain ⟨v22, e23, h⟩ := ob h
            obtain rfl := s1 h
            rw [K1 _ rfl]
            exact y_retZ (pc := 65) dX7_wouldHaveSaid_65 rfl e23
theorem E_X7_wouldHaveSaid {G : zG} {d : Nat} {l0 : Nat} {l1 : Int32} {l2 : Int32} {l3 : Int32} {M : zM} {r : Int32} (h : f_X7_wouldHaveSaid l0 l1 l2 l3 M = some r) : Ex G d yX7_wouldHaveSaid cX7_wouldHaveSaid 6 (some .boolean) 0 (zent0 [.ref l0, .int l1, .int l2, .int l3] 6) [] M (some (.int r), M) := by
  unfold f_X7_wouldHaveSaid at h
  obtain ⟨zz0, h⟩ := bt h
  have hl0 := bz zz0
  show Ex _ _ _ _ _ _ 0 [.ref l0, .int l1, .int l2, .int l3, .null, .null] [] _ _
  refine x_aload_n (pc := 0) dX7_wouldHaveSaid_0 rfl rfl hl0 ?_
  obtain ⟨v1, e2, h⟩ := ob h
  refine y_getI (pc := 1) dX7_wouldHaveSaid_1 zf_X7_55 e2 (by decide) ?_
  refine x_iload_n (pc := 4) dX7_wouldHaveSaid_4 rfl rfl ?_
  refine x_ishr (pc := 5) dX7_wouldHaveSaid_5 ?_
  refine x_iconst (pc := 6) dX7_wouldHaveSaid_6 (v := 1) rfl ?_
  refine x_iand (pc := 7) dX7_wouldHaveSaid_7 ?_
  refine x_if_eq (pc := 8) dX7_wouldHaveSaid_8 (t := 15) rfl (fun c3 => ?_) (fun c3 => ?_)
  · rw [if_pos c3] at h
    refine x_iconst (pc := 15) dX7_wouldHaveSaid_15 (v := 0) rfl ?_
    refine x_istore (pc := 16) dX7_wouldHaveSaid_16 (by decide) rfl ?_
    refine x_iconst (pc := 18) dX7_wouldHaveSaid_18 (v := 0) rfl ?_
    refine x_istore (pc := 19) dX7_wouldHaveSaid_19 (by decide) rfl ?_
    refine ex_weak (Ls2 := [.ref l0, .int l1, .int l2, .int l3, .int 0, .int 0]) ⟨Or.inr rfl, Or.inr rfl, Or.inr rfl, Or.inr rfl, Or.inr rfl, Or.inr rfl, trivial⟩ ?_
    rcases obs h with ⟨r6, e4, h⟩ | ⟨_, e4, h⟩
    · cases h
      exact LX_X7_wouldHaveSaid_21 zN _ _ _ _ _ _ _ hl0 _ e4 (fun r q => by cases q; rfl) (by intros; contradiction)
    · refine LX_X7_wouldHaveSaid_21 zN _ _ _ _ _ _ _ hl0 _ e4 (fun r q => by cases q) ?_
      intro q
      cases q
      refine x_iload (pc := 72) dX7_wouldHaveSaid_72 rfl ?_
      refine x_if_ne (pc := 74) dX7_wouldHaveSaid_74 (t := 81) rfl (fun c5 => ?_) (fun c5 => ?_)
      · exact absurd c5 (by decide)
      · refine x_iconst (pc := 77) dX7_wouldHaveSaid_77 (v := 1) rfl ?_
        refine x_goto (pc := 78) dX7_wouldHaveSaid_78 (t := 82) rfl ?_
        obtain rfl := s1 h
        exact x_ret (pc := 82) dX7_wouldHaveSaid_82 (ty := .boolean) rfl rfl
  · rw [if_neg c3] at h
    refine x_iconst (pc := 11) dX7_wouldHaveSaid_11 (v := 1) rfl ?_
    refine x_goto (pc := 12) dX7_wouldHaveSaid_12 (t := 16) rfl ?_
    refine x_istore (pc := 16) dX7_wouldHaveSaid_16 (by decide) rfl ?_
    refine x_iconst (pc := 18) dX7_wouldHaveSaid_18 (v := 0) rfl ?_
    refine x_istore (pc := 19) dX7_wouldHaveSaid_19 (by decide) rfl ?_
    refine ex_weak (Ls2 := [.ref l0, .int l1, .int l2, .int l3, .int 1, .int 0]) ⟨Or.inr rfl, Or.inr rfl, Or.inr rfl, Or.inr rfl, Or.inr rfl, Or.inr rfl, trivial⟩ ?_
    rcases obs h with ⟨r9, e7, h⟩ | ⟨_, e7, h⟩
    · cases h
      exact LX_X7_wouldHaveSaid_21 zN _ _ _ _ _ _ _ hl0 _ e7 (fun r q => by cases q; rfl) (by intros; contradiction)
    · refine LX_X7_wouldHaveSaid_21 zN _ _ _ _ _ _ _ hl0 _ e7 (fun r q => by cases q) ?_
      intro q
      cases q
      refine x_iload (pc := 72) dX7_wouldHaveSaid_72 rfl ?_
      refine x_if_ne (pc := 74) dX7_wouldHaveSaid_74 (t := 81) rfl (fun c8 => ?_) (fun c8 => ?_)
      · refine x_iconst (pc := 81) dX7_wouldHaveSaid_81 (v := 0) rfl ?_
        obtain rfl := s1 h
        exact x_ret (pc := 82) dX7_wouldHaveSaid_82 (ty := .boolean) rfl rfl
      · exact absurd c8 (by decide)
def L_X2_fits_2 : Nat → Nat → Nat → Int32 → Int32 → zM → Option ((Int32) ⊕ (Unit))
  | 0, _, _, _, _, _ => none
  | n + 1, l0, l1, l2, l3, M => (oI M l0 2 4 3).bind fun v1 => if v1 ≤ l3 then (some (.inr ())) else ((oR M l0 2 4 0).bind fun v4 => (aI M v4 l3).bind fun v6 => (oR M l0 2 4 1).bind fun v8 => (aI M v8 l3).bind fun v10 => bif zac M l1 7 15 then ((f_X7_wouldHaveSaid l1 l2 v6 v10 M).bind fun r12 => (oR M l0 2 4 2).bind fun v14 => (aZ M v14 l3).bind fun v16 => if r12 = v16 then (L_X2_fits_2 n l0 l1 l2 (l3 + 1) M) else (some (.inl 0))) else none)
def f_X2_fits (l0 : Nat) (l1 : Nat) (l2 : Int32) (M : zM) : Option (Int32) := bif Nat.ble 1 l0 then (bif Nat.ble 1 l1 then (bs (L_X2_fits_2 zN l0 l1 l2 0 M) some (fun _ => some 1)) else none) else none
theorem LX_X2_fits_2 {G : zG} {d : Nat} : ∀ (n : Nat) (l0 : Nat) (l1 : Nat) (l2 : Int32) (l3 : Int32) (M : zM) (hl0 : l0 ≠ 0) (hl1 : l1 ≠ 0) (e : (Int32) ⊕ (Unit)) {res : Option Value × zM}, L_X2_fits_2 n l0 l1 l2 l3 M = some e → (∀ r, e = .inl r → res = (some (.int r), M)) → (e = .inr () → Ex G (d + 1) yX2_fits cX2_fits 4 (some .boolean) 44 [.null, .null, .null, .null] [] M res) → Ex G (d + 1) yX2_fits cX2_fits 4 (some .boolean) 2 [.ref l0, .ref l1, .int l2, .int l3] [] M res := by
  intro n
  induction n with
  | zero =>
    intro l0 l1 l2 l3 M hl0 hl1 e res h K1 K2
    simp [L_X2_fits_2] at h
  | succ n ih =>
    intro l0 l1 l2 l3 M hl0 hl1 e res h K1 K2
    simp only [L_X2_fits_2] at h
    refine x_iload_n (pc := 2) dX2_fits_2 rfl rfl ?_
    refine x_aload_n (pc := 3) dX2_fits_3 rfl rfl hl0 ?_
    obtain ⟨v1, e2, h⟩ := ob h
    refine y_getI (pc := 4) dX2_fits_4 zf_X2_22 e2 (by decide) ?_
    refine x_icmp_ge (pc := 7) dX2_fits_7 (t := 44) rfl (fun c3 => ?_) (fun c3 => ?_)
    · rw [if_pos c3] at h
      obtain rfl := s1 h
      refine ex_weak (Ls2 := [.null, .null, .null, .null]) ⟨Or.inl rfl, Or.inl rfl, Or.inl rfl, Or.inl rfl, trivial⟩ ?_
      exact K2  rfl
    · rw [if_neg c3] at h
      refine x_aload_n (pc := 10) dX2_fits_10 rfl rfl hl1 ?_
      refine x_iload_n (pc := 11) dX2_fits_11 rfl rfl ?_
      refine x_aload_n (pc := 12) dX2_fits_12 rfl rfl hl0 ?_
      obtain ⟨v4, e5, h⟩ := ob h
      refine y_getR (pc := 13) dX2_fits_13 zf_X2_9 e5 ?_
      refine x_iload_n (pc := 16) dX2_fits_16 rfl rfl ?_
      obtain ⟨v6, e7, h⟩ := ob h
      refine y_iald (pc := 17) dX2_fits_17 e7 ?_
      refine x_aload_n (pc := 18) dX2_fits_18 rfl rfl hl0 ?_
      obtain ⟨v8, e9, h⟩ := ob h
      refine y_getR (pc := 19) dX2_fits_19 zf_X2_15 e9 ?_
      refine x_iload_n (pc := 22) dX2_fits_22 rfl rfl ?_
      obtain ⟨v10, e11, h⟩ := ob h
      refine y_iald (pc := 23) dX2_fits_23 e11 ?_
      obtain ⟨g19, h⟩ := bt h
      obtain ⟨r12, e13, h⟩ := ob h
      refine x_callV (av := [.int l2, .int v6, .int v10]) (st := []) (pc := 24) dX2_fits_24 (E_X7_wouldHaveSaid (d := d) e13) rfl (Nat.le_of_ble_eq_true rfl) zc_X7_wouldHaveSaid rfl zm_X2_35 zi_X7_wouldHaveSaid zs_X7_wouldHaveSaid (zac_ok g19) (by decide) rfl rfl (zst_ok rfl (Nat.le_of_ble_eq_true rfl)) rfl ?_
      refine x_aload_n (pc := 27) dX2_fits_27 rfl rfl hl0 ?_
      obtain ⟨v14, e15, h⟩ := ob h
      refine y_getR (pc := 28) dX2_fits_28 zf_X2_18 e15 ?_
      refine x_iload_n (pc := 31) dX2_fits_31 rfl rfl ?_
      obtain ⟨v16, e17, h⟩ := ob h
      refine y_zald (pc := 32) dX2_fits_32 e17 ?_
      refine x_icmp_eq (pc := 33) dX2_fits_33 (t := 38) rfl (fun c18 => ?_) (fun c18 => ?_)
      · rw [if_pos c18] at h
        refine x_iinc (pc := 38) dX2_fits_38 rfl rfl (by decide) rfl ?_
        refine x_goto (pc := 41) dX2_fits_41 (t := 2) rfl ?_
        refine ex_weak (Ls2 := [.ref l0, .ref l1, .int l2, .int (l3 + 1)]) ⟨Or.inr rfl, Or.inr rfl, Or.inr rfl, Or.inr rfl, trivial⟩ ?_
        exact ih _ _ _ _ _ hl0 hl1 _ h K1 K2
      · rw [if_neg c18] at h
        refine x_iconst (pc := 36) dX2_fits_36 (v := 0) rfl ?_
        obtain rfl := s1 h
        rw [K1 _ rfl]
        exact x_ret (pc := 37) dX2_fits_37 (ty := .boolean) rfl rfl
theorem E_X2_fits {G : zG} {d : Nat} {l0 : Nat} {l1 : Nat} {l2 : Int32} {M : zM} {r : Int32} (h : f_X2_fits l0 l1 l2 M = some r) : Ex G (d + 1) yX2_fits cX2_fits 4 (some .boolean) 0 (zent0 [.ref l0, .ref l1, .int l2] 4) [] M (some (.int r), M) := by
  unfold f_X2_fits at h
  obtain ⟨zz0, h⟩ := bt h
  have hl0 := bz zz0
  obtain ⟨zz1, h⟩ := bt h
  have hl1 := bz zz1
  show Ex _ _ _ _ _ _ 0 [.ref l0, .ref l1, .int l2, .null] [] _ _
  refine x_iconst (pc := 0) dX2_fits_0 (v := 0) rfl ?_
  refine x_istore_n (pc := 1) dX2_fits_1 rfl (by decide) rfl ?_
  refine ex_weak (Ls2 := [.ref l0, .ref l1, .int l2, .int 0]) ⟨Or.inr rfl, Or.inr rfl, Or.inr rfl, Or.inr rfl, trivial⟩ ?_
  rcases obs h with ⟨r2, e1, h⟩ | ⟨_, e1, h⟩
  · cases h
    exact LX_X2_fits_2 zN _ _ _ _ _ hl0 hl1 _ e1 (fun r q => by cases q; rfl) (by intros; contradiction)
  · refine LX_X2_fits_2 zN _ _ _ _ _ hl0 hl1 _ e1 (fun r q => by cases q) ?_
    intro q
    cases q
    refine x_iconst (pc := 44) dX2_fits_44 (v := 1) rfl ?_
    obtain rfl := s1 h
    exact x_ret (pc := 45) dX2_fits_45 (ty := .boolean) rfl rfl
def L_X2_fitting_4 : Nat → Nat → Nat → Int32 → Int32 → zM → Option (Int32)
  | 0, _, _, _, _, _ => none
  | n + 1, l0, l1, l2, l3, M => (oI M l1 7 15 3).bind fun v1 => if v1 ≤ l3 then (some l2) else (bif zac M l0 2 4 then ((f_X2_fits l0 l1 l3 M).bind fun r4 => if r4 = 0 then (L_X2_fitting_4 n l0 l1 l2 (l3 + 1) M) else (L_X2_fitting_4 n l0 l1 (l2 ||| (1 <<< (l3 &&& 31))) (l3 + 1) M)) else none)
def f_X2_fitting (l0 : Nat) (l1 : Nat) (M : zM) : Option (Int32) := bif Nat.ble 1 l0 then (bif Nat.ble 1 l1 then ((L_X2_fitting_4 zN l0 l1 0 0 M).bind fun v2 => some v2) else none) else none
theorem LX_X2_fitting_4 {G : zG} {d : Nat} : ∀ (n : Nat) (l0 : Nat) (l1 : Nat) (l2 : Int32) (l3 : Int32) (M : zM) (hl0 : l0 ≠ 0) (hl1 : l1 ≠ 0) (o2 : Int32) {res : Option Value × zM}, L_X2_fitting_4 n l0 l1 l2 l3 M = some o2 → Ex G (d + 2) yX2_fitting cX2_fitting 4 (some .int) 33 [.null, .null, .int o2, .null] [] M res → Ex G (d + 2) yX2_fitting cX2_fitting 4 (some .int) 4 [.ref l0, .ref l1, .int l2, .int l3] [] M res := by
  intro n
  induction n with
  | zero =>
    intro l0 l1 l2 l3 M hl0 hl1 o2 res h K
    simp [L_X2_fitting_4] at h
  | succ n ih =>
    intro l0 l1 l2 l3 M hl0 hl1 o2 res h K
    simp only [L_X2_fitting_4] at h
    refine x_iload_n (pc := 4) dX2_fitting_4 rfl rfl ?_
    refine x_aload_n (pc := 5) dX2_fitting_5 rfl rfl hl1 ?_
    obtain ⟨v1, e2, h⟩ := ob h
    refine y_getI (pc := 6) dX2_fitting_6 zf_X2_26 e2 (by decide) ?_
    refine x_icmp_ge (pc := 9) dX2_fitting_9 (t := 33) rfl (fun c3 => ?_) (fun c3 => ?_)
    · rw [if_pos c3] at h
      obtain rfl := s1 h
      refine ex_weak (Ls2 := [.null, .null, .int l2, .null]) ⟨Or.inl rfl, Or.inl rfl, Or.inr rfl, Or.inl rfl, trivial⟩ ?_
      exact K
    · rw [if_neg c3] at h
      refine x_aload_n (pc := 12) dX2_fitting_12 rfl rfl hl0 ?_
      refine x_aload_n (pc := 13) dX2_fitting_13 rfl rfl hl1 ?_
      refine x_iload_n (pc := 14) dX2_fitting_14 rfl rfl ?_
      obtain ⟨g7, h⟩ := bt h
      obtain ⟨r4, e5, h⟩ := ob h
      refine x_callV (av := [.ref l1, .int l3]) (st := []) (pc := 15) dX2_fitting_15 (E_X2_fits (d := d) e5) rfl (Nat.le_of_ble_eq_true rfl) zc_X2_fits rfl zm_X2_31 zi_X2_fits zs_X2_fits (zac_ok g7) (by decide) rfl rfl (zst_ok rfl (Nat.le_of_ble_eq_true rfl)) rfl ?_
      refine x_if_eq (pc := 18) dX2_fitting_18 (t := 27) rfl (fun c6 => ?_) (fun c6 => ?_)
      · rw [if_pos c6] at h
        refine x_iinc (pc := 27) dX2_fitting_27 rfl rfl (by decide) rfl ?_
        refine x_goto (pc := 30) dX2_fitting_30 (t := 4) rfl ?_
        refine ex_weak (Ls2 := [.ref l0, .ref l1, .int l2, .int (l3 + 1)]) ⟨Or.inr rfl, Or.inr rfl, Or.inr rfl, Or.inr rfl, trivial⟩ ?_
        exact ih _ _ _ _ _ hl0 hl1 _ h K
      · rw [if_neg c6] at h
        refine x_iload_n (pc := 21) dX2_fitting_21 rfl rfl ?_
        refine x_iconst (pc := 22) dX2_fitting_22 (v := 1) rfl ?_
        refine x_iload_n (pc := 23) dX2_fitting_23 rfl rfl ?_
        refine x_ishl (pc := 24) dX2_fitting_24 ?_
        refine x_ior (pc := 25) dX2_fitting_25 ?_
        refine x_istore_n (pc := 26) dX2_fitting_26 rfl (by decide) rfl ?_
        refine x_iinc (pc := 27) dX2_fitting_27 rfl rfl (by decide) rfl ?_
        refine x_goto (pc := 30) dX2_fitting_30 (t := 4) rfl ?_
        refine ex_weak (Ls2 := [.ref l0, .ref l1, .int (l2 ||| (1 <<< (l3 &&& 31))), .int (l3 + 1)]) ⟨Or.inr rfl, Or.inr rfl, Or.inr rfl, Or.inr rfl, trivial⟩ ?_
        exact ih _ _ _ _ _ hl0 hl1 _ h K
theorem E_X2_fitting {G : zG} {d : Nat} {l0 : Nat} {l1 : Nat} {M : zM} {r : Int32} (h : f_X2_fitting l0 l1 M = some r) : Ex G (d + 2) yX2_fitting cX2_fitting 4 (some .int) 0 (zent0 [.ref l0, .ref l1] 4) [] M (some (.int r), M) := by
  unfold f_X2_fitting at h
  obtain ⟨zz0, h⟩ := bt h
  have hl0 := bz zz0
  obtain ⟨zz1, h⟩ := bt h
  have hl1 := bz zz1
  show Ex _ _ _ _ _ _ 0 [.ref l0, .ref l1, .null, .null] [] _ _
  refine x_iconst (pc := 0) dX2_fitting_0 (v := 0) rfl ?_
  refine x_istore_n (pc := 1) dX2_fitting_1 rfl (by decide) rfl ?_
  refine x_iconst (pc := 2) dX2_fitting_2 (v := 0) rfl ?_
  refine x_istore_n (pc := 3) dX2_fitting_3 rfl (by decide) rfl ?_
  obtain ⟨v2, e1, h⟩ := ob h
  refine ex_weak (Ls2 := [.ref l0, .ref l1, .int 0, .int 0]) ⟨Or.inr rfl, Or.inr rfl, Or.inr rfl, Or.inr rfl, trivial⟩ ?_
  refine LX_X2_fitting_4 zN _ _ _ _ _ hl0 hl1 _ e1 ?_
  refine x_iload_n (pc := 33) dX2_fitting_33 rfl rfl ?_
  obtain rfl := s1 h
  exact y_retI (pc := 34) dX2_fitting_34 rfl
def L_X3_init_15 : Nat → Nat → Int32 → zM → Option (zM)
  | 0, _, _, _ => none
  | n + 1, l0, l1, M => if 16 ≤ l1 then (some M) else ((oR M l0 3 3 0).bind fun v6 => (mk M 5 9).bind fun M8 => (f_X5_init (M.1 + 1) M8).bind fun M10 => (sQ M10 v6 13 l1 (M.1 + 1) 5 9).bind fun M12 => L_X3_init_15 n l0 (l1 + 1) M12)
def f_X3_init (l0 : Nat) (M : zM) : Option (zM) := bif Nat.ble 1 l0 then ((mk M 13 16).bind fun M1 => (pR M1 l0 3 3 0 (M.1 + 1)).bind fun M3 => (L_X3_init_15 zN l0 0 M3).bind fun M6 => some M6) else none
theorem LX_X3_init_15 {G : zG} {d : Nat} : ∀ (n : Nat) (l0 : Nat) (l1 : Int32) (M : zM) (hl0 : l0 ≠ 0) (MX : zM) {res : Option Value × zM}, L_X3_init_15 n l0 l1 M = some MX → Ex G (d + 1) yX3_init cX3_init 2 none 40 [.null, .null] [] MX res → Ex G (d + 1) yX3_init cX3_init 2 none 15 [.ref l0, .int l1] [] M res := by
  intro n
  induction n with
  | zero =>
    intro l0 l1 M hl0 MX res h K
    simp [L_X3_init_15] at h
  | succ n ih =>
    intro l0 l1 M hl0 MX res h K
    simp only [L_X3_init_15] at h
    refine x_iload_n (pc := 15) dX3_init_15 rfl rfl ?_
    refine x_bipush (pc := 16) dX3_init_16 (v := 16) (by decide) ?_
    refine x_icmp_ge (pc := 18) dX3_init_18 (t := 40) rfl (fun c5 => ?_) (fun c5 => ?_)
    · rw [if_pos c5] at h
      obtain rfl := s1 h
      refine ex_weak (Ls2 := [.null, .null]) ⟨Or.inl rfl, Or.inl rfl, trivial⟩ ?_
      exact K
    · rw [if_neg c5] at h
      refine x_aload_n (pc := 21) dX3_init_21 rfl rfl hl0 ?_
      obtain ⟨v6, e7, h⟩ := ob h
      refine y_getR (pc := 22) dX3_init_22 zf_X3_11 e7 ?_
      refine x_iload_n (pc := 25) dX3_init_25 rfl rfl ?_
      obtain ⟨M8, e9, h⟩ := ob h
      refine y_new (pc := 26) dX3_init_26 zn_X3_9 e9 ?_
      refine x_dup (pc := 29) dX3_init_29 rv_cr ?_
      obtain ⟨M10, e11, h⟩ := ob h
      refine x_callN (av := []) (st := [.ref (M.1 + 1), .int l1, .ref v6]) (pc := 30) dX3_init_30 (E_X5_init (d := d) e11) rfl (Nat.le_of_ble_eq_true rfl) zc_X5_init rfl zm_X3_17 zi_X5_init rfl (Nat.succ_ne_zero _) rfl (zst_ok rfl (Nat.le_of_ble_eq_true rfl)) rfl ?_
      obtain ⟨M12, e13, h⟩ := ob h
      refine y_aastS (pc := 33) dX3_init_33 e13 ?_
      refine x_iinc (pc := 34) dX3_init_34 rfl rfl (by decide) rfl ?_
      refine x_goto (pc := 37) dX3_init_37 (t := 15) rfl ?_
      refine ex_weak (Ls2 := [.ref l0, .int (l1 + 1)]) ⟨Or.inr rfl, Or.inr rfl, trivial⟩ ?_
      exact ih _ _ _ hl0  _ h K
theorem E_X3_init {G : zG} {d : Nat} {l0 : Nat} {M MR : zM} (h : f_X3_init l0 M = some MR) : Ex G (d + 1) yX3_init cX3_init 2 none 0 (zent0 [.ref l0] 2) [] M (none, MR) := by
  unfold f_X3_init at h
  obtain ⟨zz0, h⟩ := bt h
  have hl0 := bz zz0
  show Ex _ _ _ _ _ _ 0 [.ref l0, .null] [] _ _
  refine x_aload_n (pc := 0) dX3_init_0 rfl rfl hl0 ?_
  refine y_oinit (pc := 1) dX3_init_1 zm_X3_3 hl0 ?_
  refine x_aload_n (pc := 4) dX3_init_4 rfl rfl hl0 ?_
  refine x_bipush (pc := 5) dX3_init_5 (v := 16) (by decide) ?_
  obtain ⟨M1, e2, h⟩ := ob h
  refine y_newqS (pc := 7) dX3_init_7 zq_X3_9 (N := 16) (by decide) (by decide) (by decide) e2 ?_
  obtain ⟨M3, e4, h⟩ := ob h
  refine y_putF (pc := 10) dX3_init_10 zf_X3_11 rfl (by intro C T n q; cases q; rfl) e4 ?_
  refine x_iconst (pc := 13) dX3_init_13 (v := 0) rfl ?_
  refine x_istore_n (pc := 14) dX3_init_14 rfl (by decide) rfl ?_
  obtain ⟨M6, e5, h⟩ := ob h
  refine ex_weak (Ls2 := [.ref l0, .int 0]) ⟨Or.inr rfl, Or.inr rfl, trivial⟩ ?_
  refine LX_X3_init_15 zN _ _ _ hl0 _ e5 ?_
  obtain rfl := s1 h
  exact x_vret (pc := 40) dX3_init_40 rfl
def f_X3_forget (l0 : Nat) (M : zM) : Option (zM) := bif Nat.ble 1 l0 then ((pI M l0 3 3 2 0).bind fun M1 => some M1) else none
theorem E_X3_forget {G : zG} {d : Nat} {l0 : Nat} {M MR : zM} (h : f_X3_forget l0 M = some MR) : Ex G d yX3_forget cX3_forget 1 none 0 (zent0 [.ref l0] 1) [] M (none, MR) := by
  unfold f_X3_forget at h
  obtain ⟨zz0, h⟩ := bt h
  have hl0 := bz zz0
  show Ex _ _ _ _ _ _ 0 [.ref l0] [] _ _
  refine x_aload_n (pc := 0) dX3_forget_0 rfl rfl hl0 ?_
  refine x_iconst (pc := 1) dX3_forget_1 (v := 0) rfl ?_
  obtain ⟨M1, e2, h⟩ := ob h
  refine y_putI (pc := 2) dX3_forget_2 zf_X3_18 e2 ?_
  obtain rfl := s1 h
  exact x_vret (pc := 5) dX3_forget_5 rfl
def f_X5_copy (l0 : Nat) (l1 : Nat) (M : zM) : Option (zM) := bif Nat.ble 1 l0 then (bif Nat.ble 1 l1 then ((oI M l1 5 9 4).bind fun v1 => (pI M l0 5 9 4 v1).bind fun M3 => (oI M3 l1 5 9 5).bind fun v5 => (pI M3 l0 5 9 5 v5).bind fun M7 => (oI M7 l1 5 9 6).bind fun v9 => (pI M7 l0 5 9 6 v9).bind fun M11 => (oI M11 l1 5 9 7).bind fun v13 => (pI M11 l0 5 9 7 v13).bind fun M15 => (oI M15 l1 5 9 8).bind fun v17 => (pI M15 l0 5 9 8 v17).bind fun M19 => (oR M19 l1 5 9 0).bind fun v21 => (oR M19 l0 5 9 0).bind fun v23 => (cP M19 v21 0 v23 0 8).bind fun M25 => (oR M25 l1 5 9 1).bind fun v27 => (oR M25 l0 5 9 1).bind fun v29 => (cP M25 v27 0 v29 0 8).bind fun M31 => (oR M31 l1 5 9 2).bind fun v33 => (oR M31 l0 5 9 2).bind fun v35 => (cP M31 v33 0 v35 0 8).bind fun M37 => (oR M37 l1 5 9 3).bind fun v39 => (oR M37 l0 5 9 3).bind fun v41 => (cP M37 v39 0 v41 0 40).bind fun M43 => some M43) else none) else none
theorem E_X5_copy {G : zG} {d : Nat} {l0 : Nat} {l1 : Nat} {M MR : zM} (h : f_X5_copy l0 l1 M = some MR) : Ex G d yX5_copy cX5_copy 2 none 0 (zent0 [.ref l0, .ref l1] 2) [] M (none, MR) := by
  unfold f_X5_copy at h
  obtain ⟨zz0, h⟩ := bt h
  have hl0 := bz zz0
  obtain ⟨zz1, h⟩ := bt h
  have hl1 := bz zz1
  show Ex _ _ _ _ _ _ 0 [.ref l0, .ref l1] [] _ _
  refine x_aload_n (pc := 0) dX5_copy_0 rfl rfl hl0 ?_
  refine x_aload_n (pc := 1) dX5_copy_1 rfl rfl hl1 ?_
  obtain ⟨v1, e2, h⟩ := ob h
  refine y_getI (pc := 2) dX5_copy_2 zf_X5_24 e2 (by decide) ?_
  obtain ⟨M3, e4, h⟩ := ob h
  refine y_putI (pc := 5) dX5_copy_5 zf_X5_24 e4 ?_
  refine x_aload_n (pc := 8) dX5_copy_8 rfl rfl hl0 ?_
  refine x_aload_n (pc := 9) dX5_copy_9 rfl rfl hl1 ?_
  obtain ⟨v5, e6, h⟩ := ob h
  refine y_getI (pc := 10) dX5_copy_10 zf_X5_28 e6 (by decide) ?_
  obtain ⟨M7, e8, h⟩ := ob h
  refine y_putI (pc := 13) dX5_copy_13 zf_X5_28 e8 ?_
  refine x_aload_n (pc := 16) dX5_copy_16 rfl rfl hl0 ?_
  refine x_aload_n (pc := 17) dX5_copy_17 rfl rfl hl1 ?_
  obtain ⟨v9, e10, h⟩ := ob h
  refine y_getI (pc := 18) dX5_copy_18 zf_X5_31 e10 (by decide) ?_
  obtain ⟨M11, e12, h⟩ := ob h
  refine y_putI (pc := 21) dX5_copy_21 zf_X5_31 e12 ?_
  refine x_aload_n (pc := 24) dX5_copy_24 rfl rfl hl0 ?_
  refine x_aload_n (pc := 25) dX5_copy_25 rfl rfl hl1 ?_
  obtain ⟨v13, e14, h⟩ := ob h
  refine y_getI (pc := 26) dX5_copy_26 zf_X5_34 e14 (by decide) ?_
  obtain ⟨M15, e16, h⟩ := ob h
  refine y_putI (pc := 29) dX5_copy_29 zf_X5_34 e16 ?_
  refine x_aload_n (pc := 32) dX5_copy_32 rfl rfl hl0 ?_
  refine x_aload_n (pc := 33) dX5_copy_33 rfl rfl hl1 ?_
  obtain ⟨v17, e18, h⟩ := ob h
  refine y_getI (pc := 34) dX5_copy_34 zf_X5_37 e18 (by decide) ?_
  obtain ⟨M19, e20, h⟩ := ob h
  refine y_putI (pc := 37) dX5_copy_37 zf_X5_37 e20 ?_
  refine x_aload_n (pc := 40) dX5_copy_40 rfl rfl hl1 ?_
  obtain ⟨v21, e22, h⟩ := ob h
  refine y_getR (pc := 41) dX5_copy_41 zf_X5_9 e22 ?_
  refine x_iconst (pc := 44) dX5_copy_44 (v := 0) rfl ?_
  refine x_aload_n (pc := 45) dX5_copy_45 rfl rfl hl0 ?_
  obtain ⟨v23, e24, h⟩ := ob h
  refine y_getR (pc := 46) dX5_copy_46 zf_X5_9 e24 ?_
  refine x_iconst (pc := 49) dX5_copy_49 (v := 0) rfl ?_
  refine x_bipush (pc := 50) dX5_copy_50 (v := 8) (by decide) ?_
  obtain ⟨M25, e26, h⟩ := ob h
  refine y_copy (pc := 52) dX5_copy_52 zm_X5_49 e26 ?_
  refine x_aload_n (pc := 55) dX5_copy_55 rfl rfl hl1 ?_
  obtain ⟨v27, e28, h⟩ := ob h
  refine y_getR (pc := 56) dX5_copy_56 zf_X5_15 e28 ?_
  refine x_iconst (pc := 59) dX5_copy_59 (v := 0) rfl ?_
  refine x_aload_n (pc := 60) dX5_copy_60 rfl rfl hl0 ?_
  obtain ⟨v29, e30, h⟩ := ob h
  refine y_getR (pc := 61) dX5_copy_61 zf_X5_15 e30 ?_
  refine x_iconst (pc := 64) dX5_copy_64 (v := 0) rfl ?_
  refine x_bipush (pc := 65) dX5_copy_65 (v := 8) (by decide) ?_
  obtain ⟨M31, e32, h⟩ := ob h
  refine y_copy (pc := 67) dX5_copy_67 zm_X5_49 e32 ?_
  refine x_aload_n (pc := 70) dX5_copy_70 rfl rfl hl1 ?_
  obtain ⟨v33, e34, h⟩ := ob h
  refine y_getR (pc := 71) dX5_copy_71 zf_X5_18 e34 ?_
  refine x_iconst (pc := 74) dX5_copy_74 (v := 0) rfl ?_
  refine x_aload_n (pc := 75) dX5_copy_75 rfl rfl hl0 ?_
  obtain ⟨v35, e36, h⟩ := ob h
  refine y_getR (pc := 76) dX5_copy_76 zf_X5_18 e36 ?_
  refine x_iconst (pc := 79) dX5_copy_79 (v := 0) rfl ?_
  refine x_bipush (pc := 80) dX5_copy_80 (v := 8) (by decide) ?_
  obtain ⟨M37, e38, h⟩ := ob h
  refine y_copy (pc := 82) dX5_copy_82 zm_X5_49 e38 ?_
  refine x_aload_n (pc := 85) dX5_copy_85 rfl rfl hl1 ?_
  obtain ⟨v39, e40, h⟩ := ob h
  refine y_getR (pc := 86) dX5_copy_86 zf_X5_21 e40 ?_
  refine x_iconst (pc := 89) dX5_copy_89 (v := 0) rfl ?_
  refine x_aload_n (pc := 90) dX5_copy_90 rfl rfl hl0 ?_
  obtain ⟨v41, e42, h⟩ := ob h
  refine y_getR (pc := 91) dX5_copy_91 zf_X5_21 e42 ?_
  refine x_iconst (pc := 94) dX5_copy_94 (v := 0) rfl ?_
  refine x_bipush (pc := 95) dX5_copy_95 (v := 40) (by decide) ?_
  obtain ⟨M43, e44, h⟩ := ob h
  refine y_copy (pc := 97) dX5_copy_97 zm_X5_49 e44 ?_
  obtain rfl := s1 h
  exact x_vret (pc := 100) dX5_copy_100 rfl
def f_X3_remember (l0 : Nat) (l1 : Nat) (M : zM) : Option (zM) := bif Nat.ble 1 l0 then (bif Nat.ble 1 l1 then ((oR M l0 3 3 0).bind fun v1 => (oI M l0 3 3 1).bind fun v3 => (aQ M v1 13 v3).bind fun v5 => bif zac M v5 5 9 then ((f_X5_copy v5 l1 M).bind fun M7 => (oI M7 l0 3 3 1).bind fun v9 => (rm (v9 + 1) 16).bind fun v11 => (pI M7 l0 3 3 1 v11).bind fun M13 => (oI M13 l0 3 3 2).bind fun v15 => (pI M13 l0 3 3 2 (if v15 + 1 < 16 then v15 + 1 else 16)).bind fun M17 => some M17) else none) else none) else none
theorem E_X3_remember {G : zG} {d : Nat} {l0 : Nat} {l1 : Nat} {M MR : zM} (h : f_X3_remember l0 l1 M = some MR) : Ex G (d + 1) yX3_remember cX3_remember 2 none 0 (zent0 [.ref l0, .ref l1] 2) [] M (none, MR) := by
  unfold f_X3_remember at h
  obtain ⟨zz0, h⟩ := bt h
  have hl0 := bz zz0
  obtain ⟨zz1, h⟩ := bt h
  have hl1 := bz zz1
  show Ex _ _ _ _ _ _ 0 [.ref l0, .ref l1] [] _ _
  refine x_aload_n (pc := 0) dX3_remember_0 rfl rfl hl0 ?_
  obtain ⟨v1, e2, h⟩ := ob h
  refine y_getR (pc := 1) dX3_remember_1 zf_X3_11 e2 ?_
  refine x_aload_n (pc := 4) dX3_remember_4 rfl rfl hl0 ?_
  obtain ⟨v3, e4, h⟩ := ob h
  refine y_getI (pc := 5) dX3_remember_5 zf_X3_22 e4 (by decide) ?_
  obtain ⟨v5, e6, h⟩ := ob h
  refine y_aaldS (pc := 8) dX3_remember_8 e6 ?_
  refine x_aload_n (pc := 9) dX3_remember_9 rfl rfl hl1 ?_
  obtain ⟨g19, h⟩ := bt h
  obtain ⟨M7, e8, h⟩ := ob h
  refine x_callV (av := [.ref l1]) (st := []) (pc := 10) dX3_remember_10 (E_X5_copy (d := d) e8) rfl (Nat.le_of_ble_eq_true rfl) zc_X5_copy rfl zm_X3_25 zi_X5_copy zs_X5_copy (zac_ok g19) (by decide) rfl rfl (zst_ok rfl (Nat.le_of_ble_eq_true rfl)) rfl ?_
  refine x_aload_n (pc := 13) dX3_remember_13 rfl rfl hl0 ?_
  refine x_aload_n (pc := 14) dX3_remember_14 rfl rfl hl0 ?_
  obtain ⟨v9, e10, h⟩ := ob h
  refine y_getI (pc := 15) dX3_remember_15 zf_X3_22 e10 (by decide) ?_
  refine x_iconst (pc := 18) dX3_remember_18 (v := 1) rfl ?_
  refine x_iadd (pc := 19) dX3_remember_19 ?_
  refine x_bipush (pc := 20) dX3_remember_20 (v := 16) (by decide) ?_
  obtain ⟨v11, e12, h⟩ := ob h
  refine y_irem (pc := 22) dX3_remember_22 e12 ?_
  obtain ⟨M13, e14, h⟩ := ob h
  refine y_putI (pc := 23) dX3_remember_23 zf_X3_22 e14 ?_
  refine x_aload_n (pc := 26) dX3_remember_26 rfl rfl hl0 ?_
  refine x_bipush (pc := 27) dX3_remember_27 (v := 16) (by decide) ?_
  refine x_aload_n (pc := 29) dX3_remember_29 rfl rfl hl0 ?_
  obtain ⟨v15, e16, h⟩ := ob h
  refine y_getI (pc := 30) dX3_remember_30 zf_X3_18 e16 (by decide) ?_
  refine x_iconst (pc := 33) dX3_remember_33 (v := 1) rfl ?_
  refine x_iadd (pc := 34) dX3_remember_34 ?_
  refine y_mmin (pc := 35) dX3_remember_35 zm_X3_29 zs_J9_min_7cf53 rfl (Nat.le_of_ble_eq_true rfl) ?_
  obtain ⟨M17, e18, h⟩ := ob h
  refine y_putI (pc := 38) dX3_remember_38 zf_X3_18 e18 ?_
  obtain rfl := s1 h
  exact x_vret (pc := 41) dX3_remember_41 rfl
def f_X3_returnTo (l0 : Nat) (l1 : Nat) (M : zM) : Option (zM) := bif Nat.ble 1 l0 then (bif Nat.ble 1 l1 then ((oI M l0 3 3 1).bind fun v1 => (rm ((v1 + 16) - 1) 16).bind fun v3 => (pI M l0 3 3 1 v3).bind fun M5 => (oI M5 l0 3 3 2).bind fun v7 => (pI M5 l0 3 3 2 (v7 - 1)).bind fun M9 => (oR M9 l0 3 3 0).bind fun v11 => (oI M9 l0 3 3 1).bind fun v13 => (aQ M9 v11 13 v13).bind fun v15 => bif zac M9 l1 5 9 then ((f_X5_copy l1 v15 M9).bind fun M17 => some M17) else none) else none) else none
theorem E_X3_returnTo {G : zG} {d : Nat} {l0 : Nat} {l1 : Nat} {M MR : zM} (h : f_X3_returnTo l0 l1 M = some MR) : Ex G (d + 1) yX3_returnTo cX3_returnTo 2 none 0 (zent0 [.ref l0, .ref l1] 2) [] M (none, MR) := by
  unfold f_X3_returnTo at h
  obtain ⟨zz0, h⟩ := bt h
  have hl0 := bz zz0
  obtain ⟨zz1, h⟩ := bt h
  have hl1 := bz zz1
  show Ex _ _ _ _ _ _ 0 [.ref l0, .ref l1] [] _ _
  refine x_aload_n (pc := 0) dX3_returnTo_0 rfl rfl hl0 ?_
  refine x_aload_n (pc := 1) dX3_returnTo_1 rfl rfl hl0 ?_
  obtain ⟨v1, e2, h⟩ := ob h
  refine y_getI (pc := 2) dX3_returnTo_2 zf_X3_22 e2 (by decide) ?_
  refine x_bipush (pc := 5) dX3_returnTo_5 (v := 16) (by decide) ?_
  refine x_iadd (pc := 7) dX3_returnTo_7 ?_
  refine x_iconst (pc := 8) dX3_returnTo_8 (v := 1) rfl ?_
  refine x_isub (pc := 9) dX3_returnTo_9 ?_
  refine x_bipush (pc := 10) dX3_returnTo_10 (v := 16) (by decide) ?_
  obtain ⟨v3, e4, h⟩ := ob h
  refine y_irem (pc := 12) dX3_returnTo_12 e4 ?_
  obtain ⟨M5, e6, h⟩ := ob h
  refine y_putI (pc := 13) dX3_returnTo_13 zf_X3_22 e6 ?_
  refine x_aload_n (pc := 16) dX3_returnTo_16 rfl rfl hl0 ?_
  refine x_dup (pc := 17) dX3_returnTo_17 rv_cr ?_
  obtain ⟨v7, e8, h⟩ := ob h
  refine y_getI (pc := 18) dX3_returnTo_18 zf_X3_18 e8 (by decide) ?_
  refine x_iconst (pc := 21) dX3_returnTo_21 (v := 1) rfl ?_
  refine x_isub (pc := 22) dX3_returnTo_22 ?_
  obtain ⟨M9, e10, h⟩ := ob h
  refine y_putI (pc := 23) dX3_returnTo_23 zf_X3_18 e10 ?_
  refine x_aload_n (pc := 26) dX3_returnTo_26 rfl rfl hl1 ?_
  refine x_aload_n (pc := 27) dX3_returnTo_27 rfl rfl hl0 ?_
  obtain ⟨v11, e12, h⟩ := ob h
  refine y_getR (pc := 28) dX3_returnTo_28 zf_X3_11 e12 ?_
  refine x_aload_n (pc := 31) dX3_returnTo_31 rfl rfl hl0 ?_
  obtain ⟨v13, e14, h⟩ := ob h
  refine y_getI (pc := 32) dX3_returnTo_32 zf_X3_22 e14 (by decide) ?_
  obtain ⟨v15, e16, h⟩ := ob h
  refine y_aaldS (pc := 35) dX3_returnTo_35 e16 ?_
  obtain ⟨g19, h⟩ := bt h
  obtain ⟨M17, e18, h⟩ := ob h
  refine x_callV (av := [.ref v15]) (st := []) (pc := 36) dX3_returnTo_36 (E_X5_copy (d := d) e18) rfl (Nat.le_of_ble_eq_true rfl) zc_X5_copy rfl zm_X3_25 zi_X5_copy zs_X5_copy (zac_ok g19) (by decide) rfl rfl (zst_ok rfl (Nat.le_of_ble_eq_true rfl)) rfl ?_
  obtain rfl := s1 h
  exact x_vret (pc := 39) dX3_returnTo_39 rfl
def f_X4_init (l0 : Nat) (M : zM) : Option (zM) := bif Nat.ble 1 l0 then ((mk M 10 8).bind fun M1 => (pR M1 l0 4 10 0 (M.1 + 1)).bind fun M3 => (mk M3 10 8).bind fun M5 => (pR M5 l0 4 10 1 (M3.1 + 1)).bind fun M7 => (mk M7 10 8).bind fun M9 => (pR M9 l0 4 10 2 (M7.1 + 1)).bind fun M11 => (mk M11 10 40).bind fun M13 => (pR M13 l0 4 10 3 (M11.1 + 1)).bind fun M15 => (mk M15 10 9).bind fun M17 => (pR M17 l0 4 10 4 (M15.1 + 1)).bind fun M19 => (mk M19 10 8).bind fun M21 => (pR M21 l0 4 10 5 (M19.1 + 1)).bind fun M23 => (mk M23 10 8).bind fun M25 => (pR M25 l0 4 10 6 (M23.1 + 1)).bind fun M27 => some M27) else none
theorem E_X4_init {G : zG} {d : Nat} {l0 : Nat} {M MR : zM} (h : f_X4_init l0 M = some MR) : Ex G d yX4_init cX4_init 1 none 0 (zent0 [.ref l0] 1) [] M (none, MR) := by
  unfold f_X4_init at h
  obtain ⟨zz0, h⟩ := bt h
  have hl0 := bz zz0
  show Ex _ _ _ _ _ _ 0 [.ref l0] [] _ _
  refine x_aload_n (pc := 0) dX4_init_0 rfl rfl hl0 ?_
  refine y_oinit (pc := 1) dX4_init_1 zm_X4_3 hl0 ?_
  refine x_aload_n (pc := 4) dX4_init_4 rfl rfl hl0 ?_
  refine x_bipush (pc := 5) dX4_init_5 (v := 8) (by decide) ?_
  obtain ⟨M1, e2, h⟩ := ob h
  refine y_newa (pc := 7) dX4_init_7 (N := 8) (by decide) (by decide) (by decide) e2 ?_
  obtain ⟨M3, e4, h⟩ := ob h
  refine y_putF (pc := 9) dX4_init_9 zf_X4_9 rfl (by intro C T n q; cases q; rfl) e4 ?_
  refine x_aload_n (pc := 12) dX4_init_12 rfl rfl hl0 ?_
  refine x_bipush (pc := 13) dX4_init_13 (v := 8) (by decide) ?_
  obtain ⟨M5, e6, h⟩ := ob h
  refine y_newa (pc := 15) dX4_init_15 (N := 8) (by decide) (by decide) (by decide) e6 ?_
  obtain ⟨M7, e8, h⟩ := ob h
  refine y_putF (pc := 17) dX4_init_17 zf_X4_15 rfl (by intro C T n q; cases q; rfl) e8 ?_
  refine x_aload_n (pc := 20) dX4_init_20 rfl rfl hl0 ?_
  refine x_bipush (pc := 21) dX4_init_21 (v := 8) (by decide) ?_
  obtain ⟨M9, e10, h⟩ := ob h
  refine y_newa (pc := 23) dX4_init_23 (N := 8) (by decide) (by decide) (by decide) e10 ?_
  obtain ⟨M11, e12, h⟩ := ob h
  refine y_putF (pc := 25) dX4_init_25 zf_X4_18 rfl (by intro C T n q; cases q; rfl) e12 ?_
  refine x_aload_n (pc := 28) dX4_init_28 rfl rfl hl0 ?_
  refine x_bipush (pc := 29) dX4_init_29 (v := 40) (by decide) ?_
  obtain ⟨M13, e14, h⟩ := ob h
  refine y_newa (pc := 31) dX4_init_31 (N := 40) (by decide) (by decide) (by decide) e14 ?_
  obtain ⟨M15, e16, h⟩ := ob h
  refine y_putF (pc := 33) dX4_init_33 zf_X4_21 rfl (by intro C T n q; cases q; rfl) e16 ?_
  refine x_aload_n (pc := 36) dX4_init_36 rfl rfl hl0 ?_
  refine x_bipush (pc := 37) dX4_init_37 (v := 9) (by decide) ?_
  obtain ⟨M17, e18, h⟩ := ob h
  refine y_newa (pc := 39) dX4_init_39 (N := 9) (by decide) (by decide) (by decide) e18 ?_
  obtain ⟨M19, e20, h⟩ := ob h
  refine y_putF (pc := 41) dX4_init_41 zf_X4_24 rfl (by intro C T n q; cases q; rfl) e20 ?_
  refine x_aload_n (pc := 44) dX4_init_44 rfl rfl hl0 ?_
  refine x_bipush (pc := 45) dX4_init_45 (v := 8) (by decide) ?_
  obtain ⟨M21, e22, h⟩ := ob h
  refine y_newa (pc := 47) dX4_init_47 (N := 8) (by decide) (by decide) (by decide) e22 ?_
  obtain ⟨M23, e24, h⟩ := ob h
  refine y_putF (pc := 49) dX4_init_49 zf_X4_27 rfl (by intro C T n q; cases q; rfl) e24 ?_
  refine x_aload_n (pc := 52) dX4_init_52 rfl rfl hl0 ?_
  refine x_bipush (pc := 53) dX4_init_53 (v := 8) (by decide) ?_
  obtain ⟨M25, e26, h⟩ := ob h
  refine y_newa (pc := 55) dX4_init_55 (N := 8) (by decide) (by decide) (by decide) e26 ?_
  obtain ⟨M27, e28, h⟩ := ob h
  refine y_putF (pc := 57) dX4_init_57 zf_X4_30 rfl (by intro C T n q; cases q; rfl) e28 ?_
  obtain rfl := s1 h
  exact x_vret (pc := 60) dX4_init_60 rfl
def f_X7_canPoint (l0 : Nat) (l1 : Int32) (M : zM) : Option (Int32) := bif Nat.ble 1 l0 then ((oI M l0 7 15 5).bind fun v1 => if (v1 >>> (l1 &&& 31)) &&& 1 = 0 then (some 0) else (some 1)) else none
theorem E_X7_canPoint {G : zG} {d : Nat} {l0 : Nat} {l1 : Int32} {M : zM} {r : Int32} (h : f_X7_canPoint l0 l1 M = some r) : Ex G d yX7_canPoint cX7_canPoint 2 (some .boolean) 0 (zent0 [.ref l0, .int l1] 2) [] M (some (.int r), M) := by
  unfold f_X7_canPoint at h
  obtain ⟨zz0, h⟩ := bt h
  have hl0 := bz zz0
  show Ex _ _ _ _ _ _ 0 [.ref l0, .int l1] [] _ _
  refine x_aload_n (pc := 0) dX7_canPoint_0 rfl rfl hl0 ?_
  obtain ⟨v1, e2, h⟩ := ob h
  refine y_getI (pc := 1) dX7_canPoint_1 zf_X7_52 e2 (by decide) ?_
  refine x_iload_n (pc := 4) dX7_canPoint_4 rfl rfl ?_
  refine x_ishr (pc := 5) dX7_canPoint_5 ?_
  refine x_iconst (pc := 6) dX7_canPoint_6 (v := 1) rfl ?_
  refine x_iand (pc := 7) dX7_canPoint_7 ?_
  refine x_if_eq (pc := 8) dX7_canPoint_8 (t := 15) rfl (fun c3 => ?_) (fun c3 => ?_)
  · rw [if_pos c3] at h
    refine x_iconst (pc := 15) dX7_canPoint_15 (v := 0) rfl ?_
    obtain rfl := s1 h
    exact x_ret (pc := 16) dX7_canPoint_16 (ty := .boolean) rfl rfl
  · rw [if_neg c3] at h
    refine x_iconst (pc := 11) dX7_canPoint_11 (v := 1) rfl ?_
    refine x_goto (pc := 12) dX7_canPoint_12 (t := 16) rfl ?_
    obtain rfl := s1 h
    exact x_ret (pc := 16) dX7_canPoint_16 (ty := .boolean) rfl rfl
def f_X7_wayRound (l0 : Nat) (l1 : Int32) (l2 : Int32) (M : zM) : Option (Int32) := bif Nat.ble 1 l0 then (if (l1 * 2) + l2 < 0 then (some 0) else ((oR M l0 7 15 10).bind fun v2 => (aN M v2).bind fun v4 => if v4 ≤ (l1 * 2) + l2 then (some 0) else ((oR M l0 7 15 10).bind fun v7 => (aI M v7 ((l1 * 2) + l2)).bind fun v9 => some v9))) else none
theorem E_X7_wayRound {G : zG} {d : Nat} {l0 : Nat} {l1 : Int32} {l2 : Int32} {M : zM} {r : Int32} (h : f_X7_wayRound l0 l1 l2 M = some r) : Ex G d yX7_wayRound cX7_wayRound 4 (some .int) 0 (zent0 [.ref l0, .int l1, .int l2] 4) [] M (some (.int r), M) := by
  unfold f_X7_wayRound at h
  obtain ⟨zz0, h⟩ := bt h
  have hl0 := bz zz0
  show Ex _ _ _ _ _ _ 0 [.ref l0, .int l1, .int l2, .null] [] _ _
  refine x_iload_n (pc := 0) dX7_wayRound_0 rfl rfl ?_
  refine x_iconst (pc := 1) dX7_wayRound_1 (v := 2) rfl ?_
  refine x_imul (pc := 2) dX7_wayRound_2 ?_
  refine x_iload_n (pc := 3) dX7_wayRound_3 rfl rfl ?_
  refine x_iadd (pc := 4) dX7_wayRound_4 ?_
  refine x_istore_n (pc := 5) dX7_wayRound_5 rfl (by decide) rfl ?_
  refine x_iload_n (pc := 6) dX7_wayRound_6 rfl rfl ?_
  refine x_if_lt (pc := 7) dX7_wayRound_7 (t := 28) rfl (fun c1 => ?_) (fun c1 => ?_)
  · rw [if_pos c1] at h
    refine x_iconst (pc := 28) dX7_wayRound_28 (v := 0) rfl ?_
    obtain rfl := s1 h
    exact y_retI (pc := 29) dX7_wayRound_29 rfl
  · rw [if_neg c1] at h
    refine x_iload_n (pc := 10) dX7_wayRound_10 rfl rfl ?_
    refine x_aload_n (pc := 11) dX7_wayRound_11 rfl rfl hl0 ?_
    obtain ⟨v2, e3, h⟩ := ob h
    refine y_getR (pc := 12) dX7_wayRound_12 zf_X7_21 e3 ?_
    obtain ⟨v4, e5, h⟩ := ob h
    refine y_alen (pc := 15) dX7_wayRound_15 e5 ?_
    refine x_icmp_ge (pc := 16) dX7_wayRound_16 (t := 28) rfl (fun c6 => ?_) (fun c6 => ?_)
    · rw [if_pos c6] at h
      refine x_iconst (pc := 28) dX7_wayRound_28 (v := 0) rfl ?_
      obtain rfl := s1 h
      exact y_retI (pc := 29) dX7_wayRound_29 rfl
    · rw [if_neg c6] at h
      refine x_aload_n (pc := 19) dX7_wayRound_19 rfl rfl hl0 ?_
      obtain ⟨v7, e8, h⟩ := ob h
      refine y_getR (pc := 20) dX7_wayRound_20 zf_X7_21 e8 ?_
      refine x_iload_n (pc := 23) dX7_wayRound_23 rfl rfl ?_
      obtain ⟨v9, e10, h⟩ := ob h
      refine y_iald (pc := 24) dX7_wayRound_24 e10 ?_
      refine x_goto (pc := 25) dX7_wayRound_25 (t := 29) rfl ?_
      obtain rfl := s1 h
      exact y_retI (pc := 29) dX7_wayRound_29 rfl
def L_X4_gatherUses_30 : Nat → Nat → Nat → Int32 → Int32 → Int32 → zM → Option (zM)
  | 0, _, _, _, _, _, _ => none
  | n + 1, l0, l1, l2, l3, l4, M => if 2 ≤ l4 then (some M) else (bif zac M l1 7 15 then ((f_X7_wayRound l1 l2 l4 M).bind fun r12 => (oR M l0 4 10 3).bind fun v14 => if r12 = 0 then ((sI M v14 ((l3 + 2) + l4) (-1)).bind fun M17 => L_X4_gatherUses_30 n l0 l1 l2 l3 (l4 + 1) M17) else ((sI M v14 ((l3 + 2) + l4) r12).bind fun M19 => L_X4_gatherUses_30 n l0 l1 l2 l3 (l4 + 1) M19)) else none)
def f_X4_gatherUses (l0 : Nat) (l1 : Nat) (l2 : Int32) (M : zM) : Option (zM) := bif Nat.ble 1 l0 then (bif Nat.ble 1 l1 then ((oI M l0 4 10 7).bind fun v1 => (oR M l0 4 10 3).bind fun v3 => (sI M v3 ((v1 * 5) + 0) 0).bind fun M5 => (oR M5 l0 4 10 3).bind fun v7 => (sI M5 v7 ((v1 * 5) + 1) (1 <<< (l2 &&& 31))).bind fun M9 => (L_X4_gatherUses_30 zN l0 l1 l2 (v1 * 5) 0 M9).bind fun M12 => (oR M12 l0 4 10 3).bind fun v13 => bif zac M12 l1 7 15 then ((f_X7_canPoint l1 l2 M12).bind fun r15 => if r15 = 0 then ((sI M12 v13 ((v1 * 5) + 4) (-1)).bind fun M18 => some M18) else ((sI M12 v13 ((v1 * 5) + 4) 0).bind fun M20 => some M20)) else none) else none) else none
theorem LX_X4_gatherUses_30 {G : zG} {d : Nat} : ∀ (n : Nat) (l0 : Nat) (l1 : Nat) (l2 : Int32) (l3 : Int32) (l4 : Int32) (M : zM) (hl0 : l0 ≠ 0) (hl1 : l1 ≠ 0) (MX : zM) {res : Option Value × zM}, L_X4_gatherUses_30 n l0 l1 l2 l3 l4 M = some MX → Ex G (d + 1) yX4_gatherUses cX4_gatherUses 6 none 73 [.ref l0, .ref l1, .int l2, .int l3, .null, .null] [] MX res → Ex G (d + 1) yX4_gatherUses cX4_gatherUses 6 none 30 [.ref l0, .ref l1, .int l2, .int l3, .int l4, .null] [] M res := by
  intro n
  induction n with
  | zero =>
    intro l0 l1 l2 l3 l4 M hl0 hl1 MX res h K
    simp [L_X4_gatherUses_30] at h
  | succ n ih =>
    intro l0 l1 l2 l3 l4 M hl0 hl1 MX res h K
    simp only [L_X4_gatherUses_30] at h
    refine x_iload (pc := 30) dX4_gatherUses_30 rfl ?_
    refine x_iconst (pc := 32) dX4_gatherUses_32 (v := 2) rfl ?_
    refine x_icmp_ge (pc := 33) dX4_gatherUses_33 (t := 73) rfl (fun c11 => ?_) (fun c11 => ?_)
    · rw [if_pos c11] at h
      obtain rfl := s1 h
      refine ex_weak (Ls2 := [.ref l0, .ref l1, .int l2, .int l3, .null, .null]) ⟨Or.inr rfl, Or.inr rfl, Or.inr rfl, Or.inr rfl, Or.inl rfl, Or.inl rfl, trivial⟩ ?_
      exact K
    · rw [if_neg c11] at h
      refine x_aload_n (pc := 36) dX4_gatherUses_36 rfl rfl hl1 ?_
      refine x_iload_n (pc := 37) dX4_gatherUses_37 rfl rfl ?_
      refine x_iload (pc := 38) dX4_gatherUses_38 rfl ?_
      obtain ⟨g21, h⟩ := bt h
      obtain ⟨r12, e13, h⟩ := ob h
      refine x_callV (av := [.int l2, .int l4]) (st := []) (pc := 40) dX4_gatherUses_40 (E_X7_wayRound (d := d) e13) rfl (Nat.le_of_ble_eq_true rfl) zc_X7_wayRound rfl zm_X4_87 zi_X7_wayRound zs_X7_wayRound (zac_ok g21) (by decide) rfl rfl (zst_ok rfl (Nat.le_of_ble_eq_true rfl)) rfl ?_
      refine x_istore (pc := 43) dX4_gatherUses_43 (by decide) rfl ?_
      refine x_aload_n (pc := 45) dX4_gatherUses_45 rfl rfl hl0 ?_
      obtain ⟨v14, e15, h⟩ := ob h
      refine y_getR (pc := 46) dX4_gatherUses_46 zf_X4_21 e15 ?_
      refine x_iload_n (pc := 49) dX4_gatherUses_49 rfl rfl ?_
      refine x_iconst (pc := 50) dX4_gatherUses_50 (v := 2) rfl ?_
      refine x_iadd (pc := 51) dX4_gatherUses_51 ?_
      refine x_iload (pc := 52) dX4_gatherUses_52 rfl ?_
      refine x_iadd (pc := 54) dX4_gatherUses_54 ?_
      refine x_iload (pc := 55) dX4_gatherUses_55 rfl ?_
      refine x_if_ne (pc := 57) dX4_gatherUses_57 (t := 64) rfl (fun c16 => ?_) (fun c16 => ?_)
      · rw [if_neg c16] at h
        refine x_iload (pc := 64) dX4_gatherUses_64 rfl ?_
        obtain ⟨M19, e20, h⟩ := ob h
        refine y_iast (pc := 66) dX4_gatherUses_66 e20 ?_
        refine x_iinc (pc := 67) dX4_gatherUses_67 rfl rfl (by decide) rfl ?_
        refine x_goto (pc := 70) dX4_gatherUses_70 (t := 30) rfl ?_
        refine ex_weak (Ls2 := [.ref l0, .ref l1, .int l2, .int l3, .int (l4 + 1), .null]) ⟨Or.inr rfl, Or.inr rfl, Or.inr rfl, Or.inr rfl, Or.inr rfl, Or.inl rfl, trivial⟩ ?_
        exact ih _ _ _ _ _ _ hl0 hl1  _ h K
      · rw [if_pos c16] at h
        refine x_iconst (pc := 60) dX4_gatherUses_60 (v := (-1)) rfl ?_
        refine x_goto (pc := 61) dX4_gatherUses_61 (t := 66) rfl ?_
        obtain ⟨M17, e18, h⟩ := ob h
        refine y_iast (pc := 66) dX4_gatherUses_66 e18 ?_
        refine x_iinc (pc := 67) dX4_gatherUses_67 rfl rfl (by decide) rfl ?_
        refine x_goto (pc := 70) dX4_gatherUses_70 (t := 30) rfl ?_
        refine ex_weak (Ls2 := [.ref l0, .ref l1, .int l2, .int l3, .int (l4 + 1), .null]) ⟨Or.inr rfl, Or.inr rfl, Or.inr rfl, Or.inr rfl, Or.inr rfl, Or.inl rfl, trivial⟩ ?_
        exact ih _ _ _ _ _ _ hl0 hl1  _ h K
theorem E_X4_gatherUses {G : zG} {d : Nat} {l0 : Nat} {l1 : Nat} {l2 : Int32} {M MR : zM} (h : f_X4_gatherUses l0 l1 l2 M = some MR) : Ex G (d + 1) yX4_gatherUses cX4_gatherUses 6 none 0 (zent0 [.ref l0, .ref l1, .int l2] 6) [] M (none, MR) := by
  unfold f_X4_gatherUses at h
  obtain ⟨zz0, h⟩ := bt h
  have hl0 := bz zz0
  obtain ⟨zz1, h⟩ := bt h
  have hl1 := bz zz1
  show Ex _ _ _ _ _ _ 0 [.ref l0, .ref l1, .int l2, .null, .null, .null] [] _ _
  refine x_aload_n (pc := 0) dX4_gatherUses_0 rfl rfl hl0 ?_
  obtain ⟨v1, e2, h⟩ := ob h
  refine y_getI (pc := 1) dX4_gatherUses_1 zf_X4_59 e2 (by decide) ?_
  refine x_iconst (pc := 4) dX4_gatherUses_4 (v := 5) rfl ?_
  refine x_imul (pc := 5) dX4_gatherUses_5 ?_
  refine x_istore_n (pc := 6) dX4_gatherUses_6 rfl (by decide) rfl ?_
  refine x_aload_n (pc := 7) dX4_gatherUses_7 rfl rfl hl0 ?_
  obtain ⟨v3, e4, h⟩ := ob h
  refine y_getR (pc := 8) dX4_gatherUses_8 zf_X4_21 e4 ?_
  refine x_iload_n (pc := 11) dX4_gatherUses_11 rfl rfl ?_
  refine x_iconst (pc := 12) dX4_gatherUses_12 (v := 0) rfl ?_
  refine x_iadd (pc := 13) dX4_gatherUses_13 ?_
  refine x_iconst (pc := 14) dX4_gatherUses_14 (v := 0) rfl ?_
  obtain ⟨M5, e6, h⟩ := ob h
  refine y_iast (pc := 15) dX4_gatherUses_15 e6 ?_
  refine x_aload_n (pc := 16) dX4_gatherUses_16 rfl rfl hl0 ?_
  obtain ⟨v7, e8, h⟩ := ob h
  refine y_getR (pc := 17) dX4_gatherUses_17 zf_X4_21 e8 ?_
  refine x_iload_n (pc := 20) dX4_gatherUses_20 rfl rfl ?_
  refine x_iconst (pc := 21) dX4_gatherUses_21 (v := 1) rfl ?_
  refine x_iadd (pc := 22) dX4_gatherUses_22 ?_
  refine x_iconst (pc := 23) dX4_gatherUses_23 (v := 1) rfl ?_
  refine x_iload_n (pc := 24) dX4_gatherUses_24 rfl rfl ?_
  refine x_ishl (pc := 25) dX4_gatherUses_25 ?_
  obtain ⟨M9, e10, h⟩ := ob h
  refine y_iast (pc := 26) dX4_gatherUses_26 e10 ?_
  refine x_iconst (pc := 27) dX4_gatherUses_27 (v := 0) rfl ?_
  refine x_istore (pc := 28) dX4_gatherUses_28 (by decide) rfl ?_
  obtain ⟨M12, e11, h⟩ := ob h
  refine ex_weak (Ls2 := [.ref l0, .ref l1, .int l2, .int (v1 * 5), .int 0, .null]) ⟨Or.inr rfl, Or.inr rfl, Or.inr rfl, Or.inr rfl, Or.inr rfl, Or.inl rfl, trivial⟩ ?_
  refine LX_X4_gatherUses_30 zN _ _ _ _ _ _ hl0 hl1 _ e11 ?_
  refine x_aload_n (pc := 73) dX4_gatherUses_73 rfl rfl hl0 ?_
  obtain ⟨v13, e14, h⟩ := ob h
  refine y_getR (pc := 74) dX4_gatherUses_74 zf_X4_21 e14 ?_
  refine x_iload_n (pc := 77) dX4_gatherUses_77 rfl rfl ?_
  refine x_iconst (pc := 78) dX4_gatherUses_78 (v := 4) rfl ?_
  refine x_iadd (pc := 79) dX4_gatherUses_79 ?_
  refine x_aload_n (pc := 80) dX4_gatherUses_80 rfl rfl hl1 ?_
  refine x_iload_n (pc := 81) dX4_gatherUses_81 rfl rfl ?_
  obtain ⟨g22, h⟩ := bt h
  obtain ⟨r15, e16, h⟩ := ob h
  refine x_callV (av := [.int l2]) (st := [.int ((v1 * 5) + 4), .ref v13]) (pc := 82) dX4_gatherUses_82 (E_X7_canPoint (d := d) e16) rfl (Nat.le_of_ble_eq_true rfl) zc_X7_canPoint rfl zm_X4_91 zi_X7_canPoint zs_X7_canPoint (zac_ok g22) (by decide) rfl rfl (zst_ok rfl (Nat.le_of_ble_eq_true rfl)) rfl ?_
  refine x_if_eq (pc := 85) dX4_gatherUses_85 (t := 92) rfl (fun c17 => ?_) (fun c17 => ?_)
  · rw [if_pos c17] at h
    refine x_iconst (pc := 92) dX4_gatherUses_92 (v := (-1)) rfl ?_
    obtain ⟨M18, e19, h⟩ := ob h
    refine y_iast (pc := 93) dX4_gatherUses_93 e19 ?_
    obtain rfl := s1 h
    exact x_vret (pc := 94) dX4_gatherUses_94 rfl
  · rw [if_neg c17] at h
    refine x_iconst (pc := 88) dX4_gatherUses_88 (v := 0) rfl ?_
    refine x_goto (pc := 89) dX4_gatherUses_89 (t := 93) rfl ?_
    obtain ⟨M20, e21, h⟩ := ob h
    refine y_iast (pc := 93) dX4_gatherUses_93 e21 ?_
    obtain rfl := s1 h
    exact x_vret (pc := 94) dX4_gatherUses_94 rfl
def f_X5_hoardedBy (l0 : Nat) (l1 : Int32) (l2 : Int32) (M : zM) : Option (Int32) := bif Nat.ble 1 l0 then ((oR M l0 5 9 3).bind fun v1 => (aI M v1 ((l1 * 8) + l2)).bind fun v3 => some v3) else none
theorem E_X5_hoardedBy {G : zG} {d : Nat} {l0 : Nat} {l1 : Int32} {l2 : Int32} {M : zM} {r : Int32} (h : f_X5_hoardedBy l0 l1 l2 M = some r) : Ex G d yX5_hoardedBy cX5_hoardedBy 3 (some .int) 0 (zent0 [.ref l0, .int l1, .int l2] 3) [] M (some (.int r), M) := by
  unfold f_X5_hoardedBy at h
  obtain ⟨zz0, h⟩ := bt h
  have hl0 := bz zz0
  show Ex _ _ _ _ _ _ 0 [.ref l0, .int l1, .int l2] [] _ _
  refine x_aload_n (pc := 0) dX5_hoardedBy_0 rfl rfl hl0 ?_
  obtain ⟨v1, e2, h⟩ := ob h
  refine y_getR (pc := 1) dX5_hoardedBy_1 zf_X5_21 e2 ?_
  refine x_iload_n (pc := 4) dX5_hoardedBy_4 rfl rfl ?_
  refine x_bipush (pc := 5) dX5_hoardedBy_5 (v := 8) (by decide) ?_
  refine x_imul (pc := 7) dX5_hoardedBy_7 ?_
  refine x_iload_n (pc := 8) dX5_hoardedBy_8 rfl rfl ?_
  refine x_iadd (pc := 9) dX5_hoardedBy_9 ?_
  obtain ⟨v3, e4, h⟩ := ob h
  refine y_iald (pc := 10) dX5_hoardedBy_10 e4 ?_
  obtain rfl := s1 h
  exact y_retI (pc := 11) dX5_hoardedBy_11 rfl
def L_X5_hoardedByAll_4 : Nat → Nat → Int32 → Int32 → Int32 → zM → Option (Int32)
  | 0, _, _, _, _, _ => none
  | n + 1, l0, l1, l2, l3, M => if 5 ≤ l3 then (some l2) else (bif zac M l0 5 9 then ((f_X5_hoardedBy l0 l3 l1 M).bind fun r2 => L_X5_hoardedByAll_4 n l0 l1 (l2 + r2) (l3 + 1) M) else none)
def f_X5_hoardedByAll (l0 : Nat) (l1 : Int32) (M : zM) : Option (Int32) := bif Nat.ble 1 l0 then ((L_X5_hoardedByAll_4 zN l0 l1 0 0 M).bind fun v2 => some v2) else none
theorem LX_X5_hoardedByAll_4 {G : zG} {d : Nat} : ∀ (n : Nat) (l0 : Nat) (l1 : Int32) (l2 : Int32) (l3 : Int32) (M : zM) (hl0 : l0 ≠ 0) (o2 : Int32) {res : Option Value × zM}, L_X5_hoardedByAll_4 n l0 l1 l2 l3 M = some o2 → Ex G (d + 1) yX5_hoardedByAll cX5_hoardedByAll 4 (some .int) 24 [.null, .null, .int o2, .null] [] M res → Ex G (d + 1) yX5_hoardedByAll cX5_hoardedByAll 4 (some .int) 4 [.ref l0, .int l1, .int l2, .int l3] [] M res := by
  intro n
  induction n with
  | zero =>
    intro l0 l1 l2 l3 M hl0 o2 res h K
    simp [L_X5_hoardedByAll_4] at h
  | succ n ih =>
    intro l0 l1 l2 l3 M hl0 o2 res h K
    simp only [L_X5_hoardedByAll_4] at h
    refine x_iload_n (pc := 4) dX5_hoardedByAll_4 rfl rfl ?_
    refine x_iconst (pc := 5) dX5_hoardedByAll_5 (v := 5) rfl ?_
    refine x_icmp_ge (pc := 6) dX5_hoardedByAll_6 (t := 24) rfl (fun c1 => ?_) (fun c1 => ?_)
    · rw [if_pos c1] at h
      obtain rfl := s1 h
      refine ex_weak (Ls2 := [.null, .null, .int l2, .null]) ⟨Or.inl rfl, Or.inl rfl, Or.inr rfl, Or.inl rfl, trivial⟩ ?_
      exact K
    · rw [if_neg c1] at h
      refine x_iload_n (pc := 9) dX5_hoardedByAll_9 rfl rfl ?_
      refine x_aload_n (pc := 10) dX5_hoardedByAll_10 rfl rfl hl0 ?_
      refine x_iload_n (pc := 11) dX5_hoardedByAll_11 rfl rfl ?_
      refine x_iload_n (pc := 12) dX5_hoardedByAll_12 rfl rfl ?_
      obtain ⟨g4, h⟩ := bt h
      obtain ⟨r2, e3, h⟩ := ob h
      refine x_callV (av := [.int l3, .int l1]) (st := [.int l2]) (pc := 13) dX5_hoardedByAll_13 (E_X5_hoardedBy (d := d) e3) rfl (Nat.le_of_ble_eq_true rfl) zc_X5_hoardedBy rfl zm_X5_55 zi_X5_hoardedBy zs_X5_hoardedBy (zac_ok g4) (by decide) rfl rfl (zst_ok rfl (Nat.le_of_ble_eq_true rfl)) rfl ?_
      refine x_iadd (pc := 16) dX5_hoardedByAll_16 ?_
      refine x_istore_n (pc := 17) dX5_hoardedByAll_17 rfl (by decide) rfl ?_
      refine x_iinc (pc := 18) dX5_hoardedByAll_18 rfl rfl (by decide) rfl ?_
      refine x_goto (pc := 21) dX5_hoardedByAll_21 (t := 4) rfl ?_
      refine ex_weak (Ls2 := [.ref l0, .int l1, .int (l2 + r2), .int (l3 + 1)]) ⟨Or.inr rfl, Or.inr rfl, Or.inr rfl, Or.inr rfl, trivial⟩ ?_
      exact ih _ _ _ _ _ hl0 _ h K
theorem E_X5_hoardedByAll {G : zG} {d : Nat} {l0 : Nat} {l1 : Int32} {M : zM} {r : Int32} (h : f_X5_hoardedByAll l0 l1 M = some r) : Ex G (d + 1) yX5_hoardedByAll cX5_hoardedByAll 4 (some .int) 0 (zent0 [.ref l0, .int l1] 4) [] M (some (.int r), M) := by
  unfold f_X5_hoardedByAll at h
  obtain ⟨zz0, h⟩ := bt h
  have hl0 := bz zz0
  show Ex _ _ _ _ _ _ 0 [.ref l0, .int l1, .null, .null] [] _ _
  refine x_iconst (pc := 0) dX5_hoardedByAll_0 (v := 0) rfl ?_
  refine x_istore_n (pc := 1) dX5_hoardedByAll_1 rfl (by decide) rfl ?_
  refine x_iconst (pc := 2) dX5_hoardedByAll_2 (v := 0) rfl ?_
  refine x_istore_n (pc := 3) dX5_hoardedByAll_3 rfl (by decide) rfl ?_
  obtain ⟨v2, e1, h⟩ := ob h
  refine ex_weak (Ls2 := [.ref l0, .int l1, .int 0, .int 0]) ⟨Or.inr rfl, Or.inr rfl, Or.inr rfl, Or.inr rfl, trivial⟩ ?_
  refine LX_X5_hoardedByAll_4 zN _ _ _ _ _ hl0 _ e1 ?_
  refine x_iload_n (pc := 24) dX5_hoardedByAll_24 rfl rfl ?_
  obtain rfl := s1 h
  exact y_retI (pc := 25) dX5_hoardedByAll_25 rfl
def f_X5_supply (l0 : Nat) (l1 : Int32) (M : zM) : Option (Int32) := bif Nat.ble 1 l0 then ((oR M l0 5 9 1).bind fun v1 => (aI M v1 l1).bind fun v3 => bif zac M l0 5 9 then ((f_X5_hoardedByAll l0 l1 M).bind fun r5 => some (v3 + r5)) else none) else none
theorem E_X5_supply {G : zG} {d : Nat} {l0 : Nat} {l1 : Int32} {M : zM} {r : Int32} (h : f_X5_supply l0 l1 M = some r) : Ex G (d + 2) yX5_supply cX5_supply 2 (some .int) 0 (zent0 [.ref l0, .int l1] 2) [] M (some (.int r), M) := by
  unfold f_X5_supply at h
  obtain ⟨zz0, h⟩ := bt h
  have hl0 := bz zz0
  show Ex _ _ _ _ _ _ 0 [.ref l0, .int l1] [] _ _
  refine x_aload_n (pc := 0) dX5_supply_0 rfl rfl hl0 ?_
  obtain ⟨v1, e2, h⟩ := ob h
  refine y_getR (pc := 1) dX5_supply_1 zf_X5_15 e2 ?_
  refine x_iload_n (pc := 4) dX5_supply_4 rfl rfl ?_
  obtain ⟨v3, e4, h⟩ := ob h
  refine y_iald (pc := 5) dX5_supply_5 e4 ?_
  refine x_aload_n (pc := 6) dX5_supply_6 rfl rfl hl0 ?_
  refine x_iload_n (pc := 7) dX5_supply_7 rfl rfl ?_
  obtain ⟨g7, h⟩ := bt h
  obtain ⟨r5, e6, h⟩ := ob h
  refine x_callV (av := [.int l1]) (st := [.int v3]) (pc := 8) dX5_supply_8 (E_X5_hoardedByAll (d := d) e6) rfl (Nat.le_of_ble_eq_true rfl) zc_X5_hoardedByAll rfl zm_X5_59 zi_X5_hoardedByAll zs_X5_hoardedByAll (zac_ok g7) (by decide) rfl rfl (zst_ok rfl (Nat.le_of_ble_eq_true rfl)) rfl ?_
  refine x_iadd (pc := 11) dX5_supply_11 ?_
  obtain rfl := s1 h
  exact y_retI (pc := 12) dX5_supply_12 rfl
def f_X7_dayOfYear (l0 : Nat) (l1 : Int32) (M : zM) : Option (Int32) := bif Nat.ble 1 l0 then ((oI M l0 7 15 0).bind fun v1 => if v1 ≤ 0 then (some 0) else ((oI M l0 7 15 0).bind fun v4 => (rm l1 v4).bind fun v6 => some v6)) else none
theorem E_X7_dayOfYear {G : zG} {d : Nat} {l0 : Nat} {l1 : Int32} {M : zM} {r : Int32} (h : f_X7_dayOfYear l0 l1 M = some r) : Ex G d yX7_dayOfYear cX7_dayOfYear 2 (some .int) 0 (zent0 [.ref l0, .int l1] 2) [] M (some (.int r), M) := by
  unfold f_X7_dayOfYear at h
  obtain ⟨zz0, h⟩ := bt h
  have hl0 := bz zz0
  show Ex _ _ _ _ _ _ 0 [.ref l0, .int l1] [] _ _
  refine x_aload_n (pc := 0) dX7_dayOfYear_0 rfl rfl hl0 ?_
  obtain ⟨v1, e2, h⟩ := ob h
  refine y_getI (pc := 1) dX7_dayOfYear_1 zf_X7_36 e2 (by decide) ?_
  refine x_if_le (pc := 4) dX7_dayOfYear_4 (t := 16) rfl (fun c3 => ?_) (fun c3 => ?_)
  · rw [if_pos c3] at h
    refine x_iconst (pc := 16) dX7_dayOfYear_16 (v := 0) rfl ?_
    obtain rfl := s1 h
    exact y_retI (pc := 17) dX7_dayOfYear_17 rfl
  · rw [if_neg c3] at h
    refine x_iload_n (pc := 7) dX7_dayOfYear_7 rfl rfl ?_
    refine x_aload_n (pc := 8) dX7_dayOfYear_8 rfl rfl hl0 ?_
    obtain ⟨v4, e5, h⟩ := ob h
    refine y_getI (pc := 9) dX7_dayOfYear_9 zf_X7_36 e5 (by decide) ?_
    obtain ⟨v6, e7, h⟩ := ob h
    refine y_irem (pc := 12) dX7_dayOfYear_12 e7 ?_
    refine x_goto (pc := 13) dX7_dayOfYear_13 (t := 17) rfl ?_
    obtain rfl := s1 h
    exact y_retI (pc := 17) dX7_dayOfYear_17 rfl
def f_X7_isToCome (l0 : Nat) (l1 : Int32) (l2 : Int32) (M : zM) : Option (Int32) := bif Nat.ble 1 l0 then ((oR M l0 7 15 13).bind fun v1 => (aI M v1 l1).bind fun v3 => if v3 < l2 then (some 0) else (some 1)) else none
theorem E_X7_isToCome {G : zG} {d : Nat} {l0 : Nat} {l1 : Int32} {l2 : Int32} {M : zM} {r : Int32} (h : f_X7_isToCome l0 l1 l2 M = some r) : Ex G d yX7_isToCome cX7_isToCome 3 (some .boolean) 0 (zent0 [.ref l0, .int l1, .int l2] 3) [] M (some (.int r), M) := by
  unfold f_X7_isToCome at h
  obtain ⟨zz0, h⟩ := bt h
  have hl0 := bz zz0
  show Ex _ _ _ _ _ _ 0 [.ref l0, .int l1, .int l2] [] _ _
  refine x_aload_n (pc := 0) dX7_isToCome_0 rfl rfl hl0 ?_
  obtain ⟨v1, e2, h⟩ := ob h
  refine y_getR (pc := 1) dX7_isToCome_1 zf_X7_30 e2 ?_
  refine x_iload_n (pc := 4) dX7_isToCome_4 rfl rfl ?_
  obtain ⟨v3, e4, h⟩ := ob h
  refine y_iald (pc := 5) dX7_isToCome_5 e4 ?_
  refine x_iload_n (pc := 6) dX7_isToCome_6 rfl rfl ?_
  refine x_icmp_lt (pc := 7) dX7_isToCome_7 (t := 14) rfl (fun c5 => ?_) (fun c5 => ?_)
  · rw [if_pos c5] at h
    refine x_iconst (pc := 14) dX7_isToCome_14 (v := 0) rfl ?_
    obtain rfl := s1 h
    exact x_ret (pc := 15) dX7_isToCome_15 (ty := .boolean) rfl rfl
  · rw [if_neg c5] at h
    refine x_iconst (pc := 10) dX7_isToCome_10 (v := 1) rfl ?_
    refine x_goto (pc := 11) dX7_isToCome_11 (t := 15) rfl ?_
    obtain rfl := s1 h
    exact x_ret (pc := 15) dX7_isToCome_15 (ty := .boolean) rfl rfl
def L_X4_gather_2 : Nat → Nat → Nat → Nat → Int32 → zM → Option (zM)
  | 0, _, _, _, _, _ => none
  | n + 1, l0, l1, l2, l3, M => if 8 ≤ l3 then (some M) else ((oR M l0 4 10 0).bind fun v2 => bif zac M l2 5 9 then ((f_X5_supply l2 l3 M).bind fun r4 => (sI M v2 l3 r4).bind fun M6 => L_X4_gather_2 n l0 l1 l2 (l3 + 1) M6) else none)
def L_X4_gather_32 : Nat → Nat → Nat → Nat → Int32 → zM → Option (zM)
  | 0, _, _, _, _, _ => none
  | n + 1, l0, l1, l2, l3, M => (oI M l1 7 15 4).bind fun v5 => if v5 ≤ l3 then (some M) else ((oR M l0 4 10 1).bind fun v8 => (sI M v8 l3 (-1)).bind fun M10 => (oI M10 l2 5 9 4).bind fun v12 => bif zac M10 l1 7 15 then ((f_X7_dayOfYear l1 v12 M10).bind fun r14 => bif zac M10 l1 7 15 then ((f_X7_isToCome l1 l3 r14 M10).bind fun r16 => if r16 = 0 then (L_X4_gather_32 n l0 l1 l2 (l3 + 1) M10) else ((oR M10 l0 4 10 1).bind fun v19 => (oI M10 l0 4 10 7).bind fun v21 => (sI M10 v19 l3 v21).bind fun M23 => (oR M23 l0 4 10 2).bind fun v25 => (oI M23 l0 4 10 7).bind fun v27 => (oR M23 l1 7 15 14).bind fun v29 => (aI M23 v29 l3).bind fun v31 => (sI M23 v25 v27 v31).bind fun M33 => (oR M33 l1 7 15 12).bind fun v35 => (aI M33 v35 l3).bind fun v37 => bif zac M33 l0 4 10 then ((f_X4_gatherUses l0 l1 v37 M33).bind fun M39 => (oI M39 l0 4 10 7).bind fun v41 => (pI M39 l0 4 10 7 (v41 + 1)).bind fun M43 => L_X4_gather_32 n l0 l1 l2 (l3 + 1) M43) else none)) else none) else none)
def L_X4_gather_132 : Nat → Nat → Int32 → zM → Option (zM)
  | 0, _, _, _ => none
  | n + 1, l0, l3, M => if l3 < 0 then (some M) else ((oR M l0 4 10 4).bind fun v16 => (oR M l0 4 10 4).bind fun v18 => (aI M v18 (l3 + 1)).bind fun v20 => (oR M l0 4 10 2).bind fun v22 => (aI M v22 l3).bind fun v24 => (sI M v16 l3 (v20 + v24)).bind fun M26 => L_X4_gather_132 n l0 (l3 + (-1)) M26)
def f_X4_gather (l0 : Nat) (l1 : Nat) (l2 : Nat) (M : zM) : Option (zM) := bif Nat.ble 1 l0 then (bif Nat.ble 1 l1 then (bif Nat.ble 1 l2 then ((L_X4_gather_2 zN l0 l1 l2 0 M).bind fun M2 => (pI M2 l0 4 10 7 0).bind fun M3 => (L_X4_gather_32 zN l0 l1 l2 0 M3).bind fun M6 => (oR M6 l0 4 10 4).bind fun v7 => (oI M6 l0 4 10 7).bind fun v9 => (sI M6 v7 v9 0).bind fun M11 => (oI M11 l0 4 10 7).bind fun v13 => (L_X4_gather_132 zN l0 (v13 - 1) M11).bind fun M16 => some M16) else none) else none) else none
set_option maxRecDepth 100000 in
set_option maxHeartbeats 2000000 in
theorem LX_X4_gather_2 {G : zG} {d : Nat} : ∀ (n : Nat) (l0 : Nat) (l1 : Nat) (l2 : Nat) (l3 : Int32) (M : zM) (hl0 : l0 ≠ 0) (hl1 : l1 ≠ 0) (hl2 : l2 ≠ 0) (MX : zM) {res : Option Value × zM}, L_X4_gather_2 n l0 l1 l2 l3 M = some MX → Ex G (d + 3) yX4_gather cX4_gather 4 none 25 [.ref l0, .ref l1, .ref l2, .null] [] MX res → Ex G (d + 3) yX4_gather cX4_gather 4 none 2 [.ref l0, .ref l1, .ref l2, .int l3] [] M res := by
  intro n
  induction n with
  | zero =>
    intro l0 l1 l2 l3 M hl0 hl1 hl2 MX res h K
    simp [L_X4_gather_2] at h
  | succ n ih =>
    intro l0 l1 l2 l3 M hl0 hl1 hl2 MX res h K
    simp only [L_X4_gather_2] at h
    refine x_iload_n (pc := 2) dX4_gather_2 rfl rfl ?_
    refine x_bipush (pc := 3) dX4_gather_3 (v := 8) (by decide) ?_
    refine x_icmp_ge (pc := 5) dX4_gather_5 (t := 25) rfl (fun c1 => ?_) (fun c1 => ?_)
    · rw [if_pos c1] at h
      obtain rfl := s1 h
      refine ex_weak (Ls2 := [.ref l0, .ref l1, .ref l2, .null]) ⟨Or.inr rfl, Or.inr rfl, Or.inr rfl, Or.inl rfl, trivial⟩ ?_
      exact K
    · rw [if_neg c1] at h
      refine x_aload_n (pc := 8) dX4_gather_8 rfl rfl hl0 ?_
      obtain ⟨v2, e3, h⟩ := ob h
      refine y_getR (pc := 9) dX4_gather_9 zf_X4_9 e3 ?_
      refine x_iload_n (pc := 12) dX4_gather_12 rfl rfl ?_
      refine x_aload_n (pc := 13) dX4_gather_13 rfl rfl hl2 ?_
      refine x_iload_n (pc := 14) dX4_gather_14 rfl rfl ?_
      obtain ⟨g8, h⟩ := bt h
      obtain ⟨r4, e5, h⟩ := ob h
      refine x_callV (av := [.int l3]) (st := [.int l3, .ref v2]) (pc := 15) dX4_gather_15 (E_X5_supply (d := d) e5) rfl (Nat.le_of_ble_eq_true rfl) zc_X5_supply rfl zm_X4_54 zi_X5_supply zs_X5_supply (zac_ok g8) (by decide) rfl rfl (zst_ok rfl (Nat.le_of_ble_eq_true rfl)) rfl ?_
      obtain ⟨M6, e7, h⟩ := ob h
      refine y_iast (pc := 18) dX4_gather_18 e7 ?_
      refine x_iinc (pc := 19) dX4_gather_19 rfl rfl (by decide) rfl ?_
      refine x_goto (pc := 22) dX4_gather_22 (t := 2) rfl ?_
      refine ex_weak (Ls2 := [.ref l0, .ref l1, .ref l2, .int (l3 + 1)]) ⟨Or.inr rfl, Or.inr rfl, Or.inr rfl, Or.inr rfl, trivial⟩ ?_
      exact ih _ _ _ _ _ hl0 hl1 hl2  _ h K
set_option maxRecDepth 100000 in
set_option maxHeartbeats 2000000 in
theorem LX_X4_gather_32 {G : zG} {d : Nat} : ∀ (n : Nat) (l0 : Nat) (l1 : Nat) (l2 : Nat) (l3 : Int32) (M : zM) (hl0 : l0 ≠ 0) (hl1 : l1 ≠ 0) (hl2 : l2 ≠ 0) (MX : zM) {res : Option Value × zM}, L_X4_gather_32 n l0 l1 l2 l3 M = some MX → Ex G (d + 3) yX4_gather cX4_gather 4 none 115 [.ref l0, .null, .null, .null] [] MX res → Ex G (d + 3) yX4_gather cX4_gather 4 none 32 [.ref l0, .ref l1, .ref l2, .int l3] [] M res := by
  intro n
  induction n with
  | zero =>
    intro l0 l1 l2 l3 M hl0 hl1 hl2 MX res h K
    simp [L_X4_gather_32] at h
  | succ n ih =>
    intro l0 l1 l2 l3 M hl0 hl1 hl2 MX res h K
    simp only [L_X4_gather_32] at h
    refine x_iload_n (pc := 32) dX4_gather_32 rfl rfl ?_
    refine x_aload_n (pc := 33) dX4_gather_33 rfl rfl hl1 ?_
    obtain ⟨v5, e6, h⟩ := ob h
    refine y_getI (pc := 34) dX4_gather_34 zf_X4_62 e6 (by decide) ?_
    refine x_icmp_ge (pc := 37) dX4_gather_37 (t := 115) rfl (fun c7 => ?_) (fun c7 => ?_)
    · rw [if_pos c7] at h
      obtain rfl := s1 h
      refine ex_weak (Ls2 := [.ref l0, .null, .null, .null]) ⟨Or.inr rfl, Or.inl rfl, Or.inl rfl, Or.inl rfl, trivial⟩ ?_
      exact K
    · rw [if_neg c7] at h
      refine x_aload_n (pc := 40) dX4_gather_40 rfl rfl hl0 ?_
      obtain ⟨v8, e9, h⟩ := ob h
      refine y_getR (pc := 41) dX4_gather_41 zf_X4_15 e9 ?_
      refine x_iload_n (pc := 44) dX4_gather_44 rfl rfl ?_
      refine x_iconst (pc := 45) dX4_gather_45 (v := (-1)) rfl ?_
      obtain ⟨M10, e11, h⟩ := ob h
      refine y_iast (pc := 46) dX4_gather_46 e11 ?_
      refine x_aload_n (pc := 47) dX4_gather_47 rfl rfl hl1 ?_
      refine x_iload_n (pc := 48) dX4_gather_48 rfl rfl ?_
      refine x_aload_n (pc := 49) dX4_gather_49 rfl rfl hl1 ?_
      refine x_aload_n (pc := 50) dX4_gather_50 rfl rfl hl2 ?_
      obtain ⟨v12, e13, h⟩ := ob h
      refine y_getI (pc := 51) dX4_gather_51 zf_X4_67 e13 (by decide) ?_
      obtain ⟨g47, h⟩ := bt h
      obtain ⟨r14, e15, h⟩ := ob h
      refine x_callV (av := [.int v12]) (st := [.int l3, .ref l1]) (pc := 54) dX4_gather_54 (E_X7_dayOfYear (d := d + 2) e15) rfl (Nat.le_of_ble_eq_true rfl) zc_X7_dayOfYear rfl zm_X4_70 zi_X7_dayOfYear zs_X7_dayOfYear (zac_ok g47) (by decide) rfl rfl (zst_ok rfl (Nat.le_of_ble_eq_true rfl)) rfl ?_
      obtain ⟨g46, h⟩ := bt h
      obtain ⟨r16, e17, h⟩ := ob h
      refine x_callV (av := [.int l3, .int r14]) (st := []) (pc := 57) dX4_gather_57 (E_X7_isToCome (d := d + 2) e17) rfl (Nat.le_of_ble_eq_true rfl) zc_X7_isToCome rfl zm_X4_73 zi_X7_isToCome zs_X7_isToCome (zac_ok g46) (by decide) rfl rfl (zst_ok rfl (Nat.le_of_ble_eq_true rfl)) rfl ?_
      refine x_if_eq (pc := 60) dX4_gather_60 (t := 109) rfl (fun c18 => ?_) (fun c18 => ?_)
      · rw [if_pos c18] at h
        refine x_iinc (pc := 109) dX4_gather_109 rfl rfl (by decide) rfl ?_
        refine x_goto (pc := 112) dX4_gather_112 (t := 32) rfl ?_
        refine ex_weak (Ls2 := [.ref l0, .ref l1, .ref l2, .int (l3 + 1)]) ⟨Or.inr rfl, Or.inr rfl, Or.inr rfl, Or.inr rfl, trivial⟩ ?_
        exact ih _ _ _ _ _ hl0 hl1 hl2  _ h K
      · rw [if_neg c18] at h
        refine x_aload_n (pc := 63) dX4_gather_63 rfl rfl hl0 ?_
        obtain ⟨v19, e20, h⟩ := ob h
        refine y_getR (pc := 64) dX4_gather_64 zf_X4_15 e20 ?_
        refine x_iload_n (pc := 67) dX4_gather_67 rfl rfl ?_
        refine x_aload_n (pc := 68) dX4_gather_68 rfl rfl hl0 ?_
        obtain ⟨v21, e22, h⟩ := ob h
        refine y_getI (pc := 69) dX4_gather_69 zf_X4_59 e22 (by decide) ?_
        obtain ⟨M23, e24, h⟩ := ob h
        refine y_iast (pc := 72) dX4_gather_72 e24 ?_
        refine x_aload_n (pc := 73) dX4_gather_73 rfl rfl hl0 ?_
        obtain ⟨v25, e26, h⟩ := ob h
        refine y_getR (pc := 74) dX4_gather_74 zf_X4_18 e26 ?_
        refine x_aload_n (pc := 77) dX4_gather_77 rfl rfl hl0 ?_
        obtain ⟨v27, e28, h⟩ := ob h
        refine y_getI (pc := 78) dX4_gather_78 zf_X4_59 e28 (by decide) ?_
        refine x_aload_n (pc := 81) dX4_gather_81 rfl rfl hl1 ?_
        obtain ⟨v29, e30, h⟩ := ob h
        refine y_getR (pc := 82) dX4_gather_82 zf_X4_77 e30 ?_
        refine x_iload_n (pc := 85) dX4_gather_85 rfl rfl ?_
        obtain ⟨v31, e32, h⟩ := ob h
        refine y_iald (pc := 86) dX4_gather_86 e32 ?_
        obtain ⟨M33, e34, h⟩ := ob h
        refine y_iast (pc := 87) dX4_gather_87 e34 ?_
        refine x_aload_n (pc := 88) dX4_gather_88 rfl rfl hl0 ?_
        refine x_aload_n (pc := 89) dX4_gather_89 rfl rfl hl1 ?_
        refine x_aload_n (pc := 90) dX4_gather_90 rfl rfl hl1 ?_
        obtain ⟨v35, e36, h⟩ := ob h
        refine y_getR (pc := 91) dX4_gather_91 zf_X4_80 e36 ?_
        refine x_iload_n (pc := 94) dX4_gather_94 rfl rfl ?_
        obtain ⟨v37, e38, h⟩ := ob h
        refine y_iald (pc := 95) dX4_gather_95 e38 ?_
        obtain ⟨g45, h⟩ := bt h
        obtain ⟨M39, e40, h⟩ := ob h
        refine x_callV (av := [.ref l1, .int v37]) (st := []) (pc := 96) dX4_gather_96 (E_X4_gatherUses (d := d + 1) e40) rfl (Nat.le_of_ble_eq_true rfl) zc_X4_gatherUses rfl zm_X4_83 zi_X4_gatherUses zs_X4_gatherUses (zac_ok g45) (by decide) rfl rfl (zst_ok rfl (Nat.le_of_ble_eq_true rfl)) rfl ?_
        refine x_aload_n (pc := 99) dX4_gather_99 rfl rfl hl0 ?_
        refine x_dup (pc := 100) dX4_gather_100 rv_cr ?_
        obtain ⟨v41, e42, h⟩ := ob h
        refine y_getI (pc := 101) dX4_gather_101 zf_X4_59 e42 (by decide) ?_
        refine x_iconst (pc := 104) dX4_gather_104 (v := 1) rfl ?_
        refine x_iadd (pc := 105) dX4_gather_105 ?_
        obtain ⟨M43, e44, h⟩ := ob h
        refine y_putI (pc := 106) dX4_gather_106 zf_X4_59 e44 ?_
        refine x_iinc (pc := 109) dX4_gather_109 rfl rfl (by decide) rfl ?_
        refine x_goto (pc := 112) dX4_gather_112 (t := 32) rfl ?_
        refine ex_weak (Ls2 := [.ref l0, .ref l1, .ref l2, .int (l3 + 1)]) ⟨Or.inr rfl, Or.inr rfl, Or.inr rfl, Or.inr rfl, trivial⟩ ?_
        exact ih _ _ _ _ _ hl0 hl1 hl2  _ h K
set_option maxRecDepth 100000 in
set_option maxHeartbeats 2000000 in
theorem LX_X4_gather_132 {G : zG} {d : Nat} : ∀ (n : Nat) (l0 : Nat) (l3 : Int32) (M : zM) (hl0 : l0 ≠ 0) (MX : zM) {res : Option Value × zM}, L_X4_gather_132 n l0 l3 M = some MX → Ex G (d + 3) yX4_gather cX4_gather 4 none 163 [.null, .null, .null, .null] [] MX res → Ex G (d + 3) yX4_gather cX4_gather 4 none 132 [.ref l0, .null, .null, .int l3] [] M res := by
  intro n
  induction n with
  | zero =>
    intro l0 l3 M hl0 MX res h K
    simp [L_X4_gather_132] at h
  | succ n ih =>
    intro l0 l3 M hl0 MX res h K
    simp only [L_X4_gather_132] at h
    refine x_iload_n (pc := 132) dX4_gather_132 rfl rfl ?_
    refine x_if_lt (pc := 133) dX4_gather_133 (t := 163) rfl (fun c15 => ?_) (fun c15 => ?_)
    · rw [if_pos c15] at h
      obtain rfl := s1 h
      refine ex_weak (Ls2 := [.null, .null, .null, .null]) ⟨Or.inl rfl, Or.inl rfl, Or.inl rfl, Or.inl rfl, trivial⟩ ?_
      exact K
    · rw [if_neg c15] at h
      refine x_aload_n (pc := 136) dX4_gather_136 rfl rfl hl0 ?_
      obtain ⟨v16, e17, h⟩ := ob h
      refine y_getR (pc := 137) dX4_gather_137 zf_X4_24 e17 ?_
      refine x_iload_n (pc := 140) dX4_gather_140 rfl rfl ?_
      refine x_aload_n (pc := 141) dX4_gather_141 rfl rfl hl0 ?_
      obtain ⟨v18, e19, h⟩ := ob h
      refine y_getR (pc := 142) dX4_gather_142 zf_X4_24 e19 ?_
      refine x_iload_n (pc := 145) dX4_gather_145 rfl rfl ?_
      refine x_iconst (pc := 146) dX4_gather_146 (v := 1) rfl ?_
      refine x_iadd (pc := 147) dX4_gather_147 ?_
      obtain ⟨v20, e21, h⟩ := ob h
      refine y_iald (pc := 148) dX4_gather_148 e21 ?_
      refine x_aload_n (pc := 149) dX4_gather_149 rfl rfl hl0 ?_
      obtain ⟨v22, e23, h⟩ := ob h
      refine y_getR (pc := 150) dX4_gather_150 zf_X4_18 e23 ?_
      refine x_iload_n (pc := 153) dX4_gather_153 rfl rfl ?_
      obtain ⟨v24, e25, h⟩ := ob h
      refine y_iald (pc := 154) dX4_gather_154 e25 ?_
      refine x_iadd (pc := 155) dX4_gather_155 ?_
      obtain ⟨M26, e27, h⟩ := ob h
      refine y_iast (pc := 156) dX4_gather_156 e27 ?_
      refine x_iinc (pc := 157) dX4_gather_157 rfl rfl (by decide) rfl ?_
      refine x_goto (pc := 160) dX4_gather_160 (t := 132) rfl ?_
      refine ex_weak (Ls2 := [.ref l0, .null, .null, .int (l3 + (-1))]) ⟨Or.inr rfl, Or.inl rfl, Or.inl rfl, Or.inr rfl, trivial⟩ ?_
      exact ih _ _ _ hl0  _ h K
set_option maxRecDepth 100000 in
set_option maxHeartbeats 2000000 in
theorem E_X4_gather {G : zG} {d : Nat} {l0 : Nat} {l1 : Nat} {l2 : Nat} {M MR : zM} (h : f_X4_gather l0 l1 l2 M = some MR) : Ex G (d + 3) yX4_gather cX4_gather 4 none 0 (zent0 [.ref l0, .ref l1, .ref l2] 4) [] M (none, MR) := by
  unfold f_X4_gather at h
  obtain ⟨zz0, h⟩ := bt h
  have hl0 := bz zz0
  obtain ⟨zz1, h⟩ := bt h
  have hl1 := bz zz1
  obtain ⟨zz2, h⟩ := bt h
  have hl2 := bz zz2
  show Ex _ _ _ _ _ _ 0 [.ref l0, .ref l1, .ref l2, .null] [] _ _
  refine x_iconst (pc := 0) dX4_gather_0 (v := 0) rfl ?_
  refine x_istore_n (pc := 1) dX4_gather_1 rfl (by decide) rfl ?_
  obtain ⟨M2, e1, h⟩ := ob h
  refine ex_weak (Ls2 := [.ref l0, .ref l1, .ref l2, .int 0]) ⟨Or.inr rfl, Or.inr rfl, Or.inr rfl, Or.inr rfl, trivial⟩ ?_
  refine LX_X4_gather_2 zN _ _ _ _ _ hl0 hl1 hl2 _ e1 ?_
  refine x_aload_n (pc := 25) dX4_gather_25 rfl rfl hl0 ?_
  refine x_iconst (pc := 26) dX4_gather_26 (v := 0) rfl ?_
  obtain ⟨M3, e4, h⟩ := ob h
  refine y_putI (pc := 27) dX4_gather_27 zf_X4_59 e4 ?_
  refine x_iconst (pc := 30) dX4_gather_30 (v := 0) rfl ?_
  refine x_istore_n (pc := 31) dX4_gather_31 rfl (by decide) rfl ?_
  obtain ⟨M6, e5, h⟩ := ob h
  refine ex_weak (Ls2 := [.ref l0, .ref l1, .ref l2, .int 0]) ⟨Or.inr rfl, Or.inr rfl, Or.inr rfl, Or.inr rfl, trivial⟩ ?_
  refine LX_X4_gather_32 zN _ _ _ _ _ hl0 hl1 hl2 _ e5 ?_
  refine x_aload_n (pc := 115) dX4_gather_115 rfl rfl hl0 ?_
  obtain ⟨v7, e8, h⟩ := ob h
  refine y_getR (pc := 116) dX4_gather_116 zf_X4_24 e8 ?_
  refine x_aload_n (pc := 119) dX4_gather_119 rfl rfl hl0 ?_
  obtain ⟨v9, e10, h⟩ := ob h
  refine y_getI (pc := 120) dX4_gather_120 zf_X4_59 e10 (by decide) ?_
  refine x_iconst (pc := 123) dX4_gather_123 (v := 0) rfl ?_
  obtain ⟨M11, e12, h⟩ := ob h
  refine y_iast (pc := 124) dX4_gather_124 e12 ?_
  refine x_aload_n (pc := 125) dX4_gather_125 rfl rfl hl0 ?_
  obtain ⟨v13, e14, h⟩ := ob h
  refine y_getI (pc := 126) dX4_gather_126 zf_X4_59 e14 (by decide) ?_
  refine x_iconst (pc := 129) dX4_gather_129 (v := 1) rfl ?_
  refine x_isub (pc := 130) dX4_gather_130 ?_
  refine x_istore_n (pc := 131) dX4_gather_131 rfl (by decide) rfl ?_
  obtain ⟨M16, e15, h⟩ := ob h
  refine ex_weak (Ls2 := [.ref l0, .null, .null, .int (v13 - 1)]) ⟨Or.inr rfl, Or.inl rfl, Or.inl rfl, Or.inr rfl, trivial⟩ ?_
  refine LX_X4_gather_132 zN _ _ _ hl0 _ e15 ?_
  obtain rfl := s1 h
  exact x_vret (pc := 163) dX4_gather_163 rfl
def f_J6_bitCount_0f7a4 (l0 : Int32) (M : zM) : Option (Int32) := some ((((((((l0 - ((((l0).toUInt32 >>> ((1 : Int32).toUInt32 &&& Int32.toUInt32 31)).toInt32) &&& 1431655765)) &&& 858993459) + ((((l0 - ((((l0).toUInt32 >>> ((1 : Int32).toUInt32 &&& Int32.toUInt32 31)).toInt32) &&& 1431655765)).toUInt32 >>> ((2 : Int32).toUInt32 &&& Int32.toUInt32 31)).toInt32) &&& 858993459)) + (((((l0 - ((((l0).toUInt32 >>> ((1 : Int32).toUInt32 &&& Int32.toUInt32 31)).toInt32) &&& 1431655765)) &&& 858993459) + ((((l0 - ((((l0).toUInt32 >>> ((1 : Int32).toUInt32 &&& Int32.toUInt32 31)).toInt32) &&& 1431655765)).toUInt32 >>> ((2 : Int32).toUInt32 &&& Int32.toUInt32 31)).toInt32) &&& 858993459)).toUInt32 >>> ((4 : Int32).toUInt32 &&& Int32.toUInt32 31)).toInt32)) &&& 252645135) + (((((((l0 - ((((l0).toUInt32 >>> ((1 : Int32).toUInt32 &&& Int32.toUInt32 31)).toInt32) &&& 1431655765)) &&& 858993459) + ((((l0 - ((((l0).toUInt32 >>> ((1 : Int32).toUInt32 &&& Int32.toUInt32 31)).toInt32) &&& 1431655765)).toUInt32 >>> ((2 : Int32).toUInt32 &&& Int32.toUInt32 31)).toInt32) &&& 858993459)) + (((((l0 - ((((l0).toUInt32 >>> ((1 : Int32).toUInt32 &&& Int32.toUInt32 31)).toInt32) &&& 1431655765)) &&& 858993459) + ((((l0 - ((((l0).toUInt32 >>> ((1 : Int32).toUInt32 &&& Int32.toUInt32 31)).toInt32) &&& 1431655765)).toUInt32 >>> ((2 : Int32).toUInt32 &&& Int32.toUInt32 31)).toInt32) &&& 858993459)).toUInt32 >>> ((4 : Int32).toUInt32 &&& Int32.toUInt32 31)).toInt32)) &&& 252645135).toUInt32 >>> ((8 : Int32).toUInt32 &&& Int32.toUInt32 31)).toInt32)) + ((((((((l0 - ((((l0).toUInt32 >>> ((1 : Int32).toUInt32 &&& Int32.toUInt32 31)).toInt32) &&& 1431655765)) &&& 858993459) + ((((l0 - ((((l0).toUInt32 >>> ((1 : Int32).toUInt32 &&& Int32.toUInt32 31)).toInt32) &&& 1431655765)).toUInt32 >>> ((2 : Int32).toUInt32 &&& Int32.toUInt32 31)).toInt32) &&& 858993459)) + (((((l0 - ((((l0).toUInt32 >>> ((1 : Int32).toUInt32 &&& Int32.toUInt32 31)).toInt32) &&& 1431655765)) &&& 858993459) + ((((l0 - ((((l0).toUInt32 >>> ((1 : Int32).toUInt32 &&& Int32.toUInt32 31)).toInt32) &&& 1431655765)).toUInt32 >>> ((2 : Int32).toUInt32 &&& Int32.toUInt32 31)).toInt32) &&& 858993459)).toUInt32 >>> ((4 : Int32).toUInt32 &&& Int32.toUInt32 31)).toInt32)) &&& 252645135) + (((((((l0 - ((((l0).toUInt32 >>> ((1 : Int32).toUInt32 &&& Int32.toUInt32 31)).toInt32) &&& 1431655765)) &&& 858993459) + ((((l0 - ((((l0).toUInt32 >>> ((1 : Int32).toUInt32 &&& Int32.toUInt32 31)).toInt32) &&& 1431655765)).toUInt32 >>> ((2 : Int32).toUInt32 &&& Int32.toUInt32 31)).toInt32) &&& 858993459)) + (((((l0 - ((((l0).toUInt32 >>> ((1 : Int32).toUInt32 &&& Int32.toUInt32 31)).toInt32) &&& 1431655765)) &&& 858993459) + ((((l0 - ((((l0).toUInt32 >>> ((1 : Int32).toUInt32 &&& Int32.toUInt32 31)).toInt32) &&& 1431655765)).toUInt32 >>> ((2 : Int32).toUInt32 &&& Int32.toUInt32 31)).toInt32) &&& 858993459)).toUInt32 >>> ((4 : Int32).toUInt32 &&& Int32.toUInt32 31)).toInt32)) &&& 252645135).toUInt32 >>> ((8 : Int32).toUInt32 &&& Int32.toUInt32 31)).toInt32)).toUInt32 >>> ((16 : Int32).toUInt32 &&& Int32.toUInt32 31)).toInt32)) &&& 63)
theorem E_J6_bitCount_0f7a4 {G : zG} {d : Nat} {l0 : Int32} {M : zM} {r : Int32} (h : f_J6_bitCount_0f7a4 l0 M = some r) : Ex G d yJ6_bitCount_0f7a4 cJ6_bitCount_0f7a4 1 (some .int) 0 (zent0 [.int l0] 1) [] M (some (.int r), M) := by
  unfold f_J6_bitCount_0f7a4 at h
  show Ex _ _ _ _ _ _ 0 [.int l0] [] _ _
  refine x_iload_n (pc := 0) dJ6_bitCount_0f7a4_0 rfl rfl ?_
  refine x_iload_n (pc := 1) dJ6_bitCount_0f7a4_1 rfl rfl ?_
  refine x_iconst (pc := 2) dJ6_bitCount_0f7a4_2 (v := 1) rfl ?_
  refine x_iushr (pc := 3) dJ6_bitCount_0f7a4_3 ?_
  refine x_ldcw (pc := 4) dJ6_bitCount_0f7a4_4 zk_J6_265 ?_
  refine x_iand (pc := 7) dJ6_bitCount_0f7a4_7 ?_
  refine x_isub (pc := 8) dJ6_bitCount_0f7a4_8 ?_
  refine x_istore_n (pc := 9) dJ6_bitCount_0f7a4_9 rfl (by decide) rfl ?_
  refine x_iload_n (pc := 10) dJ6_bitCount_0f7a4_10 rfl rfl ?_
  refine x_ldcw (pc := 11) dJ6_bitCount_0f7a4_11 zk_J6_266 ?_
  refine x_iand (pc := 14) dJ6_bitCount_0f7a4_14 ?_
  refine x_iload_n (pc := 15) dJ6_bitCount_0f7a4_15 rfl rfl ?_
  refine x_iconst (pc := 16) dJ6_bitCount_0f7a4_16 (v := 2) rfl ?_
  refine x_iushr (pc := 17) dJ6_bitCount_0f7a4_17 ?_
  refine x_ldcw (pc := 18) dJ6_bitCount_0f7a4_18 zk_J6_266 ?_
  refine x_iand (pc := 21) dJ6_bitCount_0f7a4_21 ?_
  refine x_iadd (pc := 22) dJ6_bitCount_0f7a4_22 ?_
  refine x_istore_n (pc := 23) dJ6_bitCount_0f7a4_23 rfl (by decide) rfl ?_
  refine x_iload_n (pc := 24) dJ6_bitCount_0f7a4_24 rfl rfl ?_
  refine x_iload_n (pc := 25) dJ6_bitCount_0f7a4_25 rfl rfl ?_
  refine x_iconst (pc := 26) dJ6_bitCount_0f7a4_26 (v := 4) rfl ?_
  refine x_iushr (pc := 27) dJ6_bitCount_0f7a4_27 ?_
  refine x_iadd (pc := 28) dJ6_bitCount_0f7a4_28 ?_
  refine x_ldcw (pc := 29) dJ6_bitCount_0f7a4_29 zk_J6_267 ?_
  refine x_iand (pc := 32) dJ6_bitCount_0f7a4_32 ?_
  refine x_istore_n (pc := 33) dJ6_bitCount_0f7a4_33 rfl (by decide) rfl ?_
  refine x_iload_n (pc := 34) dJ6_bitCount_0f7a4_34 rfl rfl ?_
  refine x_iload_n (pc := 35) dJ6_bitCount_0f7a4_35 rfl rfl ?_
  refine x_bipush (pc := 36) dJ6_bitCount_0f7a4_36 (v := 8) (by decide) ?_
  refine x_iushr (pc := 38) dJ6_bitCount_0f7a4_38 ?_
  refine x_iadd (pc := 39) dJ6_bitCount_0f7a4_39 ?_
  refine x_istore_n (pc := 40) dJ6_bitCount_0f7a4_40 rfl (by decide) rfl ?_
  refine x_iload_n (pc := 41) dJ6_bitCount_0f7a4_41 rfl rfl ?_
  refine x_iload_n (pc := 42) dJ6_bitCount_0f7a4_42 rfl rfl ?_
  refine x_bipush (pc := 43) dJ6_bitCount_0f7a4_43 (v := 16) (by decide) ?_
  refine x_iushr (pc := 45) dJ6_bitCount_0f7a4_45 ?_
  refine x_iadd (pc := 46) dJ6_bitCount_0f7a4_46 ?_
  refine x_istore_n (pc := 47) dJ6_bitCount_0f7a4_47 rfl (by decide) rfl ?_
  refine x_iload_n (pc := 48) dJ6_bitCount_0f7a4_48 rfl rfl ?_
  refine x_bipush (pc := 49) dJ6_bitCount_0f7a4_49 (v := 63) (by decide) ?_
  refine x_iand (pc := 51) dJ6_bitCount_0f7a4_51 ?_
  obtain rfl := s1 h
  exact y_retI (pc := 52) dJ6_bitCount_0f7a4_52 rfl
def L_X4_affords_9 : Nat → Nat → Int32 → Int32 → zM → Option ((Int32) ⊕ (Unit))
  | 0, _, _, _, _ => none
  | n + 1, l0, l1, l2, M => if 8 ≤ l2 then (some (.inr ())) else (if (l1 >>> (l2 &&& 31)) &&& 1 = 0 then (L_X4_affords_9 n l0 l1 (l2 + 1) M) else ((oR M l0 4 10 0).bind fun v4 => (aI M v4 l2).bind fun v6 => if 0 < v6 then (L_X4_affords_9 n l0 l1 (l2 + 1) M) else (some (.inl 0))))
def f_X4_affords (l0 : Nat) (l1 : Int32) (M : zM) : Option (Int32) := bif Nat.ble 1 l0 then (if l1 = (-1) then (some 0) else (bs (L_X4_affords_9 zN l0 l1 0 M) some (fun _ => some 1))) else none
theorem LX_X4_affords_9 {G : zG} {d : Nat} : ∀ (n : Nat) (l0 : Nat) (l1 : Int32) (l2 : Int32) (M : zM) (hl0 : l0 ≠ 0) (e : (Int32) ⊕ (Unit)) {res : Option Value × zM}, L_X4_affords_9 n l0 l1 l2 M = some e → (∀ r, e = .inl r → res = (some (.int r), M)) → (e = .inr () → Ex G d yX4_affords cX4_affords 3 (some .boolean) 40 [.null, .null, .null] [] M res) → Ex G d yX4_affords cX4_affords 3 (some .boolean) 9 [.ref l0, .int l1, .int l2] [] M res := by
  intro n
  induction n with
  | zero =>
    intro l0 l1 l2 M hl0 e res h K1 K2
    simp [L_X4_affords_9] at h
  | succ n ih =>
    intro l0 l1 l2 M hl0 e res h K1 K2
    simp only [L_X4_affords_9] at h
    refine x_iload_n (pc := 9) dX4_affords_9 rfl rfl ?_
    refine x_bipush (pc := 10) dX4_affords_10 (v := 8) (by decide) ?_
    refine x_icmp_ge (pc := 12) dX4_affords_12 (t := 40) rfl (fun c2 => ?_) (fun c2 => ?_)
    · rw [if_pos c2] at h
      obtain rfl := s1 h
      refine ex_weak (Ls2 := [.null, .null, .null]) ⟨Or.inl rfl, Or.inl rfl, Or.inl rfl, trivial⟩ ?_
      exact K2  rfl
    · rw [if_neg c2] at h
      refine x_iload_n (pc := 15) dX4_affords_15 rfl rfl ?_
      refine x_iload_n (pc := 16) dX4_affords_16 rfl rfl ?_
      refine x_ishr (pc := 17) dX4_affords_17 ?_
      refine x_iconst (pc := 18) dX4_affords_18 (v := 1) rfl ?_
      refine x_iand (pc := 19) dX4_affords_19 ?_
      refine x_if_eq (pc := 20) dX4_affords_20 (t := 34) rfl (fun c3 => ?_) (fun c3 => ?_)
      · rw [if_pos c3] at h
        refine x_iinc (pc := 34) dX4_affords_34 rfl rfl (by decide) rfl ?_
        refine x_goto (pc := 37) dX4_affords_37 (t := 9) rfl ?_
        refine ex_weak (Ls2 := [.ref l0, .int l1, .int (l2 + 1)]) ⟨Or.inr rfl, Or.inr rfl, Or.inr rfl, trivial⟩ ?_
        exact ih _ _ _ _ hl0 _ h K1 K2
      · rw [if_neg c3] at h
        refine x_aload_n (pc := 23) dX4_affords_23 rfl rfl hl0 ?_
        obtain ⟨v4, e5, h⟩ := ob h
        refine y_getR (pc := 24) dX4_affords_24 zf_X4_9 e5 ?_
        refine x_iload_n (pc := 27) dX4_affords_27 rfl rfl ?_
        obtain ⟨v6, e7, h⟩ := ob h
        refine y_iald (pc := 28) dX4_affords_28 e7 ?_
        refine x_if_gt (pc := 29) dX4_affords_29 (t := 34) rfl (fun c8 => ?_) (fun c8 => ?_)
        · rw [if_pos c8] at h
          refine x_iinc (pc := 34) dX4_affords_34 rfl rfl (by decide) rfl ?_
          refine x_goto (pc := 37) dX4_affords_37 (t := 9) rfl ?_
          refine ex_weak (Ls2 := [.ref l0, .int l1, .int (l2 + 1)]) ⟨Or.inr rfl, Or.inr rfl, Or.inr rfl, trivial⟩ ?_
          exact ih _ _ _ _ hl0 _ h K1 K2
        · rw [if_neg c8] at h
          refine x_iconst (pc := 32) dX4_affords_32 (v := 0) rfl ?_
          obtain rfl := s1 h
          rw [K1 _ rfl]
          exact x_ret (pc := 33) dX4_affords_33 (ty := .boolean) rfl rfl
theorem E_X4_affords {G : zG} {d : Nat} {l0 : Nat} {l1 : Int32} {M : zM} {r : Int32} (h : f_X4_affords l0 l1 M = some r) : Ex G d yX4_affords cX4_affords 3 (some .boolean) 0 (zent0 [.ref l0, .int l1] 3) [] M (some (.int r), M) := by
  unfold f_X4_affords at h
  obtain ⟨zz0, h⟩ := bt h
  have hl0 := bz zz0
  show Ex _ _ _ _ _ _ 0 [.ref l0, .int l1, .null] [] _ _
  refine x_iload_n (pc := 0) dX4_affords_0 rfl rfl ?_
  refine x_iconst (pc := 1) dX4_affords_1 (v := (-1)) rfl ?_
  refine x_icmp_ne (pc := 2) dX4_affords_2 (t := 7) rfl (fun c1 => ?_) (fun c1 => ?_)
  · rw [if_neg c1] at h
    refine x_iconst (pc := 7) dX4_affords_7 (v := 0) rfl ?_
    refine x_istore_n (pc := 8) dX4_affords_8 rfl (by decide) rfl ?_
    refine ex_weak (Ls2 := [.ref l0, .int l1, .int 0]) ⟨Or.inr rfl, Or.inr rfl, Or.inr rfl, trivial⟩ ?_
    rcases obs h with ⟨r3, e2, h⟩ | ⟨_, e2, h⟩
    · cases h
      exact LX_X4_affords_9 zN _ _ _ _ hl0 _ e2 (fun r q => by cases q; rfl) (by intros; contradiction)
    · refine LX_X4_affords_9 zN _ _ _ _ hl0 _ e2 (fun r q => by cases q) ?_
      intro q
      cases q
      refine x_iconst (pc := 40) dX4_affords_40 (v := 1) rfl ?_
      obtain rfl := s1 h
      exact x_ret (pc := 41) dX4_affords_41 (ty := .boolean) rfl rfl
  · rw [if_pos c1] at h
    refine x_iconst (pc := 5) dX4_affords_5 (v := 0) rfl ?_
    obtain rfl := s1 h
    exact x_ret (pc := 6) dX4_affords_6 (ty := .boolean) rfl rfl
def L_X4_change_2 : Nat → Nat → Int32 → Int32 → Int32 → zM → Option (zM)
  | 0, _, _, _, _, _ => none
  | n + 1, l0, l1, l2, l3, M => if 8 ≤ l3 then (some M) else (if (l1 >>> (l3 &&& 31)) &&& 1 = 0 then (L_X4_change_2 n l0 l1 l2 (l3 + 1) M) else ((oR M l0 4 10 0).bind fun v3 => (aI M v3 l3).bind fun v5 => (sI M v3 l3 (v5 + l2)).bind fun M7 => L_X4_change_2 n l0 l1 l2 (l3 + 1) M7))
def f_X4_change (l0 : Nat) (l1 : Int32) (l2 : Int32) (M : zM) : Option (zM) := bif Nat.ble 1 l0 then ((L_X4_change_2 zN l0 l1 l2 0 M).bind fun M2 => some M2) else none
theorem LX_X4_change_2 {G : zG} {d : Nat} : ∀ (n : Nat) (l0 : Nat) (l1 : Int32) (l2 : Int32) (l3 : Int32) (M : zM) (hl0 : l0 ≠ 0) (MX : zM) {res : Option Value × zM}, L_X4_change_2 n l0 l1 l2 l3 M = some MX → Ex G d yX4_change cX4_change 4 none 32 [.null, .null, .null, .null] [] MX res → Ex G d yX4_change cX4_change 4 none 2 [.ref l0, .int l1, .int l2, .int l3] [] M res := by
  intro n
  induction n with
  | zero =>
    intro l0 l1 l2 l3 M hl0 MX res h K
    simp [L_X4_change_2] at h
  | succ n ih =>
    intro l0 l1 l2 l3 M hl0 MX res h K
    simp only [L_X4_change_2] at h
    refine x_iload_n (pc := 2) dX4_change_2 rfl rfl ?_
    refine x_bipush (pc := 3) dX4_change_3 (v := 8) (by decide) ?_
    refine x_icmp_ge (pc := 5) dX4_change_5 (t := 32) rfl (fun c1 => ?_) (fun c1 => ?_)
    · rw [if_pos c1] at h
      obtain rfl := s1 h
      refine ex_weak (Ls2 := [.null, .null, .null, .null]) ⟨Or.inl rfl, Or.inl rfl, Or.inl rfl, Or.inl rfl, trivial⟩ ?_
      exact K
    · rw [if_neg c1] at h
      refine x_iload_n (pc := 8) dX4_change_8 rfl rfl ?_
      refine x_iload_n (pc := 9) dX4_change_9 rfl rfl ?_
      refine x_ishr (pc := 10) dX4_change_10 ?_
      refine x_iconst (pc := 11) dX4_change_11 (v := 1) rfl ?_
      refine x_iand (pc := 12) dX4_change_12 ?_
      refine x_if_eq (pc := 13) dX4_change_13 (t := 26) rfl (fun c2 => ?_) (fun c2 => ?_)
      · rw [if_pos c2] at h
        refine x_iinc (pc := 26) dX4_change_26 rfl rfl (by decide) rfl ?_
        refine x_goto (pc := 29) dX4_change_29 (t := 2) rfl ?_
        refine ex_weak (Ls2 := [.ref l0, .int l1, .int l2, .int (l3 + 1)]) ⟨Or.inr rfl, Or.inr rfl, Or.inr rfl, Or.inr rfl, trivial⟩ ?_
        exact ih _ _ _ _ _ hl0  _ h K
      · rw [if_neg c2] at h
        refine x_aload_n (pc := 16) dX4_change_16 rfl rfl hl0 ?_
        obtain ⟨v3, e4, h⟩ := ob h
        refine y_getR (pc := 17) dX4_change_17 zf_X4_9 e4 ?_
        refine x_iload_n (pc := 20) dX4_change_20 rfl rfl ?_
        refine x_dup2 (pc := 21) dX4_change_21 rfl rv_cr ?_
        obtain ⟨v5, e6, h⟩ := ob h
        refine y_iald (pc := 22) dX4_change_22 e6 ?_
        refine x_iload_n (pc := 23) dX4_change_23 rfl rfl ?_
        refine x_iadd (pc := 24) dX4_change_24 ?_
        obtain ⟨M7, e8, h⟩ := ob h
        refine y_iast (pc := 25) dX4_change_25 e8 ?_
        refine x_iinc (pc := 26) dX4_change_26 rfl rfl (by decide) rfl ?_
        refine x_goto (pc := 29) dX4_change_29 (t := 2) rfl ?_
        refine ex_weak (Ls2 := [.ref l0, .int l1, .int l2, .int (l3 + 1)]) ⟨Or.inr rfl, Or.inr rfl, Or.inr rfl, Or.inr rfl, trivial⟩ ?_
        exact ih _ _ _ _ _ hl0  _ h K
theorem E_X4_change {G : zG} {d : Nat} {l0 : Nat} {l1 : Int32} {l2 : Int32} {M MR : zM} (h : f_X4_change l0 l1 l2 M = some MR) : Ex G d yX4_change cX4_change 4 none 0 (zent0 [.ref l0, .int l1, .int l2] 4) [] M (none, MR) := by
  unfold f_X4_change at h
  obtain ⟨zz0, h⟩ := bt h
  have hl0 := bz zz0
  show Ex _ _ _ _ _ _ 0 [.ref l0, .int l1, .int l2, .null] [] _ _
  refine x_iconst (pc := 0) dX4_change_0 (v := 0) rfl ?_
  refine x_istore_n (pc := 1) dX4_change_1 rfl (by decide) rfl ?_
  obtain ⟨M2, e1, h⟩ := ob h
  refine ex_weak (Ls2 := [.ref l0, .int l1, .int l2, .int 0]) ⟨Or.inr rfl, Or.inr rfl, Or.inr rfl, Or.inr rfl, trivial⟩ ?_
  refine LX_X4_change_2 zN _ _ _ _ _ hl0 _ e1 ?_
  obtain rfl := s1 h
  exact x_vret (pc := 32) dX4_change_32 rfl
def f_X4_mayBeBetter (l0 : Nat) (l1 : Int32) (l2 : Int32) (M : zM) : Option (Int32) := bif Nat.ble 1 l0 then ((oI M l0 4 10 8).bind fun v1 => if v1 < l1 then (some 1) else ((oI M l0 4 10 8).bind fun v4 => if l1 = v4 then ((oI M l0 4 10 9).bind fun v7 => if v7 ≤ l2 then (some 0) else (some 1)) else (some 0))) else none
theorem E_X4_mayBeBetter {G : zG} {d : Nat} {l0 : Nat} {l1 : Int32} {l2 : Int32} {M : zM} {r : Int32} (h : f_X4_mayBeBetter l0 l1 l2 M = some r) : Ex G d yX4_mayBeBetter cX4_mayBeBetter 3 (some .boolean) 0 (zent0 [.ref l0, .int l1, .int l2] 3) [] M (some (.int r), M) := by
  unfold f_X4_mayBeBetter at h
  obtain ⟨zz0, h⟩ := bt h
  have hl0 := bz zz0
  show Ex _ _ _ _ _ _ 0 [.ref l0, .int l1, .int l2] [] _ _
  refine x_iload_n (pc := 0) dX4_mayBeBetter_0 rfl rfl ?_
  refine x_aload_n (pc := 1) dX4_mayBeBetter_1 rfl rfl hl0 ?_
  obtain ⟨v1, e2, h⟩ := ob h
  refine y_getI (pc := 2) dX4_mayBeBetter_2 zf_X4_37 e2 (by decide) ?_
  refine x_icmp_gt (pc := 5) dX4_mayBeBetter_5 (t := 24) rfl (fun c3 => ?_) (fun c3 => ?_)
  · rw [if_pos c3] at h
    refine x_iconst (pc := 24) dX4_mayBeBetter_24 (v := 1) rfl ?_
    refine x_goto (pc := 25) dX4_mayBeBetter_25 (t := 29) rfl ?_
    obtain rfl := s1 h
    exact x_ret (pc := 29) dX4_mayBeBetter_29 (ty := .boolean) rfl rfl
  · rw [if_neg c3] at h
    refine x_iload_n (pc := 8) dX4_mayBeBetter_8 rfl rfl ?_
    refine x_aload_n (pc := 9) dX4_mayBeBetter_9 rfl rfl hl0 ?_
    obtain ⟨v4, e5, h⟩ := ob h
    refine y_getI (pc := 10) dX4_mayBeBetter_10 zf_X4_37 e5 (by decide) ?_
    refine x_icmp_ne (pc := 13) dX4_mayBeBetter_13 (t := 28) rfl (fun c6 => ?_) (fun c6 => ?_)
    · rw [if_neg c6] at h
      refine x_iconst (pc := 28) dX4_mayBeBetter_28 (v := 0) rfl ?_
      obtain rfl := s1 h
      exact x_ret (pc := 29) dX4_mayBeBetter_29 (ty := .boolean) rfl rfl
    · rw [if_pos c6] at h
      refine x_iload_n (pc := 16) dX4_mayBeBetter_16 rfl rfl ?_
      refine x_aload_n (pc := 17) dX4_mayBeBetter_17 rfl rfl hl0 ?_
      obtain ⟨v7, e8, h⟩ := ob h
      refine y_getI (pc := 18) dX4_mayBeBetter_18 zf_X4_41 e8 (by decide) ?_
      refine x_icmp_ge (pc := 21) dX4_mayBeBetter_21 (t := 28) rfl (fun c9 => ?_) (fun c9 => ?_)
      · rw [if_pos c9] at h
        refine x_iconst (pc := 28) dX4_mayBeBetter_28 (v := 0) rfl ?_
        obtain rfl := s1 h
        exact x_ret (pc := 29) dX4_mayBeBetter_29 (ty := .boolean) rfl rfl
      · rw [if_neg c9] at h
        refine x_iconst (pc := 24) dX4_mayBeBetter_24 (v := 1) rfl ?_
        refine x_goto (pc := 25) dX4_mayBeBetter_25 (t := 29) rfl ?_
        obtain rfl := s1 h
        exact x_ret (pc := 29) dX4_mayBeBetter_29 (ty := .boolean) rfl rfl
def f_X4_take (l0 : Nat) (l1 : Int32) (l2 : Int32) (M : zM) : Option (zM) := bif Nat.ble 1 l0 then ((pI M l0 4 10 8 l1).bind fun M1 => (pI M1 l0 4 10 9 l2).bind fun M3 => (oR M3 l0 4 10 5).bind fun v5 => (oR M3 l0 4 10 6).bind fun v7 => (oI M3 l0 4 10 7).bind fun v9 => (cP M3 v5 0 v7 0 v9).bind fun M11 => some M11) else none
theorem E_X4_take {G : zG} {d : Nat} {l0 : Nat} {l1 : Int32} {l2 : Int32} {M MR : zM} (h : f_X4_take l0 l1 l2 M = some MR) : Ex G d yX4_take cX4_take 3 none 0 (zent0 [.ref l0, .int l1, .int l2] 3) [] M (none, MR) := by
  unfold f_X4_take at h
  obtain ⟨zz0, h⟩ := bt h
  have hl0 := bz zz0
  show Ex _ _ _ _ _ _ 0 [.ref l0, .int l1, .int l2] [] _ _
  refine x_aload_n (pc := 0) dX4_take_0 rfl rfl hl0 ?_
  refine x_iload_n (pc := 1) dX4_take_1 rfl rfl ?_
  obtain ⟨M1, e2, h⟩ := ob h
  refine y_putI (pc := 2) dX4_take_2 zf_X4_37 e2 ?_
  refine x_aload_n (pc := 5) dX4_take_5 rfl rfl hl0 ?_
  refine x_iload_n (pc := 6) dX4_take_6 rfl rfl ?_
  obtain ⟨M3, e4, h⟩ := ob h
  refine y_putI (pc := 7) dX4_take_7 zf_X4_41 e4 ?_
  refine x_aload_n (pc := 10) dX4_take_10 rfl rfl hl0 ?_
  obtain ⟨v5, e6, h⟩ := ob h
  refine y_getR (pc := 11) dX4_take_11 zf_X4_27 e6 ?_
  refine x_iconst (pc := 14) dX4_take_14 (v := 0) rfl ?_
  refine x_aload_n (pc := 15) dX4_take_15 rfl rfl hl0 ?_
  obtain ⟨v7, e8, h⟩ := ob h
  refine y_getR (pc := 16) dX4_take_16 zf_X4_30 e8 ?_
  refine x_iconst (pc := 19) dX4_take_19 (v := 0) rfl ?_
  refine x_aload_n (pc := 20) dX4_take_20 rfl rfl hl0 ?_
  obtain ⟨v9, e10, h⟩ := ob h
  refine y_getI (pc := 21) dX4_take_21 zf_X4_59 e10 (by decide) ?_
  obtain ⟨M11, e12, h⟩ := ob h
  refine y_copy (pc := 24) dX4_take_24 zm_X4_113 e12 ?_
  obtain rfl := s1 h
  exact x_vret (pc := 27) dX4_take_27 rfl
def L_X4_search_45 (rec : Nat → Nat → Int32 → Int32 → Int32 → zM → Option (zM)) : Nat → Nat → Nat → Int32 → Int32 → Int32 → Nat → Int32 → Int32 → zM → Option (zM)
  | 0, _, _, _, _, _, _, _, _, _ => none
  | n + 1, l0, l1, l2, l3, l4, l5, l6, l7, M => if l6 ≤ l7 then (some M) else ((aI M l5 l7).bind fun v14 => (oR M l0 4 10 3).bind fun v16 => (aI M v16 ((l2 * 5) + v14)).bind fun v18 => bif zac M l0 4 10 then ((f_X4_affords l0 v18 M).bind fun r20 => if r20 = 0 then (L_X4_search_45 rec n l0 l1 l2 l3 l4 l5 l6 (l7 + 1) M) else (bif zac M l0 4 10 then ((f_X4_change l0 v18 (-1) M).bind fun M23 => (oR M23 l0 4 10 5).bind fun v25 => (sI M23 v25 l2 v14).bind fun M27 => if v14 = 0 then ((f_J6_bitCount_0f7a4 v18 M27).bind fun r30 => (rec l0 l1 (l2 + 1) (l3 + 0) (l4 + r30) M27).bind fun M32 => bif zac M32 l0 4 10 then ((f_X4_change l0 v18 1 M32).bind fun M34 => L_X4_search_45 rec n l0 l1 l2 l3 l4 l5 l6 (l7 + 1) M34) else none) else ((oR M27 l0 4 10 2).bind fun v37 => (aI M27 v37 l2).bind fun v39 => (f_J6_bitCount_0f7a4 v18 M27).bind fun r41 => (rec l0 l1 (l2 + 1) (l3 + v39) (l4 + r41) M27).bind fun M43 => bif zac M43 l0 4 10 then ((f_X4_change l0 v18 1 M43).bind fun M45 => L_X4_search_45 rec n l0 l1 l2 l3 l4 l5 l6 (l7 + 1) M45) else none)) else none)) else none)
def f_X4_search : Nat → Nat → Nat → Int32 → Int32 → Int32 → zM → Option (zM)
  | 0, _, _, _, _, _, _ => none
  | k + 1, l0, l1, l2, l3, l4, M => bif Nat.ble 1 l0 then (bif Nat.ble 1 l1 then ((oR M l0 4 10 4).bind fun v1 => (aI M v1 l2).bind fun v3 => bif zac M l0 4 10 then ((f_X4_mayBeBetter l0 (l3 + v3) l4 M).bind fun r5 => if r5 = 0 then (some M) else ((oI M l0 4 10 7).bind fun v8 => if l2 < v8 then ((aN M l1).bind fun v11 => (L_X4_search_45 (f_X4_search k) zN l0 l1 l2 l3 l4 l1 v11 0 M).bind fun M14 => some M14) else (bif zac M l0 4 10 then ((f_X4_take l0 l3 l4 M).bind fun M15 => some M15) else none))) else none) else none) else none
set_option maxRecDepth 100000 in
set_option maxHeartbeats 2000000 in
theorem LX_X4_search_45 {G : zG} {d : Nat} {k : Nat} {rec : Nat → Nat → Int32 → Int32 → Int32 → zM → Option (zM)} (hrec : ∀ {a0 a1 : Nat} {a2 a3 a4 : Int32} {M0 MR : zM}, rec a0 a1 a2 a3 a4 M0 = some MR → Ex G (d + k + 0) yX4_search cX4_search 11 none 0 (zent0 [.ref a0, .ref a1, .int a2, .int a3, .int a4] 11) [] M0 (none, MR)) : ∀ (n : Nat) (l0 : Nat) (l1 : Nat) (l2 : Int32) (l3 : Int32) (l4 : Int32) (l5 : Nat) (l6 : Int32) (l7 : Int32) (M : zM) (hl0 : l0 ≠ 0) (hl1 : l1 ≠ 0) (hl5 : l5 ≠ 0) (MX : zM) {res : Option Value × zM}, L_X4_search_45 rec n l0 l1 l2 l3 l4 l5 l6 l7 M = some MX → Ex G (d + k + 1) yX4_search cX4_search 11 none 146 [.null, .null, .null, .null, .null, .null, .null, .null, .null, .null, .null] [] MX res → Ex G (d + k + 1) yX4_search cX4_search 11 none 45 [.ref l0, .ref l1, .int l2, .int l3, .int l4, .ref l5, .int l6, .int l7, .null, .null, .null] [] M res := by
  intro n
  induction n with
  | zero =>
    intro l0 l1 l2 l3 l4 l5 l6 l7 M hl0 hl1 hl5 MX res h K
    simp [L_X4_search_45] at h
  | succ n ih =>
    intro l0 l1 l2 l3 l4 l5 l6 l7 M hl0 hl1 hl5 MX res h K
    simp only [L_X4_search_45] at h
    refine x_iload (pc := 45) dX4_search_45 rfl ?_
    refine x_iload (pc := 47) dX4_search_47 rfl ?_
    refine x_icmp_ge (pc := 49) dX4_search_49 (t := 146) rfl (fun c13 => ?_) (fun c13 => ?_)
    · rw [if_pos c13] at h
      obtain rfl := s1 h
      refine ex_weak (Ls2 := [.null, .null, .null, .null, .null, .null, .null, .null, .null, .null, .null]) ⟨Or.inl rfl, Or.inl rfl, Or.inl rfl, Or.inl rfl, Or.inl rfl, Or.inl rfl, Or.inl rfl, Or.inl rfl, Or.inl rfl, Or.inl rfl, Or.inl rfl, trivial⟩ ?_
      exact K
    · rw [if_neg c13] at h
      refine x_aload (pc := 52) dX4_search_52 rfl hl5 ?_
      refine x_iload (pc := 54) dX4_search_54 rfl ?_
      obtain ⟨v14, e15, h⟩ := ob h
      refine y_iald (pc := 56) dX4_search_56 e15 ?_
      refine x_istore (pc := 57) dX4_search_57 (by decide) rfl ?_
      refine x_aload_n (pc := 59) dX4_search_59 rfl rfl hl0 ?_
      obtain ⟨v16, e17, h⟩ := ob h
      refine y_getR (pc := 60) dX4_search_60 zf_X4_21 e17 ?_
      refine x_iload_n (pc := 63) dX4_search_63 rfl rfl ?_
      refine x_iconst (pc := 64) dX4_search_64 (v := 5) rfl ?_
      refine x_imul (pc := 65) dX4_search_65 ?_
      refine x_iload (pc := 66) dX4_search_66 rfl ?_
      refine x_iadd (pc := 68) dX4_search_68 ?_
      obtain ⟨v18, e19, h⟩ := ob h
      refine y_iald (pc := 69) dX4_search_69 e19 ?_
      refine x_istore (pc := 70) dX4_search_70 (by decide) rfl ?_
      refine x_aload_n (pc := 72) dX4_search_72 rfl rfl hl0 ?_
      refine x_iload (pc := 73) dX4_search_73 rfl ?_
      obtain ⟨g49, h⟩ := bt h
      obtain ⟨r20, e21, h⟩ := ob h
      refine x_callV (av := [.int v18]) (st := []) (pc := 75) dX4_search_75 (E_X4_affords (d := d + k) e21) rfl (Nat.le_of_ble_eq_true rfl) zc_X4_affords rfl zm_X4_102 zi_X4_affords zs_X4_affords (zac_ok g49) (by decide) rfl rfl (zst_ok rfl (Nat.le_of_ble_eq_true rfl)) rfl ?_
      refine x_if_eq (pc := 78) dX4_search_78 (t := 140) rfl (fun c22 => ?_) (fun c22 => ?_)
      · rw [if_pos c22] at h
        refine x_iinc (pc := 140) dX4_search_140 rfl rfl (by decide) rfl ?_
        refine x_goto (pc := 143) dX4_search_143 (t := 45) rfl ?_
        refine ex_weak (Ls2 := [.ref l0, .ref l1, .int l2, .int l3, .int l4, .ref l5, .int l6, .int (l7 + 1), .null, .null, .null]) ⟨Or.inr rfl, Or.inr rfl, Or.inr rfl, Or.inr rfl, Or.inr rfl, Or.inr rfl, Or.inr rfl, Or.inr rfl, Or.inl rfl, Or.inl rfl, Or.inl rfl, trivial⟩ ?_
        exact ih _ _ _ _ _ _ _ _ _ hl0 hl1 hl5  _ h K
      · rw [if_neg c22] at h
        refine x_aload_n (pc := 81) dX4_search_81 rfl rfl hl0 ?_
        refine x_iload (pc := 82) dX4_search_82 rfl ?_
        refine x_iconst (pc := 84) dX4_search_84 (v := (-1)) rfl ?_
        obtain ⟨g48, h⟩ := bt h
        obtain ⟨M23, e24, h⟩ := ob h
        refine x_callV (av := [.int v18, .int (-1)]) (st := []) (pc := 85) dX4_search_85 (E_X4_change (d := d + k) e24) rfl (Nat.le_of_ble_eq_true rfl) zc_X4_change rfl zm_X4_105 zi_X4_change zs_X4_change (zac_ok g48) (by decide) rfl rfl (zst_ok rfl (Nat.le_of_ble_eq_true rfl)) rfl ?_
        refine x_aload_n (pc := 88) dX4_search_88 rfl rfl hl0 ?_
        obtain ⟨v25, e26, h⟩ := ob h
        refine y_getR (pc := 89) dX4_search_89 zf_X4_27 e26 ?_
        refine x_iload_n (pc := 92) dX4_search_92 rfl rfl ?_
        refine x_iload (pc := 93) dX4_search_93 rfl ?_
        obtain ⟨M27, e28, h⟩ := ob h
        refine y_iast (pc := 95) dX4_search_95 e28 ?_
        refine x_iload (pc := 96) dX4_search_96 rfl ?_
        refine x_if_ne (pc := 98) dX4_search_98 (t := 105) rfl (fun c29 => ?_) (fun c29 => ?_)
        · rw [if_neg c29] at h
          refine x_aload_n (pc := 105) dX4_search_105 rfl rfl hl0 ?_
          obtain ⟨v37, e38, h⟩ := ob h
          refine y_getR (pc := 106) dX4_search_106 zf_X4_18 e38 ?_
          refine x_iload_n (pc := 109) dX4_search_109 rfl rfl ?_
          obtain ⟨v39, e40, h⟩ := ob h
          refine y_iald (pc := 110) dX4_search_110 e40 ?_
          refine x_istore (pc := 111) dX4_search_111 (by decide) rfl ?_
          refine x_aload_n (pc := 113) dX4_search_113 rfl rfl hl0 ?_
          refine x_aload_n (pc := 114) dX4_search_114 rfl rfl hl1 ?_
          refine x_iload_n (pc := 115) dX4_search_115 rfl rfl ?_
          refine x_iconst (pc := 116) dX4_search_116 (v := 1) rfl ?_
          refine x_iadd (pc := 117) dX4_search_117 ?_
          refine x_iload_n (pc := 118) dX4_search_118 rfl rfl ?_
          refine x_iload (pc := 119) dX4_search_119 rfl ?_
          refine x_iadd (pc := 121) dX4_search_121 ?_
          refine x_iload (pc := 122) dX4_search_122 rfl ?_
          refine x_iload (pc := 124) dX4_search_124 rfl ?_
          obtain ⟨r41, e42, h⟩ := ob h
          refine x_callS (av := [.int v18]) (st := [.int l4, .int (l3 + v39), .int (l2 + 1), .ref l1, .ref l0]) (pc := 126) dX4_search_126 (E_J6_bitCount_0f7a4 (d := d + k) e42) rfl (Nat.le_of_ble_eq_true rfl) zc_J6_bitCount_0f7a4 rfl zm_X4_108 zs_J6_bitCount_0f7a4 rfl (zst_ok1 rfl (Nat.le_of_ble_eq_true rfl)) rfl ?_
          refine x_iadd (pc := 129) dX4_search_129 ?_
          obtain ⟨M43, e44, h⟩ := ob h
          refine x_callS (av := [.ref l0, .ref l1, .int (l2 + 1), .int (l3 + v39), .int (l4 + r41)]) (st := []) (pc := 130) dX4_search_130 (hrec e44) rfl (Nat.le_of_ble_eq_true rfl) zc_X4_search rfl zm_X4_47 zs_X4_search rfl (zst_ok rfl (Nat.le_of_ble_eq_true rfl)) rfl ?_
          refine x_aload_n (pc := 133) dX4_search_133 rfl rfl hl0 ?_
          refine x_iload (pc := 134) dX4_search_134 rfl ?_
          refine x_iconst (pc := 136) dX4_search_136 (v := 1) rfl ?_
          obtain ⟨g47, h⟩ := bt h
          obtain ⟨M45, e46, h⟩ := ob h
          refine x_callV (av := [.int v18, .int 1]) (st := []) (pc := 137) dX4_search_137 (E_X4_change (d := d + k) e46) rfl (Nat.le_of_ble_eq_true rfl) zc_X4_change rfl zm_X4_105 zi_X4_change zs_X4_change (zac_ok g47) (by decide) rfl rfl (zst_ok rfl (Nat.le_of_ble_eq_true rfl)) rfl ?_
          refine x_iinc (pc := 140) dX4_search_140 rfl rfl (by decide) rfl ?_
          refine x_goto (pc := 143) dX4_search_143 (t := 45) rfl ?_
          refine ex_weak (Ls2 := [.ref l0, .ref l1, .int l2, .int l3, .int l4, .ref l5, .int l6, .int (l7 + 1), .null, .null, .null]) ⟨Or.inr rfl, Or.inr rfl, Or.inr rfl, Or.inr rfl, Or.inr rfl, Or.inr rfl, Or.inr rfl, Or.inr rfl, Or.inl rfl, Or.inl rfl, Or.inl rfl, trivial⟩ ?_
          exact ih _ _ _ _ _ _ _ _ _ hl0 hl1 hl5  _ h K
        · rw [if_pos c29] at h
          refine x_iconst (pc := 101) dX4_search_101 (v := 0) rfl ?_
          refine x_goto (pc := 102) dX4_search_102 (t := 111) rfl ?_
          refine x_istore (pc := 111) dX4_search_111 (by decide) rfl ?_
          refine x_aload_n (pc := 113) dX4_search_113 rfl rfl hl0 ?_
          refine x_aload_n (pc := 114) dX4_search_114 rfl rfl hl1 ?_
          refine x_iload_n (pc := 115) dX4_search_115 rfl rfl ?_
          refine x_iconst (pc := 116) dX4_search_116 (v := 1) rfl ?_
          refine x_iadd (pc := 117) dX4_search_117 ?_
          refine x_iload_n (pc := 118) dX4_search_118 rfl rfl ?_
          refine x_iload (pc := 119) dX4_search_119 rfl ?_
          refine x_iadd (pc := 121) dX4_search_121 ?_
          refine x_iload (pc := 122) dX4_search_122 rfl ?_
          refine x_iload (pc := 124) dX4_search_124 rfl ?_
          obtain ⟨r30, e31, h⟩ := ob h
          refine x_callS (av := [.int v18]) (st := [.int l4, .int (l3 + 0), .int (l2 + 1), .ref l1, .ref l0]) (pc := 126) dX4_search_126 (E_J6_bitCount_0f7a4 (d := d + k) e31) rfl (Nat.le_of_ble_eq_true rfl) zc_J6_bitCount_0f7a4 rfl zm_X4_108 zs_J6_bitCount_0f7a4 rfl (zst_ok1 rfl (Nat.le_of_ble_eq_true rfl)) rfl ?_
          refine x_iadd (pc := 129) dX4_search_129 ?_
          obtain ⟨M32, e33, h⟩ := ob h
          refine x_callS (av := [.ref l0, .ref l1, .int (l2 + 1), .int (l3 + 0), .int (l4 + r30)]) (st := []) (pc := 130) dX4_search_130 (hrec e33) rfl (Nat.le_of_ble_eq_true rfl) zc_X4_search rfl zm_X4_47 zs_X4_search rfl (zst_ok rfl (Nat.le_of_ble_eq_true rfl)) rfl ?_
          refine x_aload_n (pc := 133) dX4_search_133 rfl rfl hl0 ?_
          refine x_iload (pc := 134) dX4_search_134 rfl ?_
          refine x_iconst (pc := 136) dX4_search_136 (v := 1) rfl ?_
          obtain ⟨g36, h⟩ := bt h
          obtain ⟨M34, e35, h⟩ := ob h
          refine x_callV (av := [.int v18, .int 1]) (st := []) (pc := 137) dX4_search_137 (E_X4_change (d := d + k) e35) rfl (Nat.le_of_ble_eq_true rfl) zc_X4_change rfl zm_X4_105 zi_X4_change zs_X4_change (zac_ok g36) (by decide) rfl rfl (zst_ok rfl (Nat.le_of_ble_eq_true rfl)) rfl ?_
          refine x_iinc (pc := 140) dX4_search_140 rfl rfl (by decide) rfl ?_
          refine x_goto (pc := 143) dX4_search_143 (t := 45) rfl ?_
          refine ex_weak (Ls2 := [.ref l0, .ref l1, .int l2, .int l3, .int l4, .ref l5, .int l6, .int (l7 + 1), .null, .null, .null]) ⟨Or.inr rfl, Or.inr rfl, Or.inr rfl, Or.inr rfl, Or.inr rfl, Or.inr rfl, Or.inr rfl, Or.inr rfl, Or.inl rfl, Or.inl rfl, Or.inl rfl, trivial⟩ ?_
          exact ih _ _ _ _ _ _ _ _ _ hl0 hl1 hl5  _ h K
set_option maxRecDepth 100000 in
set_option maxHeartbeats 2000000 in
theorem E_X4_search {G : zG} {d : Nat} : ∀ {k : Nat} {l0 : Nat} {l1 : Nat} {l2 : Int32} {l3 : Int32} {l4 : Int32} {M MR : zM}, f_X4_search k l0 l1 l2 l3 l4 M = some MR → Ex G (d + k + 1) yX4_search cX4_search 11 none 0 (zent0 [.ref l0, .ref l1, .int l2, .int l3, .int l4] 11) [] M (none, MR) := by
  intro k
  induction k with
  | zero =>
    intro l0 l1 l2 l3 l4 M MR h
    simp [f_X4_search] at h
  | succ k ihk =>
    intro l0 l1 l2 l3 l4 M MR h
    simp only [f_X4_search] at h
    have hrec : ∀ {a0 a1 : Nat} {a2 a3 a4 : Int32} {M0 MR : zM}, f_X4_search k a0 a1 a2 a3 a4 M0 = some MR → Ex G (d + k + 1) yX4_search cX4_search 11 none 0 (zent0 [.ref a0, .ref a1, .int a2, .int a3, .int a4] 11) [] M0 (none, MR) := fun {_ _ _ _ _ _ _} q => ihk q
    obtain ⟨zz0, h⟩ := bt h
    have hl0 := bz zz0
    obtain ⟨zz1, h⟩ := bt h
    have hl1 := bz zz1
    show Ex _ _ _ _ _ _ 0 [.ref l0, .ref l1, .int l2, .int l3, .int l4, .null, .null, .null, .null, .null, .null] [] _ _
    refine x_aload_n (pc := 0) dX4_search_0 rfl rfl hl0 ?_
    refine x_iload_n (pc := 1) dX4_search_1 rfl rfl ?_
    refine x_aload_n (pc := 2) dX4_search_2 rfl rfl hl0 ?_
    obtain ⟨v1, e2, h⟩ := ob h
    refine y_getR (pc := 3) dX4_search_3 zf_X4_24 e2 ?_
    refine x_iload_n (pc := 6) dX4_search_6 rfl rfl ?_
    obtain ⟨v3, e4, h⟩ := ob h
    refine y_iald (pc := 7) dX4_search_7 e4 ?_
    refine x_iadd (pc := 8) dX4_search_8 ?_
    refine x_iload (pc := 9) dX4_search_9 rfl ?_
    obtain ⟨g18, h⟩ := bt h
    obtain ⟨r5, e6, h⟩ := ob h
    refine x_callV (av := [.int (l3 + v3), .int l4]) (st := []) (pc := 11) dX4_search_11 (E_X4_mayBeBetter (d := d + (k + 1)) e6) rfl (Nat.le_of_ble_eq_true rfl) zc_X4_mayBeBetter rfl zm_X4_95 zi_X4_mayBeBetter zs_X4_mayBeBetter (zac_ok g18) (by decide) rfl rfl (zst_ok rfl (Nat.le_of_ble_eq_true rfl)) rfl ?_
    refine x_if_ne (pc := 14) dX4_search_14 (t := 18) rfl (fun c7 => ?_) (fun c7 => ?_)
    · rw [if_neg c7] at h
      refine x_iload_n (pc := 18) dX4_search_18 rfl rfl ?_
      refine x_aload_n (pc := 19) dX4_search_19 rfl rfl hl0 ?_
      obtain ⟨v8, e9, h⟩ := ob h
      refine y_getI (pc := 20) dX4_search_20 zf_X4_59 e9 (by decide) ?_
      refine x_icmp_lt (pc := 23) dX4_search_23 (t := 34) rfl (fun c10 => ?_) (fun c10 => ?_)
      · rw [if_pos c10] at h
        refine x_aload_n (pc := 34) dX4_search_34 rfl rfl hl1 ?_
        refine x_astore (pc := 35) dX4_search_35 (by decide) rfl hl1 ?_
        refine x_aload (pc := 37) dX4_search_37 rfl hl1 ?_
        obtain ⟨v11, e12, h⟩ := ob h
        refine y_alen (pc := 39) dX4_search_39 e12 ?_
        refine x_istore (pc := 40) dX4_search_40 (by decide) rfl ?_
        refine x_iconst (pc := 42) dX4_search_42 (v := 0) rfl ?_
        refine x_istore (pc := 43) dX4_search_43 (by decide) rfl ?_
        obtain ⟨M14, e13, h⟩ := ob h
        refine ex_weak (Ls2 := [.ref l0, .ref l1, .int l2, .int l3, .int l4, .ref l1, .int v11, .int 0, .null, .null, .null]) ⟨Or.inr rfl, Or.inr rfl, Or.inr rfl, Or.inr rfl, Or.inr rfl, Or.inr rfl, Or.inr rfl, Or.inr rfl, Or.inl rfl, Or.inl rfl, Or.inl rfl, trivial⟩ ?_
        refine LX_X4_search_45 (hrec := hrec) zN _ _ _ _ _ _ _ _ _ hl0 hl1 hl1 _ e13 ?_
        obtain rfl := s1 h
        exact x_vret (pc := 146) dX4_search_146 rfl
      · rw [if_neg c10] at h
        refine x_aload_n (pc := 26) dX4_search_26 rfl rfl hl0 ?_
        refine x_iload_n (pc := 27) dX4_search_27 rfl rfl ?_
        refine x_iload (pc := 28) dX4_search_28 rfl ?_
        obtain ⟨g17, h⟩ := bt h
        obtain ⟨M15, e16, h⟩ := ob h
        refine x_callV (av := [.int l3, .int l4]) (st := []) (pc := 30) dX4_search_30 (E_X4_take (d := d + (k + 1)) e16) rfl (Nat.le_of_ble_eq_true rfl) zc_X4_take rfl zm_X4_98 zi_X4_take zs_X4_take (zac_ok g17) (by decide) rfl rfl (zst_ok rfl (Nat.le_of_ble_eq_true rfl)) rfl ?_
        obtain rfl := s1 h
        exact x_vret (pc := 33) dX4_search_33 rfl
    · rw [if_pos c7] at h
      obtain rfl := s1 h
      exact x_vret (pc := 17) dX4_search_17 rfl
def f_X4_workOut (l0 : Nat) (l1 : Nat) (l2 : Nat) (M : zM) : Option (zM) := bif Nat.ble 1 l0 then (bif Nat.ble 1 l1 then (bif Nat.ble 1 l2 then (bif zac M l0 4 10 then ((f_X4_gather l0 l1 l2 M).bind fun M1 => (pI M1 l0 4 10 8 (-1)).bind fun M3 => (pI M3 l0 4 10 9 0).bind fun M5 => (f_X4_search 20 l0 1000 0 0 0 M5).bind fun M7 => (oI M7 l0 4 10 9).bind fun v9 => (pI M7 l0 4 10 9 (v9 + 1)).bind fun M11 => (f_X4_search 20 l0 1001 0 0 0 M11).bind fun M13 => some M13) else none) else none) else none) else none
theorem E_X4_workOut {G : zG} {d : Nat} {l0 : Nat} {l1 : Nat} {l2 : Nat} {M MR : zM} (h : f_X4_workOut l0 l1 l2 M = some MR) : Ex G (d + 22) yX4_workOut cX4_workOut 3 none 0 (zent0 [.ref l0, .ref l1, .ref l2] 3) [] M (none, MR) := by
  unfold f_X4_workOut at h
  obtain ⟨zz0, h⟩ := bt h
  have hl0 := bz zz0
  obtain ⟨zz1, h⟩ := bt h
  have hl1 := bz zz1
  obtain ⟨zz2, h⟩ := bt h
  have hl2 := bz zz2
  show Ex _ _ _ _ _ _ 0 [.ref l0, .ref l1, .ref l2] [] _ _
  refine x_aload_n (pc := 0) dX4_workOut_0 rfl rfl hl0 ?_
  refine x_aload_n (pc := 1) dX4_workOut_1 rfl rfl hl1 ?_
  refine x_aload_n (pc := 2) dX4_workOut_2 rfl rfl hl2 ?_
  obtain ⟨g15, h⟩ := bt h
  obtain ⟨M1, e2, h⟩ := ob h
  refine x_callV (av := [.ref l1, .ref l2]) (st := []) (pc := 3) dX4_workOut_3 (E_X4_gather (d := d + 18) e2) rfl (Nat.le_of_ble_eq_true rfl) zc_X4_gather rfl zm_X4_33 zi_X4_gather zs_X4_gather (zac_ok g15) (by decide) rfl rfl (zst_ok rfl (Nat.le_of_ble_eq_true rfl)) rfl ?_
  refine x_aload_n (pc := 6) dX4_workOut_6 rfl rfl hl0 ?_
  refine x_iconst (pc := 7) dX4_workOut_7 (v := (-1)) rfl ?_
  obtain ⟨M3, e4, h⟩ := ob h
  refine y_putI (pc := 8) dX4_workOut_8 zf_X4_37 e4 ?_
  refine x_aload_n (pc := 11) dX4_workOut_11 rfl rfl hl0 ?_
  refine x_iconst (pc := 12) dX4_workOut_12 (v := 0) rfl ?_
  obtain ⟨M5, e6, h⟩ := ob h
  refine y_putI (pc := 13) dX4_workOut_13 zf_X4_41 e6 ?_
  refine x_aload_n (pc := 16) dX4_workOut_16 rfl rfl hl0 ?_
  refine x_gets (n := "") (i := 1000) (pc := 17) dX4_workOut_17 rfl (by decide) ?_
  refine x_iconst (pc := 20) dX4_workOut_20 (v := 0) rfl ?_
  refine x_iconst (pc := 21) dX4_workOut_21 (v := 0) rfl ?_
  refine x_iconst (pc := 22) dX4_workOut_22 (v := 0) rfl ?_
  obtain ⟨M7, e8, h⟩ := ob h
  refine x_callS (av := [.ref l0, .ref 1000, .int 0, .int 0, .int 0]) (st := []) (pc := 23) dX4_workOut_23 (E_X4_search (d := d) (k := 20) e8) rfl (Nat.le_of_ble_eq_true rfl) zc_X4_search rfl zm_X4_47 zs_X4_search rfl (zst_ok rfl (Nat.le_of_ble_eq_true rfl)) rfl ?_
  refine x_aload_n (pc := 26) dX4_workOut_26 rfl rfl hl0 ?_
  refine x_dup (pc := 27) dX4_workOut_27 rv_cr ?_
  obtain ⟨v9, e10, h⟩ := ob h
  refine y_getI (pc := 28) dX4_workOut_28 zf_X4_41 e10 (by decide) ?_
  refine x_iconst (pc := 31) dX4_workOut_31 (v := 1) rfl ?_
  refine x_iadd (pc := 32) dX4_workOut_32 ?_
  obtain ⟨M11, e12, h⟩ := ob h
  refine y_putI (pc := 33) dX4_workOut_33 zf_X4_41 e12 ?_
  refine x_aload_n (pc := 36) dX4_workOut_36 rfl rfl hl0 ?_
  refine x_gets (n := "") (i := 1001) (pc := 37) dX4_workOut_37 rfl (by decide) ?_
  refine x_iconst (pc := 40) dX4_workOut_40 (v := 0) rfl ?_
  refine x_iconst (pc := 41) dX4_workOut_41 (v := 0) rfl ?_
  refine x_iconst (pc := 42) dX4_workOut_42 (v := 0) rfl ?_
  obtain ⟨M13, e14, h⟩ := ob h
  refine x_callS (av := [.ref l0, .ref 1001, .int 0, .int 0, .int 0]) (st := []) (pc := 43) dX4_workOut_43 (E_X4_search (d := d) (k := 20) e14) rfl (Nat.le_of_ble_eq_true rfl) zc_X4_search rfl zm_X4_47 zs_X4_search rfl (zst_ok rfl (Nat.le_of_ble_eq_true rfl)) rfl ?_
  obtain rfl := s1 h
  exact x_vret (pc := 46) dX4_workOut_46 rfl
def f_X4_howMet (l0 : Nat) (l1 : Int32) (M : zM) : Option (Int32) := bif Nat.ble 1 l0 then ((oR M l0 4 10 1).bind fun v1 => (aI M v1 l1).bind fun v3 => if v3 = (-1) then (some (-1)) else ((oR M l0 4 10 6).bind fun v6 => (oR M l0 4 10 1).bind fun v8 => (aI M v8 l1).bind fun v10 => (aI M v6 v10).bind fun v12 => some v12)) else none
theorem E_X4_howMet {G : zG} {d : Nat} {l0 : Nat} {l1 : Int32} {M : zM} {r : Int32} (h : f_X4_howMet l0 l1 M = some r) : Ex G d yX4_howMet cX4_howMet 2 (some .int) 0 (zent0 [.ref l0, .int l1] 2) [] M (some (.int r), M) := by
  unfold f_X4_howMet at h
  obtain ⟨zz0, h⟩ := bt h
  have hl0 := bz zz0
  show Ex _ _ _ _ _ _ 0 [.ref l0, .int l1] [] _ _
  refine x_aload_n (pc := 0) dX4_howMet_0 rfl rfl hl0 ?_
  obtain ⟨v1, e2, h⟩ := ob h
  refine y_getR (pc := 1) dX4_howMet_1 zf_X4_15 e2 ?_
  refine x_iload_n (pc := 4) dX4_howMet_4 rfl rfl ?_
  obtain ⟨v3, e4, h⟩ := ob h
  refine y_iald (pc := 5) dX4_howMet_5 e4 ?_
  refine x_iconst (pc := 6) dX4_howMet_6 (v := (-1)) rfl ?_
  refine x_icmp_ne (pc := 7) dX4_howMet_7 (t := 14) rfl (fun c5 => ?_) (fun c5 => ?_)
  · rw [if_neg c5] at h
    refine x_aload_n (pc := 14) dX4_howMet_14 rfl rfl hl0 ?_
    obtain ⟨v6, e7, h⟩ := ob h
    refine y_getR (pc := 15) dX4_howMet_15 zf_X4_30 e7 ?_
    refine x_aload_n (pc := 18) dX4_howMet_18 rfl rfl hl0 ?_
    obtain ⟨v8, e9, h⟩ := ob h
    refine y_getR (pc := 19) dX4_howMet_19 zf_X4_15 e9 ?_
    refine x_iload_n (pc := 22) dX4_howMet_22 rfl rfl ?_
    obtain ⟨v10, e11, h⟩ := ob h
    refine y_iald (pc := 23) dX4_howMet_23 e11 ?_
    obtain ⟨v12, e13, h⟩ := ob h
    refine y_iald (pc := 24) dX4_howMet_24 e13 ?_
    obtain rfl := s1 h
    exact y_retI (pc := 25) dX4_howMet_25 rfl
  · rw [if_pos c5] at h
    refine x_iconst (pc := 10) dX4_howMet_10 (v := (-1)) rfl ?_
    refine x_goto (pc := 11) dX4_howMet_11 (t := 25) rfl ?_
    obtain rfl := s1 h
    exact y_retI (pc := 25) dX4_howMet_25 rfl
def L_X5_beginYear_2 : Nat → Nat → Int32 → zM → Option (zM)
  | 0, _, _, _ => none
  | n + 1, l0, l1, M => if 8 ≤ l1 then (some M) else ((oR M l0 5 9 1).bind fun v2 => (oR M l0 5 9 0).bind fun v4 => (aI M v4 l1).bind fun v6 => (sI M v2 l1 v6).bind fun M8 => L_X5_beginYear_2 n l0 (l1 + 1) M8)
def L_X5_beginYear_28 : Nat → Nat → Int32 → zM → Option (zM)
  | 0, _, _, _ => none
  | n + 1, l0, l1, M => (oR M l0 5 9 3).bind fun v3 => (aN M v3).bind fun v5 => if v5 ≤ l1 then (some M) else ((oR M l0 5 9 3).bind fun v8 => (sI M v8 l1 0).bind fun M10 => L_X5_beginYear_28 n l0 (l1 + 1) M10)
def f_X5_beginYear (l0 : Nat) (M : zM) : Option (zM) := bif Nat.ble 1 l0 then ((L_X5_beginYear_2 zN l0 0 M).bind fun M2 => (L_X5_beginYear_28 zN l0 0 M2).bind fun M4 => some M4) else none
theorem LX_X5_beginYear_2 {G : zG} {d : Nat} : ∀ (n : Nat) (l0 : Nat) (l1 : Int32) (M : zM) (hl0 : l0 ≠ 0) (MX : zM) {res : Option Value × zM}, L_X5_beginYear_2 n l0 l1 M = some MX → Ex G d yX5_beginYear cX5_beginYear 2 none 26 [.ref l0, .null] [] MX res → Ex G d yX5_beginYear cX5_beginYear 2 none 2 [.ref l0, .int l1] [] M res := by
  intro n
  induction n with
  | zero =>
    intro l0 l1 M hl0 MX res h K
    simp [L_X5_beginYear_2] at h
  | succ n ih =>
    intro l0 l1 M hl0 MX res h K
    simp only [L_X5_beginYear_2] at h
    refine x_iload_n (pc := 2) dX5_beginYear_2 rfl rfl ?_
    refine x_bipush (pc := 3) dX5_beginYear_3 (v := 8) (by decide) ?_
    refine x_icmp_ge (pc := 5) dX5_beginYear_5 (t := 26) rfl (fun c1 => ?_) (fun c1 => ?_)
    · rw [if_pos c1] at h
      obtain rfl := s1 h
      refine ex_weak (Ls2 := [.ref l0, .null]) ⟨Or.inr rfl, Or.inl rfl, trivial⟩ ?_
      exact K
    · rw [if_neg c1] at h
      refine x_aload_n (pc := 8) dX5_beginYear_8 rfl rfl hl0 ?_
      obtain ⟨v2, e3, h⟩ := ob h
      refine y_getR (pc := 9) dX5_beginYear_9 zf_X5_15 e3 ?_
      refine x_iload_n (pc := 12) dX5_beginYear_12 rfl rfl ?_
      refine x_aload_n (pc := 13) dX5_beginYear_13 rfl rfl hl0 ?_
      obtain ⟨v4, e5, h⟩ := ob h
      refine y_getR (pc := 14) dX5_beginYear_14 zf_X5_9 e5 ?_
      refine x_iload_n (pc := 17) dX5_beginYear_17 rfl rfl ?_
      obtain ⟨v6, e7, h⟩ := ob h
      refine y_iald (pc := 18) dX5_beginYear_18 e7 ?_
      obtain ⟨M8, e9, h⟩ := ob h
      refine y_iast (pc := 19) dX5_beginYear_19 e9 ?_
      refine x_iinc (pc := 20) dX5_beginYear_20 rfl rfl (by decide) rfl ?_
      refine x_goto (pc := 23) dX5_beginYear_23 (t := 2) rfl ?_
      refine ex_weak (Ls2 := [.ref l0, .int (l1 + 1)]) ⟨Or.inr rfl, Or.inr rfl, trivial⟩ ?_
      exact ih _ _ _ hl0  _ h K
theorem LX_X5_beginYear_28 {G : zG} {d : Nat} : ∀ (n : Nat) (l0 : Nat) (l1 : Int32) (M : zM) (hl0 : l0 ≠ 0) (MX : zM) {res : Option Value × zM}, L_X5_beginYear_28 n l0 l1 M = some MX → Ex G d yX5_beginYear cX5_beginYear 2 none 50 [.null, .null] [] MX res → Ex G d yX5_beginYear cX5_beginYear 2 none 28 [.ref l0, .int l1] [] M res := by
  intro n
  induction n with
  | zero =>
    intro l0 l1 M hl0 MX res h K
    simp [L_X5_beginYear_28] at h
  | succ n ih =>
    intro l0 l1 M hl0 MX res h K
    simp only [L_X5_beginYear_28] at h
    refine x_iload_n (pc := 28) dX5_beginYear_28 rfl rfl ?_
    refine x_aload_n (pc := 29) dX5_beginYear_29 rfl rfl hl0 ?_
    obtain ⟨v3, e4, h⟩ := ob h
    refine y_getR (pc := 30) dX5_beginYear_30 zf_X5_21 e4 ?_
    obtain ⟨v5, e6, h⟩ := ob h
    refine y_alen (pc := 33) dX5_beginYear_33 e6 ?_
    refine x_icmp_ge (pc := 34) dX5_beginYear_34 (t := 50) rfl (fun c7 => ?_) (fun c7 => ?_)
    · rw [if_pos c7] at h
      obtain rfl := s1 h
      refine ex_weak (Ls2 := [.null, .null]) ⟨Or.inl rfl, Or.inl rfl, trivial⟩ ?_
      exact K
    · rw [if_neg c7] at h
      refine x_aload_n (pc := 37) dX5_beginYear_37 rfl rfl hl0 ?_
      obtain ⟨v8, e9, h⟩ := ob h
      refine y_getR (pc := 38) dX5_beginYear_38 zf_X5_21 e9 ?_
      refine x_iload_n (pc := 41) dX5_beginYear_41 rfl rfl ?_
      refine x_iconst (pc := 42) dX5_beginYear_42 (v := 0) rfl ?_
      obtain ⟨M10, e11, h⟩ := ob h
      refine y_iast (pc := 43) dX5_beginYear_43 e11 ?_
      refine x_iinc (pc := 44) dX5_beginYear_44 rfl rfl (by decide) rfl ?_
      refine x_goto (pc := 47) dX5_beginYear_47 (t := 28) rfl ?_
      refine ex_weak (Ls2 := [.ref l0, .int (l1 + 1)]) ⟨Or.inr rfl, Or.inr rfl, trivial⟩ ?_
      exact ih _ _ _ hl0  _ h K
theorem E_X5_beginYear {G : zG} {d : Nat} {l0 : Nat} {M MR : zM} (h : f_X5_beginYear l0 M = some MR) : Ex G d yX5_beginYear cX5_beginYear 2 none 0 (zent0 [.ref l0] 2) [] M (none, MR) := by
  unfold f_X5_beginYear at h
  obtain ⟨zz0, h⟩ := bt h
  have hl0 := bz zz0
  show Ex _ _ _ _ _ _ 0 [.ref l0, .null] [] _ _
  refine x_iconst (pc := 0) dX5_beginYear_0 (v := 0) rfl ?_
  refine x_istore_n (pc := 1) dX5_beginYear_1 rfl (by decide) rfl ?_
  obtain ⟨M2, e1, h⟩ := ob h
  refine ex_weak (Ls2 := [.ref l0, .int 0]) ⟨Or.inr rfl, Or.inr rfl, trivial⟩ ?_
  refine LX_X5_beginYear_2 zN _ _ _ hl0 _ e1 ?_
  refine x_iconst (pc := 26) dX5_beginYear_26 (v := 0) rfl ?_
  refine x_istore_n (pc := 27) dX5_beginYear_27 rfl (by decide) rfl ?_
  obtain ⟨M4, e3, h⟩ := ob h
  refine ex_weak (Ls2 := [.ref l0, .int 0]) ⟨Or.inr rfl, Or.inr rfl, trivial⟩ ?_
  refine LX_X5_beginYear_28 zN _ _ _ hl0 _ e3 ?_
  obtain rfl := s1 h
  exact x_vret (pc := 50) dX5_beginYear_50 rfl
def L_X5_begin_27 : Nat → Nat → Nat → Int32 → zM → Option (zM)
  | 0, _, _, _, _ => none
  | n + 1, l0, l1, l2, M => if 8 ≤ l2 then (some M) else ((oR M l0 5 9 0).bind fun v12 => (oI M l1 7 15 1).bind fun v14 => if v14 ≤ l2 then ((sI M v12 l2 0).bind fun M17 => (oR M17 l0 5 9 2).bind fun v19 => (sI M17 v19 l2 0).bind fun M21 => L_X5_begin_27 n l0 l1 (l2 + 1) M21) else ((oR M l1 7 15 7).bind fun v23 => (aI M v23 l2).bind fun v25 => (sI M v12 l2 v25).bind fun M27 => (oR M27 l0 5 9 2).bind fun v29 => (sI M27 v29 l2 0).bind fun M31 => L_X5_begin_27 n l0 l1 (l2 + 1) M31))
def f_X5_begin (l0 : Nat) (l1 : Nat) (M : zM) : Option (zM) := bif Nat.ble 1 l0 then (bif Nat.ble 1 l1 then ((pI M l0 5 9 4 0).bind fun M1 => (pI M1 l0 5 9 5 0).bind fun M3 => (pI M3 l0 5 9 6 0).bind fun M5 => (pI M5 l0 5 9 7 0).bind fun M7 => (pI M7 l0 5 9 8 0).bind fun M9 => (L_X5_begin_27 zN l0 l1 0 M9).bind fun M12 => bif zac M12 l0 5 9 then ((f_X5_beginYear l0 M12).bind fun M13 => some M13) else none) else none) else none
theorem LX_X5_begin_27 {G : zG} {d : Nat} : ∀ (n : Nat) (l0 : Nat) (l1 : Nat) (l2 : Int32) (M : zM) (hl0 : l0 ≠ 0) (hl1 : l1 ≠ 0) (MX : zM) {res : Option Value × zM}, L_X5_begin_27 n l0 l1 l2 M = some MX → Ex G (d + 1) yX5_begin cX5_begin 3 none 70 [.ref l0, .null, .null] [] MX res → Ex G (d + 1) yX5_begin cX5_begin 3 none 27 [.ref l0, .ref l1, .int l2] [] M res := by
  intro n
  induction n with
  | zero =>
    intro l0 l1 l2 M hl0 hl1 MX res h K
    simp [L_X5_begin_27] at h
  | succ n ih =>
    intro l0 l1 l2 M hl0 hl1 MX res h K
    simp only [L_X5_begin_27] at h
    refine x_iload_n (pc := 27) dX5_begin_27 rfl rfl ?_
    refine x_bipush (pc := 28) dX5_begin_28 (v := 8) (by decide) ?_
    refine x_icmp_ge (pc := 30) dX5_begin_30 (t := 70) rfl (fun c11 => ?_) (fun c11 => ?_)
    · rw [if_pos c11] at h
      obtain rfl := s1 h
      refine ex_weak (Ls2 := [.ref l0, .null, .null]) ⟨Or.inr rfl, Or.inl rfl, Or.inl rfl, trivial⟩ ?_
      exact K
    · rw [if_neg c11] at h
      refine x_aload_n (pc := 33) dX5_begin_33 rfl rfl hl0 ?_
      obtain ⟨v12, e13, h⟩ := ob h
      refine y_getR (pc := 34) dX5_begin_34 zf_X5_9 e13 ?_
      refine x_iload_n (pc := 37) dX5_begin_37 rfl rfl ?_
      refine x_iload_n (pc := 38) dX5_begin_38 rfl rfl ?_
      refine x_aload_n (pc := 39) dX5_begin_39 rfl rfl hl1 ?_
      obtain ⟨v14, e15, h⟩ := ob h
      refine y_getI (pc := 40) dX5_begin_40 zf_X5_40 e15 (by decide) ?_
      refine x_icmp_ge (pc := 43) dX5_begin_43 (t := 55) rfl (fun c16 => ?_) (fun c16 => ?_)
      · rw [if_pos c16] at h
        refine x_iconst (pc := 55) dX5_begin_55 (v := 0) rfl ?_
        obtain ⟨M17, e18, h⟩ := ob h
        refine y_iast (pc := 56) dX5_begin_56 e18 ?_
        refine x_aload_n (pc := 57) dX5_begin_57 rfl rfl hl0 ?_
        obtain ⟨v19, e20, h⟩ := ob h
        refine y_getR (pc := 58) dX5_begin_58 zf_X5_18 e20 ?_
        refine x_iload_n (pc := 61) dX5_begin_61 rfl rfl ?_
        refine x_iconst (pc := 62) dX5_begin_62 (v := 0) rfl ?_
        obtain ⟨M21, e22, h⟩ := ob h
        refine y_iast (pc := 63) dX5_begin_63 e22 ?_
        refine x_iinc (pc := 64) dX5_begin_64 rfl rfl (by decide) rfl ?_
        refine x_goto (pc := 67) dX5_begin_67 (t := 27) rfl ?_
        refine ex_weak (Ls2 := [.ref l0, .ref l1, .int (l2 + 1)]) ⟨Or.inr rfl, Or.inr rfl, Or.inr rfl, trivial⟩ ?_
        exact ih _ _ _ _ hl0 hl1  _ h K
      · rw [if_neg c16] at h
        refine x_aload_n (pc := 46) dX5_begin_46 rfl rfl hl1 ?_
        obtain ⟨v23, e24, h⟩ := ob h
        refine y_getR (pc := 47) dX5_begin_47 zf_X5_45 e24 ?_
        refine x_iload_n (pc := 50) dX5_begin_50 rfl rfl ?_
        obtain ⟨v25, e26, h⟩ := ob h
        refine y_iald (pc := 51) dX5_begin_51 e26 ?_
        refine x_goto (pc := 52) dX5_begin_52 (t := 56) rfl ?_
        obtain ⟨M27, e28, h⟩ := ob h
        refine y_iast (pc := 56) dX5_begin_56 e28 ?_
        refine x_aload_n (pc := 57) dX5_begin_57 rfl rfl hl0 ?_
        obtain ⟨v29, e30, h⟩ := ob h
        refine y_getR (pc := 58) dX5_begin_58 zf_X5_18 e30 ?_
        refine x_iload_n (pc := 61) dX5_begin_61 rfl rfl ?_
        refine x_iconst (pc := 62) dX5_begin_62 (v := 0) rfl ?_
        obtain ⟨M31, e32, h⟩ := ob h
        refine y_iast (pc := 63) dX5_begin_63 e32 ?_
        refine x_iinc (pc := 64) dX5_begin_64 rfl rfl (by decide) rfl ?_
        refine x_goto (pc := 67) dX5_begin_67 (t := 27) rfl ?_
        refine ex_weak (Ls2 := [.ref l0, .ref l1, .int (l2 + 1)]) ⟨Or.inr rfl, Or.inr rfl, Or.inr rfl, trivial⟩ ?_
        exact ih _ _ _ _ hl0 hl1  _ h K
theorem E_X5_begin {G : zG} {d : Nat} {l0 : Nat} {l1 : Nat} {M MR : zM} (h : f_X5_begin l0 l1 M = some MR) : Ex G (d + 1) yX5_begin cX5_begin 3 none 0 (zent0 [.ref l0, .ref l1] 3) [] M (none, MR) := by
  unfold f_X5_begin at h
  obtain ⟨zz0, h⟩ := bt h
  have hl0 := bz zz0
  obtain ⟨zz1, h⟩ := bt h
  have hl1 := bz zz1
  show Ex _ _ _ _ _ _ 0 [.ref l0, .ref l1, .null] [] _ _
  refine x_aload_n (pc := 0) dX5_begin_0 rfl rfl hl0 ?_
  refine x_iconst (pc := 1) dX5_begin_1 (v := 0) rfl ?_
  obtain ⟨M1, e2, h⟩ := ob h
  refine y_putI (pc := 2) dX5_begin_2 zf_X5_24 e2 ?_
  refine x_aload_n (pc := 5) dX5_begin_5 rfl rfl hl0 ?_
  refine x_iconst (pc := 6) dX5_begin_6 (v := 0) rfl ?_
  obtain ⟨M3, e4, h⟩ := ob h
  refine y_putI (pc := 7) dX5_begin_7 zf_X5_28 e4 ?_
  refine x_aload_n (pc := 10) dX5_begin_10 rfl rfl hl0 ?_
  refine x_iconst (pc := 11) dX5_begin_11 (v := 0) rfl ?_
  obtain ⟨M5, e6, h⟩ := ob h
  refine y_putI (pc := 12) dX5_begin_12 zf_X5_31 e6 ?_
  refine x_aload_n (pc := 15) dX5_begin_15 rfl rfl hl0 ?_
  refine x_iconst (pc := 16) dX5_begin_16 (v := 0) rfl ?_
  obtain ⟨M7, e8, h⟩ := ob h
  refine y_putI (pc := 17) dX5_begin_17 zf_X5_34 e8 ?_
  refine x_aload_n (pc := 20) dX5_begin_20 rfl rfl hl0 ?_
  refine x_iconst (pc := 21) dX5_begin_21 (v := 0) rfl ?_
  obtain ⟨M9, e10, h⟩ := ob h
  refine y_putI (pc := 22) dX5_begin_22 zf_X5_37 e10 ?_
  refine x_iconst (pc := 25) dX5_begin_25 (v := 0) rfl ?_
  refine x_istore_n (pc := 26) dX5_begin_26 rfl (by decide) rfl ?_
  obtain ⟨M12, e11, h⟩ := ob h
  refine ex_weak (Ls2 := [.ref l0, .ref l1, .int 0]) ⟨Or.inr rfl, Or.inr rfl, Or.inr rfl, trivial⟩ ?_
  refine LX_X5_begin_27 zN _ _ _ _ hl0 hl1 _ e11 ?_
  refine x_aload_n (pc := 70) dX5_begin_70 rfl rfl hl0 ?_
  obtain ⟨g15, h⟩ := bt h
  obtain ⟨M13, e14, h⟩ := ob h
  refine x_callV (av := []) (st := []) (pc := 71) dX5_begin_71 (E_X5_beginYear (d := d) e14) rfl (Nat.le_of_ble_eq_true rfl) zc_X5_beginYear rfl zm_X5_46 zi_X5_beginYear zs_X5_beginYear (zac_ok g15) (by decide) rfl rfl (zst_ok rfl (Nat.le_of_ble_eq_true rfl)) rfl ?_
  obtain rfl := s1 h
  exact x_vret (pc := 74) dX5_begin_74 rfl
def f_X5_addHoarded (l0 : Nat) (l1 : Int32) (l2 : Int32) (l3 : Int32) (M : zM) : Option (zM) := bif Nat.ble 1 l0 then ((oR M l0 5 9 3).bind fun v1 => (aI M v1 ((l1 * 8) + l2)).bind fun v3 => (sI M v1 ((l1 * 8) + l2) (v3 + l3)).bind fun M5 => some M5) else none
theorem E_X5_addHoarded {G : zG} {d : Nat} {l0 : Nat} {l1 : Int32} {l2 : Int32} {l3 : Int32} {M MR : zM} (h : f_X5_addHoarded l0 l1 l2 l3 M = some MR) : Ex G d yX5_addHoarded cX5_addHoarded 4 none 0 (zent0 [.ref l0, .int l1, .int l2, .int l3] 4) [] M (none, MR) := by
  unfold f_X5_addHoarded at h
  obtain ⟨zz0, h⟩ := bt h
  have hl0 := bz zz0
  show Ex _ _ _ _ _ _ 0 [.ref l0, .int l1, .int l2, .int l3] [] _ _
  refine x_aload_n (pc := 0) dX5_addHoarded_0 rfl rfl hl0 ?_
  obtain ⟨v1, e2, h⟩ := ob h
  refine y_getR (pc := 1) dX5_addHoarded_1 zf_X5_21 e2 ?_
  refine x_iload_n (pc := 4) dX5_addHoarded_4 rfl rfl ?_
  refine x_bipush (pc := 5) dX5_addHoarded_5 (v := 8) (by decide) ?_
  refine x_imul (pc := 7) dX5_addHoarded_7 ?_
  refine x_iload_n (pc := 8) dX5_addHoarded_8 rfl rfl ?_
  refine x_iadd (pc := 9) dX5_addHoarded_9 ?_
  refine x_dup2 (pc := 10) dX5_addHoarded_10 rfl rv_cr ?_
  obtain ⟨v3, e4, h⟩ := ob h
  refine y_iald (pc := 11) dX5_addHoarded_11 e4 ?_
  refine x_iload_n (pc := 12) dX5_addHoarded_12 rfl rfl ?_
  refine x_iadd (pc := 13) dX5_addHoarded_13 ?_
  obtain ⟨M5, e6, h⟩ := ob h
  refine y_iast (pc := 14) dX5_addHoarded_14 e6 ?_
  obtain rfl := s1 h
  exact x_vret (pc := 15) dX5_addHoarded_15 rfl
def f_X5_sayable (l0 : Nat) (l1 : Int32) (l2 : Int32) (M : zM) : Option (Int32) := bif Nat.ble 1 l0 then ((oR M l0 5 9 1).bind fun v1 => (aI M v1 l2).bind fun v3 => (oR M l0 5 9 3).bind fun v5 => (aI M v5 ((l1 * 8) + l2)).bind fun v7 => some (v3 + v7)) else none
theorem E_X5_sayable {G : zG} {d : Nat} {l0 : Nat} {l1 : Int32} {l2 : Int32} {M : zM} {r : Int32} (h : f_X5_sayable l0 l1 l2 M = some r) : Ex G d yX5_sayable cX5_sayable 3 (some .int) 0 (zent0 [.ref l0, .int l1, .int l2] 3) [] M (some (.int r), M) := by
  unfold f_X5_sayable at h
  obtain ⟨zz0, h⟩ := bt h
  have hl0 := bz zz0
  show Ex _ _ _ _ _ _ 0 [.ref l0, .int l1, .int l2] [] _ _
  refine x_aload_n (pc := 0) dX5_sayable_0 rfl rfl hl0 ?_
  obtain ⟨v1, e2, h⟩ := ob h
  refine y_getR (pc := 1) dX5_sayable_1 zf_X5_15 e2 ?_
  refine x_iload_n (pc := 4) dX5_sayable_4 rfl rfl ?_
  obtain ⟨v3, e4, h⟩ := ob h
  refine y_iald (pc := 5) dX5_sayable_5 e4 ?_
  refine x_aload_n (pc := 6) dX5_sayable_6 rfl rfl hl0 ?_
  obtain ⟨v5, e6, h⟩ := ob h
  refine y_getR (pc := 7) dX5_sayable_7 zf_X5_21 e6 ?_
  refine x_iload_n (pc := 10) dX5_sayable_10 rfl rfl ?_
  refine x_bipush (pc := 11) dX5_sayable_11 (v := 8) (by decide) ?_
  refine x_imul (pc := 13) dX5_sayable_13 ?_
  refine x_iload_n (pc := 14) dX5_sayable_14 rfl rfl ?_
  refine x_iadd (pc := 15) dX5_sayable_15 ?_
  obtain ⟨v7, e8, h⟩ := ob h
  refine y_iald (pc := 16) dX5_sayable_16 e8 ?_
  refine x_iadd (pc := 17) dX5_sayable_17 ?_
  obtain rfl := s1 h
  exact y_retI (pc := 18) dX5_sayable_18 rfl
def f_X5_canSay (l0 : Nat) (l1 : Int32) (l2 : Int32) (M : zM) : Option (Int32) := bif Nat.ble 1 l0 then (bif zac M l0 5 9 then ((f_X5_sayable l0 l1 l2 M).bind fun r1 => if r1 ≤ 0 then (some 0) else (some 1)) else none) else none
theorem E_X5_canSay {G : zG} {d : Nat} {l0 : Nat} {l1 : Int32} {l2 : Int32} {M : zM} {r : Int32} (h : f_X5_canSay l0 l1 l2 M = some r) : Ex G (d + 1) yX5_canSay cX5_canSay 3 (some .boolean) 0 (zent0 [.ref l0, .int l1, .int l2] 3) [] M (some (.int r), M) := by
  unfold f_X5_canSay at h
  obtain ⟨zz0, h⟩ := bt h
  have hl0 := bz zz0
  show Ex _ _ _ _ _ _ 0 [.ref l0, .int l1, .int l2] [] _ _
  refine x_aload_n (pc := 0) dX5_canSay_0 rfl rfl hl0 ?_
  refine x_iload_n (pc := 1) dX5_canSay_1 rfl rfl ?_
  refine x_iload_n (pc := 2) dX5_canSay_2 rfl rfl ?_
  obtain ⟨g4, h⟩ := bt h
  obtain ⟨r1, e2, h⟩ := ob h
  refine x_callV (av := [.int l1, .int l2]) (st := []) (pc := 3) dX5_canSay_3 (E_X5_sayable (d := d) e2) rfl (Nat.le_of_ble_eq_true rfl) zc_X5_sayable rfl zm_X5_63 zi_X5_sayable zs_X5_sayable (zac_ok g4) (by decide) rfl rfl (zst_ok rfl (Nat.le_of_ble_eq_true rfl)) rfl ?_
  refine x_if_le (pc := 6) dX5_canSay_6 (t := 13) rfl (fun c3 => ?_) (fun c3 => ?_)
  · rw [if_pos c3] at h
    refine x_iconst (pc := 13) dX5_canSay_13 (v := 0) rfl ?_
    obtain rfl := s1 h
    exact x_ret (pc := 14) dX5_canSay_14 (ty := .boolean) rfl rfl
  · rw [if_neg c3] at h
    refine x_iconst (pc := 9) dX5_canSay_9 (v := 1) rfl ?_
    refine x_goto (pc := 10) dX5_canSay_10 (t := 14) rfl ?_
    obtain rfl := s1 h
    exact x_ret (pc := 14) dX5_canSay_14 (ty := .boolean) rfl rfl
def f_X5_counted (l0 : Int32) (l1 : Int32) (M : zM) : Option (Int32) := some (if l0 + l1 < 999999 then l0 + l1 else 999999)
theorem E_X5_counted {G : zG} {d : Nat} {l0 : Int32} {l1 : Int32} {M : zM} {r : Int32} (h : f_X5_counted l0 l1 M = some r) : Ex G d yX5_counted cX5_counted 2 (some .int) 0 (zent0 [.int l0, .int l1] 2) [] M (some (.int r), M) := by
  unfold f_X5_counted at h
  show Ex _ _ _ _ _ _ 0 [.int l0, .int l1] [] _ _
  refine x_ldc (pc := 0) dX5_counted_0 zk_X5_123 ?_
  refine x_iload_n (pc := 2) dX5_counted_2 rfl rfl ?_
  refine x_iload_n (pc := 3) dX5_counted_3 rfl rfl ?_
  refine x_iadd (pc := 4) dX5_counted_4 ?_
  refine y_mmin (pc := 5) dX5_counted_5 zm_X5_124 zs_J9_min_7cf53 rfl (Nat.le_of_ble_eq_true rfl) ?_
  obtain rfl := s1 h
  exact y_retI (pc := 8) dX5_counted_8 rfl
def f_X5_speak (l0 : Nat) (l1 : Int32) (l2 : Int32) (M : zM) : Option (zM) := bif Nat.ble 1 l0 then (bif zac M l0 5 9 then ((f_X5_hoardedBy l0 l1 l2 M).bind fun r1 => if r1 ≤ 0 then ((oR M l0 5 9 1).bind fun v4 => (aI M v4 l2).bind fun v6 => (sI M v4 l2 (v6 - 1)).bind fun M8 => (oR M8 l0 5 9 2).bind fun v10 => (oR M8 l0 5 9 2).bind fun v12 => (aI M8 v12 l2).bind fun v14 => (f_X5_counted v14 1 M8).bind fun r16 => (sI M8 v10 l2 r16).bind fun M18 => some M18) else (bif zac M l0 5 9 then ((f_X5_addHoarded l0 l1 l2 (-1) M).bind fun M20 => (oR M20 l0 5 9 2).bind fun v22 => (oR M20 l0 5 9 2).bind fun v24 => (aI M20 v24 l2).bind fun v26 => (f_X5_counted v26 1 M20).bind fun r28 => (sI M20 v22 l2 r28).bind fun M30 => some M30) else none)) else none) else none
theorem E_X5_speak {G : zG} {d : Nat} {l0 : Nat} {l1 : Int32} {l2 : Int32} {M MR : zM} (h : f_X5_speak l0 l1 l2 M = some MR) : Ex G (d + 1) yX5_speak cX5_speak 3 none 0 (zent0 [.ref l0, .int l1, .int l2] 3) [] M (none, MR) := by
  unfold f_X5_speak at h
  obtain ⟨zz0, h⟩ := bt h
  have hl0 := bz zz0
  show Ex _ _ _ _ _ _ 0 [.ref l0, .int l1, .int l2] [] _ _
  refine x_aload_n (pc := 0) dX5_speak_0 rfl rfl hl0 ?_
  refine x_iload_n (pc := 1) dX5_speak_1 rfl rfl ?_
  refine x_iload_n (pc := 2) dX5_speak_2 rfl rfl ?_
  obtain ⟨g33, h⟩ := bt h
  obtain ⟨r1, e2, h⟩ := ob h
  refine x_callV (av := [.int l1, .int l2]) (st := []) (pc := 3) dX5_speak_3 (E_X5_hoardedBy (d := d) e2) rfl (Nat.le_of_ble_eq_true rfl) zc_X5_hoardedBy rfl zm_X5_55 zi_X5_hoardedBy zs_X5_hoardedBy (zac_ok g33) (by decide) rfl rfl (zst_ok rfl (Nat.le_of_ble_eq_true rfl)) rfl ?_
  refine x_if_le (pc := 6) dX5_speak_6 (t := 19) rfl (fun c3 => ?_) (fun c3 => ?_)
  · rw [if_pos c3] at h
    refine x_aload_n (pc := 19) dX5_speak_19 rfl rfl hl0 ?_
    obtain ⟨v4, e5, h⟩ := ob h
    refine y_getR (pc := 20) dX5_speak_20 zf_X5_15 e5 ?_
    refine x_iload_n (pc := 23) dX5_speak_23 rfl rfl ?_
    refine x_dup2 (pc := 24) dX5_speak_24 rfl rv_cr ?_
    obtain ⟨v6, e7, h⟩ := ob h
    refine y_iald (pc := 25) dX5_speak_25 e7 ?_
    refine x_iconst (pc := 26) dX5_speak_26 (v := 1) rfl ?_
    refine x_isub (pc := 27) dX5_speak_27 ?_
    obtain ⟨M8, e9, h⟩ := ob h
    refine y_iast (pc := 28) dX5_speak_28 e9 ?_
    refine x_aload_n (pc := 29) dX5_speak_29 rfl rfl hl0 ?_
    obtain ⟨v10, e11, h⟩ := ob h
    refine y_getR (pc := 30) dX5_speak_30 zf_X5_18 e11 ?_
    refine x_iload_n (pc := 33) dX5_speak_33 rfl rfl ?_
    refine x_aload_n (pc := 34) dX5_speak_34 rfl rfl hl0 ?_
    obtain ⟨v12, e13, h⟩ := ob h
    refine y_getR (pc := 35) dX5_speak_35 zf_X5_18 e13 ?_
    refine x_iload_n (pc := 38) dX5_speak_38 rfl rfl ?_
    obtain ⟨v14, e15, h⟩ := ob h
    refine y_iald (pc := 39) dX5_speak_39 e15 ?_
    refine x_iconst (pc := 40) dX5_speak_40 (v := 1) rfl ?_
    obtain ⟨r16, e17, h⟩ := ob h
    refine x_callS (av := [.int v14, .int 1]) (st := [.int l2, .ref v10]) (pc := 41) dX5_speak_41 (E_X5_counted (d := d) e17) rfl (Nat.le_of_ble_eq_true rfl) zc_X5_counted rfl zm_X5_70 zs_X5_counted rfl (zst_ok rfl (Nat.le_of_ble_eq_true rfl)) rfl ?_
    obtain ⟨M18, e19, h⟩ := ob h
    refine y_iast (pc := 44) dX5_speak_44 e19 ?_
    obtain rfl := s1 h
    exact x_vret (pc := 45) dX5_speak_45 rfl
  · rw [if_neg c3] at h
    refine x_aload_n (pc := 9) dX5_speak_9 rfl rfl hl0 ?_
    refine x_iload_n (pc := 10) dX5_speak_10 rfl rfl ?_
    refine x_iload_n (pc := 11) dX5_speak_11 rfl rfl ?_
    refine x_iconst (pc := 12) dX5_speak_12 (v := (-1)) rfl ?_
    obtain ⟨g32, h⟩ := bt h
    obtain ⟨M20, e21, h⟩ := ob h
    refine x_callV (av := [.int l1, .int l2, .int (-1)]) (st := []) (pc := 13) dX5_speak_13 (E_X5_addHoarded (d := d) e21) rfl (Nat.le_of_ble_eq_true rfl) zc_X5_addHoarded rfl zm_X5_66 zi_X5_addHoarded zs_X5_addHoarded (zac_ok g32) (by decide) rfl rfl (zst_ok rfl (Nat.le_of_ble_eq_true rfl)) rfl ?_
    refine x_goto (pc := 16) dX5_speak_16 (t := 29) rfl ?_
    refine x_aload_n (pc := 29) dX5_speak_29 rfl rfl hl0 ?_
    obtain ⟨v22, e23, h⟩ := ob h
    refine y_getR (pc := 30) dX5_speak_30 zf_X5_18 e23 ?_
    refine x_iload_n (pc := 33) dX5_speak_33 rfl rfl ?_
    refine x_aload_n (pc := 34) dX5_speak_34 rfl rfl hl0 ?_
    obtain ⟨v24, e25, h⟩ := ob h
    refine y_getR (pc := 35) dX5_speak_35 zf_X5_18 e25 ?_
    refine x_iload_n (pc := 38) dX5_speak_38 rfl rfl ?_
    obtain ⟨v26, e27, h⟩ := ob h
    refine y_iald (pc := 39) dX5_speak_39 e27 ?_
    refine x_iconst (pc := 40) dX5_speak_40 (v := 1) rfl ?_
    obtain ⟨r28, e29, h⟩ := ob h
    refine x_callS (av := [.int v26, .int 1]) (st := [.int l2, .ref v22]) (pc := 41) dX5_speak_41 (E_X5_counted (d := d) e29) rfl (Nat.le_of_ble_eq_true rfl) zc_X5_counted rfl zm_X5_70 zs_X5_counted rfl (zst_ok rfl (Nat.le_of_ble_eq_true rfl)) rfl ?_
    obtain ⟨M30, e31, h⟩ := ob h
    refine y_iast (pc := 44) dX5_speak_44 e31 ?_
    obtain rfl := s1 h
    exact x_vret (pc := 45) dX5_speak_45 rfl
def L_X5_canGo_2 : Nat → Nat → Int32 → Int32 → Int32 → zM → Option ((Int32) ⊕ (Unit))
  | 0, _, _, _, _, _ => none
  | n + 1, l0, l1, l2, l3, M => if 8 ≤ l3 then (some (.inr ())) else (if (l2 >>> (l3 &&& 31)) &&& 1 = 0 then (L_X5_canGo_2 n l0 l1 l2 (l3 + 1) M) else (bif zac M l0 5 9 then ((f_X5_canSay l0 l1 l3 M).bind fun r3 => if r3 = 0 then (some (.inl 0)) else (L_X5_canGo_2 n l0 l1 l2 (l3 + 1) M)) else none))
def f_X5_canGo (l0 : Nat) (l1 : Int32) (l2 : Int32) (M : zM) : Option (Int32) := bif Nat.ble 1 l0 then (bs (L_X5_canGo_2 zN l0 l1 l2 0 M) some (fun _ => if l2 = 0 then (some 0) else (some 1))) else none
theorem LX_X5_canGo_2 {G : zG} {d : Nat} : ∀ (n : Nat) (l0 : Nat) (l1 : Int32) (l2 : Int32) (l3 : Int32) (M : zM) (hl0 : l0 ≠ 0) (e : (Int32) ⊕ (Unit)) {res : Option Value × zM}, L_X5_canGo_2 n l0 l1 l2 l3 M = some e → (∀ r, e = .inl r → res = (some (.int r), M)) → (e = .inr () → Ex G (d + 2) yX5_canGo cX5_canGo 4 (some .boolean) 33 [.null, .null, .int l2, .null] [] M res) → Ex G (d + 2) yX5_canGo cX5_canGo 4 (some .boolean) 2 [.ref l0, .int l1, .int l2, .int l3] [] M res := by
  intro n
  induction n with
  | zero =>
    intro l0 l1 l2 l3 M hl0 e res h K1 K2
    simp [L_X5_canGo_2] at h
  | succ n ih =>
    intro l0 l1 l2 l3 M hl0 e res h K1 K2
    simp only [L_X5_canGo_2] at h
    refine x_iload_n (pc := 2) dX5_canGo_2 rfl rfl ?_
    refine x_bipush (pc := 3) dX5_canGo_3 (v := 8) (by decide) ?_
    refine x_icmp_ge (pc := 5) dX5_canGo_5 (t := 33) rfl (fun c1 => ?_) (fun c1 => ?_)
    · rw [if_pos c1] at h
      obtain rfl := s1 h
      refine ex_weak (Ls2 := [.null, .null, .int l2, .null]) ⟨Or.inl rfl, Or.inl rfl, Or.inr rfl, Or.inl rfl, trivial⟩ ?_
      exact K2  rfl
    · rw [if_neg c1] at h
      refine x_iload_n (pc := 8) dX5_canGo_8 rfl rfl ?_
      refine x_iload_n (pc := 9) dX5_canGo_9 rfl rfl ?_
      refine x_ishr (pc := 10) dX5_canGo_10 ?_
      refine x_iconst (pc := 11) dX5_canGo_11 (v := 1) rfl ?_
      refine x_iand (pc := 12) dX5_canGo_12 ?_
      refine x_if_eq (pc := 13) dX5_canGo_13 (t := 27) rfl (fun c2 => ?_) (fun c2 => ?_)
      · rw [if_pos c2] at h
        refine x_iinc (pc := 27) dX5_canGo_27 rfl rfl (by decide) rfl ?_
        refine x_goto (pc := 30) dX5_canGo_30 (t := 2) rfl ?_
        refine ex_weak (Ls2 := [.ref l0, .int l1, .int l2, .int (l3 + 1)]) ⟨Or.inr rfl, Or.inr rfl, Or.inr rfl, Or.inr rfl, trivial⟩ ?_
        exact ih _ _ _ _ _ hl0 _ h K1 K2
      · rw [if_neg c2] at h
        refine x_aload_n (pc := 16) dX5_canGo_16 rfl rfl hl0 ?_
        refine x_iload_n (pc := 17) dX5_canGo_17 rfl rfl ?_
        refine x_iload_n (pc := 18) dX5_canGo_18 rfl rfl ?_
        obtain ⟨g6, h⟩ := bt h
        obtain ⟨r3, e4, h⟩ := ob h
        refine x_callV (av := [.int l1, .int l3]) (st := []) (pc := 19) dX5_canGo_19 (E_X5_canSay (d := d) e4) rfl (Nat.le_of_ble_eq_true rfl) zc_X5_canSay rfl zm_X5_73 zi_X5_canSay zs_X5_canSay (zac_ok g6) (by decide) rfl rfl (zst_ok rfl (Nat.le_of_ble_eq_true rfl)) rfl ?_
        refine x_if_ne (pc := 22) dX5_canGo_22 (t := 27) rfl (fun c5 => ?_) (fun c5 => ?_)
        · rw [if_neg c5] at h
          refine x_iinc (pc := 27) dX5_canGo_27 rfl rfl (by decide) rfl ?_
          refine x_goto (pc := 30) dX5_canGo_30 (t := 2) rfl ?_
          refine ex_weak (Ls2 := [.ref l0, .int l1, .int l2, .int (l3 + 1)]) ⟨Or.inr rfl, Or.inr rfl, Or.inr rfl, Or.inr rfl, trivial⟩ ?_
          exact ih _ _ _ _ _ hl0 _ h K1 K2
        · rw [if_pos c5] at h
          refine x_iconst (pc := 25) dX5_canGo_25 (v := 0) rfl ?_
          obtain rfl := s1 h
          rw [K1 _ rfl]
          exact x_ret (pc := 26) dX5_canGo_26 (ty := .boolean) rfl rfl
theorem E_X5_canGo {G : zG} {d : Nat} {l0 : Nat} {l1 : Int32} {l2 : Int32} {M : zM} {r : Int32} (h : f_X5_canGo l0 l1 l2 M = some r) : Ex G (d + 2) yX5_canGo cX5_canGo 4 (some .boolean) 0 (zent0 [.ref l0, .int l1, .int l2] 4) [] M (some (.int r), M) := by
  unfold f_X5_canGo at h
  obtain ⟨zz0, h⟩ := bt h
  have hl0 := bz zz0
  show Ex _ _ _ _ _ _ 0 [.ref l0, .int l1, .int l2, .null] [] _ _
  refine x_iconst (pc := 0) dX5_canGo_0 (v := 0) rfl ?_
  refine x_istore_n (pc := 1) dX5_canGo_1 rfl (by decide) rfl ?_
  refine ex_weak (Ls2 := [.ref l0, .int l1, .int l2, .int 0]) ⟨Or.inr rfl, Or.inr rfl, Or.inr rfl, Or.inr rfl, trivial⟩ ?_
  rcases obs h with ⟨r3, e1, h⟩ | ⟨_, e1, h⟩
  · cases h
    exact LX_X5_canGo_2 zN _ _ _ _ _ hl0 _ e1 (fun r q => by cases q; rfl) (by intros; contradiction)
  · refine LX_X5_canGo_2 zN _ _ _ _ _ hl0 _ e1 (fun r q => by cases q) ?_
    intro q
    cases q
    refine x_iload_n (pc := 33) dX5_canGo_33 rfl rfl ?_
    refine x_if_eq (pc := 34) dX5_canGo_34 (t := 41) rfl (fun c2 => ?_) (fun c2 => ?_)
    · rw [if_pos c2] at h
      refine x_iconst (pc := 41) dX5_canGo_41 (v := 0) rfl ?_
      obtain rfl := s1 h
      exact x_ret (pc := 42) dX5_canGo_42 (ty := .boolean) rfl rfl
    · rw [if_neg c2] at h
      refine x_iconst (pc := 37) dX5_canGo_37 (v := 1) rfl ?_
      refine x_goto (pc := 38) dX5_canGo_38 (t := 42) rfl ?_
      obtain rfl := s1 h
      exact x_ret (pc := 42) dX5_canGo_42 (ty := .boolean) rfl rfl
def L_X5_go_2 : Nat → Nat → Int32 → Int32 → Int32 → zM → Option (zM)
  | 0, _, _, _, _, _ => none
  | n + 1, l0, l1, l2, l3, M => if 8 ≤ l3 then (some M) else (if (l2 >>> (l3 &&& 31)) &&& 1 = 0 then (L_X5_go_2 n l0 l1 l2 (l3 + 1) M) else (bif zac M l0 5 9 then ((f_X5_speak l0 l1 l3 M).bind fun M3 => L_X5_go_2 n l0 l1 l2 (l3 + 1) M3) else none))
def f_X5_go (l0 : Nat) (l1 : Int32) (l2 : Int32) (M : zM) : Option (zM) := bif Nat.ble 1 l0 then ((L_X5_go_2 zN l0 l1 l2 0 M).bind fun M2 => some M2) else none
theorem LX_X5_go_2 {G : zG} {d : Nat} : ∀ (n : Nat) (l0 : Nat) (l1 : Int32) (l2 : Int32) (l3 : Int32) (M : zM) (hl0 : l0 ≠ 0) (MX : zM) {res : Option Value × zM}, L_X5_go_2 n l0 l1 l2 l3 M = some MX → Ex G (d + 2) yX5_go cX5_go 4 none 28 [.null, .null, .null, .null] [] MX res → Ex G (d + 2) yX5_go cX5_go 4 none 2 [.ref l0, .int l1, .int l2, .int l3] [] M res := by
  intro n
  induction n with
  | zero =>
    intro l0 l1 l2 l3 M hl0 MX res h K
    simp [L_X5_go_2] at h
  | succ n ih =>
    intro l0 l1 l2 l3 M hl0 MX res h K
    simp only [L_X5_go_2] at h
    refine x_iload_n (pc := 2) dX5_go_2 rfl rfl ?_
    refine x_bipush (pc := 3) dX5_go_3 (v := 8) (by decide) ?_
    refine x_icmp_ge (pc := 5) dX5_go_5 (t := 28) rfl (fun c1 => ?_) (fun c1 => ?_)
    · rw [if_pos c1] at h
      obtain rfl := s1 h
      refine ex_weak (Ls2 := [.null, .null, .null, .null]) ⟨Or.inl rfl, Or.inl rfl, Or.inl rfl, Or.inl rfl, trivial⟩ ?_
      exact K
    · rw [if_neg c1] at h
      refine x_iload_n (pc := 8) dX5_go_8 rfl rfl ?_
      refine x_iload_n (pc := 9) dX5_go_9 rfl rfl ?_
      refine x_ishr (pc := 10) dX5_go_10 ?_
      refine x_iconst (pc := 11) dX5_go_11 (v := 1) rfl ?_
      refine x_iand (pc := 12) dX5_go_12 ?_
      refine x_if_eq (pc := 13) dX5_go_13 (t := 22) rfl (fun c2 => ?_) (fun c2 => ?_)
      · rw [if_pos c2] at h
        refine x_iinc (pc := 22) dX5_go_22 rfl rfl (by decide) rfl ?_
        refine x_goto (pc := 25) dX5_go_25 (t := 2) rfl ?_
        refine ex_weak (Ls2 := [.ref l0, .int l1, .int l2, .int (l3 + 1)]) ⟨Or.inr rfl, Or.inr rfl, Or.inr rfl, Or.inr rfl, trivial⟩ ?_
        exact ih _ _ _ _ _ hl0  _ h K
      · rw [if_neg c2] at h
        refine x_aload_n (pc := 16) dX5_go_16 rfl rfl hl0 ?_
        refine x_iload_n (pc := 17) dX5_go_17 rfl rfl ?_
        refine x_iload_n (pc := 18) dX5_go_18 rfl rfl ?_
        obtain ⟨g5, h⟩ := bt h
        obtain ⟨M3, e4, h⟩ := ob h
        refine x_callV (av := [.int l1, .int l3]) (st := []) (pc := 19) dX5_go_19 (E_X5_speak (d := d) e4) rfl (Nat.le_of_ble_eq_true rfl) zc_X5_speak rfl zm_X5_77 zi_X5_speak zs_X5_speak (zac_ok g5) (by decide) rfl rfl (zst_ok rfl (Nat.le_of_ble_eq_true rfl)) rfl ?_
        refine x_iinc (pc := 22) dX5_go_22 rfl rfl (by decide) rfl ?_
        refine x_goto (pc := 25) dX5_go_25 (t := 2) rfl ?_
        refine ex_weak (Ls2 := [.ref l0, .int l1, .int l2, .int (l3 + 1)]) ⟨Or.inr rfl, Or.inr rfl, Or.inr rfl, Or.inr rfl, trivial⟩ ?_
        exact ih _ _ _ _ _ hl0  _ h K
theorem E_X5_go {G : zG} {d : Nat} {l0 : Nat} {l1 : Int32} {l2 : Int32} {M MR : zM} (h : f_X5_go l0 l1 l2 M = some MR) : Ex G (d + 2) yX5_go cX5_go 4 none 0 (zent0 [.ref l0, .int l1, .int l2] 4) [] M (none, MR) := by
  unfold f_X5_go at h
  obtain ⟨zz0, h⟩ := bt h
  have hl0 := bz zz0
  show Ex _ _ _ _ _ _ 0 [.ref l0, .int l1, .int l2, .null] [] _ _
  refine x_iconst (pc := 0) dX5_go_0 (v := 0) rfl ?_
  refine x_istore_n (pc := 1) dX5_go_1 rfl (by decide) rfl ?_
  obtain ⟨M2, e1, h⟩ := ob h
  refine ex_weak (Ls2 := [.ref l0, .int l1, .int l2, .int 0]) ⟨Or.inr rfl, Or.inr rfl, Or.inr rfl, Or.inr rfl, trivial⟩ ?_
  refine LX_X5_go_2 zN _ _ _ _ _ hl0 _ e1 ?_
  obtain rfl := s1 h
  exact x_vret (pc := 28) dX5_go_28 rfl
def f_X5_gesture (l0 : Nat) (M : zM) : Option (zM) := bif Nat.ble 1 l0 then ((oI M l0 5 9 8).bind fun v1 => (f_X5_counted v1 1 M).bind fun r3 => (pI M l0 5 9 8 r3).bind fun M5 => some M5) else none
theorem E_X5_gesture {G : zG} {d : Nat} {l0 : Nat} {M MR : zM} (h : f_X5_gesture l0 M = some MR) : Ex G (d + 1) yX5_gesture cX5_gesture 1 none 0 (zent0 [.ref l0] 1) [] M (none, MR) := by
  unfold f_X5_gesture at h
  obtain ⟨zz0, h⟩ := bt h
  have hl0 := bz zz0
  show Ex _ _ _ _ _ _ 0 [.ref l0] [] _ _
  refine x_aload_n (pc := 0) dX5_gesture_0 rfl rfl hl0 ?_
  refine x_aload_n (pc := 1) dX5_gesture_1 rfl rfl hl0 ?_
  obtain ⟨v1, e2, h⟩ := ob h
  refine y_getI (pc := 2) dX5_gesture_2 zf_X5_37 e2 (by decide) ?_
  refine x_iconst (pc := 5) dX5_gesture_5 (v := 1) rfl ?_
  obtain ⟨r3, e4, h⟩ := ob h
  refine x_callS (av := [.int v1, .int 1]) (st := [.ref l0]) (pc := 6) dX5_gesture_6 (E_X5_counted (d := d) e4) rfl (Nat.le_of_ble_eq_true rfl) zc_X5_counted rfl zm_X5_70 zs_X5_counted rfl (zst_ok rfl (Nat.le_of_ble_eq_true rfl)) rfl ?_
  obtain ⟨M5, e6, h⟩ := ob h
  refine y_putI (pc := 9) dX5_gesture_9 zf_X5_37 e6 ?_
  obtain rfl := s1 h
  exact x_vret (pc := 12) dX5_gesture_12 rfl
def f_X5_store (l0 : Nat) (l1 : Int32) (l2 : Int32) (l3 : Int32) (M : zM) : Option (zM) := bif Nat.ble 1 l0 then ((oR M l0 5 9 1).bind fun v1 => (aI M v1 l2).bind fun v3 => (sI M v1 l2 (v3 - l3)).bind fun M5 => bif zac M5 l0 5 9 then ((f_X5_addHoarded l0 l1 l2 l3 M5).bind fun M7 => some M7) else none) else none
theorem E_X5_store {G : zG} {d : Nat} {l0 : Nat} {l1 : Int32} {l2 : Int32} {l3 : Int32} {M MR : zM} (h : f_X5_store l0 l1 l2 l3 M = some MR) : Ex G (d + 1) yX5_store cX5_store 4 none 0 (zent0 [.ref l0, .int l1, .int l2, .int l3] 4) [] M (none, MR) := by
  unfold f_X5_store at h
  obtain ⟨zz0, h⟩ := bt h
  have hl0 := bz zz0
  show Ex _ _ _ _ _ _ 0 [.ref l0, .int l1, .int l2, .int l3] [] _ _
  refine x_aload_n (pc := 0) dX5_store_0 rfl rfl hl0 ?_
  obtain ⟨v1, e2, h⟩ := ob h
  refine y_getR (pc := 1) dX5_store_1 zf_X5_15 e2 ?_
  refine x_iload_n (pc := 4) dX5_store_4 rfl rfl ?_
  refine x_dup2 (pc := 5) dX5_store_5 rfl rv_cr ?_
  obtain ⟨v3, e4, h⟩ := ob h
  refine y_iald (pc := 6) dX5_store_6 e4 ?_
  refine x_iload_n (pc := 7) dX5_store_7 rfl rfl ?_
  refine x_isub (pc := 8) dX5_store_8 ?_
  obtain ⟨M5, e6, h⟩ := ob h
  refine y_iast (pc := 9) dX5_store_9 e6 ?_
  refine x_aload_n (pc := 10) dX5_store_10 rfl rfl hl0 ?_
  refine x_iload_n (pc := 11) dX5_store_11 rfl rfl ?_
  refine x_iload_n (pc := 12) dX5_store_12 rfl rfl ?_
  refine x_iload_n (pc := 13) dX5_store_13 rfl rfl ?_
  obtain ⟨g9, h⟩ := bt h
  obtain ⟨M7, e8, h⟩ := ob h
  refine x_callV (av := [.int l1, .int l2, .int l3]) (st := []) (pc := 14) dX5_store_14 (E_X5_addHoarded (d := d) e8) rfl (Nat.le_of_ble_eq_true rfl) zc_X5_addHoarded rfl zm_X5_66 zi_X5_addHoarded zs_X5_addHoarded (zac_ok g9) (by decide) rfl rfl (zst_ok rfl (Nat.le_of_ble_eq_true rfl)) rfl ?_
  obtain rfl := s1 h
  exact x_vret (pc := 17) dX5_store_17 rfl
def L_X5_meets_20 : Nat → Nat → Nat → Int32 → Int32 → Int32 → zM → Option ((Int32 × zM) ⊕ (zM))
  | 0, _, _, _, _, _, _ => none
  | n + 1, l0, l1, l2, l3, l4, M => if 2 ≤ l4 then (some (.inr M)) else (bif zac M l1 7 15 then ((f_X7_wayRound l1 l3 l4 M).bind fun r5 => bif zac M l0 5 9 then ((f_X5_canGo l0 l2 r5 M).bind fun r7 => if r7 = 0 then (L_X5_meets_20 n l0 l1 l2 l3 (l4 + 1) M) else (bif zac M l0 5 9 then ((f_X5_go l0 l2 r5 M).bind fun M10 => some (.inl (1, M10))) else none)) else none) else none)
def f_X5_meets (l0 : Nat) (l1 : Nat) (l2 : Int32) (l3 : Int32) (M : zM) : Option (Int32 × zM) := bif Nat.ble 1 l0 then (bif Nat.ble 1 l1 then (bif zac M l0 5 9 then ((f_X5_canSay l0 l2 l3 M).bind fun r1 => if r1 = 0 then (bs (L_X5_meets_20 zN l0 l1 l2 l3 0 M) some (fun M5 => bif zac M5 l1 7 15 then ((f_X7_canPoint l1 l3 M5).bind fun r6 => if r6 = 0 then (some (0, M5)) else (bif zac M5 l0 5 9 then ((f_X5_gesture l0 M5).bind fun M9 => some (1, M9)) else none)) else none)) else (bif zac M l0 5 9 then ((f_X5_speak l0 l2 l3 M).bind fun M15 => some (1, M15)) else none)) else none) else none) else none
theorem LX_X5_meets_20 {G : zG} {d : Nat} : ∀ (n : Nat) (l0 : Nat) (l1 : Nat) (l2 : Int32) (l3 : Int32) (l4 : Int32) (M : zM) (hl0 : l0 ≠ 0) (hl1 : l1 ≠ 0) (e : (Int32 × zM) ⊕ (zM)) {res : Option Value × zM}, L_X5_meets_20 n l0 l1 l2 l3 l4 M = some e → (∀ r, e = .inl r → res = (some (.int r.1), r.2)) → (∀ (MX : zM), e = .inr MX → Ex G (d + 3) yX5_meets cX5_meets 6 (some .boolean) 60 [.ref l0, .ref l1, .null, .int l3, .null, .null] [] MX res) → Ex G (d + 3) yX5_meets cX5_meets 6 (some .boolean) 20 [.ref l0, .ref l1, .int l2, .int l3, .int l4, .null] [] M res := by
  intro n
  induction n with
  | zero =>
    intro l0 l1 l2 l3 l4 M hl0 hl1 e res h K1 K2
    simp [L_X5_meets_20] at h
  | succ n ih =>
    intro l0 l1 l2 l3 l4 M hl0 hl1 e res h K1 K2
    simp only [L_X5_meets_20] at h
    refine x_iload (pc := 20) dX5_meets_20 rfl ?_
    refine x_iconst (pc := 22) dX5_meets_22 (v := 2) rfl ?_
    refine x_icmp_ge (pc := 23) dX5_meets_23 (t := 60) rfl (fun c4 => ?_) (fun c4 => ?_)
    · rw [if_pos c4] at h
      obtain rfl := s1 h
      refine ex_weak (Ls2 := [.ref l0, .ref l1, .null, .int l3, .null, .null]) ⟨Or.inr rfl, Or.inr rfl, Or.inl rfl, Or.inr rfl, Or.inl rfl, Or.inl rfl, trivial⟩ ?_
      exact K2 _ rfl
    · rw [if_neg c4] at h
      refine x_aload_n (pc := 26) dX5_meets_26 rfl rfl hl1 ?_
      refine x_iload_n (pc := 27) dX5_meets_27 rfl rfl ?_
      refine x_iload (pc := 28) dX5_meets_28 rfl ?_
      obtain ⟨g14, h⟩ := bt h
      obtain ⟨r5, e6, h⟩ := ob h
      refine x_callV (av := [.int l3, .int l4]) (st := []) (pc := 30) dX5_meets_30 (E_X7_wayRound (d := d + 2) e6) rfl (Nat.le_of_ble_eq_true rfl) zc_X7_wayRound rfl zm_X5_107 zi_X7_wayRound zs_X7_wayRound (zac_ok g14) (by decide) rfl rfl (zst_ok rfl (Nat.le_of_ble_eq_true rfl)) rfl ?_
      refine x_istore (pc := 33) dX5_meets_33 (by decide) rfl ?_
      refine x_aload_n (pc := 35) dX5_meets_35 rfl rfl hl0 ?_
      refine x_iload_n (pc := 36) dX5_meets_36 rfl rfl ?_
      refine x_iload (pc := 37) dX5_meets_37 rfl ?_
      obtain ⟨g13, h⟩ := bt h
      obtain ⟨r7, e8, h⟩ := ob h
      refine x_callV (av := [.int l2, .int r5]) (st := []) (pc := 39) dX5_meets_39 (E_X5_canGo (d := d) e8) rfl (Nat.le_of_ble_eq_true rfl) zc_X5_canGo rfl zm_X5_110 zi_X5_canGo zs_X5_canGo (zac_ok g13) (by decide) rfl rfl (zst_ok rfl (Nat.le_of_ble_eq_true rfl)) rfl ?_
      refine x_if_eq (pc := 42) dX5_meets_42 (t := 54) rfl (fun c9 => ?_) (fun c9 => ?_)
      · rw [if_pos c9] at h
        refine x_iinc (pc := 54) dX5_meets_54 rfl rfl (by decide) rfl ?_
        refine x_goto (pc := 57) dX5_meets_57 (t := 20) rfl ?_
        refine ex_weak (Ls2 := [.ref l0, .ref l1, .int l2, .int l3, .int (l4 + 1), .null]) ⟨Or.inr rfl, Or.inr rfl, Or.inr rfl, Or.inr rfl, Or.inr rfl, Or.inl rfl, trivial⟩ ?_
        exact ih _ _ _ _ _ _ hl0 hl1 _ h K1 K2
      · rw [if_neg c9] at h
        refine x_aload_n (pc := 45) dX5_meets_45 rfl rfl hl0 ?_
        refine x_iload_n (pc := 46) dX5_meets_46 rfl rfl ?_
        refine x_iload (pc := 47) dX5_meets_47 rfl ?_
        obtain ⟨g12, h⟩ := bt h
        obtain ⟨M10, e11, h⟩ := ob h
        refine x_callV (av := [.int l2, .int r5]) (st := []) (pc := 49) dX5_meets_49 (E_X5_go (d := d) e11) rfl (Nat.le_of_ble_eq_true rfl) zc_X5_go rfl zm_X5_113 zi_X5_go zs_X5_go (zac_ok g12) (by decide) rfl rfl (zst_ok rfl (Nat.le_of_ble_eq_true rfl)) rfl ?_
        refine x_iconst (pc := 52) dX5_meets_52 (v := 1) rfl ?_
        obtain rfl := s1 h
        rw [K1 _ rfl]
        exact x_ret (pc := 53) dX5_meets_53 (ty := .boolean) rfl rfl
theorem E_X5_meets {G : zG} {d : Nat} {l0 : Nat} {l1 : Nat} {l2 : Int32} {l3 : Int32} {M MR : zM} {r : Int32} (h : f_X5_meets l0 l1 l2 l3 M = some (r, MR)) : Ex G (d + 3) yX5_meets cX5_meets 6 (some .boolean) 0 (zent0 [.ref l0, .ref l1, .int l2, .int l3] 6) [] M (some (.int r), MR) := by
  unfold f_X5_meets at h
  obtain ⟨zz0, h⟩ := bt h
  have hl0 := bz zz0
  obtain ⟨zz1, h⟩ := bt h
  have hl1 := bz zz1
  show Ex _ _ _ _ _ _ 0 [.ref l0, .ref l1, .int l2, .int l3, .null, .null] [] _ _
  refine x_aload_n (pc := 0) dX5_meets_0 rfl rfl hl0 ?_
  refine x_iload_n (pc := 1) dX5_meets_1 rfl rfl ?_
  refine x_iload_n (pc := 2) dX5_meets_2 rfl rfl ?_
  obtain ⟨g18, h⟩ := bt h
  obtain ⟨r1, e2, h⟩ := ob h
  refine x_callV (av := [.int l2, .int l3]) (st := []) (pc := 3) dX5_meets_3 (E_X5_canSay (d := d + 1) e2) rfl (Nat.le_of_ble_eq_true rfl) zc_X5_canSay rfl zm_X5_73 zi_X5_canSay zs_X5_canSay (zac_ok g18) (by decide) rfl rfl (zst_ok rfl (Nat.le_of_ble_eq_true rfl)) rfl ?_
  refine x_if_eq (pc := 6) dX5_meets_6 (t := 17) rfl (fun c3 => ?_) (fun c3 => ?_)
  · rw [if_pos c3] at h
    refine x_iconst (pc := 17) dX5_meets_17 (v := 0) rfl ?_
    refine x_istore (pc := 18) dX5_meets_18 (by decide) rfl ?_
    refine ex_weak (Ls2 := [.ref l0, .ref l1, .int l2, .int l3, .int 0, .null]) ⟨Or.inr rfl, Or.inr rfl, Or.inr rfl, Or.inr rfl, Or.inr rfl, Or.inl rfl, trivial⟩ ?_
    rcases obs h with ⟨r13, e4, h⟩ | ⟨M5, e4, h⟩
    · cases h
      exact LX_X5_meets_20 zN _ _ _ _ _ _ hl0 hl1 _ e4 (fun r q => by cases q; rfl) (by intros; contradiction)
    · refine LX_X5_meets_20 zN _ _ _ _ _ _ hl0 hl1 _ e4 (fun r q => by cases q) ?_
      intro u14 q
      cases q
      refine x_aload_n (pc := 60) dX5_meets_60 rfl rfl hl1 ?_
      refine x_iload_n (pc := 61) dX5_meets_61 rfl rfl ?_
      obtain ⟨g12, h⟩ := bt h
      obtain ⟨r6, e7, h⟩ := ob h
      refine x_callV (av := [.int l3]) (st := []) (pc := 62) dX5_meets_62 (E_X7_canPoint (d := d + 2) e7) rfl (Nat.le_of_ble_eq_true rfl) zc_X7_canPoint rfl zm_X5_116 zi_X7_canPoint zs_X7_canPoint (zac_ok g12) (by decide) rfl rfl (zst_ok rfl (Nat.le_of_ble_eq_true rfl)) rfl ?_
      refine x_if_eq (pc := 65) dX5_meets_65 (t := 74) rfl (fun c8 => ?_) (fun c8 => ?_)
      · rw [if_pos c8] at h
        refine x_iconst (pc := 74) dX5_meets_74 (v := 0) rfl ?_
        obtain ⟨rfl, rfl⟩ := s2 h
        exact x_ret (pc := 75) dX5_meets_75 (ty := .boolean) rfl rfl
      · rw [if_neg c8] at h
        refine x_aload_n (pc := 68) dX5_meets_68 rfl rfl hl0 ?_
        obtain ⟨g11, h⟩ := bt h
        obtain ⟨M9, e10, h⟩ := ob h
        refine x_callV (av := []) (st := []) (pc := 69) dX5_meets_69 (E_X5_gesture (d := d + 1) e10) rfl (Nat.le_of_ble_eq_true rfl) zc_X5_gesture rfl zm_X5_120 zi_X5_gesture zs_X5_gesture (zac_ok g11) (by decide) rfl rfl (zst_ok rfl (Nat.le_of_ble_eq_true rfl)) rfl ?_
        refine x_iconst (pc := 72) dX5_meets_72 (v := 1) rfl ?_
        obtain ⟨rfl, rfl⟩ := s2 h
        exact x_ret (pc := 73) dX5_meets_73 (ty := .boolean) rfl rfl
  · rw [if_neg c3] at h
    refine x_aload_n (pc := 9) dX5_meets_9 rfl rfl hl0 ?_
    refine x_iload_n (pc := 10) dX5_meets_10 rfl rfl ?_
    refine x_iload_n (pc := 11) dX5_meets_11 rfl rfl ?_
    obtain ⟨g17, h⟩ := bt h
    obtain ⟨M15, e16, h⟩ := ob h
    refine x_callV (av := [.int l2, .int l3]) (st := []) (pc := 12) dX5_meets_12 (E_X5_speak (d := d + 1) e16) rfl (Nat.le_of_ble_eq_true rfl) zc_X5_speak rfl zm_X5_77 zi_X5_speak zs_X5_speak (zac_ok g17) (by decide) rfl rfl (zst_ok rfl (Nat.le_of_ble_eq_true rfl)) rfl ?_
    refine x_iconst (pc := 15) dX5_meets_15 (v := 1) rfl ?_
    obtain ⟨rfl, rfl⟩ := s2 h
    exact x_ret (pc := 16) dX5_meets_16 (ty := .boolean) rfl rfl
def f_X5_meetOrLose (l0 : Nat) (l1 : Nat) (l2 : Int32) (M : zM) : Option (zM) := bif Nat.ble 1 l0 then (bif Nat.ble 1 l1 then ((oR M l1 7 15 11).bind fun v1 => (aI M v1 l2).bind fun v3 => (oR M l1 7 15 12).bind fun v5 => (aI M v5 l2).bind fun v7 => bif zac M l0 5 9 then (b2 (f_X5_meets l0 l1 v3 v7 M) fun r9 M10 => if r9 = 0 then ((oI M10 l0 5 9 6).bind fun v13 => (f_X5_counted v13 1 M10).bind fun r15 => (pI M10 l0 5 9 6 r15).bind fun M17 => (oI M17 l0 5 9 7).bind fun v19 => (oR M17 l1 7 15 14).bind fun v21 => (aI M17 v21 l2).bind fun v23 => (f_X5_counted v19 v23 M17).bind fun r25 => (pI M17 l0 5 9 7 r25).bind fun M27 => some M27) else ((oI M10 l0 5 9 5).bind fun v29 => (f_X5_counted v29 1 M10).bind fun r31 => (pI M10 l0 5 9 5 r31).bind fun M33 => some M33)) else none) else none) else none
theorem E_X5_meetOrLose {G : zG} {d : Nat} {l0 : Nat} {l1 : Nat} {l2 : Int32} {M MR : zM} (h : f_X5_meetOrLose l0 l1 l2 M = some MR) : Ex G (d + 4) yX5_meetOrLose cX5_meetOrLose 3 none 0 (zent0 [.ref l0, .ref l1, .int l2] 3) [] M (none, MR) := by
  unfold f_X5_meetOrLose at h
  obtain ⟨zz0, h⟩ := bt h
  have hl0 := bz zz0
  obtain ⟨zz1, h⟩ := bt h
  have hl1 := bz zz1
  show Ex _ _ _ _ _ _ 0 [.ref l0, .ref l1, .int l2] [] _ _
  refine x_aload_n (pc := 0) dX5_meetOrLose_0 rfl rfl hl0 ?_
  refine x_aload_n (pc := 1) dX5_meetOrLose_1 rfl rfl hl1 ?_
  refine x_aload_n (pc := 2) dX5_meetOrLose_2 rfl rfl hl1 ?_
  obtain ⟨v1, e2, h⟩ := ob h
  refine y_getR (pc := 3) dX5_meetOrLose_3 zf_X5_94 e2 ?_
  refine x_iload_n (pc := 6) dX5_meetOrLose_6 rfl rfl ?_
  obtain ⟨v3, e4, h⟩ := ob h
  refine y_iald (pc := 7) dX5_meetOrLose_7 e4 ?_
  refine x_aload_n (pc := 8) dX5_meetOrLose_8 rfl rfl hl1 ?_
  obtain ⟨v5, e6, h⟩ := ob h
  refine y_getR (pc := 9) dX5_meetOrLose_9 zf_X5_97 e6 ?_
  refine x_iload_n (pc := 12) dX5_meetOrLose_12 rfl rfl ?_
  obtain ⟨v7, e8, h⟩ := ob h
  refine y_iald (pc := 13) dX5_meetOrLose_13 e8 ?_
  obtain ⟨g35, h⟩ := bt h
  obtain ⟨r9, M10, e11, h⟩ := ob2 h
  refine x_callV (av := [.ref l1, .int v3, .int v7]) (st := []) (pc := 14) dX5_meetOrLose_14 (E_X5_meets (d := d) e11) rfl (Nat.le_of_ble_eq_true rfl) zc_X5_meets rfl zm_X5_100 zi_X5_meets zs_X5_meets (zac_ok g35) (by decide) rfl rfl (zst_ok rfl (Nat.le_of_ble_eq_true rfl)) rfl ?_
  refine x_if_eq (pc := 17) dX5_meetOrLose_17 (t := 35) rfl (fun c12 => ?_) (fun c12 => ?_)
  · rw [if_pos c12] at h
    refine x_aload_n (pc := 35) dX5_meetOrLose_35 rfl rfl hl0 ?_
    refine x_aload_n (pc := 36) dX5_meetOrLose_36 rfl rfl hl0 ?_
    obtain ⟨v13, e14, h⟩ := ob h
    refine y_getI (pc := 37) dX5_meetOrLose_37 zf_X5_31 e14 (by decide) ?_
    refine x_iconst (pc := 40) dX5_meetOrLose_40 (v := 1) rfl ?_
    obtain ⟨r15, e16, h⟩ := ob h
    refine x_callS (av := [.int v13, .int 1]) (st := [.ref l0]) (pc := 41) dX5_meetOrLose_41 (E_X5_counted (d := d + 3) e16) rfl (Nat.le_of_ble_eq_true rfl) zc_X5_counted rfl zm_X5_70 zs_X5_counted rfl (zst_ok rfl (Nat.le_of_ble_eq_true rfl)) rfl ?_
    obtain ⟨M17, e18, h⟩ := ob h
    refine y_putI (pc := 44) dX5_meetOrLose_44 zf_X5_31 e18 ?_
    refine x_aload_n (pc := 47) dX5_meetOrLose_47 rfl rfl hl0 ?_
    refine x_aload_n (pc := 48) dX5_meetOrLose_48 rfl rfl hl0 ?_
    obtain ⟨v19, e20, h⟩ := ob h
    refine y_getI (pc := 49) dX5_meetOrLose_49 zf_X5_34 e20 (by decide) ?_
    refine x_aload_n (pc := 52) dX5_meetOrLose_52 rfl rfl hl1 ?_
    obtain ⟨v21, e22, h⟩ := ob h
    refine y_getR (pc := 53) dX5_meetOrLose_53 zf_X5_104 e22 ?_
    refine x_iload_n (pc := 56) dX5_meetOrLose_56 rfl rfl ?_
    obtain ⟨v23, e24, h⟩ := ob h
    refine y_iald (pc := 57) dX5_meetOrLose_57 e24 ?_
    obtain ⟨r25, e26, h⟩ := ob h
    refine x_callS (av := [.int v19, .int v23]) (st := [.ref l0]) (pc := 58) dX5_meetOrLose_58 (E_X5_counted (d := d + 3) e26) rfl (Nat.le_of_ble_eq_true rfl) zc_X5_counted rfl zm_X5_70 zs_X5_counted rfl (zst_ok rfl (Nat.le_of_ble_eq_true rfl)) rfl ?_
    obtain ⟨M27, e28, h⟩ := ob h
    refine y_putI (pc := 61) dX5_meetOrLose_61 zf_X5_34 e28 ?_
    obtain rfl := s1 h
    exact x_vret (pc := 64) dX5_meetOrLose_64 rfl
  · rw [if_neg c12] at h
    refine x_aload_n (pc := 20) dX5_meetOrLose_20 rfl rfl hl0 ?_
    refine x_aload_n (pc := 21) dX5_meetOrLose_21 rfl rfl hl0 ?_
    obtain ⟨v29, e30, h⟩ := ob h
    refine y_getI (pc := 22) dX5_meetOrLose_22 zf_X5_28 e30 (by decide) ?_
    refine x_iconst (pc := 25) dX5_meetOrLose_25 (v := 1) rfl ?_
    obtain ⟨r31, e32, h⟩ := ob h
    refine x_callS (av := [.int v29, .int 1]) (st := [.ref l0]) (pc := 26) dX5_meetOrLose_26 (E_X5_counted (d := d + 3) e32) rfl (Nat.le_of_ble_eq_true rfl) zc_X5_counted rfl zm_X5_70 zs_X5_counted rfl (zst_ok rfl (Nat.le_of_ble_eq_true rfl)) rfl ?_
    obtain ⟨M33, e34, h⟩ := ob h
    refine y_putI (pc := 29) dX5_meetOrLose_29 zf_X5_28 e34 ?_
    refine x_goto (pc := 32) dX5_meetOrLose_32 (t := 64) rfl ?_
    obtain rfl := s1 h
    exact x_vret (pc := 64) dX5_meetOrLose_64 rfl
def L_X5_passDay_11 : Nat → Nat → Nat → Int32 → Int32 → zM → Option (zM)
  | 0, _, _, _, _, _ => none
  | n + 1, l0, l1, l2, l3, M => (oI M l1 7 15 4).bind fun v5 => if v5 ≤ l3 then (some M) else ((oR M l1 7 15 13).bind fun v8 => (aI M v8 l3).bind fun v10 => if v10 = l2 then (bif zac M l0 5 9 then ((f_X5_meetOrLose l0 l1 l3 M).bind fun M13 => L_X5_passDay_11 n l0 l1 l2 (l3 + 1) M13) else none) else (L_X5_passDay_11 n l0 l1 l2 (l3 + 1) M))
def f_X5_passDay (l0 : Nat) (l1 : Nat) (M : zM) : Option (zM) := bif Nat.ble 1 l0 then (bif Nat.ble 1 l1 then ((oI M l0 5 9 4).bind fun v1 => bif zac M l1 7 15 then ((f_X7_dayOfYear l1 v1 M).bind fun r3 => (L_X5_passDay_11 zN l0 l1 r3 0 M).bind fun M6 => (oI M6 l0 5 9 4).bind fun v7 => (pI M6 l0 5 9 4 (v7 + 1)).bind fun M9 => (oI M9 l0 5 9 4).bind fun v11 => bif zac M9 l1 7 15 then ((f_X7_dayOfYear l1 v11 M9).bind fun r13 => if r13 = 0 then (bif zac M9 l0 5 9 then ((f_X5_beginYear l0 M9).bind fun M16 => some M16) else none) else (some M9)) else none) else none) else none) else none
theorem LX_X5_passDay_11 {G : zG} {d : Nat} : ∀ (n : Nat) (l0 : Nat) (l1 : Nat) (l2 : Int32) (l3 : Int32) (M : zM) (hl0 : l0 ≠ 0) (hl1 : l1 ≠ 0) (MX : zM) {res : Option Value × zM}, L_X5_passDay_11 n l0 l1 l2 l3 M = some MX → Ex G (d + 5) yX5_passDay cX5_passDay 4 none 41 [.ref l0, .ref l1, .null, .null] [] MX res → Ex G (d + 5) yX5_passDay cX5_passDay 4 none 11 [.ref l0, .ref l1, .int l2, .int l3] [] M res := by
  intro n
  induction n with
  | zero =>
    intro l0 l1 l2 l3 M hl0 hl1 MX res h K
    simp [L_X5_passDay_11] at h
  | succ n ih =>
    intro l0 l1 l2 l3 M hl0 hl1 MX res h K
    simp only [L_X5_passDay_11] at h
    refine x_iload_n (pc := 11) dX5_passDay_11 rfl rfl ?_
    refine x_aload_n (pc := 12) dX5_passDay_12 rfl rfl hl1 ?_
    obtain ⟨v5, e6, h⟩ := ob h
    refine y_getI (pc := 13) dX5_passDay_13 zf_X5_84 e6 (by decide) ?_
    refine x_icmp_ge (pc := 16) dX5_passDay_16 (t := 41) rfl (fun c7 => ?_) (fun c7 => ?_)
    · rw [if_pos c7] at h
      obtain rfl := s1 h
      refine ex_weak (Ls2 := [.ref l0, .ref l1, .null, .null]) ⟨Or.inr rfl, Or.inr rfl, Or.inl rfl, Or.inl rfl, trivial⟩ ?_
      exact K
    · rw [if_neg c7] at h
      refine x_aload_n (pc := 19) dX5_passDay_19 rfl rfl hl1 ?_
      obtain ⟨v8, e9, h⟩ := ob h
      refine y_getR (pc := 20) dX5_passDay_20 zf_X5_87 e9 ?_
      refine x_iload_n (pc := 23) dX5_passDay_23 rfl rfl ?_
      obtain ⟨v10, e11, h⟩ := ob h
      refine y_iald (pc := 24) dX5_passDay_24 e11 ?_
      refine x_iload_n (pc := 25) dX5_passDay_25 rfl rfl ?_
      refine x_icmp_ne (pc := 26) dX5_passDay_26 (t := 35) rfl (fun c12 => ?_) (fun c12 => ?_)
      · rw [if_neg c12] at h
        refine x_iinc (pc := 35) dX5_passDay_35 rfl rfl (by decide) rfl ?_
        refine x_goto (pc := 38) dX5_passDay_38 (t := 11) rfl ?_
        refine ex_weak (Ls2 := [.ref l0, .ref l1, .int l2, .int (l3 + 1)]) ⟨Or.inr rfl, Or.inr rfl, Or.inr rfl, Or.inr rfl, trivial⟩ ?_
        exact ih _ _ _ _ _ hl0 hl1  _ h K
      · rw [if_pos c12] at h
        refine x_aload_n (pc := 29) dX5_passDay_29 rfl rfl hl0 ?_
        refine x_aload_n (pc := 30) dX5_passDay_30 rfl rfl hl1 ?_
        refine x_iload_n (pc := 31) dX5_passDay_31 rfl rfl ?_
        obtain ⟨g15, h⟩ := bt h
        obtain ⟨M13, e14, h⟩ := ob h
        refine x_callV (av := [.ref l1, .int l3]) (st := []) (pc := 32) dX5_passDay_32 (E_X5_meetOrLose (d := d) e14) rfl (Nat.le_of_ble_eq_true rfl) zc_X5_meetOrLose rfl zm_X5_90 zi_X5_meetOrLose zs_X5_meetOrLose (zac_ok g15) (by decide) rfl rfl (zst_ok rfl (Nat.le_of_ble_eq_true rfl)) rfl ?_
        refine x_iinc (pc := 35) dX5_passDay_35 rfl rfl (by decide) rfl ?_
        refine x_goto (pc := 38) dX5_passDay_38 (t := 11) rfl ?_
        refine ex_weak (Ls2 := [.ref l0, .ref l1, .int l2, .int (l3 + 1)]) ⟨Or.inr rfl, Or.inr rfl, Or.inr rfl, Or.inr rfl, trivial⟩ ?_
        exact ih _ _ _ _ _ hl0 hl1  _ h K
theorem E_X5_passDay {G : zG} {d : Nat} {l0 : Nat} {l1 : Nat} {M MR : zM} (h : f_X5_passDay l0 l1 M = some MR) : Ex G (d + 5) yX5_passDay cX5_passDay 4 none 0 (zent0 [.ref l0, .ref l1] 4) [] M (none, MR) := by
  unfold f_X5_passDay at h
  obtain ⟨zz0, h⟩ := bt h
  have hl0 := bz zz0
  obtain ⟨zz1, h⟩ := bt h
  have hl1 := bz zz1
  show Ex _ _ _ _ _ _ 0 [.ref l0, .ref l1, .null, .null] [] _ _
  refine x_aload_n (pc := 0) dX5_passDay_0 rfl rfl hl1 ?_
  refine x_aload_n (pc := 1) dX5_passDay_1 rfl rfl hl0 ?_
  obtain ⟨v1, e2, h⟩ := ob h
  refine y_getI (pc := 2) dX5_passDay_2 zf_X5_24 e2 (by decide) ?_
  obtain ⟨g20, h⟩ := bt h
  obtain ⟨r3, e4, h⟩ := ob h
  refine x_callV (av := [.int v1]) (st := []) (pc := 5) dX5_passDay_5 (E_X7_dayOfYear (d := d + 4) e4) rfl (Nat.le_of_ble_eq_true rfl) zc_X7_dayOfYear rfl zm_X5_81 zi_X7_dayOfYear zs_X7_dayOfYear (zac_ok g20) (by decide) rfl rfl (zst_ok rfl (Nat.le_of_ble_eq_true rfl)) rfl ?_
  refine x_istore_n (pc := 8) dX5_passDay_8 rfl (by decide) rfl ?_
  refine x_iconst (pc := 9) dX5_passDay_9 (v := 0) rfl ?_
  refine x_istore_n (pc := 10) dX5_passDay_10 rfl (by decide) rfl ?_
  obtain ⟨M6, e5, h⟩ := ob h
  refine ex_weak (Ls2 := [.ref l0, .ref l1, .int r3, .int 0]) ⟨Or.inr rfl, Or.inr rfl, Or.inr rfl, Or.inr rfl, trivial⟩ ?_
  refine LX_X5_passDay_11 zN _ _ _ _ _ hl0 hl1 _ e5 ?_
  refine x_aload_n (pc := 41) dX5_passDay_41 rfl rfl hl0 ?_
  refine x_dup (pc := 42) dX5_passDay_42 rv_cr ?_
  obtain ⟨v7, e8, h⟩ := ob h
  refine y_getI (pc := 43) dX5_passDay_43 zf_X5_24 e8 (by decide) ?_
  refine x_iconst (pc := 46) dX5_passDay_46 (v := 1) rfl ?_
  refine x_iadd (pc := 47) dX5_passDay_47 ?_
  obtain ⟨M9, e10, h⟩ := ob h
  refine y_putI (pc := 48) dX5_passDay_48 zf_X5_24 e10 ?_
  refine x_aload_n (pc := 51) dX5_passDay_51 rfl rfl hl1 ?_
  refine x_aload_n (pc := 52) dX5_passDay_52 rfl rfl hl0 ?_
  obtain ⟨v11, e12, h⟩ := ob h
  refine y_getI (pc := 53) dX5_passDay_53 zf_X5_24 e12 (by decide) ?_
  obtain ⟨g19, h⟩ := bt h
  obtain ⟨r13, e14, h⟩ := ob h
  refine x_callV (av := [.int v11]) (st := []) (pc := 56) dX5_passDay_56 (E_X7_dayOfYear (d := d + 4) e14) rfl (Nat.le_of_ble_eq_true rfl) zc_X7_dayOfYear rfl zm_X5_81 zi_X7_dayOfYear zs_X7_dayOfYear (zac_ok g19) (by decide) rfl rfl (zst_ok rfl (Nat.le_of_ble_eq_true rfl)) rfl ?_
  refine x_if_ne (pc := 59) dX5_passDay_59 (t := 66) rfl (fun c15 => ?_) (fun c15 => ?_)
  · rw [if_neg c15] at h
    obtain rfl := s1 h
    exact x_vret (pc := 66) dX5_passDay_66 rfl
  · rw [if_pos c15] at h
    refine x_aload_n (pc := 62) dX5_passDay_62 rfl rfl hl0 ?_
    obtain ⟨g18, h⟩ := bt h
    obtain ⟨M16, e17, h⟩ := ob h
    refine x_callV (av := []) (st := []) (pc := 63) dX5_passDay_63 (E_X5_beginYear (d := d + 4) e17) rfl (Nat.le_of_ble_eq_true rfl) zc_X5_beginYear rfl zm_X5_46 zi_X5_beginYear zs_X5_beginYear (zac_ok g18) (by decide) rfl rfl (zst_ok rfl (Nat.le_of_ble_eq_true rfl)) rfl ?_
    obtain rfl := s1 h
    exact x_vret (pc := 66) dX5_passDay_66 rfl
def f_X6_init (l0 : Nat) (M : zM) : Option (zM) := bif Nat.ble 1 l0 then ((mk M 10 240).bind fun M1 => (pR M1 l0 6 6 0 (M.1 + 1)).bind fun M3 => (pI M3 l0 6 6 3 (-1)).bind fun M5 => some M5) else none
theorem E_X6_init {G : zG} {d : Nat} {l0 : Nat} {M MR : zM} (h : f_X6_init l0 M = some MR) : Ex G d yX6_init cX6_init 1 none 0 (zent0 [.ref l0] 1) [] M (none, MR) := by
  unfold f_X6_init at h
  obtain ⟨zz0, h⟩ := bt h
  have hl0 := bz zz0
  show Ex _ _ _ _ _ _ 0 [.ref l0] [] _ _
  refine x_aload_n (pc := 0) dX6_init_0 rfl rfl hl0 ?_
  refine y_oinit (pc := 1) dX6_init_1 zm_X6_3 hl0 ?_
  refine x_aload_n (pc := 4) dX6_init_4 rfl rfl hl0 ?_
  refine x_sipush (pc := 5) dX6_init_5 (v := 240) (by decide) ?_
  obtain ⟨M1, e2, h⟩ := ob h
  refine y_newa (pc := 8) dX6_init_8 (N := 240) (by decide) (by decide) (by decide) e2 ?_
  obtain ⟨M3, e4, h⟩ := ob h
  refine y_putF (pc := 10) dX6_init_10 zf_X6_9 rfl (by intro C T n q; cases q; rfl) e4 ?_
  refine x_aload_n (pc := 13) dX6_init_13 rfl rfl hl0 ?_
  refine x_iconst (pc := 14) dX6_init_14 (v := (-1)) rfl ?_
  obtain ⟨M5, e6, h⟩ := ob h
  refine y_putI (pc := 15) dX6_init_15 zf_X6_15 e6 ?_
  obtain rfl := s1 h
  exact x_vret (pc := 18) dX6_init_18 rfl
def f_X6_isFull (l0 : Nat) (M : zM) : Option (Int32) := bif Nat.ble 1 l0 then ((oI M l0 6 6 1).bind fun v1 => if v1 < 240 then (some 0) else (some 1)) else none
theorem E_X6_isFull {G : zG} {d : Nat} {l0 : Nat} {M : zM} {r : Int32} (h : f_X6_isFull l0 M = some r) : Ex G d yX6_isFull cX6_isFull 1 (some .boolean) 0 (zent0 [.ref l0] 1) [] M (some (.int r), M) := by
  unfold f_X6_isFull at h
  obtain ⟨zz0, h⟩ := bt h
  have hl0 := bz zz0
  show Ex _ _ _ _ _ _ 0 [.ref l0] [] _ _
  refine x_aload_n (pc := 0) dX6_isFull_0 rfl rfl hl0 ?_
  obtain ⟨v1, e2, h⟩ := ob h
  refine y_getI (pc := 1) dX6_isFull_1 zf_X6_19 e2 (by decide) ?_
  refine x_sipush (pc := 4) dX6_isFull_4 (v := 240) (by decide) ?_
  refine x_icmp_lt (pc := 7) dX6_isFull_7 (t := 14) rfl (fun c3 => ?_) (fun c3 => ?_)
  · rw [if_pos c3] at h
    refine x_iconst (pc := 14) dX6_isFull_14 (v := 0) rfl ?_
    obtain rfl := s1 h
    exact x_ret (pc := 15) dX6_isFull_15 (ty := .boolean) rfl rfl
  · rw [if_neg c3] at h
    refine x_iconst (pc := 10) dX6_isFull_10 (v := 1) rfl ?_
    refine x_goto (pc := 11) dX6_isFull_11 (t := 15) rfl ?_
    obtain rfl := s1 h
    exact x_ret (pc := 15) dX6_isFull_15 (ty := .boolean) rfl rfl
def f_X6_add (l0 : Nat) (l1 : Int32) (M : zM) : Option (zM) := bif Nat.ble 1 l0 then ((oI M l0 6 6 1).bind fun v1 => if 240 ≤ v1 then (some M) else ((oR M l0 6 6 0).bind fun v4 => (oI M l0 6 6 1).bind fun v6 => (sI M v4 v6 l1).bind fun M8 => (oI M8 l0 6 6 1).bind fun v10 => (pI M8 l0 6 6 1 (v10 + 1)).bind fun M12 => some M12)) else none
theorem E_X6_add {G : zG} {d : Nat} {l0 : Nat} {l1 : Int32} {M MR : zM} (h : f_X6_add l0 l1 M = some MR) : Ex G d yX6_add cX6_add 2 none 0 (zent0 [.ref l0, .int l1] 2) [] M (none, MR) := by
  unfold f_X6_add at h
  obtain ⟨zz0, h⟩ := bt h
  have hl0 := bz zz0
  show Ex _ _ _ _ _ _ 0 [.ref l0, .int l1] [] _ _
  refine x_aload_n (pc := 0) dX6_add_0 rfl rfl hl0 ?_
  obtain ⟨v1, e2, h⟩ := ob h
  refine y_getI (pc := 1) dX6_add_1 zf_X6_19 e2 (by decide) ?_
  refine x_sipush (pc := 4) dX6_add_4 (v := 240) (by decide) ?_
  refine x_icmp_ge (pc := 7) dX6_add_7 (t := 30) rfl (fun c3 => ?_) (fun c3 => ?_)
  · rw [if_pos c3] at h
    obtain rfl := s1 h
    exact x_vret (pc := 30) dX6_add_30 rfl
  · rw [if_neg c3] at h
    refine x_aload_n (pc := 10) dX6_add_10 rfl rfl hl0 ?_
    obtain ⟨v4, e5, h⟩ := ob h
    refine y_getR (pc := 11) dX6_add_11 zf_X6_9 e5 ?_
    refine x_aload_n (pc := 14) dX6_add_14 rfl rfl hl0 ?_
    obtain ⟨v6, e7, h⟩ := ob h
    refine y_getI (pc := 15) dX6_add_15 zf_X6_19 e7 (by decide) ?_
    refine x_iload_n (pc := 18) dX6_add_18 rfl rfl ?_
    obtain ⟨M8, e9, h⟩ := ob h
    refine y_iast (pc := 19) dX6_add_19 e9 ?_
    refine x_aload_n (pc := 20) dX6_add_20 rfl rfl hl0 ?_
    refine x_dup (pc := 21) dX6_add_21 rv_cr ?_
    obtain ⟨v10, e11, h⟩ := ob h
    refine y_getI (pc := 22) dX6_add_22 zf_X6_19 e11 (by decide) ?_
    refine x_iconst (pc := 25) dX6_add_25 (v := 1) rfl ?_
    refine x_iadd (pc := 26) dX6_add_26 ?_
    obtain ⟨M12, e13, h⟩ := ob h
    refine y_putI (pc := 27) dX6_add_27 zf_X6_19 e13 ?_
    obtain rfl := s1 h
    exact x_vret (pc := 30) dX6_add_30 rfl
def f_X6_empty (l0 : Nat) (M : zM) : Option (zM) := bif Nat.ble 1 l0 then ((pI M l0 6 6 1 0).bind fun M1 => some M1) else none
theorem E_X6_empty {G : zG} {d : Nat} {l0 : Nat} {M MR : zM} (h : f_X6_empty l0 M = some MR) : Ex G d yX6_empty cX6_empty 1 none 0 (zent0 [.ref l0] 1) [] M (none, MR) := by
  unfold f_X6_empty at h
  obtain ⟨zz0, h⟩ := bt h
  have hl0 := bz zz0
  show Ex _ _ _ _ _ _ 0 [.ref l0] [] _ _
  refine x_aload_n (pc := 0) dX6_empty_0 rfl rfl hl0 ?_
  refine x_iconst (pc := 1) dX6_empty_1 (v := 0) rfl ?_
  obtain ⟨M1, e2, h⟩ := ob h
  refine y_putI (pc := 2) dX6_empty_2 zf_X6_19 e2 ?_
  obtain rfl := s1 h
  exact x_vret (pc := 5) dX6_empty_5 rfl
def f_X6_blame (l0 : Nat) (l1 : Int32) (l2 : Int32) (M : zM) : Option (zM) := bif Nat.ble 1 l0 then ((oI M l0 6 6 2).bind fun v1 => if v1 = 0 then ((pI M l0 6 6 2 l2).bind fun M4 => (pI M4 l0 6 6 3 l1).bind fun M6 => some M6) else (some M)) else none
theorem E_X6_blame {G : zG} {d : Nat} {l0 : Nat} {l1 : Int32} {l2 : Int32} {M MR : zM} (h : f_X6_blame l0 l1 l2 M = some MR) : Ex G d yX6_blame cX6_blame 3 none 0 (zent0 [.ref l0, .int l1, .int l2] 3) [] M (none, MR) := by
  unfold f_X6_blame at h
  obtain ⟨zz0, h⟩ := bt h
  have hl0 := bz zz0
  show Ex _ _ _ _ _ _ 0 [.ref l0, .int l1, .int l2] [] _ _
  refine x_aload_n (pc := 0) dX6_blame_0 rfl rfl hl0 ?_
  obtain ⟨v1, e2, h⟩ := ob h
  refine y_getI (pc := 1) dX6_blame_1 zf_X6_27 e2 (by decide) ?_
  refine x_if_ne (pc := 4) dX6_blame_4 (t := 17) rfl (fun c3 => ?_) (fun c3 => ?_)
  · rw [if_neg c3] at h
    obtain rfl := s1 h
    exact x_vret (pc := 17) dX6_blame_17 rfl
  · rw [if_pos c3] at h
    refine x_aload_n (pc := 7) dX6_blame_7 rfl rfl hl0 ?_
    refine x_iload_n (pc := 8) dX6_blame_8 rfl rfl ?_
    obtain ⟨M4, e5, h⟩ := ob h
    refine y_putI (pc := 9) dX6_blame_9 zf_X6_27 e5 ?_
    refine x_aload_n (pc := 12) dX6_blame_12 rfl rfl hl0 ?_
    refine x_iload_n (pc := 13) dX6_blame_13 rfl rfl ?_
    obtain ⟨M6, e7, h⟩ := ob h
    refine y_putI (pc := 14) dX6_blame_14 zf_X6_15 e7 ?_
    obtain rfl := s1 h
    exact x_vret (pc := 17) dX6_blame_17 rfl
def f_X6_faultOfName (l0 : Nat) (l1 : Nat) (l2 : Int32) (M : zM) : Option (Int32) := bif Nat.ble 1 l0 then (bif Nat.ble 1 l1 then (if l2 = 121 then ((oI M l1 7 15 0).bind fun v2 => if v2 = 0 then (some 0) else (some 3)) else ((oI M l1 7 15 0).bind fun v5 => if v5 = 0 then (some 1) else (if l2 = 97 then ((oI M l1 7 15 2).bind fun v9 => if 10 ≤ v9 then (some 3) else (some 0)) else (if l2 = 110 then ((oI M l1 7 15 4).bind fun v13 => if 8 ≤ v13 then (some 3) else (some 0)) else (if l2 = 111 then (some 0) else (if l2 = 112 then ((oI M l1 7 15 3).bind fun v18 => if 5 ≤ v18 then (some 3) else (some 0)) else (if l2 = 119 then ((oI M l1 7 15 1).bind fun v22 => if 8 ≤ v22 then (some 3) else (some 0)) else (some 1)))))))) else none) else none
theorem E_X6_faultOfName {G : zG} {d : Nat} {l0 : Nat} {l1 : Nat} {l2 : Int32} {M : zM} {r : Int32} (h : f_X6_faultOfName l0 l1 l2 M = some r) : Ex G d yX6_faultOfName cX6_faultOfName 3 (some .int) 0 (zent0 [.ref l0, .ref l1, .int l2] 3) [] M (some (.int r), M) := by
  unfold f_X6_faultOfName at h
  obtain ⟨zz0, h⟩ := bt h
  have hl0 := bz zz0
  obtain ⟨zz1, h⟩ := bt h
  have hl1 := bz zz1
  show Ex _ _ _ _ _ _ 0 [.ref l0, .ref l1, .int l2] [] _ _
  refine x_iload_n (pc := 0) dX6_faultOfName_0 rfl rfl ?_
  refine x_bipush (pc := 1) dX6_faultOfName_1 (v := 121) (by decide) ?_
  refine x_icmp_ne (pc := 3) dX6_faultOfName_3 (t := 19) rfl (fun c1 => ?_) (fun c1 => ?_)
  · rw [if_neg c1] at h
    refine x_aload_n (pc := 19) dX6_faultOfName_19 rfl rfl hl1 ?_
    obtain ⟨v5, e6, h⟩ := ob h
    refine y_getI (pc := 20) dX6_faultOfName_20 zf_X6_56 e6 (by decide) ?_
    refine x_if_ne (pc := 23) dX6_faultOfName_23 (t := 28) rfl (fun c7 => ?_) (fun c7 => ?_)
    · rw [if_neg c7] at h
      refine x_iload_n (pc := 28) dX6_faultOfName_28 rfl rfl ?_
      by_cases c8 : l2 = 97
      · rw [if_pos c8] at h
        refine y_lookup (pc := 29) dX6_faultOfName_29 c8 (q := 97) (by decide) (off := 66) (by decide) (t := 95) rfl ?_
        refine x_aload_n (pc := 95) dX6_faultOfName_95 rfl rfl hl1 ?_
        obtain ⟨v9, e10, h⟩ := ob h
        refine y_getI (pc := 96) dX6_faultOfName_96 zf_X6_78 e10 (by decide) ?_
        refine x_bipush (pc := 99) dX6_faultOfName_99 (v := 10) (by decide) ?_
        refine x_icmp_ge (pc := 101) dX6_faultOfName_101 (t := 108) rfl (fun c11 => ?_) (fun c11 => ?_)
        · rw [if_pos c11] at h
          refine x_iconst (pc := 108) dX6_faultOfName_108 (v := 3) rfl ?_
          obtain rfl := s1 h
          exact y_retI (pc := 109) dX6_faultOfName_109 rfl
        · rw [if_neg c11] at h
          refine x_iconst (pc := 104) dX6_faultOfName_104 (v := 0) rfl ?_
          refine x_goto (pc := 105) dX6_faultOfName_105 (t := 109) rfl ?_
          obtain rfl := s1 h
          exact y_retI (pc := 109) dX6_faultOfName_109 rfl
      · rw [if_neg c8] at h
        by_cases c12 : l2 = 110
        · rw [if_pos c12] at h
          refine y_lookup (pc := 29) dX6_faultOfName_29 c12 (q := 110) (by decide) (off := 97) (by decide) (t := 126) rfl ?_
          refine x_aload_n (pc := 126) dX6_faultOfName_126 rfl rfl hl1 ?_
          obtain ⟨v13, e14, h⟩ := ob h
          refine y_getI (pc := 127) dX6_faultOfName_127 zf_X6_84 e14 (by decide) ?_
          refine x_bipush (pc := 130) dX6_faultOfName_130 (v := 8) (by decide) ?_
          refine x_icmp_ge (pc := 132) dX6_faultOfName_132 (t := 139) rfl (fun c15 => ?_) (fun c15 => ?_)
          · rw [if_pos c15] at h
            refine x_iconst (pc := 139) dX6_faultOfName_139 (v := 3) rfl ?_
            obtain rfl := s1 h
            exact y_retI (pc := 140) dX6_faultOfName_140 rfl
          · rw [if_neg c15] at h
            refine x_iconst (pc := 135) dX6_faultOfName_135 (v := 0) rfl ?_
            refine x_goto (pc := 136) dX6_faultOfName_136 (t := 140) rfl ?_
            obtain rfl := s1 h
            exact y_retI (pc := 140) dX6_faultOfName_140 rfl
        · rw [if_neg c12] at h
          by_cases c16 : l2 = 111
          · rw [if_pos c16] at h
            refine y_lookup (pc := 29) dX6_faultOfName_29 c16 (q := 111) (by decide) (off := 81) (by decide) (t := 110) rfl ?_
            refine x_iconst (pc := 110) dX6_faultOfName_110 (v := 0) rfl ?_
            obtain rfl := s1 h
            exact y_retI (pc := 111) dX6_faultOfName_111 rfl
          · rw [if_neg c16] at h
            by_cases c17 : l2 = 112
            · rw [if_pos c17] at h
              refine y_lookup (pc := 29) dX6_faultOfName_29 c17 (q := 112) (by decide) (off := 83) (by decide) (t := 112) rfl ?_
              refine x_aload_n (pc := 112) dX6_faultOfName_112 rfl rfl hl1 ?_
              obtain ⟨v18, e19, h⟩ := ob h
              refine y_getI (pc := 113) dX6_faultOfName_113 zf_X6_81 e19 (by decide) ?_
              refine x_iconst (pc := 116) dX6_faultOfName_116 (v := 5) rfl ?_
              refine x_icmp_ge (pc := 117) dX6_faultOfName_117 (t := 124) rfl (fun c20 => ?_) (fun c20 => ?_)
              · rw [if_pos c20] at h
                refine x_iconst (pc := 124) dX6_faultOfName_124 (v := 3) rfl ?_
                obtain rfl := s1 h
                exact y_retI (pc := 125) dX6_faultOfName_125 rfl
              · rw [if_neg c20] at h
                refine x_iconst (pc := 120) dX6_faultOfName_120 (v := 0) rfl ?_
                refine x_goto (pc := 121) dX6_faultOfName_121 (t := 125) rfl ?_
                obtain rfl := s1 h
                exact y_retI (pc := 125) dX6_faultOfName_125 rfl
            · rw [if_neg c17] at h
              by_cases c21 : l2 = 119
              · rw [if_pos c21] at h
                refine y_lookup (pc := 29) dX6_faultOfName_29 c21 (q := 119) (by decide) (off := 51) (by decide) (t := 80) rfl ?_
                refine x_aload_n (pc := 80) dX6_faultOfName_80 rfl rfl hl1 ?_
                obtain ⟨v22, e23, h⟩ := ob h
                refine y_getI (pc := 81) dX6_faultOfName_81 zf_X6_75 e23 (by decide) ?_
                refine x_bipush (pc := 84) dX6_faultOfName_84 (v := 8) (by decide) ?_
                refine x_icmp_ge (pc := 86) dX6_faultOfName_86 (t := 93) rfl (fun c24 => ?_) (fun c24 => ?_)
                · rw [if_pos c24] at h
                  refine x_iconst (pc := 93) dX6_faultOfName_93 (v := 3) rfl ?_
                  obtain rfl := s1 h
                  exact y_retI (pc := 94) dX6_faultOfName_94 rfl
                · rw [if_neg c24] at h
                  refine x_iconst (pc := 89) dX6_faultOfName_89 (v := 0) rfl ?_
                  refine x_goto (pc := 90) dX6_faultOfName_90 (t := 94) rfl ?_
                  obtain rfl := s1 h
                  exact y_retI (pc := 94) dX6_faultOfName_94 rfl
              · rw [if_neg c21] at h
                refine x_lookup (pc := 29) dX6_faultOfName_29 (by decide) (off := 112) ?_ (t := 141) rfl ?_
                · show Op.lookupswitch.offset [(97, 66), (110, 97), (111, 81), (112, 83), (119, 51)] 112 _ = _
                  rw [lv_osw (a := 97) c8 (by decide), lv_osw (a := 110) c12 (by decide), lv_osw (a := 111) c16 (by decide), lv_osw (a := 112) c17 (by decide), lv_osw (a := 119) c21 (by decide)]
                  rfl
                · refine x_iconst (pc := 141) dX6_faultOfName_141 (v := 1) rfl ?_
                  obtain rfl := s1 h
                  exact y_retI (pc := 142) dX6_faultOfName_142 rfl
    · rw [if_pos c7] at h
      refine x_iconst (pc := 26) dX6_faultOfName_26 (v := 1) rfl ?_
      obtain rfl := s1 h
      exact y_retI (pc := 27) dX6_faultOfName_27 rfl
  · rw [if_pos c1] at h
    refine x_aload_n (pc := 6) dX6_faultOfName_6 rfl rfl hl1 ?_
    obtain ⟨v2, e3, h⟩ := ob h
    refine y_getI (pc := 7) dX6_faultOfName_7 zf_X6_56 e3 (by decide) ?_
    refine x_if_ne (pc := 10) dX6_faultOfName_10 (t := 17) rfl (fun c4 => ?_) (fun c4 => ?_)
    · rw [if_neg c4] at h
      refine x_iconst (pc := 17) dX6_faultOfName_17 (v := 3) rfl ?_
      obtain rfl := s1 h
      exact y_retI (pc := 18) dX6_faultOfName_18 rfl
    · rw [if_pos c4] at h
      refine x_iconst (pc := 13) dX6_faultOfName_13 (v := 0) rfl ?_
      refine x_goto (pc := 14) dX6_faultOfName_14 (t := 18) rfl ?_
      obtain rfl := s1 h
      exact y_retI (pc := 18) dX6_faultOfName_18 rfl
def f_X6_letterHere (l0 : Nat) (M : zM) : Option (Int32) := bif Nat.ble 1 l0 then ((oI M l0 6 6 4).bind fun v1 => if v1 < 0 then (some (-1)) else ((oI M l0 6 6 4).bind fun v4 => (oI M l0 6 6 1).bind fun v6 => if v6 ≤ v4 then (some (-1)) else ((oR M l0 6 6 0).bind fun v9 => (oI M l0 6 6 4).bind fun v11 => (aI M v9 v11).bind fun v13 => some v13))) else none
theorem E_X6_letterHere {G : zG} {d : Nat} {l0 : Nat} {M : zM} {r : Int32} (h : f_X6_letterHere l0 M = some r) : Ex G d yX6_letterHere cX6_letterHere 1 (some .int) 0 (zent0 [.ref l0] 1) [] M (some (.int r), M) := by
  unfold f_X6_letterHere at h
  obtain ⟨zz0, h⟩ := bt h
  have hl0 := bz zz0
  show Ex _ _ _ _ _ _ 0 [.ref l0] [] _ _
  refine x_aload_n (pc := 0) dX6_letterHere_0 rfl rfl hl0 ?_
  obtain ⟨v1, e2, h⟩ := ob h
  refine y_getI (pc := 1) dX6_letterHere_1 zf_X6_30 e2 (by decide) ?_
  refine x_if_lt (pc := 4) dX6_letterHere_4 (t := 30) rfl (fun c3 => ?_) (fun c3 => ?_)
  · rw [if_pos c3] at h
    refine x_iconst (pc := 30) dX6_letterHere_30 (v := (-1)) rfl ?_
    obtain rfl := s1 h
    exact y_retI (pc := 31) dX6_letterHere_31 rfl
  · rw [if_neg c3] at h
    refine x_aload_n (pc := 7) dX6_letterHere_7 rfl rfl hl0 ?_
    obtain ⟨v4, e5, h⟩ := ob h
    refine y_getI (pc := 8) dX6_letterHere_8 zf_X6_30 e5 (by decide) ?_
    refine x_aload_n (pc := 11) dX6_letterHere_11 rfl rfl hl0 ?_
    obtain ⟨v6, e7, h⟩ := ob h
    refine y_getI (pc := 12) dX6_letterHere_12 zf_X6_19 e7 (by decide) ?_
    refine x_icmp_ge (pc := 15) dX6_letterHere_15 (t := 30) rfl (fun c8 => ?_) (fun c8 => ?_)
    · rw [if_pos c8] at h
      refine x_iconst (pc := 30) dX6_letterHere_30 (v := (-1)) rfl ?_
      obtain rfl := s1 h
      exact y_retI (pc := 31) dX6_letterHere_31 rfl
    · rw [if_neg c8] at h
      refine x_aload_n (pc := 18) dX6_letterHere_18 rfl rfl hl0 ?_
      obtain ⟨v9, e10, h⟩ := ob h
      refine y_getR (pc := 19) dX6_letterHere_19 zf_X6_9 e10 ?_
      refine x_aload_n (pc := 22) dX6_letterHere_22 rfl rfl hl0 ?_
      obtain ⟨v11, e12, h⟩ := ob h
      refine y_getI (pc := 23) dX6_letterHere_23 zf_X6_30 e12 (by decide) ?_
      obtain ⟨v13, e14, h⟩ := ob h
      refine y_iald (pc := 26) dX6_letterHere_26 e14 ?_
      refine x_goto (pc := 27) dX6_letterHere_27 (t := 31) rfl ?_
      obtain rfl := s1 h
      exact y_retI (pc := 31) dX6_letterHere_31 rfl
def L_X6_skipBlanks_5 : Nat → Nat → Int32 → zM → Option (zM)
  | 0, _, _, _ => none
  | n + 1, l0, l1, M => (oI M l0 6 6 1).bind fun v3 => if v3 ≤ l1 then (some M) else ((oR M l0 6 6 0).bind fun v6 => (aI M v6 l1).bind fun v8 => if v8 = 32 then ((oI M l0 6 6 4).bind fun v11 => (pI M l0 6 6 4 (v11 + 1)).bind fun M13 => L_X6_skipBlanks_5 n l0 (l1 + 1) M13) else (some M))
def f_X6_skipBlanks (l0 : Nat) (M : zM) : Option (zM) := bif Nat.ble 1 l0 then ((oI M l0 6 6 4).bind fun v1 => (L_X6_skipBlanks_5 zN l0 v1 M).bind fun M4 => some M4) else none
theorem LX_X6_skipBlanks_5 {G : zG} {d : Nat} : ∀ (n : Nat) (l0 : Nat) (l1 : Int32) (M : zM) (hl0 : l0 ≠ 0) (MX : zM) {res : Option Value × zM}, L_X6_skipBlanks_5 n l0 l1 M = some MX → Ex G d yX6_skipBlanks cX6_skipBlanks 2 none 40 [.null, .null] [] MX res → Ex G d yX6_skipBlanks cX6_skipBlanks 2 none 5 [.ref l0, .int l1] [] M res := by
  intro n
  induction n with
  | zero =>
    intro l0 l1 M hl0 MX res h K
    simp [L_X6_skipBlanks_5] at h
  | succ n ih =>
    intro l0 l1 M hl0 MX res h K
    simp only [L_X6_skipBlanks_5] at h
    refine x_iload_n (pc := 5) dX6_skipBlanks_5 rfl rfl ?_
    refine x_aload_n (pc := 6) dX6_skipBlanks_6 rfl rfl hl0 ?_
    obtain ⟨v3, e4, h⟩ := ob h
    refine y_getI (pc := 7) dX6_skipBlanks_7 zf_X6_19 e4 (by decide) ?_
    refine x_icmp_ge (pc := 10) dX6_skipBlanks_10 (t := 40) rfl (fun c5 => ?_) (fun c5 => ?_)
    · rw [if_pos c5] at h
      obtain rfl := s1 h
      refine ex_weak (Ls2 := [.null, .null]) ⟨Or.inl rfl, Or.inl rfl, trivial⟩ ?_
      exact K
    · rw [if_neg c5] at h
      refine x_aload_n (pc := 13) dX6_skipBlanks_13 rfl rfl hl0 ?_
      obtain ⟨v6, e7, h⟩ := ob h
      refine y_getR (pc := 14) dX6_skipBlanks_14 zf_X6_9 e7 ?_
      refine x_iload_n (pc := 17) dX6_skipBlanks_17 rfl rfl ?_
      obtain ⟨v8, e9, h⟩ := ob h
      refine y_iald (pc := 18) dX6_skipBlanks_18 e9 ?_
      refine x_bipush (pc := 19) dX6_skipBlanks_19 (v := 32) (by decide) ?_
      refine x_icmp_ne (pc := 21) dX6_skipBlanks_21 (t := 40) rfl (fun c10 => ?_) (fun c10 => ?_)
      · rw [if_neg c10] at h
        obtain rfl := s1 h
        refine ex_weak (Ls2 := [.null, .null]) ⟨Or.inl rfl, Or.inl rfl, trivial⟩ ?_
        exact K
      · rw [if_pos c10] at h
        refine x_aload_n (pc := 24) dX6_skipBlanks_24 rfl rfl hl0 ?_
        refine x_dup (pc := 25) dX6_skipBlanks_25 rv_cr ?_
        obtain ⟨v11, e12, h⟩ := ob h
        refine y_getI (pc := 26) dX6_skipBlanks_26 zf_X6_30 e12 (by decide) ?_
        refine x_iconst (pc := 29) dX6_skipBlanks_29 (v := 1) rfl ?_
        refine x_iadd (pc := 30) dX6_skipBlanks_30 ?_
        obtain ⟨M13, e14, h⟩ := ob h
        refine y_putI (pc := 31) dX6_skipBlanks_31 zf_X6_30 e14 ?_
        refine x_iinc (pc := 34) dX6_skipBlanks_34 rfl rfl (by decide) rfl ?_
        refine x_goto (pc := 37) dX6_skipBlanks_37 (t := 5) rfl ?_
        refine ex_weak (Ls2 := [.ref l0, .int (l1 + 1)]) ⟨Or.inr rfl, Or.inr rfl, trivial⟩ ?_
        exact ih _ _ _ hl0  _ h K
theorem E_X6_skipBlanks {G : zG} {d : Nat} {l0 : Nat} {M MR : zM} (h : f_X6_skipBlanks l0 M = some MR) : Ex G d yX6_skipBlanks cX6_skipBlanks 2 none 0 (zent0 [.ref l0] 2) [] M (none, MR) := by
  unfold f_X6_skipBlanks at h
  obtain ⟨zz0, h⟩ := bt h
  have hl0 := bz zz0
  show Ex _ _ _ _ _ _ 0 [.ref l0, .null] [] _ _
  refine x_aload_n (pc := 0) dX6_skipBlanks_0 rfl rfl hl0 ?_
  obtain ⟨v1, e2, h⟩ := ob h
  refine y_getI (pc := 1) dX6_skipBlanks_1 zf_X6_30 e2 (by decide) ?_
  refine x_istore_n (pc := 4) dX6_skipBlanks_4 rfl (by decide) rfl ?_
  obtain ⟨M4, e3, h⟩ := ob h
  refine ex_weak (Ls2 := [.ref l0, .int v1]) ⟨Or.inr rfl, Or.inr rfl, trivial⟩ ?_
  refine LX_X6_skipBlanks_5 zN _ _ _ hl0 _ e3 ?_
  obtain rfl := s1 h
  exact x_vret (pc := 40) dX6_skipBlanks_40 rfl
def L_X6_readNumber_29 : Nat → Nat → Int32 → Int32 → Int32 → Int32 → zM → Option (Int32 × zM)
  | 0, _, _, _, _, _, _ => none
  | n + 1, l0, l1, l2, l3, l4, M => (oI M l0 6 6 1).bind fun v12 => if v12 ≤ l4 then (some (l3, M)) else ((oR M l0 6 6 0).bind fun v15 => (aI M v15 l4).bind fun v17 => if v17 < 48 then (some (l3, M)) else ((oR M l0 6 6 0).bind fun v20 => (aI M v20 l4).bind fun v22 => if 57 < v22 then (some (l3, M)) else ((oR M l0 6 6 0).bind fun v25 => (aI M v25 l4).bind fun v27 => (oI M l0 6 6 4).bind fun v29 => (pI M l0 6 6 4 (v29 + 1)).bind fun M31 => L_X6_readNumber_29 n l0 l1 l2 (if ((10 * l3) + v27) - 48 < 1000 then ((10 * l3) + v27) - 48 else 1000) (l4 + 1) M31)))
def f_X6_readNumber (l0 : Nat) (l1 : Int32) (l2 : Int32) (M : zM) : Option (Int32 × zM) := bif Nat.ble 1 l0 then ((oI M l0 6 6 2).bind fun v1 => if v1 = 0 then (bif zac M l0 6 6 then ((f_X6_skipBlanks l0 M).bind fun M4 => (oI M4 l0 6 6 4).bind fun v6 => (pI M4 l0 6 6 5 v6).bind fun M8 => (oI M8 l0 6 6 4).bind fun v10 => b2 (L_X6_readNumber_29 zN l0 l1 l2 0 v10 M8) fun v13 M14 => (oI M14 l0 6 6 4).bind fun v15 => (oI M14 l0 6 6 5).bind fun v17 => if v15 = v17 then ((oI M14 l0 6 6 4).bind fun v20 => bif zac M14 l0 6 6 then ((f_X6_blame l0 v20 1 M14).bind fun M22 => (oI M22 l0 6 6 2).bind fun v24 => if v24 = 0 then (some (v13, M22)) else (some (0, M22))) else none) else ((oI M14 l0 6 6 4).bind fun v28 => (oI M14 l0 6 6 5).bind fun v30 => if 3 < v28 - v30 then ((oI M14 l0 6 6 5).bind fun v33 => bif zac M14 l0 6 6 then ((f_X6_blame l0 v33 2 M14).bind fun M35 => (oI M35 l0 6 6 2).bind fun v37 => if v37 = 0 then (some (v13, M35)) else (some (0, M35))) else none) else (if v13 < l1 then ((oI M14 l0 6 6 5).bind fun v42 => bif zac M14 l0 6 6 then ((f_X6_blame l0 v42 2 M14).bind fun M44 => (oI M44 l0 6 6 2).bind fun v46 => if v46 = 0 then (some (v13, M44)) else (some (0, M44))) else none) else (if v13 ≤ l2 then ((oI M14 l0 6 6 2).bind fun v51 => if v51 = 0 then (some (v13, M14)) else (some (0, M14))) else ((oI M14 l0 6 6 5).bind fun v54 => bif zac M14 l0 6 6 then ((f_X6_blame l0 v54 2 M14).bind fun M56 => (oI M56 l0 6 6 2).bind fun v58 => if v58 = 0 then (some (v13, M56)) else (some (0, M56))) else none))))) else none) else (some (0, M))) else none
set_option maxRecDepth 100000 in
set_option maxHeartbeats 2000000 in
theorem LX_X6_readNumber_29 {G : zG} {d : Nat} : ∀ (n : Nat) (l0 : Nat) (l1 : Int32) (l2 : Int32) (l3 : Int32) (l4 : Int32) (M : zM) (hl0 : l0 ≠ 0) (o3 : Int32) (MX : zM) {res : Option Value × zM}, L_X6_readNumber_29 n l0 l1 l2 l3 l4 M = some (o3, MX) → Ex G (d + 1) yX6_readNumber cX6_readNumber 5 (some .int) 100 [.ref l0, .int l1, .int l2, .int o3, .null] [] MX res → Ex G (d + 1) yX6_readNumber cX6_readNumber 5 (some .int) 29 [.ref l0, .int l1, .int l2, .int l3, .int l4] [] M res := by
  intro n
  induction n with
  | zero =>
    intro l0 l1 l2 l3 l4 M hl0 o3 MX res h K
    simp [L_X6_readNumber_29] at h
  | succ n ih =>
    intro l0 l1 l2 l3 l4 M hl0 o3 MX res h K
    simp only [L_X6_readNumber_29] at h
    refine x_iload (pc := 29) dX6_readNumber_29 rfl ?_
    refine x_aload_n (pc := 31) dX6_readNumber_31 rfl rfl hl0 ?_
    obtain ⟨v12, e13, h⟩ := ob h
    refine y_getI (pc := 32) dX6_readNumber_32 zf_X6_19 e13 (by decide) ?_
    refine x_icmp_ge (pc := 35) dX6_readNumber_35 (t := 100) rfl (fun c14 => ?_) (fun c14 => ?_)
    · rw [if_pos c14] at h
      obtain ⟨rfl, rfl⟩ := s2 h
      refine ex_weak (Ls2 := [.ref l0, .int l1, .int l2, .int l3, .null]) ⟨Or.inr rfl, Or.inr rfl, Or.inr rfl, Or.inr rfl, Or.inl rfl, trivial⟩ ?_
      exact K
    · rw [if_neg c14] at h
      refine x_aload_n (pc := 38) dX6_readNumber_38 rfl rfl hl0 ?_
      obtain ⟨v15, e16, h⟩ := ob h
      refine y_getR (pc := 39) dX6_readNumber_39 zf_X6_9 e16 ?_
      refine x_iload (pc := 42) dX6_readNumber_42 rfl ?_
      obtain ⟨v17, e18, h⟩ := ob h
      refine y_iald (pc := 44) dX6_readNumber_44 e18 ?_
      refine x_bipush (pc := 45) dX6_readNumber_45 (v := 48) (by decide) ?_
      refine x_icmp_lt (pc := 47) dX6_readNumber_47 (t := 100) rfl (fun c19 => ?_) (fun c19 => ?_)
      · rw [if_pos c19] at h
        obtain ⟨rfl, rfl⟩ := s2 h
        refine ex_weak (Ls2 := [.ref l0, .int l1, .int l2, .int l3, .null]) ⟨Or.inr rfl, Or.inr rfl, Or.inr rfl, Or.inr rfl, Or.inl rfl, trivial⟩ ?_
        exact K
      · rw [if_neg c19] at h
        refine x_aload_n (pc := 50) dX6_readNumber_50 rfl rfl hl0 ?_
        obtain ⟨v20, e21, h⟩ := ob h
        refine y_getR (pc := 51) dX6_readNumber_51 zf_X6_9 e21 ?_
        refine x_iload (pc := 54) dX6_readNumber_54 rfl ?_
        obtain ⟨v22, e23, h⟩ := ob h
        refine y_iald (pc := 56) dX6_readNumber_56 e23 ?_
        refine x_bipush (pc := 57) dX6_readNumber_57 (v := 57) (by decide) ?_
        refine x_icmp_gt (pc := 59) dX6_readNumber_59 (t := 100) rfl (fun c24 => ?_) (fun c24 => ?_)
        · rw [if_pos c24] at h
          obtain ⟨rfl, rfl⟩ := s2 h
          refine ex_weak (Ls2 := [.ref l0, .int l1, .int l2, .int l3, .null]) ⟨Or.inr rfl, Or.inr rfl, Or.inr rfl, Or.inr rfl, Or.inl rfl, trivial⟩ ?_
          exact K
        · rw [if_neg c24] at h
          refine x_sipush (pc := 62) dX6_readNumber_62 (v := 1000) (by decide) ?_
          refine x_bipush (pc := 65) dX6_readNumber_65 (v := 10) (by decide) ?_
          refine x_iload_n (pc := 67) dX6_readNumber_67 rfl rfl ?_
          refine x_imul (pc := 68) dX6_readNumber_68 ?_
          refine x_aload_n (pc := 69) dX6_readNumber_69 rfl rfl hl0 ?_
          obtain ⟨v25, e26, h⟩ := ob h
          refine y_getR (pc := 70) dX6_readNumber_70 zf_X6_9 e26 ?_
          refine x_iload (pc := 73) dX6_readNumber_73 rfl ?_
          obtain ⟨v27, e28, h⟩ := ob h
          refine y_iald (pc := 75) dX6_readNumber_75 e28 ?_
          refine x_iadd (pc := 76) dX6_readNumber_76 ?_
          refine x_bipush (pc := 77) dX6_readNumber_77 (v := 48) (by decide) ?_
          refine x_isub (pc := 79) dX6_readNumber_79 ?_
          refine y_mmin (pc := 80) dX6_readNumber_80 zm_X6_111 zs_J9_min_7cf53 rfl (Nat.le_of_ble_eq_true rfl) ?_
          refine x_istore_n (pc := 83) dX6_readNumber_83 rfl (by decide) rfl ?_
          refine x_aload_n (pc := 84) dX6_readNumber_84 rfl rfl hl0 ?_
          refine x_dup (pc := 85) dX6_readNumber_85 rv_cr ?_
          obtain ⟨v29, e30, h⟩ := ob h
          refine y_getI (pc := 86) dX6_readNumber_86 zf_X6_30 e30 (by decide) ?_
          refine x_iconst (pc := 89) dX6_readNumber_89 (v := 1) rfl ?_
          refine x_iadd (pc := 90) dX6_readNumber_90 ?_
          obtain ⟨M31, e32, h⟩ := ob h
          refine y_putI (pc := 91) dX6_readNumber_91 zf_X6_30 e32 ?_
          refine x_iinc (pc := 94) dX6_readNumber_94 rfl rfl (by decide) rfl ?_
          refine x_goto (pc := 97) dX6_readNumber_97 (t := 29) rfl ?_
          refine ex_weak (Ls2 := [.ref l0, .int l1, .int l2, .int (if ((10 * l3) + v27) - 48 < 1000 then ((10 * l3) + v27) - 48 else 1000), .int (l4 + 1)]) ⟨Or.inr rfl, Or.inr rfl, Or.inr rfl, Or.inr rfl, Or.inr rfl, trivial⟩ ?_
          exact ih _ _ _ _ _ _ hl0 _ _ h K
set_option maxRecDepth 100000 in
set_option maxHeartbeats 2000000 in
theorem E_X6_readNumber {G : zG} {d : Nat} {l0 : Nat} {l1 : Int32} {l2 : Int32} {M MR : zM} {r : Int32} (h : f_X6_readNumber l0 l1 l2 M = some (r, MR)) : Ex G (d + 1) yX6_readNumber cX6_readNumber 5 (some .int) 0 (zent0 [.ref l0, .int l1, .int l2] 5) [] M (some (.int r), MR) := by
  unfold f_X6_readNumber at h
  obtain ⟨zz0, h⟩ := bt h
  have hl0 := bz zz0
  show Ex _ _ _ _ _ _ 0 [.ref l0, .int l1, .int l2, .null, .null] [] _ _
  refine x_aload_n (pc := 0) dX6_readNumber_0 rfl rfl hl0 ?_
  obtain ⟨v1, e2, h⟩ := ob h
  refine y_getI (pc := 1) dX6_readNumber_1 zf_X6_27 e2 (by decide) ?_
  refine x_if_eq (pc := 4) dX6_readNumber_4 (t := 9) rfl (fun c3 => ?_) (fun c3 => ?_)
  · rw [if_pos c3] at h
    refine x_aload_n (pc := 9) dX6_readNumber_9 rfl rfl hl0 ?_
    obtain ⟨g62, h⟩ := bt h
    obtain ⟨M4, e5, h⟩ := ob h
    refine x_callV (av := []) (st := []) (pc := 10) dX6_readNumber_10 (E_X6_skipBlanks (d := d) e5) rfl (Nat.le_of_ble_eq_true rfl) zc_X6_skipBlanks rfl zm_X6_33 zi_X6_skipBlanks zs_X6_skipBlanks (zac_ok g62) (by decide) rfl rfl (zst_ok rfl (Nat.le_of_ble_eq_true rfl)) rfl ?_
    refine x_aload_n (pc := 13) dX6_readNumber_13 rfl rfl hl0 ?_
    refine x_aload_n (pc := 14) dX6_readNumber_14 rfl rfl hl0 ?_
    obtain ⟨v6, e7, h⟩ := ob h
    refine y_getI (pc := 15) dX6_readNumber_15 zf_X6_30 e7 (by decide) ?_
    obtain ⟨M8, e9, h⟩ := ob h
    refine y_putI (pc := 18) dX6_readNumber_18 zf_X6_94 e9 ?_
    refine x_iconst (pc := 21) dX6_readNumber_21 (v := 0) rfl ?_
    refine x_istore_n (pc := 22) dX6_readNumber_22 rfl (by decide) rfl ?_
    refine x_aload_n (pc := 23) dX6_readNumber_23 rfl rfl hl0 ?_
    obtain ⟨v10, e11, h⟩ := ob h
    refine y_getI (pc := 24) dX6_readNumber_24 zf_X6_30 e11 (by decide) ?_
    refine x_istore (pc := 27) dX6_readNumber_27 (by decide) rfl ?_
    obtain ⟨v13, M14, e12, h⟩ := ob2 h
    refine ex_weak (Ls2 := [.ref l0, .int l1, .int l2, .int 0, .int v10]) ⟨Or.inr rfl, Or.inr rfl, Or.inr rfl, Or.inr rfl, Or.inr rfl, trivial⟩ ?_
    refine LX_X6_readNumber_29 zN _ _ _ _ _ _ hl0 _ _ e12 ?_
    refine x_aload_n (pc := 100) dX6_readNumber_100 rfl rfl hl0 ?_
    obtain ⟨v15, e16, h⟩ := ob h
    refine y_getI (pc := 101) dX6_readNumber_101 zf_X6_30 e16 (by decide) ?_
    refine x_aload_n (pc := 104) dX6_readNumber_104 rfl rfl hl0 ?_
    obtain ⟨v17, e18, h⟩ := ob h
    refine y_getI (pc := 105) dX6_readNumber_105 zf_X6_94 e18 (by decide) ?_
    refine x_icmp_ne (pc := 108) dX6_readNumber_108 (t := 123) rfl (fun c19 => ?_) (fun c19 => ?_)
    · rw [if_neg c19] at h
      refine x_aload_n (pc := 123) dX6_readNumber_123 rfl rfl hl0 ?_
      obtain ⟨v28, e29, h⟩ := ob h
      refine y_getI (pc := 124) dX6_readNumber_124 zf_X6_30 e29 (by decide) ?_
      refine x_aload_n (pc := 127) dX6_readNumber_127 rfl rfl hl0 ?_
      obtain ⟨v30, e31, h⟩ := ob h
      refine y_getI (pc := 128) dX6_readNumber_128 zf_X6_94 e31 (by decide) ?_
      refine x_isub (pc := 131) dX6_readNumber_131 ?_
      refine x_iconst (pc := 132) dX6_readNumber_132 (v := 3) rfl ?_
      refine x_icmp_gt (pc := 133) dX6_readNumber_133 (t := 146) rfl (fun c32 => ?_) (fun c32 => ?_)
      · rw [if_pos c32] at h
        refine x_aload_n (pc := 146) dX6_readNumber_146 rfl rfl hl0 ?_
        refine x_aload_n (pc := 147) dX6_readNumber_147 rfl rfl hl0 ?_
        obtain ⟨v33, e34, h⟩ := ob h
        refine y_getI (pc := 148) dX6_readNumber_148 zf_X6_94 e34 (by decide) ?_
        refine x_iconst (pc := 151) dX6_readNumber_151 (v := 2) rfl ?_
        obtain ⟨g40, h⟩ := bt h
        obtain ⟨M35, e36, h⟩ := ob h
        refine x_callV (av := [.int v33, .int 2]) (st := []) (pc := 152) dX6_readNumber_152 (E_X6_blame (d := d) e36) rfl (Nat.le_of_ble_eq_true rfl) zc_X6_blame rfl zm_X6_48 zi_X6_blame zs_X6_blame (zac_ok g40) (by decide) rfl rfl (zst_ok rfl (Nat.le_of_ble_eq_true rfl)) rfl ?_
        refine x_aload_n (pc := 155) dX6_readNumber_155 rfl rfl hl0 ?_
        obtain ⟨v37, e38, h⟩ := ob h
        refine y_getI (pc := 156) dX6_readNumber_156 zf_X6_27 e38 (by decide) ?_
        refine x_if_ne (pc := 159) dX6_readNumber_159 (t := 166) rfl (fun c39 => ?_) (fun c39 => ?_)
        · rw [if_neg c39] at h
          refine x_iconst (pc := 166) dX6_readNumber_166 (v := 0) rfl ?_
          obtain ⟨rfl, rfl⟩ := s2 h
          exact y_retI (pc := 167) dX6_readNumber_167 rfl
        · rw [if_pos c39] at h
          refine x_iload_n (pc := 162) dX6_readNumber_162 rfl rfl ?_
          refine x_goto (pc := 163) dX6_readNumber_163 (t := 167) rfl ?_
          obtain ⟨rfl, rfl⟩ := s2 h
          exact y_retI (pc := 167) dX6_readNumber_167 rfl
      · rw [if_neg c32] at h
        refine x_iload_n (pc := 136) dX6_readNumber_136 rfl rfl ?_
        refine x_iload_n (pc := 137) dX6_readNumber_137 rfl rfl ?_
        refine x_icmp_lt (pc := 138) dX6_readNumber_138 (t := 146) rfl (fun c41 => ?_) (fun c41 => ?_)
        · rw [if_pos c41] at h
          refine x_aload_n (pc := 146) dX6_readNumber_146 rfl rfl hl0 ?_
          refine x_aload_n (pc := 147) dX6_readNumber_147 rfl rfl hl0 ?_
          obtain ⟨v42, e43, h⟩ := ob h
          refine y_getI (pc := 148) dX6_readNumber_148 zf_X6_94 e43 (by decide) ?_
          refine x_iconst (pc := 151) dX6_readNumber_151 (v := 2) rfl ?_
          obtain ⟨g49, h⟩ := bt h
          obtain ⟨M44, e45, h⟩ := ob h
          refine x_callV (av := [.int v42, .int 2]) (st := []) (pc := 152) dX6_readNumber_152 (E_X6_blame (d := d) e45) rfl (Nat.le_of_ble_eq_true rfl) zc_X6_blame rfl zm_X6_48 zi_X6_blame zs_X6_blame (zac_ok g49) (by decide) rfl rfl (zst_ok rfl (Nat.le_of_ble_eq_true rfl)) rfl ?_
          refine x_aload_n (pc := 155) dX6_readNumber_155 rfl rfl hl0 ?_
          obtain ⟨v46, e47, h⟩ := ob h
          refine y_getI (pc := 156) dX6_readNumber_156 zf_X6_27 e47 (by decide) ?_
          refine x_if_ne (pc := 159) dX6_readNumber_159 (t := 166) rfl (fun c48 => ?_) (fun c48 => ?_)
          · rw [if_neg c48] at h
            refine x_iconst (pc := 166) dX6_readNumber_166 (v := 0) rfl ?_
            obtain ⟨rfl, rfl⟩ := s2 h
            exact y_retI (pc := 167) dX6_readNumber_167 rfl
          · rw [if_pos c48] at h
            refine x_iload_n (pc := 162) dX6_readNumber_162 rfl rfl ?_
            refine x_goto (pc := 163) dX6_readNumber_163 (t := 167) rfl ?_
            obtain ⟨rfl, rfl⟩ := s2 h
            exact y_retI (pc := 167) dX6_readNumber_167 rfl
        · rw [if_neg c41] at h
          refine x_iload_n (pc := 141) dX6_readNumber_141 rfl rfl ?_
          refine x_iload_n (pc := 142) dX6_readNumber_142 rfl rfl ?_
          refine x_icmp_le (pc := 143) dX6_readNumber_143 (t := 155) rfl (fun c50 => ?_) (fun c50 => ?_)
          · rw [if_pos c50] at h
            refine x_aload_n (pc := 155) dX6_readNumber_155 rfl rfl hl0 ?_
            obtain ⟨v51, e52, h⟩ := ob h
            refine y_getI (pc := 156) dX6_readNumber_156 zf_X6_27 e52 (by decide) ?_
            refine x_if_ne (pc := 159) dX6_readNumber_159 (t := 166) rfl (fun c53 => ?_) (fun c53 => ?_)
            · rw [if_neg c53] at h
              refine x_iconst (pc := 166) dX6_readNumber_166 (v := 0) rfl ?_
              obtain ⟨rfl, rfl⟩ := s2 h
              exact y_retI (pc := 167) dX6_readNumber_167 rfl
            · rw [if_pos c53] at h
              refine x_iload_n (pc := 162) dX6_readNumber_162 rfl rfl ?_
              refine x_goto (pc := 163) dX6_readNumber_163 (t := 167) rfl ?_
              obtain ⟨rfl, rfl⟩ := s2 h
              exact y_retI (pc := 167) dX6_readNumber_167 rfl
          · rw [if_neg c50] at h
            refine x_aload_n (pc := 146) dX6_readNumber_146 rfl rfl hl0 ?_
            refine x_aload_n (pc := 147) dX6_readNumber_147 rfl rfl hl0 ?_
            obtain ⟨v54, e55, h⟩ := ob h
            refine y_getI (pc := 148) dX6_readNumber_148 zf_X6_94 e55 (by decide) ?_
            refine x_iconst (pc := 151) dX6_readNumber_151 (v := 2) rfl ?_
            obtain ⟨g61, h⟩ := bt h
            obtain ⟨M56, e57, h⟩ := ob h
            refine x_callV (av := [.int v54, .int 2]) (st := []) (pc := 152) dX6_readNumber_152 (E_X6_blame (d := d) e57) rfl (Nat.le_of_ble_eq_true rfl) zc_X6_blame rfl zm_X6_48 zi_X6_blame zs_X6_blame (zac_ok g61) (by decide) rfl rfl (zst_ok rfl (Nat.le_of_ble_eq_true rfl)) rfl ?_
            refine x_aload_n (pc := 155) dX6_readNumber_155 rfl rfl hl0 ?_
            obtain ⟨v58, e59, h⟩ := ob h
            refine y_getI (pc := 156) dX6_readNumber_156 zf_X6_27 e59 (by decide) ?_
            refine x_if_ne (pc := 159) dX6_readNumber_159 (t := 166) rfl (fun c60 => ?_) (fun c60 => ?_)
            · rw [if_neg c60] at h
              refine x_iconst (pc := 166) dX6_readNumber_166 (v := 0) rfl ?_
              obtain ⟨rfl, rfl⟩ := s2 h
              exact y_retI (pc := 167) dX6_readNumber_167 rfl
            · rw [if_pos c60] at h
              refine x_iload_n (pc := 162) dX6_readNumber_162 rfl rfl ?_
              refine x_goto (pc := 163) dX6_readNumber_163 (t := 167) rfl ?_
              obtain ⟨rfl, rfl⟩ := s2 h
              exact y_retI (pc := 167) dX6_readNumber_167 rfl
    · rw [if_pos c19] at h
      refine x_aload_n (pc := 111) dX6_readNumber_111 rfl rfl hl0 ?_
      refine x_aload_n (pc := 112) dX6_readNumber_112 rfl rfl hl0 ?_
      obtain ⟨v20, e21, h⟩ := ob h
      refine y_getI (pc := 113) dX6_readNumber_113 zf_X6_30 e21 (by decide) ?_
      refine x_iconst (pc := 116) dX6_readNumber_116 (v := 1) rfl ?_
      obtain ⟨g27, h⟩ := bt h
      obtain ⟨M22, e23, h⟩ := ob h
      refine x_callV (av := [.int v20, .int 1]) (st := []) (pc := 117) dX6_readNumber_117 (E_X6_blame (d := d) e23) rfl (Nat.le_of_ble_eq_true rfl) zc_X6_blame rfl zm_X6_48 zi_X6_blame zs_X6_blame (zac_ok g27) (by decide) rfl rfl (zst_ok rfl (Nat.le_of_ble_eq_true rfl)) rfl ?_
      refine x_goto (pc := 120) dX6_readNumber_120 (t := 155) rfl ?_
      refine x_aload_n (pc := 155) dX6_readNumber_155 rfl rfl hl0 ?_
      obtain ⟨v24, e25, h⟩ := ob h
      refine y_getI (pc := 156) dX6_readNumber_156 zf_X6_27 e25 (by decide) ?_
      refine x_if_ne (pc := 159) dX6_readNumber_159 (t := 166) rfl (fun c26 => ?_) (fun c26 => ?_)
      · rw [if_neg c26] at h
        refine x_iconst (pc := 166) dX6_readNumber_166 (v := 0) rfl ?_
        obtain ⟨rfl, rfl⟩ := s2 h
        exact y_retI (pc := 167) dX6_readNumber_167 rfl
      · rw [if_pos c26] at h
        refine x_iload_n (pc := 162) dX6_readNumber_162 rfl rfl ?_
        refine x_goto (pc := 163) dX6_readNumber_163 (t := 167) rfl ?_
        obtain ⟨rfl, rfl⟩ := s2 h
        exact y_retI (pc := 167) dX6_readNumber_167 rfl
  · rw [if_neg c3] at h
    refine x_iconst (pc := 7) dX6_readNumber_7 (v := 0) rfl ?_
    obtain ⟨rfl, rfl⟩ := s2 h
    exact y_retI (pc := 8) dX6_readNumber_8 rfl
def f_X7_addNeed (l0 : Nat) (l1 : Int32) (l2 : Int32) (l3 : Int32) (l4 : Int32) (M : zM) : Option (zM) := bif Nat.ble 1 l0 then ((oI M l0 7 15 4).bind fun v1 => if 8 ≤ v1 then (some M) else ((oR M l0 7 15 11).bind fun v4 => (oI M l0 7 15 4).bind fun v6 => (sI M v4 v6 l1).bind fun M8 => (oR M8 l0 7 15 12).bind fun v10 => (oI M8 l0 7 15 4).bind fun v12 => (sI M8 v10 v12 l2).bind fun M14 => (oR M14 l0 7 15 13).bind fun v16 => (oI M14 l0 7 15 4).bind fun v18 => (sI M14 v16 v18 l3).bind fun M20 => (oR M20 l0 7 15 14).bind fun v22 => (oI M20 l0 7 15 4).bind fun v24 => (sI M20 v22 v24 l4).bind fun M26 => (oI M26 l0 7 15 4).bind fun v28 => (pI M26 l0 7 15 4 (v28 + 1)).bind fun M30 => some M30)) else none
theorem E_X7_addNeed {G : zG} {d : Nat} {l0 : Nat} {l1 : Int32} {l2 : Int32} {l3 : Int32} {l4 : Int32} {M MR : zM} (h : f_X7_addNeed l0 l1 l2 l3 l4 M = some MR) : Ex G d yX7_addNeed cX7_addNeed 5 none 0 (zent0 [.ref l0, .int l1, .int l2, .int l3, .int l4] 5) [] M (none, MR) := by
  unfold f_X7_addNeed at h
  obtain ⟨zz0, h⟩ := bt h
  have hl0 := bz zz0
  show Ex _ _ _ _ _ _ 0 [.ref l0, .int l1, .int l2, .int l3, .int l4] [] _ _
  refine x_aload_n (pc := 0) dX7_addNeed_0 rfl rfl hl0 ?_
  obtain ⟨v1, e2, h⟩ := ob h
  refine y_getI (pc := 1) dX7_addNeed_1 zf_X7_49 e2 (by decide) ?_
  refine x_bipush (pc := 4) dX7_addNeed_4 (v := 8) (by decide) ?_
  refine x_icmp_ge (pc := 6) dX7_addNeed_6 (t := 60) rfl (fun c3 => ?_) (fun c3 => ?_)
  · rw [if_pos c3] at h
    obtain rfl := s1 h
    exact x_vret (pc := 60) dX7_addNeed_60 rfl
  · rw [if_neg c3] at h
    refine x_aload_n (pc := 9) dX7_addNeed_9 rfl rfl hl0 ?_
    obtain ⟨v4, e5, h⟩ := ob h
    refine y_getR (pc := 10) dX7_addNeed_10 zf_X7_24 e5 ?_
    refine x_aload_n (pc := 13) dX7_addNeed_13 rfl rfl hl0 ?_
    obtain ⟨v6, e7, h⟩ := ob h
    refine y_getI (pc := 14) dX7_addNeed_14 zf_X7_49 e7 (by decide) ?_
    refine x_iload_n (pc := 17) dX7_addNeed_17 rfl rfl ?_
    obtain ⟨M8, e9, h⟩ := ob h
    refine y_iast (pc := 18) dX7_addNeed_18 e9 ?_
    refine x_aload_n (pc := 19) dX7_addNeed_19 rfl rfl hl0 ?_
    obtain ⟨v10, e11, h⟩ := ob h
    refine y_getR (pc := 20) dX7_addNeed_20 zf_X7_27 e11 ?_
    refine x_aload_n (pc := 23) dX7_addNeed_23 rfl rfl hl0 ?_
    obtain ⟨v12, e13, h⟩ := ob h
    refine y_getI (pc := 24) dX7_addNeed_24 zf_X7_49 e13 (by decide) ?_
    refine x_iload_n (pc := 27) dX7_addNeed_27 rfl rfl ?_
    obtain ⟨M14, e15, h⟩ := ob h
    refine y_iast (pc := 28) dX7_addNeed_28 e15 ?_
    refine x_aload_n (pc := 29) dX7_addNeed_29 rfl rfl hl0 ?_
    obtain ⟨v16, e17, h⟩ := ob h
    refine y_getR (pc := 30) dX7_addNeed_30 zf_X7_30 e17 ?_
    refine x_aload_n (pc := 33) dX7_addNeed_33 rfl rfl hl0 ?_
    obtain ⟨v18, e19, h⟩ := ob h
    refine y_getI (pc := 34) dX7_addNeed_34 zf_X7_49 e19 (by decide) ?_
    refine x_iload_n (pc := 37) dX7_addNeed_37 rfl rfl ?_
    obtain ⟨M20, e21, h⟩ := ob h
    refine y_iast (pc := 38) dX7_addNeed_38 e21 ?_
    refine x_aload_n (pc := 39) dX7_addNeed_39 rfl rfl hl0 ?_
    obtain ⟨v22, e23, h⟩ := ob h
    refine y_getR (pc := 40) dX7_addNeed_40 zf_X7_33 e23 ?_
    refine x_aload_n (pc := 43) dX7_addNeed_43 rfl rfl hl0 ?_
    obtain ⟨v24, e25, h⟩ := ob h
    refine y_getI (pc := 44) dX7_addNeed_44 zf_X7_49 e25 (by decide) ?_
    refine x_iload (pc := 47) dX7_addNeed_47 rfl ?_
    obtain ⟨M26, e27, h⟩ := ob h
    refine y_iast (pc := 49) dX7_addNeed_49 e27 ?_
    refine x_aload_n (pc := 50) dX7_addNeed_50 rfl rfl hl0 ?_
    refine x_dup (pc := 51) dX7_addNeed_51 rv_cr ?_
    obtain ⟨v28, e29, h⟩ := ob h
    refine y_getI (pc := 52) dX7_addNeed_52 zf_X7_49 e29 (by decide) ?_
    refine x_iconst (pc := 55) dX7_addNeed_55 (v := 1) rfl ?_
    refine x_iadd (pc := 56) dX7_addNeed_56 ?_
    obtain ⟨M30, e31, h⟩ := ob h
    refine y_putI (pc := 57) dX7_addNeed_57 zf_X7_49 e31 ?_
    obtain rfl := s1 h
    exact x_vret (pc := 60) dX7_addNeed_60 rfl
def f_X6_readNeed (l0 : Nat) (l1 : Nat) (M : zM) : Option (zM) := bif Nat.ble 1 l0 then (bif Nat.ble 1 l1 then ((oI M l1 7 15 3).bind fun v1 => bif zac M l0 6 6 then (b2 (f_X6_readNumber l0 0 (v1 - 1) M) fun r3 M4 => (oI M4 l1 7 15 1).bind fun v6 => bif zac M4 l0 6 6 then (b2 (f_X6_readNumber l0 0 (v6 - 1) M4) fun r8 M9 => (oI M9 l1 7 15 0).bind fun v11 => bif zac M9 l0 6 6 then (b2 (f_X6_readNumber l0 0 (v11 - 1) M9) fun r13 M14 => bif zac M14 l0 6 6 then (b2 (f_X6_readNumber l0 0 99 M14) fun r16 M17 => bif zac M17 l1 7 15 then ((f_X7_addNeed l1 r3 r8 r13 r16 M17).bind fun M19 => some M19) else none) else none) else none) else none) else none) else none) else none
theorem E_X6_readNeed {G : zG} {d : Nat} {l0 : Nat} {l1 : Nat} {M MR : zM} (h : f_X6_readNeed l0 l1 M = some MR) : Ex G (d + 2) yX6_readNeed cX6_readNeed 6 none 0 (zent0 [.ref l0, .ref l1] 6) [] M (none, MR) := by
  unfold f_X6_readNeed at h
  obtain ⟨zz0, h⟩ := bt h
  have hl0 := bz zz0
  obtain ⟨zz1, h⟩ := bt h
  have hl1 := bz zz1
  show Ex _ _ _ _ _ _ 0 [.ref l0, .ref l1, .null, .null, .null, .null] [] _ _
  refine x_aload_n (pc := 0) dX6_readNeed_0 rfl rfl hl0 ?_
  refine x_iconst (pc := 1) dX6_readNeed_1 (v := 0) rfl ?_
  refine x_aload_n (pc := 2) dX6_readNeed_2 rfl rfl hl1 ?_
  obtain ⟨v1, e2, h⟩ := ob h
  refine y_getI (pc := 3) dX6_readNeed_3 zf_X6_81 e2 (by decide) ?_
  refine x_iconst (pc := 6) dX6_readNeed_6 (v := 1) rfl ?_
  refine x_isub (pc := 7) dX6_readNeed_7 ?_
  obtain ⟨g25, h⟩ := bt h
  obtain ⟨r3, M4, e5, h⟩ := ob2 h
  refine x_callV (av := [.int 0, .int (v1 - 1)]) (st := []) (pc := 8) dX6_readNeed_8 (E_X6_readNumber (d := d) e5) rfl (Nat.le_of_ble_eq_true rfl) zc_X6_readNumber rfl zm_X6_52 zi_X6_readNumber zs_X6_readNumber (zac_ok g25) (by decide) rfl rfl (zst_ok rfl (Nat.le_of_ble_eq_true rfl)) rfl ?_
  refine x_istore_n (pc := 11) dX6_readNeed_11 rfl (by decide) rfl ?_
  refine x_aload_n (pc := 12) dX6_readNeed_12 rfl rfl hl0 ?_
  refine x_iconst (pc := 13) dX6_readNeed_13 (v := 0) rfl ?_
  refine x_aload_n (pc := 14) dX6_readNeed_14 rfl rfl hl1 ?_
  obtain ⟨v6, e7, h⟩ := ob h
  refine y_getI (pc := 15) dX6_readNeed_15 zf_X6_75 e7 (by decide) ?_
  refine x_iconst (pc := 18) dX6_readNeed_18 (v := 1) rfl ?_
  refine x_isub (pc := 19) dX6_readNeed_19 ?_
  obtain ⟨g24, h⟩ := bt h
  obtain ⟨r8, M9, e10, h⟩ := ob2 h
  refine x_callV (av := [.int 0, .int (v6 - 1)]) (st := []) (pc := 20) dX6_readNeed_20 (E_X6_readNumber (d := d) e10) rfl (Nat.le_of_ble_eq_true rfl) zc_X6_readNumber rfl zm_X6_52 zi_X6_readNumber zs_X6_readNumber (zac_ok g24) (by decide) rfl rfl (zst_ok rfl (Nat.le_of_ble_eq_true rfl)) rfl ?_
  refine x_istore_n (pc := 23) dX6_readNeed_23 rfl (by decide) rfl ?_
  refine x_aload_n (pc := 24) dX6_readNeed_24 rfl rfl hl0 ?_
  refine x_iconst (pc := 25) dX6_readNeed_25 (v := 0) rfl ?_
  refine x_aload_n (pc := 26) dX6_readNeed_26 rfl rfl hl1 ?_
  obtain ⟨v11, e12, h⟩ := ob h
  refine y_getI (pc := 27) dX6_readNeed_27 zf_X6_56 e12 (by decide) ?_
  refine x_iconst (pc := 30) dX6_readNeed_30 (v := 1) rfl ?_
  refine x_isub (pc := 31) dX6_readNeed_31 ?_
  obtain ⟨g23, h⟩ := bt h
  obtain ⟨r13, M14, e15, h⟩ := ob2 h
  refine x_callV (av := [.int 0, .int (v11 - 1)]) (st := []) (pc := 32) dX6_readNeed_32 (E_X6_readNumber (d := d) e15) rfl (Nat.le_of_ble_eq_true rfl) zc_X6_readNumber rfl zm_X6_52 zi_X6_readNumber zs_X6_readNumber (zac_ok g23) (by decide) rfl rfl (zst_ok rfl (Nat.le_of_ble_eq_true rfl)) rfl ?_
  refine x_istore (pc := 35) dX6_readNeed_35 (by decide) rfl ?_
  refine x_aload_n (pc := 37) dX6_readNeed_37 rfl rfl hl0 ?_
  refine x_iconst (pc := 38) dX6_readNeed_38 (v := 0) rfl ?_
  refine x_bipush (pc := 39) dX6_readNeed_39 (v := 99) (by decide) ?_
  obtain ⟨g22, h⟩ := bt h
  obtain ⟨r16, M17, e18, h⟩ := ob2 h
  refine x_callV (av := [.int 0, .int 99]) (st := []) (pc := 41) dX6_readNeed_41 (E_X6_readNumber (d := d) e18) rfl (Nat.le_of_ble_eq_true rfl) zc_X6_readNumber rfl zm_X6_52 zi_X6_readNumber zs_X6_readNumber (zac_ok g22) (by decide) rfl rfl (zst_ok rfl (Nat.le_of_ble_eq_true rfl)) rfl ?_
  refine x_istore (pc := 44) dX6_readNeed_44 (by decide) rfl ?_
  refine x_aload_n (pc := 46) dX6_readNeed_46 rfl rfl hl1 ?_
  refine x_iload_n (pc := 47) dX6_readNeed_47 rfl rfl ?_
  refine x_iload_n (pc := 48) dX6_readNeed_48 rfl rfl ?_
  refine x_iload (pc := 49) dX6_readNeed_49 rfl ?_
  refine x_iload (pc := 51) dX6_readNeed_51 rfl ?_
  obtain ⟨g21, h⟩ := bt h
  obtain ⟨M19, e20, h⟩ := ob h
  refine x_callV (av := [.int r3, .int r8, .int r13, .int r16]) (st := []) (pc := 53) dX6_readNeed_53 (E_X7_addNeed (d := d + 1) e20) rfl (Nat.le_of_ble_eq_true rfl) zc_X7_addNeed rfl zm_X6_107 zi_X7_addNeed zs_X7_addNeed (zac_ok g21) (by decide) rfl rfl (zst_ok rfl (Nat.le_of_ble_eq_true rfl)) rfl ?_
  obtain rfl := s1 h
  exact x_vret (pc := 56) dX6_readNeed_56 rfl
def f_X6_readPointing (l0 : Nat) (l1 : Nat) (M : zM) : Option (zM) := bif Nat.ble 1 l0 then (bif Nat.ble 1 l1 then ((oI M l1 7 15 1).bind fun v1 => bif zac M l0 6 6 then (b2 (f_X6_readNumber l0 0 (v1 - 1) M) fun r3 M4 => bif zac M4 l1 7 15 then ((f_X7_canPoint l1 r3 M4).bind fun r6 => if r6 = 0 then ((oI M4 l1 7 15 5).bind fun v9 => (pI M4 l1 7 15 5 (v9 ||| (1 <<< (r3 &&& 31)))).bind fun M11 => some M11) else ((oI M4 l0 6 6 5).bind fun v13 => bif zac M4 l0 6 6 then ((f_X6_blame l0 v13 4 M4).bind fun M15 => (oI M15 l1 7 15 5).bind fun v17 => (pI M15 l1 7 15 5 (v17 ||| (1 <<< (r3 &&& 31)))).bind fun M19 => some M19) else none)) else none) else none) else none) else none
theorem E_X6_readPointing {G : zG} {d : Nat} {l0 : Nat} {l1 : Nat} {M MR : zM} (h : f_X6_readPointing l0 l1 M = some MR) : Ex G (d + 2) yX6_readPointing cX6_readPointing 3 none 0 (zent0 [.ref l0, .ref l1] 3) [] M (none, MR) := by
  unfold f_X6_readPointing at h
  obtain ⟨zz0, h⟩ := bt h
  have hl0 := bz zz0
  obtain ⟨zz1, h⟩ := bt h
  have hl1 := bz zz1
  show Ex _ _ _ _ _ _ 0 [.ref l0, .ref l1, .null] [] _ _
  refine x_aload_n (pc := 0) dX6_readPointing_0 rfl rfl hl0 ?_
  refine x_iconst (pc := 1) dX6_readPointing_1 (v := 0) rfl ?_
  refine x_aload_n (pc := 2) dX6_readPointing_2 rfl rfl hl1 ?_
  obtain ⟨v1, e2, h⟩ := ob h
  refine y_getI (pc := 3) dX6_readPointing_3 zf_X6_75 e2 (by decide) ?_
  refine x_iconst (pc := 6) dX6_readPointing_6 (v := 1) rfl ?_
  refine x_isub (pc := 7) dX6_readPointing_7 ?_
  obtain ⟨g23, h⟩ := bt h
  obtain ⟨r3, M4, e5, h⟩ := ob2 h
  refine x_callV (av := [.int 0, .int (v1 - 1)]) (st := []) (pc := 8) dX6_readPointing_8 (E_X6_readNumber (d := d) e5) rfl (Nat.le_of_ble_eq_true rfl) zc_X6_readNumber rfl zm_X6_52 zi_X6_readNumber zs_X6_readNumber (zac_ok g23) (by decide) rfl rfl (zst_ok rfl (Nat.le_of_ble_eq_true rfl)) rfl ?_
  refine x_istore_n (pc := 11) dX6_readPointing_11 rfl (by decide) rfl ?_
  refine x_aload_n (pc := 12) dX6_readPointing_12 rfl rfl hl1 ?_
  refine x_iload_n (pc := 13) dX6_readPointing_13 rfl rfl ?_
  obtain ⟨g22, h⟩ := bt h
  obtain ⟨r6, e7, h⟩ := ob h
  refine x_callV (av := [.int r3]) (st := []) (pc := 14) dX6_readPointing_14 (E_X7_canPoint (d := d + 1) e7) rfl (Nat.le_of_ble_eq_true rfl) zc_X7_canPoint rfl zm_X6_100 zi_X7_canPoint zs_X7_canPoint (zac_ok g22) (by decide) rfl rfl (zst_ok rfl (Nat.le_of_ble_eq_true rfl)) rfl ?_
  refine x_if_eq (pc := 17) dX6_readPointing_17 (t := 29) rfl (fun c8 => ?_) (fun c8 => ?_)
  · rw [if_pos c8] at h
    refine x_aload_n (pc := 29) dX6_readPointing_29 rfl rfl hl1 ?_
    refine x_dup (pc := 30) dX6_readPointing_30 rv_cr ?_
    obtain ⟨v9, e10, h⟩ := ob h
    refine y_getI (pc := 31) dX6_readPointing_31 zf_X6_104 e10 (by decide) ?_
    refine x_iconst (pc := 34) dX6_readPointing_34 (v := 1) rfl ?_
    refine x_iload_n (pc := 35) dX6_readPointing_35 rfl rfl ?_
    refine x_ishl (pc := 36) dX6_readPointing_36 ?_
    refine x_ior (pc := 37) dX6_readPointing_37 ?_
    obtain ⟨M11, e12, h⟩ := ob h
    refine y_putI (pc := 38) dX6_readPointing_38 zf_X6_104 e12 ?_
    obtain rfl := s1 h
    exact x_vret (pc := 41) dX6_readPointing_41 rfl
  · rw [if_neg c8] at h
    refine x_aload_n (pc := 20) dX6_readPointing_20 rfl rfl hl0 ?_
    refine x_aload_n (pc := 21) dX6_readPointing_21 rfl rfl hl0 ?_
    obtain ⟨v13, e14, h⟩ := ob h
    refine y_getI (pc := 22) dX6_readPointing_22 zf_X6_94 e14 (by decide) ?_
    refine x_iconst (pc := 25) dX6_readPointing_25 (v := 4) rfl ?_
    obtain ⟨g21, h⟩ := bt h
    obtain ⟨M15, e16, h⟩ := ob h
    refine x_callV (av := [.int v13, .int 4]) (st := []) (pc := 26) dX6_readPointing_26 (E_X6_blame (d := d + 1) e16) rfl (Nat.le_of_ble_eq_true rfl) zc_X6_blame rfl zm_X6_48 zi_X6_blame zs_X6_blame (zac_ok g21) (by decide) rfl rfl (zst_ok rfl (Nat.le_of_ble_eq_true rfl)) rfl ?_
    refine x_aload_n (pc := 29) dX6_readPointing_29 rfl rfl hl1 ?_
    refine x_dup (pc := 30) dX6_readPointing_30 rv_cr ?_
    obtain ⟨v17, e18, h⟩ := ob h
    refine y_getI (pc := 31) dX6_readPointing_31 zf_X6_104 e18 (by decide) ?_
    refine x_iconst (pc := 34) dX6_readPointing_34 (v := 1) rfl ?_
    refine x_iload_n (pc := 35) dX6_readPointing_35 rfl rfl ?_
    refine x_ishl (pc := 36) dX6_readPointing_36 ?_
    refine x_ior (pc := 37) dX6_readPointing_37 ?_
    obtain ⟨M19, e20, h⟩ := ob h
    refine y_putI (pc := 38) dX6_readPointing_38 zf_X6_104 e20 ?_
    obtain rfl := s1 h
    exact x_vret (pc := 41) dX6_readPointing_41 rfl
def L_X7_addWay_2 : Nat → Nat → Int32 → Int32 → Int32 → zM → Option ((zM) ⊕ (zM))
  | 0, _, _, _, _, _ => none
  | n + 1, l0, l1, l2, l3, M => if 2 ≤ l3 then (some (.inr M)) else (if (l1 * 2) + l3 < 0 then (L_X7_addWay_2 n l0 l1 l2 (l3 + 1) M) else ((oR M l0 7 15 10).bind fun v3 => (aN M v3).bind fun v5 => if v5 ≤ (l1 * 2) + l3 then (L_X7_addWay_2 n l0 l1 l2 (l3 + 1) M) else ((oR M l0 7 15 10).bind fun v8 => (aI M v8 ((l1 * 2) + l3)).bind fun v10 => if v10 = 0 then ((oR M l0 7 15 10).bind fun v13 => (sI M v13 ((l1 * 2) + l3) l2).bind fun M15 => (oI M15 l0 7 15 2).bind fun v17 => (pI M15 l0 7 15 2 (v17 + 1)).bind fun M19 => some (.inl M19)) else (L_X7_addWay_2 n l0 l1 l2 (l3 + 1) M))))
def f_X7_addWay (l0 : Nat) (l1 : Int32) (l2 : Int32) (M : zM) : Option (zM) := bif Nat.ble 1 l0 then (bs (L_X7_addWay_2 zN l0 l1 l2 0 M) some (fun M2 => some M2)) else none
theorem LX_X7_addWay_2 {G : zG} {d : Nat} : ∀ (n : Nat) (l0 : Nat) (l1 : Int32) (l2 : Int32) (l3 : Int32) (M : zM) (hl0 : l0 ≠ 0) (e : (zM) ⊕ (zM)) {res : Option Value × zM}, L_X7_addWay_2 n l0 l1 l2 l3 M = some e → (∀ r, e = .inl r → res = (none, r)) → (∀ (MX : zM), e = .inr MX → Ex G d yX7_addWay cX7_addWay 5 none 64 [.null, .null, .null, .null, .null] [] MX res) → Ex G d yX7_addWay cX7_addWay 5 none 2 [.ref l0, .int l1, .int l2, .int l3, .null] [] M res := by
  intro n
  induction n with
  | zero =>
    intro l0 l1 l2 l3 M hl0 e res h K1 K2
    simp [L_X7_addWay_2] at h
  | succ n ih =>
    intro l0 l1 l2 l3 M hl0 e res h K1 K2
    simp only [L_X7_addWay_2] at h
    refine x_iload_n (pc := 2) dX7_addWay_2 rfl rfl ?_
    refine x_iconst (pc := 3) dX7_addWay_3 (v := 2) rfl ?_
    refine x_icmp_ge (pc := 4) dX7_addWay_4 (t := 64) rfl (fun c1 => ?_) (fun c1 => ?_)
    · rw [if_pos c1] at h
      obtain rfl := s1 h
      refine ex_weak (Ls2 := [.null, .null, .null, .null, .null]) ⟨Or.inl rfl, Or.inl rfl, Or.inl rfl, Or.inl rfl, Or.inl rfl, trivial⟩ ?_
      exact K2 _ rfl
    · rw [if_neg c1] at h
      refine x_iload_n (pc := 7) dX7_addWay_7 rfl rfl ?_
      refine x_iconst (pc := 8) dX7_addWay_8 (v := 2) rfl ?_
      refine x_imul (pc := 9) dX7_addWay_9 ?_
      refine x_iload_n (pc := 10) dX7_addWay_10 rfl rfl ?_
      refine x_iadd (pc := 11) dX7_addWay_11 ?_
      refine x_istore (pc := 12) dX7_addWay_12 (by decide) rfl ?_
      refine x_iload (pc := 14) dX7_addWay_14 rfl ?_
      refine x_if_lt (pc := 16) dX7_addWay_16 (t := 58) rfl (fun c2 => ?_) (fun c2 => ?_)
      · rw [if_pos c2] at h
        refine x_iinc (pc := 58) dX7_addWay_58 rfl rfl (by decide) rfl ?_
        refine x_goto (pc := 61) dX7_addWay_61 (t := 2) rfl ?_
        refine ex_weak (Ls2 := [.ref l0, .int l1, .int l2, .int (l3 + 1), .null]) ⟨Or.inr rfl, Or.inr rfl, Or.inr rfl, Or.inr rfl, Or.inl rfl, trivial⟩ ?_
        exact ih _ _ _ _ _ hl0 _ h K1 K2
      · rw [if_neg c2] at h
        refine x_iload (pc := 19) dX7_addWay_19 rfl ?_
        refine x_aload_n (pc := 21) dX7_addWay_21 rfl rfl hl0 ?_
        obtain ⟨v3, e4, h⟩ := ob h
        refine y_getR (pc := 22) dX7_addWay_22 zf_X7_21 e4 ?_
        obtain ⟨v5, e6, h⟩ := ob h
        refine y_alen (pc := 25) dX7_addWay_25 e6 ?_
        refine x_icmp_ge (pc := 26) dX7_addWay_26 (t := 58) rfl (fun c7 => ?_) (fun c7 => ?_)
        · rw [if_pos c7] at h
          refine x_iinc (pc := 58) dX7_addWay_58 rfl rfl (by decide) rfl ?_
          refine x_goto (pc := 61) dX7_addWay_61 (t := 2) rfl ?_
          refine ex_weak (Ls2 := [.ref l0, .int l1, .int l2, .int (l3 + 1), .null]) ⟨Or.inr rfl, Or.inr rfl, Or.inr rfl, Or.inr rfl, Or.inl rfl, trivial⟩ ?_
          exact ih _ _ _ _ _ hl0 _ h K1 K2
        · rw [if_neg c7] at h
          refine x_aload_n (pc := 29) dX7_addWay_29 rfl rfl hl0 ?_
          obtain ⟨v8, e9, h⟩ := ob h
          refine y_getR (pc := 30) dX7_addWay_30 zf_X7_21 e9 ?_
          refine x_iload (pc := 33) dX7_addWay_33 rfl ?_
          obtain ⟨v10, e11, h⟩ := ob h
          refine y_iald (pc := 35) dX7_addWay_35 e11 ?_
          refine x_if_ne (pc := 36) dX7_addWay_36 (t := 58) rfl (fun c12 => ?_) (fun c12 => ?_)
          · rw [if_neg c12] at h
            refine x_iinc (pc := 58) dX7_addWay_58 rfl rfl (by decide) rfl ?_
            refine x_goto (pc := 61) dX7_addWay_61 (t := 2) rfl ?_
            refine ex_weak (Ls2 := [.ref l0, .int l1, .int l2, .int (l3 + 1), .null]) ⟨Or.inr rfl, Or.inr rfl, Or.inr rfl, Or.inr rfl, Or.inl rfl, trivial⟩ ?_
            exact ih _ _ _ _ _ hl0 _ h K1 K2
          · rw [if_pos c12] at h
            refine x_aload_n (pc := 39) dX7_addWay_39 rfl rfl hl0 ?_
            obtain ⟨v13, e14, h⟩ := ob h
            refine y_getR (pc := 40) dX7_addWay_40 zf_X7_21 e14 ?_
            refine x_iload (pc := 43) dX7_addWay_43 rfl ?_
            refine x_iload_n (pc := 45) dX7_addWay_45 rfl rfl ?_
            obtain ⟨M15, e16, h⟩ := ob h
            refine y_iast (pc := 46) dX7_addWay_46 e16 ?_
            refine x_aload_n (pc := 47) dX7_addWay_47 rfl rfl hl0 ?_
            refine x_dup (pc := 48) dX7_addWay_48 rv_cr ?_
            obtain ⟨v17, e18, h⟩ := ob h
            refine y_getI (pc := 49) dX7_addWay_49 zf_X7_43 e18 (by decide) ?_
            refine x_iconst (pc := 52) dX7_addWay_52 (v := 1) rfl ?_
            refine x_iadd (pc := 53) dX7_addWay_53 ?_
            obtain ⟨M19, e20, h⟩ := ob h
            refine y_putI (pc := 54) dX7_addWay_54 zf_X7_43 e20 ?_
            obtain rfl := s1 h
            rw [K1 _ rfl]
            exact x_vret (pc := 57) dX7_addWay_57 rfl
theorem E_X7_addWay {G : zG} {d : Nat} {l0 : Nat} {l1 : Int32} {l2 : Int32} {M MR : zM} (h : f_X7_addWay l0 l1 l2 M = some MR) : Ex G d yX7_addWay cX7_addWay 5 none 0 (zent0 [.ref l0, .int l1, .int l2] 5) [] M (none, MR) := by
  unfold f_X7_addWay at h
  obtain ⟨zz0, h⟩ := bt h
  have hl0 := bz zz0
  show Ex _ _ _ _ _ _ 0 [.ref l0, .int l1, .int l2, .null, .null] [] _ _
  refine x_iconst (pc := 0) dX7_addWay_0 (v := 0) rfl ?_
  refine x_istore_n (pc := 1) dX7_addWay_1 rfl (by decide) rfl ?_
  refine ex_weak (Ls2 := [.ref l0, .int l1, .int l2, .int 0, .null]) ⟨Or.inr rfl, Or.inr rfl, Or.inr rfl, Or.inr rfl, Or.inl rfl, trivial⟩ ?_
  rcases obs h with ⟨r3, e1, h⟩ | ⟨M2, e1, h⟩
  · cases h
    exact LX_X7_addWay_2 zN _ _ _ _ _ hl0 _ e1 (fun r q => by cases q; rfl) (by intros; contradiction)
  · refine LX_X7_addWay_2 zN _ _ _ _ _ hl0 _ e1 (fun r q => by cases q) ?_
    intro u4 q
    cases q
    obtain rfl := s1 h
    exact x_vret (pc := 64) dX7_addWay_64 rfl
def f_X6_readWay (l0 : Nat) (l1 : Nat) (M : zM) : Option (zM) := bif Nat.ble 1 l0 then (bif Nat.ble 1 l1 then ((oI M l1 7 15 1).bind fun v1 => bif zac M l0 6 6 then (b2 (f_X6_readNumber l0 0 (v1 - 1) M) fun r3 M4 => bif zac M4 l1 7 15 then ((f_X7_wayRound l1 r3 1 M4).bind fun r6 => if r6 = 0 then (bif zac M4 l0 6 6 then (b2 (f_X6_readNumber l0 1 255 M4) fun r9 M10 => (oI M10 l1 7 15 1).bind fun v12 => if r9 >>> (v12 &&& 31) = 0 then (if (r9 >>> (r3 &&& 31)) &&& 1 = 0 then (bif zac M10 l1 7 15 then ((f_X7_addWay l1 r3 r9 M10).bind fun M16 => some M16) else none) else ((oI M10 l0 6 6 5).bind fun v19 => bif zac M10 l0 6 6 then ((f_X6_blame l0 v19 2 M10).bind fun M21 => bif zac M21 l1 7 15 then ((f_X7_addWay l1 r3 r9 M21).bind fun M23 => some M23) else none) else none)) else ((oI M10 l0 6 6 5).bind fun v27 => bif zac M10 l0 6 6 then ((f_X6_blame l0 v27 2 M10).bind fun M29 => bif zac M29 l1 7 15 then ((f_X7_addWay l1 r3 r9 M29).bind fun M31 => some M31) else none) else none)) else none) else ((oI M4 l0 6 6 5).bind fun v36 => bif zac M4 l0 6 6 then ((f_X6_blame l0 v36 4 M4).bind fun M38 => bif zac M38 l0 6 6 then (b2 (f_X6_readNumber l0 1 255 M38) fun r40 M41 => (oI M41 l1 7 15 1).bind fun v43 => if r40 >>> (v43 &&& 31) = 0 then (if (r40 >>> (r3 &&& 31)) &&& 1 = 0 then (bif zac M41 l1 7 15 then ((f_X7_addWay l1 r3 r40 M41).bind fun M47 => some M47) else none) else ((oI M41 l0 6 6 5).bind fun v50 => bif zac M41 l0 6 6 then ((f_X6_blame l0 v50 2 M41).bind fun M52 => bif zac M52 l1 7 15 then ((f_X7_addWay l1 r3 r40 M52).bind fun M54 => some M54) else none) else none)) else ((oI M41 l0 6 6 5).bind fun v58 => bif zac M41 l0 6 6 then ((f_X6_blame l0 v58 2 M41).bind fun M60 => bif zac M60 l1 7 15 then ((f_X7_addWay l1 r3 r40 M60).bind fun M62 => some M62) else none) else none)) else none) else none)) else none) else none) else none) else none
theorem E_X6_readWay {G : zG} {d : Nat} {l0 : Nat} {l1 : Nat} {M MR : zM} (h : f_X6_readWay l0 l1 M = some MR) : Ex G (d + 2) yX6_readWay cX6_readWay 4 none 0 (zent0 [.ref l0, .ref l1] 4) [] M (none, MR) := by
  unfold f_X6_readWay at h
  obtain ⟨zz0, h⟩ := bt h
  have hl0 := bz zz0
  obtain ⟨zz1, h⟩ := bt h
  have hl1 := bz zz1
  show Ex _ _ _ _ _ _ 0 [.ref l0, .ref l1, .null, .null] [] _ _
  refine x_aload_n (pc := 0) dX6_readWay_0 rfl rfl hl0 ?_
  refine x_iconst (pc := 1) dX6_readWay_1 (v := 0) rfl ?_
  refine x_aload_n (pc := 2) dX6_readWay_2 rfl rfl hl1 ?_
  obtain ⟨v1, e2, h⟩ := ob h
  refine y_getI (pc := 3) dX6_readWay_3 zf_X6_75 e2 (by decide) ?_
  refine x_iconst (pc := 6) dX6_readWay_6 (v := 1) rfl ?_
  refine x_isub (pc := 7) dX6_readWay_7 ?_
  obtain ⟨g69, h⟩ := bt h
  obtain ⟨r3, M4, e5, h⟩ := ob2 h
  refine x_callV (av := [.int 0, .int (v1 - 1)]) (st := []) (pc := 8) dX6_readWay_8 (E_X6_readNumber (d := d) e5) rfl (Nat.le_of_ble_eq_true rfl) zc_X6_readNumber rfl zm_X6_52 zi_X6_readNumber zs_X6_readNumber (zac_ok g69) (by decide) rfl rfl (zst_ok rfl (Nat.le_of_ble_eq_true rfl)) rfl ?_
  refine x_istore_n (pc := 11) dX6_readWay_11 rfl (by decide) rfl ?_
  refine x_aload_n (pc := 12) dX6_readWay_12 rfl rfl hl1 ?_
  refine x_iload_n (pc := 13) dX6_readWay_13 rfl rfl ?_
  refine x_iconst (pc := 14) dX6_readWay_14 (v := 1) rfl ?_
  obtain ⟨g68, h⟩ := bt h
  obtain ⟨r6, e7, h⟩ := ob h
  refine x_callV (av := [.int r3, .int 1]) (st := []) (pc := 15) dX6_readWay_15 (E_X7_wayRound (d := d + 1) e7) rfl (Nat.le_of_ble_eq_true rfl) zc_X7_wayRound rfl zm_X6_91 zi_X7_wayRound zs_X7_wayRound (zac_ok g68) (by decide) rfl rfl (zst_ok rfl (Nat.le_of_ble_eq_true rfl)) rfl ?_
  refine x_if_eq (pc := 18) dX6_readWay_18 (t := 30) rfl (fun c8 => ?_) (fun c8 => ?_)
  · rw [if_pos c8] at h
    refine x_aload_n (pc := 30) dX6_readWay_30 rfl rfl hl0 ?_
    refine x_iconst (pc := 31) dX6_readWay_31 (v := 1) rfl ?_
    refine x_sipush (pc := 32) dX6_readWay_32 (v := 255) (by decide) ?_
    obtain ⟨g35, h⟩ := bt h
    obtain ⟨r9, M10, e11, h⟩ := ob2 h
    refine x_callV (av := [.int 1, .int 255]) (st := []) (pc := 35) dX6_readWay_35 (E_X6_readNumber (d := d) e11) rfl (Nat.le_of_ble_eq_true rfl) zc_X6_readNumber rfl zm_X6_52 zi_X6_readNumber zs_X6_readNumber (zac_ok g35) (by decide) rfl rfl (zst_ok rfl (Nat.le_of_ble_eq_true rfl)) rfl ?_
    refine x_istore_n (pc := 38) dX6_readWay_38 rfl (by decide) rfl ?_
    refine x_iload_n (pc := 39) dX6_readWay_39 rfl rfl ?_
    refine x_aload_n (pc := 40) dX6_readWay_40 rfl rfl hl1 ?_
    obtain ⟨v12, e13, h⟩ := ob h
    refine y_getI (pc := 41) dX6_readWay_41 zf_X6_75 e13 (by decide) ?_
    refine x_ishr (pc := 44) dX6_readWay_44 ?_
    refine x_if_ne (pc := 45) dX6_readWay_45 (t := 56) rfl (fun c14 => ?_) (fun c14 => ?_)
    · rw [if_neg c14] at h
      refine x_aload_n (pc := 56) dX6_readWay_56 rfl rfl hl0 ?_
      refine x_aload_n (pc := 57) dX6_readWay_57 rfl rfl hl0 ?_
      obtain ⟨v27, e28, h⟩ := ob h
      refine y_getI (pc := 58) dX6_readWay_58 zf_X6_94 e28 (by decide) ?_
      refine x_iconst (pc := 61) dX6_readWay_61 (v := 2) rfl ?_
      obtain ⟨g34, h⟩ := bt h
      obtain ⟨M29, e30, h⟩ := ob h
      refine x_callV (av := [.int v27, .int 2]) (st := []) (pc := 62) dX6_readWay_62 (E_X6_blame (d := d + 1) e30) rfl (Nat.le_of_ble_eq_true rfl) zc_X6_blame rfl zm_X6_48 zi_X6_blame zs_X6_blame (zac_ok g34) (by decide) rfl rfl (zst_ok rfl (Nat.le_of_ble_eq_true rfl)) rfl ?_
      refine x_aload_n (pc := 65) dX6_readWay_65 rfl rfl hl1 ?_
      refine x_iload_n (pc := 66) dX6_readWay_66 rfl rfl ?_
      refine x_iload_n (pc := 67) dX6_readWay_67 rfl rfl ?_
      obtain ⟨g33, h⟩ := bt h
      obtain ⟨M31, e32, h⟩ := ob h
      refine x_callV (av := [.int r3, .int r9]) (st := []) (pc := 68) dX6_readWay_68 (E_X7_addWay (d := d + 1) e32) rfl (Nat.le_of_ble_eq_true rfl) zc_X7_addWay rfl zm_X6_97 zi_X7_addWay zs_X7_addWay (zac_ok g33) (by decide) rfl rfl (zst_ok rfl (Nat.le_of_ble_eq_true rfl)) rfl ?_
      obtain rfl := s1 h
      exact x_vret (pc := 71) dX6_readWay_71 rfl
    · rw [if_pos c14] at h
      refine x_iload_n (pc := 48) dX6_readWay_48 rfl rfl ?_
      refine x_iload_n (pc := 49) dX6_readWay_49 rfl rfl ?_
      refine x_ishr (pc := 50) dX6_readWay_50 ?_
      refine x_iconst (pc := 51) dX6_readWay_51 (v := 1) rfl ?_
      refine x_iand (pc := 52) dX6_readWay_52 ?_
      refine x_if_eq (pc := 53) dX6_readWay_53 (t := 65) rfl (fun c15 => ?_) (fun c15 => ?_)
      · rw [if_pos c15] at h
        refine x_aload_n (pc := 65) dX6_readWay_65 rfl rfl hl1 ?_
        refine x_iload_n (pc := 66) dX6_readWay_66 rfl rfl ?_
        refine x_iload_n (pc := 67) dX6_readWay_67 rfl rfl ?_
        obtain ⟨g18, h⟩ := bt h
        obtain ⟨M16, e17, h⟩ := ob h
        refine x_callV (av := [.int r3, .int r9]) (st := []) (pc := 68) dX6_readWay_68 (E_X7_addWay (d := d + 1) e17) rfl (Nat.le_of_ble_eq_true rfl) zc_X7_addWay rfl zm_X6_97 zi_X7_addWay zs_X7_addWay (zac_ok g18) (by decide) rfl rfl (zst_ok rfl (Nat.le_of_ble_eq_true rfl)) rfl ?_
        obtain rfl := s1 h
        exact x_vret (pc := 71) dX6_readWay_71 rfl
      · rw [if_neg c15] at h
        refine x_aload_n (pc := 56) dX6_readWay_56 rfl rfl hl0 ?_
        refine x_aload_n (pc := 57) dX6_readWay_57 rfl rfl hl0 ?_
        obtain ⟨v19, e20, h⟩ := ob h
        refine y_getI (pc := 58) dX6_readWay_58 zf_X6_94 e20 (by decide) ?_
        refine x_iconst (pc := 61) dX6_readWay_61 (v := 2) rfl ?_
        obtain ⟨g26, h⟩ := bt h
        obtain ⟨M21, e22, h⟩ := ob h
        refine x_callV (av := [.int v19, .int 2]) (st := []) (pc := 62) dX6_readWay_62 (E_X6_blame (d := d + 1) e22) rfl (Nat.le_of_ble_eq_true rfl) zc_X6_blame rfl zm_X6_48 zi_X6_blame zs_X6_blame (zac_ok g26) (by decide) rfl rfl (zst_ok rfl (Nat.le_of_ble_eq_true rfl)) rfl ?_
        refine x_aload_n (pc := 65) dX6_readWay_65 rfl rfl hl1 ?_
        refine x_iload_n (pc := 66) dX6_readWay_66 rfl rfl ?_
        refine x_iload_n (pc := 67) dX6_readWay_67 rfl rfl ?_
        obtain ⟨g25, h⟩ := bt h
        obtain ⟨M23, e24, h⟩ := ob h
        refine x_callV (av := [.int r3, .int r9]) (st := []) (pc := 68) dX6_readWay_68 (E_X7_addWay (d := d + 1) e24) rfl (Nat.le_of_ble_eq_true rfl) zc_X7_addWay rfl zm_X6_97 zi_X7_addWay zs_X7_addWay (zac_ok g25) (by decide) rfl rfl (zst_ok rfl (Nat.le_of_ble_eq_true rfl)) rfl ?_
        obtain rfl := s1 h
        exact x_vret (pc := 71) dX6_readWay_71 rfl
  · rw [if_neg c8] at h
    refine x_aload_n (pc := 21) dX6_readWay_21 rfl rfl hl0 ?_
    refine x_aload_n (pc := 22) dX6_readWay_22 rfl rfl hl0 ?_
    obtain ⟨v36, e37, h⟩ := ob h
    refine y_getI (pc := 23) dX6_readWay_23 zf_X6_94 e37 (by decide) ?_
    refine x_iconst (pc := 26) dX6_readWay_26 (v := 4) rfl ?_
    obtain ⟨g67, h⟩ := bt h
    obtain ⟨M38, e39, h⟩ := ob h
    refine x_callV (av := [.int v36, .int 4]) (st := []) (pc := 27) dX6_readWay_27 (E_X6_blame (d := d + 1) e39) rfl (Nat.le_of_ble_eq_true rfl) zc_X6_blame rfl zm_X6_48 zi_X6_blame zs_X6_blame (zac_ok g67) (by decide) rfl rfl (zst_ok rfl (Nat.le_of_ble_eq_true rfl)) rfl ?_
    refine x_aload_n (pc := 30) dX6_readWay_30 rfl rfl hl0 ?_
    refine x_iconst (pc := 31) dX6_readWay_31 (v := 1) rfl ?_
    refine x_sipush (pc := 32) dX6_readWay_32 (v := 255) (by decide) ?_
    obtain ⟨g66, h⟩ := bt h
    obtain ⟨r40, M41, e42, h⟩ := ob2 h
    refine x_callV (av := [.int 1, .int 255]) (st := []) (pc := 35) dX6_readWay_35 (E_X6_readNumber (d := d) e42) rfl (Nat.le_of_ble_eq_true rfl) zc_X6_readNumber rfl zm_X6_52 zi_X6_readNumber zs_X6_readNumber (zac_ok g66) (by decide) rfl rfl (zst_ok rfl (Nat.le_of_ble_eq_true rfl)) rfl ?_
    refine x_istore_n (pc := 38) dX6_readWay_38 rfl (by decide) rfl ?_
    refine x_iload_n (pc := 39) dX6_readWay_39 rfl rfl ?_
    refine x_aload_n (pc := 40) dX6_readWay_40 rfl rfl hl1 ?_
    obtain ⟨v43, e44, h⟩ := ob h
    refine y_getI (pc := 41) dX6_readWay_41 zf_X6_75 e44 (by decide) ?_
    refine x_ishr (pc := 44) dX6_readWay_44 ?_
    refine x_if_ne (pc := 45) dX6_readWay_45 (t := 56) rfl (fun c45 => ?_) (fun c45 => ?_)
    · rw [if_neg c45] at h
      refine x_aload_n (pc := 56) dX6_readWay_56 rfl rfl hl0 ?_
      refine x_aload_n (pc := 57) dX6_readWay_57 rfl rfl hl0 ?_
      obtain ⟨v58, e59, h⟩ := ob h
      refine y_getI (pc := 58) dX6_readWay_58 zf_X6_94 e59 (by decide) ?_
      refine x_iconst (pc := 61) dX6_readWay_61 (v := 2) rfl ?_
      obtain ⟨g65, h⟩ := bt h
      obtain ⟨M60, e61, h⟩ := ob h
      refine x_callV (av := [.int v58, .int 2]) (st := []) (pc := 62) dX6_readWay_62 (E_X6_blame (d := d + 1) e61) rfl (Nat.le_of_ble_eq_true rfl) zc_X6_blame rfl zm_X6_48 zi_X6_blame zs_X6_blame (zac_ok g65) (by decide) rfl rfl (zst_ok rfl (Nat.le_of_ble_eq_true rfl)) rfl ?_
      refine x_aload_n (pc := 65) dX6_readWay_65 rfl rfl hl1 ?_
      refine x_iload_n (pc := 66) dX6_readWay_66 rfl rfl ?_
      refine x_iload_n (pc := 67) dX6_readWay_67 rfl rfl ?_
      obtain ⟨g64, h⟩ := bt h
      obtain ⟨M62, e63, h⟩ := ob h
      refine x_callV (av := [.int r3, .int r40]) (st := []) (pc := 68) dX6_readWay_68 (E_X7_addWay (d := d + 1) e63) rfl (Nat.le_of_ble_eq_true rfl) zc_X7_addWay rfl zm_X6_97 zi_X7_addWay zs_X7_addWay (zac_ok g64) (by decide) rfl rfl (zst_ok rfl (Nat.le_of_ble_eq_true rfl)) rfl ?_
      obtain rfl := s1 h
      exact x_vret (pc := 71) dX6_readWay_71 rfl
    · rw [if_pos c45] at h
      refine x_iload_n (pc := 48) dX6_readWay_48 rfl rfl ?_
      refine x_iload_n (pc := 49) dX6_readWay_49 rfl rfl ?_
      refine x_ishr (pc := 50) dX6_readWay_50 ?_
      refine x_iconst (pc := 51) dX6_readWay_51 (v := 1) rfl ?_
      refine x_iand (pc := 52) dX6_readWay_52 ?_
      refine x_if_eq (pc := 53) dX6_readWay_53 (t := 65) rfl (fun c46 => ?_) (fun c46 => ?_)
      · rw [if_pos c46] at h
        refine x_aload_n (pc := 65) dX6_readWay_65 rfl rfl hl1 ?_
        refine x_iload_n (pc := 66) dX6_readWay_66 rfl rfl ?_
        refine x_iload_n (pc := 67) dX6_readWay_67 rfl rfl ?_
        obtain ⟨g49, h⟩ := bt h
        obtain ⟨M47, e48, h⟩ := ob h
        refine x_callV (av := [.int r3, .int r40]) (st := []) (pc := 68) dX6_readWay_68 (E_X7_addWay (d := d + 1) e48) rfl (Nat.le_of_ble_eq_true rfl) zc_X7_addWay rfl zm_X6_97 zi_X7_addWay zs_X7_addWay (zac_ok g49) (by decide) rfl rfl (zst_ok rfl (Nat.le_of_ble_eq_true rfl)) rfl ?_
        obtain rfl := s1 h
        exact x_vret (pc := 71) dX6_readWay_71 rfl
      · rw [if_neg c46] at h
        refine x_aload_n (pc := 56) dX6_readWay_56 rfl rfl hl0 ?_
        refine x_aload_n (pc := 57) dX6_readWay_57 rfl rfl hl0 ?_
        obtain ⟨v50, e51, h⟩ := ob h
        refine y_getI (pc := 58) dX6_readWay_58 zf_X6_94 e51 (by decide) ?_
        refine x_iconst (pc := 61) dX6_readWay_61 (v := 2) rfl ?_
        obtain ⟨g57, h⟩ := bt h
        obtain ⟨M52, e53, h⟩ := ob h
        refine x_callV (av := [.int v50, .int 2]) (st := []) (pc := 62) dX6_readWay_62 (E_X6_blame (d := d + 1) e53) rfl (Nat.le_of_ble_eq_true rfl) zc_X6_blame rfl zm_X6_48 zi_X6_blame zs_X6_blame (zac_ok g57) (by decide) rfl rfl (zst_ok rfl (Nat.le_of_ble_eq_true rfl)) rfl ?_
        refine x_aload_n (pc := 65) dX6_readWay_65 rfl rfl hl1 ?_
        refine x_iload_n (pc := 66) dX6_readWay_66 rfl rfl ?_
        refine x_iload_n (pc := 67) dX6_readWay_67 rfl rfl ?_
        obtain ⟨g56, h⟩ := bt h
        obtain ⟨M54, e55, h⟩ := ob h
        refine x_callV (av := [.int r3, .int r40]) (st := []) (pc := 68) dX6_readWay_68 (E_X7_addWay (d := d + 1) e55) rfl (Nat.le_of_ble_eq_true rfl) zc_X7_addWay rfl zm_X6_97 zi_X7_addWay zs_X7_addWay (zac_ok g56) (by decide) rfl rfl (zst_ok rfl (Nat.le_of_ble_eq_true rfl)) rfl ?_
        obtain rfl := s1 h
        exact x_vret (pc := 71) dX6_readWay_71 rfl
def f_X7_addWord (l0 : Nat) (l1 : Int32) (l2 : Int32) (l3 : Int32) (M : zM) : Option (zM) := bif Nat.ble 1 l0 then ((oI M l0 7 15 1).bind fun v1 => if 8 ≤ v1 then (some M) else ((oR M l0 7 15 7).bind fun v4 => (oI M l0 7 15 1).bind fun v6 => (sI M v4 v6 l1).bind fun M8 => (oR M8 l0 7 15 8).bind fun v10 => (oI M8 l0 7 15 1).bind fun v12 => (sI M8 v10 v12 l2).bind fun M14 => (oR M14 l0 7 15 9).bind fun v16 => (oI M14 l0 7 15 1).bind fun v18 => (sI M14 v16 v18 l3).bind fun M20 => (oI M20 l0 7 15 1).bind fun v22 => (pI M20 l0 7 15 1 (v22 + 1)).bind fun M24 => some M24)) else none
theorem E_X7_addWord {G : zG} {d : Nat} {l0 : Nat} {l1 : Int32} {l2 : Int32} {l3 : Int32} {M MR : zM} (h : f_X7_addWord l0 l1 l2 l3 M = some MR) : Ex G d yX7_addWord cX7_addWord 4 none 0 (zent0 [.ref l0, .int l1, .int l2, .int l3] 4) [] M (none, MR) := by
  unfold f_X7_addWord at h
  obtain ⟨zz0, h⟩ := bt h
  have hl0 := bz zz0
  show Ex _ _ _ _ _ _ 0 [.ref l0, .int l1, .int l2, .int l3] [] _ _
  refine x_aload_n (pc := 0) dX7_addWord_0 rfl rfl hl0 ?_
  obtain ⟨v1, e2, h⟩ := ob h
  refine y_getI (pc := 1) dX7_addWord_1 zf_X7_40 e2 (by decide) ?_
  refine x_bipush (pc := 4) dX7_addWord_4 (v := 8) (by decide) ?_
  refine x_icmp_ge (pc := 6) dX7_addWord_6 (t := 49) rfl (fun c3 => ?_) (fun c3 => ?_)
  · rw [if_pos c3] at h
    obtain rfl := s1 h
    exact x_vret (pc := 49) dX7_addWord_49 rfl
  · rw [if_neg c3] at h
    refine x_aload_n (pc := 9) dX7_addWord_9 rfl rfl hl0 ?_
    obtain ⟨v4, e5, h⟩ := ob h
    refine y_getR (pc := 10) dX7_addWord_10 zf_X7_9 e5 ?_
    refine x_aload_n (pc := 13) dX7_addWord_13 rfl rfl hl0 ?_
    obtain ⟨v6, e7, h⟩ := ob h
    refine y_getI (pc := 14) dX7_addWord_14 zf_X7_40 e7 (by decide) ?_
    refine x_iload_n (pc := 17) dX7_addWord_17 rfl rfl ?_
    obtain ⟨M8, e9, h⟩ := ob h
    refine y_iast (pc := 18) dX7_addWord_18 e9 ?_
    refine x_aload_n (pc := 19) dX7_addWord_19 rfl rfl hl0 ?_
    obtain ⟨v10, e11, h⟩ := ob h
    refine y_getR (pc := 20) dX7_addWord_20 zf_X7_15 e11 ?_
    refine x_aload_n (pc := 23) dX7_addWord_23 rfl rfl hl0 ?_
    obtain ⟨v12, e13, h⟩ := ob h
    refine y_getI (pc := 24) dX7_addWord_24 zf_X7_40 e13 (by decide) ?_
    refine x_iload_n (pc := 27) dX7_addWord_27 rfl rfl ?_
    obtain ⟨M14, e15, h⟩ := ob h
    refine y_iast (pc := 28) dX7_addWord_28 e15 ?_
    refine x_aload_n (pc := 29) dX7_addWord_29 rfl rfl hl0 ?_
    obtain ⟨v16, e17, h⟩ := ob h
    refine y_getR (pc := 30) dX7_addWord_30 zf_X7_18 e17 ?_
    refine x_aload_n (pc := 33) dX7_addWord_33 rfl rfl hl0 ?_
    obtain ⟨v18, e19, h⟩ := ob h
    refine y_getI (pc := 34) dX7_addWord_34 zf_X7_40 e19 (by decide) ?_
    refine x_iload_n (pc := 37) dX7_addWord_37 rfl rfl ?_
    obtain ⟨M20, e21, h⟩ := ob h
    refine y_iast (pc := 38) dX7_addWord_38 e21 ?_
    refine x_aload_n (pc := 39) dX7_addWord_39 rfl rfl hl0 ?_
    refine x_dup (pc := 40) dX7_addWord_40 rv_cr ?_
    obtain ⟨v22, e23, h⟩ := ob h
    refine y_getI (pc := 41) dX7_addWord_41 zf_X7_40 e23 (by decide) ?_
    refine x_iconst (pc := 44) dX7_addWord_44 (v := 1) rfl ?_
    refine x_iadd (pc := 45) dX7_addWord_45 ?_
    obtain ⟨M24, e25, h⟩ := ob h
    refine y_putI (pc := 46) dX7_addWord_46 zf_X7_40 e25 ?_
    obtain rfl := s1 h
    exact x_vret (pc := 49) dX7_addWord_49 rfl
def f_X6_readWord (l0 : Nat) (l1 : Nat) (M : zM) : Option (zM) := bif Nat.ble 1 l0 then (bif Nat.ble 1 l1 then (bif zac M l0 6 6 then (b2 (f_X6_readNumber l0 0 99 M) fun r1 M2 => bif zac M2 l0 6 6 then (b2 (f_X6_readNumber l0 1 99 M2) fun r4 M5 => bif zac M5 l0 6 6 then (b2 (f_X6_readNumber l0 0 9 M5) fun r7 M8 => bif zac M8 l1 7 15 then ((f_X7_addWord l1 r1 r4 r7 M8).bind fun M10 => some M10) else none) else none) else none) else none) else none) else none
theorem E_X6_readWord {G : zG} {d : Nat} {l0 : Nat} {l1 : Nat} {M MR : zM} (h : f_X6_readWord l0 l1 M = some MR) : Ex G (d + 2) yX6_readWord cX6_readWord 5 none 0 (zent0 [.ref l0, .ref l1] 5) [] M (none, MR) := by
  unfold f_X6_readWord at h
  obtain ⟨zz0, h⟩ := bt h
  have hl0 := bz zz0
  obtain ⟨zz1, h⟩ := bt h
  have hl1 := bz zz1
  show Ex _ _ _ _ _ _ 0 [.ref l0, .ref l1, .null, .null, .null] [] _ _
  refine x_aload_n (pc := 0) dX6_readWord_0 rfl rfl hl0 ?_
  refine x_iconst (pc := 1) dX6_readWord_1 (v := 0) rfl ?_
  refine x_bipush (pc := 2) dX6_readWord_2 (v := 99) (by decide) ?_
  obtain ⟨g15, h⟩ := bt h
  obtain ⟨r1, M2, e3, h⟩ := ob2 h
  refine x_callV (av := [.int 0, .int 99]) (st := []) (pc := 4) dX6_readWord_4 (E_X6_readNumber (d := d) e3) rfl (Nat.le_of_ble_eq_true rfl) zc_X6_readNumber rfl zm_X6_52 zi_X6_readNumber zs_X6_readNumber (zac_ok g15) (by decide) rfl rfl (zst_ok rfl (Nat.le_of_ble_eq_true rfl)) rfl ?_
  refine x_istore_n (pc := 7) dX6_readWord_7 rfl (by decide) rfl ?_
  refine x_aload_n (pc := 8) dX6_readWord_8 rfl rfl hl0 ?_
  refine x_iconst (pc := 9) dX6_readWord_9 (v := 1) rfl ?_
  refine x_bipush (pc := 10) dX6_readWord_10 (v := 99) (by decide) ?_
  obtain ⟨g14, h⟩ := bt h
  obtain ⟨r4, M5, e6, h⟩ := ob2 h
  refine x_callV (av := [.int 1, .int 99]) (st := []) (pc := 12) dX6_readWord_12 (E_X6_readNumber (d := d) e6) rfl (Nat.le_of_ble_eq_true rfl) zc_X6_readNumber rfl zm_X6_52 zi_X6_readNumber zs_X6_readNumber (zac_ok g14) (by decide) rfl rfl (zst_ok rfl (Nat.le_of_ble_eq_true rfl)) rfl ?_
  refine x_istore_n (pc := 15) dX6_readWord_15 rfl (by decide) rfl ?_
  refine x_aload_n (pc := 16) dX6_readWord_16 rfl rfl hl0 ?_
  refine x_iconst (pc := 17) dX6_readWord_17 (v := 0) rfl ?_
  refine x_bipush (pc := 18) dX6_readWord_18 (v := 9) (by decide) ?_
  obtain ⟨g13, h⟩ := bt h
  obtain ⟨r7, M8, e9, h⟩ := ob2 h
  refine x_callV (av := [.int 0, .int 9]) (st := []) (pc := 20) dX6_readWord_20 (E_X6_readNumber (d := d) e9) rfl (Nat.le_of_ble_eq_true rfl) zc_X6_readNumber rfl zm_X6_52 zi_X6_readNumber zs_X6_readNumber (zac_ok g13) (by decide) rfl rfl (zst_ok rfl (Nat.le_of_ble_eq_true rfl)) rfl ?_
  refine x_istore (pc := 23) dX6_readWord_23 (by decide) rfl ?_
  refine x_aload_n (pc := 25) dX6_readWord_25 rfl rfl hl1 ?_
  refine x_iload_n (pc := 26) dX6_readWord_26 rfl rfl ?_
  refine x_iload_n (pc := 27) dX6_readWord_27 rfl rfl ?_
  refine x_iload (pc := 28) dX6_readWord_28 rfl ?_
  obtain ⟨g12, h⟩ := bt h
  obtain ⟨M10, e11, h⟩ := ob h
  refine x_callV (av := [.int r1, .int r4, .int r7]) (st := []) (pc := 30) dX6_readWord_30 (E_X7_addWord (d := d + 1) e11) rfl (Nat.le_of_ble_eq_true rfl) zc_X7_addWord rfl zm_X6_87 zi_X7_addWord zs_X7_addWord (zac_ok g12) (by decide) rfl rfl (zst_ok rfl (Nat.le_of_ble_eq_true rfl)) rfl ?_
  obtain rfl := s1 h
  exact x_vret (pc := 33) dX6_readWord_33 rfl
def f_X7_addPerson (l0 : Nat) (l1 : Int32) (M : zM) : Option (zM) := bif Nat.ble 1 l0 then ((oI M l0 7 15 3).bind fun v1 => if 5 ≤ v1 then (some M) else ((oI M l0 7 15 6).bind fun v4 => if l1 = 0 then ((pI M l0 7 15 6 (v4 ||| 0)).bind fun M7 => (oI M7 l0 7 15 3).bind fun v9 => (pI M7 l0 7 15 3 (v9 + 1)).bind fun M11 => some M11) else ((oI M l0 7 15 3).bind fun v13 => (pI M l0 7 15 6 (v4 ||| (1 <<< (v13 &&& 31)))).bind fun M15 => (oI M15 l0 7 15 3).bind fun v17 => (pI M15 l0 7 15 3 (v17 + 1)).bind fun M19 => some M19))) else none
theorem E_X7_addPerson {G : zG} {d : Nat} {l0 : Nat} {l1 : Int32} {M MR : zM} (h : f_X7_addPerson l0 l1 M = some MR) : Ex G d yX7_addPerson cX7_addPerson 2 none 0 (zent0 [.ref l0, .int l1] 2) [] M (none, MR) := by
  unfold f_X7_addPerson at h
  obtain ⟨zz0, h⟩ := bt h
  have hl0 := bz zz0
  show Ex _ _ _ _ _ _ 0 [.ref l0, .int l1] [] _ _
  refine x_aload_n (pc := 0) dX7_addPerson_0 rfl rfl hl0 ?_
  obtain ⟨v1, e2, h⟩ := ob h
  refine y_getI (pc := 1) dX7_addPerson_1 zf_X7_46 e2 (by decide) ?_
  refine x_iconst (pc := 4) dX7_addPerson_4 (v := 5) rfl ?_
  refine x_icmp_ge (pc := 5) dX7_addPerson_5 (t := 41) rfl (fun c3 => ?_) (fun c3 => ?_)
  · rw [if_pos c3] at h
    obtain rfl := s1 h
    exact x_vret (pc := 41) dX7_addPerson_41 rfl
  · rw [if_neg c3] at h
    refine x_aload_n (pc := 8) dX7_addPerson_8 rfl rfl hl0 ?_
    refine x_dup (pc := 9) dX7_addPerson_9 rv_cr ?_
    obtain ⟨v4, e5, h⟩ := ob h
    refine y_getI (pc := 10) dX7_addPerson_10 zf_X7_55 e5 (by decide) ?_
    refine x_iload_n (pc := 13) dX7_addPerson_13 rfl rfl ?_
    refine x_if_eq (pc := 14) dX7_addPerson_14 (t := 26) rfl (fun c6 => ?_) (fun c6 => ?_)
    · rw [if_pos c6] at h
      refine x_iconst (pc := 26) dX7_addPerson_26 (v := 0) rfl ?_
      refine x_ior (pc := 27) dX7_addPerson_27 ?_
      obtain ⟨M7, e8, h⟩ := ob h
      refine y_putI (pc := 28) dX7_addPerson_28 zf_X7_55 e8 ?_
      refine x_aload_n (pc := 31) dX7_addPerson_31 rfl rfl hl0 ?_
      refine x_dup (pc := 32) dX7_addPerson_32 rv_cr ?_
      obtain ⟨v9, e10, h⟩ := ob h
      refine y_getI (pc := 33) dX7_addPerson_33 zf_X7_46 e10 (by decide) ?_
      refine x_iconst (pc := 36) dX7_addPerson_36 (v := 1) rfl ?_
      refine x_iadd (pc := 37) dX7_addPerson_37 ?_
      obtain ⟨M11, e12, h⟩ := ob h
      refine y_putI (pc := 38) dX7_addPerson_38 zf_X7_46 e12 ?_
      obtain rfl := s1 h
      exact x_vret (pc := 41) dX7_addPerson_41 rfl
    · rw [if_neg c6] at h
      refine x_iconst (pc := 17) dX7_addPerson_17 (v := 1) rfl ?_
      refine x_aload_n (pc := 18) dX7_addPerson_18 rfl rfl hl0 ?_
      obtain ⟨v13, e14, h⟩ := ob h
      refine y_getI (pc := 19) dX7_addPerson_19 zf_X7_46 e14 (by decide) ?_
      refine x_ishl (pc := 22) dX7_addPerson_22 ?_
      refine x_goto (pc := 23) dX7_addPerson_23 (t := 27) rfl ?_
      refine x_ior (pc := 27) dX7_addPerson_27 ?_
      obtain ⟨M15, e16, h⟩ := ob h
      refine y_putI (pc := 28) dX7_addPerson_28 zf_X7_55 e16 ?_
      refine x_aload_n (pc := 31) dX7_addPerson_31 rfl rfl hl0 ?_
      refine x_dup (pc := 32) dX7_addPerson_32 rv_cr ?_
      obtain ⟨v17, e18, h⟩ := ob h
      refine y_getI (pc := 33) dX7_addPerson_33 zf_X7_46 e18 (by decide) ?_
      refine x_iconst (pc := 36) dX7_addPerson_36 (v := 1) rfl ?_
      refine x_iadd (pc := 37) dX7_addPerson_37 ?_
      obtain ⟨M19, e20, h⟩ := ob h
      refine y_putI (pc := 38) dX7_addPerson_38 zf_X7_46 e20 ?_
      obtain rfl := s1 h
      exact x_vret (pc := 41) dX7_addPerson_41 rfl
def f_X6_readClause (l0 : Nat) (l1 : Nat) (M : zM) : Option (zM) := bif Nat.ble 1 l0 then (bif Nat.ble 1 l1 then (bif zac M l0 6 6 then ((f_X6_letterHere l0 M).bind fun r1 => bif zac M l0 6 6 then ((f_X6_faultOfName l0 l1 r1 M).bind fun r3 => if r3 = 0 then ((oI M l0 6 6 4).bind fun v6 => (pI M l0 6 6 4 (v6 + 1)).bind fun M8 => if r1 = 97 then (bif zac M8 l0 6 6 then ((f_X6_readWay l0 l1 M8).bind fun M11 => bif zac M11 l0 6 6 then ((f_X6_skipBlanks l0 M11).bind fun M13 => bif zac M13 l0 6 6 then ((f_X6_letterHere l0 M13).bind fun r15 => if r15 = 59 then ((oI M13 l0 6 6 4).bind fun v18 => (pI M13 l0 6 6 4 (v18 + 1)).bind fun M20 => some M20) else ((oI M13 l0 6 6 4).bind fun v22 => bif zac M13 l0 6 6 then ((f_X6_blame l0 v22 1 M13).bind fun M24 => some M24) else none)) else none) else none) else none) else (if r1 = 111 then (bif zac M8 l0 6 6 then ((f_X6_readPointing l0 l1 M8).bind fun M31 => bif zac M31 l0 6 6 then ((f_X6_skipBlanks l0 M31).bind fun M33 => bif zac M33 l0 6 6 then ((f_X6_letterHere l0 M33).bind fun r35 => if r35 = 59 then ((oI M33 l0 6 6 4).bind fun v38 => (pI M33 l0 6 6 4 (v38 + 1)).bind fun M40 => some M40) else ((oI M33 l0 6 6 4).bind fun v42 => bif zac M33 l0 6 6 then ((f_X6_blame l0 v42 1 M33).bind fun M44 => some M44) else none)) else none) else none) else none) else (if r1 = 112 then (bif zac M8 l0 6 6 then (b2 (f_X6_readNumber l0 0 1 M8) fun r51 M52 => if r51 = 1 then (bif zac M52 l1 7 15 then ((f_X7_addPerson l1 1 M52).bind fun M55 => bif zac M55 l0 6 6 then ((f_X6_skipBlanks l0 M55).bind fun M57 => bif zac M57 l0 6 6 then ((f_X6_letterHere l0 M57).bind fun r59 => if r59 = 59 then ((oI M57 l0 6 6 4).bind fun v62 => (pI M57 l0 6 6 4 (v62 + 1)).bind fun M64 => some M64) else ((oI M57 l0 6 6 4).bind fun v66 => bif zac M57 l0 6 6 then ((f_X6_blame l0 v66 1 M57).bind fun M68 => some M68) else none)) else none) else none) else none) else (bif zac M52 l1 7 15 then ((f_X7_addPerson l1 0 M52).bind fun M74 => bif zac M74 l0 6 6 then ((f_X6_skipBlanks l0 M74).bind fun M76 => bif zac M76 l0 6 6 then ((f_X6_letterHere l0 M76).bind fun r78 => if r78 = 59 then ((oI M76 l0 6 6 4).bind fun v81 => (pI M76 l0 6 6 4 (v81 + 1)).bind fun M83 => some M83) else ((oI M76 l0 6 6 4).bind fun v85 => bif zac M76 l0 6 6 then ((f_X6_blame l0 v85 1 M76).bind fun M87 => some M87) else none)) else none) else none) else none)) else none) else (if r1 = 119 then (bif zac M8 l0 6 6 then ((f_X6_readWord l0 l1 M8).bind fun M95 => bif zac M95 l0 6 6 then ((f_X6_skipBlanks l0 M95).bind fun M97 => bif zac M97 l0 6 6 then ((f_X6_letterHere l0 M97).bind fun r99 => if r99 = 59 then ((oI M97 l0 6 6 4).bind fun v102 => (pI M97 l0 6 6 4 (v102 + 1)).bind fun M104 => some M104) else ((oI M97 l0 6 6 4).bind fun v106 => bif zac M97 l0 6 6 then ((f_X6_blame l0 v106 1 M97).bind fun M108 => some M108) else none)) else none) else none) else none) else (if r1 = 121 then (bif zac M8 l0 6 6 then (b2 (f_X6_readNumber l0 1 99 M8) fun r115 M116 => (pI M116 l1 7 15 0 r115).bind fun M118 => bif zac M118 l0 6 6 then ((f_X6_skipBlanks l0 M118).bind fun M120 => bif zac M120 l0 6 6 then ((f_X6_letterHere l0 M120).bind fun r122 => if r122 = 59 then ((oI M120 l0 6 6 4).bind fun v125 => (pI M120 l0 6 6 4 (v125 + 1)).bind fun M127 => some M127) else ((oI M120 l0 6 6 4).bind fun v129 => bif zac M120 l0 6 6 then ((f_X6_blame l0 v129 1 M120).bind fun M131 => some M131) else none)) else none) else none) else none) else (bif zac M8 l0 6 6 then ((f_X6_readNeed l0 l1 M8).bind fun M137 => bif zac M137 l0 6 6 then ((f_X6_skipBlanks l0 M137).bind fun M139 => bif zac M139 l0 6 6 then ((f_X6_letterHere l0 M139).bind fun r141 => if r141 = 59 then ((oI M139 l0 6 6 4).bind fun v144 => (pI M139 l0 6 6 4 (v144 + 1)).bind fun M146 => some M146) else ((oI M139 l0 6 6 4).bind fun v148 => bif zac M139 l0 6 6 then ((f_X6_blame l0 v148 1 M139).bind fun M150 => some M150) else none)) else none) else none) else none)))))) else ((oI M l0 6 6 4).bind fun v156 => bif zac M l0 6 6 then ((f_X6_blame l0 v156 r3 M).bind fun M158 => some M158) else none)) else none) else none) else none) else none
set_option maxRecDepth 100000 in
set_option maxHeartbeats 2000000 in
theorem E_X6_readClause {G : zG} {d : Nat} {l0 : Nat} {l1 : Nat} {M MR : zM} (h : f_X6_readClause l0 l1 M = some MR) : Ex G (d + 3) yX6_readClause cX6_readClause 4 none 0 (zent0 [.ref l0, .ref l1] 4) [] M (none, MR) := by
  unfold f_X6_readClause at h
  obtain ⟨zz0, h⟩ := bt h
  have hl0 := bz zz0
  obtain ⟨zz1, h⟩ := bt h
  have hl1 := bz zz1
  show Ex _ _ _ _ _ _ 0 [.ref l0, .ref l1, .null, .null] [] _ _
  refine x_aload_n (pc := 0) dX6_readClause_0 rfl rfl hl0 ?_
  obtain ⟨g162, h⟩ := bt h
  obtain ⟨r1, e2, h⟩ := ob h
  refine x_callV (av := []) (st := []) (pc := 1) dX6_readClause_1 (E_X6_letterHere (d := d + 2) e2) rfl (Nat.le_of_ble_eq_true rfl) zc_X6_letterHere rfl zm_X6_40 zi_X6_letterHere zs_X6_letterHere (zac_ok g162) (by decide) rfl rfl (zst_ok rfl (Nat.le_of_ble_eq_true rfl)) rfl ?_
  refine x_istore_n (pc := 4) dX6_readClause_4 rfl (by decide) rfl ?_
  refine x_aload_n (pc := 5) dX6_readClause_5 rfl rfl hl0 ?_
  refine x_aload_n (pc := 6) dX6_readClause_6 rfl rfl hl1 ?_
  refine x_iload_n (pc := 7) dX6_readClause_7 rfl rfl ?_
  obtain ⟨g161, h⟩ := bt h
  obtain ⟨r3, e4, h⟩ := ob h
  refine x_callV (av := [.ref l1, .int r1]) (st := []) (pc := 8) dX6_readClause_8 (E_X6_faultOfName (d := d + 2) e4) rfl (Nat.le_of_ble_eq_true rfl) zc_X6_faultOfName rfl zm_X6_44 zi_X6_faultOfName zs_X6_faultOfName (zac_ok g161) (by decide) rfl rfl (zst_ok rfl (Nat.le_of_ble_eq_true rfl)) rfl ?_
  refine x_istore_n (pc := 11) dX6_readClause_11 rfl (by decide) rfl ?_
  refine x_iload_n (pc := 12) dX6_readClause_12 rfl rfl ?_
  refine x_if_eq (pc := 13) dX6_readClause_13 (t := 26) rfl (fun c5 => ?_) (fun c5 => ?_)
  · rw [if_pos c5] at h
    refine x_aload_n (pc := 26) dX6_readClause_26 rfl rfl hl0 ?_
    refine x_dup (pc := 27) dX6_readClause_27 rv_cr ?_
    obtain ⟨v6, e7, h⟩ := ob h
    refine y_getI (pc := 28) dX6_readClause_28 zf_X6_30 e7 (by decide) ?_
    refine x_iconst (pc := 31) dX6_readClause_31 (v := 1) rfl ?_
    refine x_iadd (pc := 32) dX6_readClause_32 ?_
    obtain ⟨M8, e9, h⟩ := ob h
    refine y_putI (pc := 33) dX6_readClause_33 zf_X6_30 e9 ?_
    refine x_iload_n (pc := 36) dX6_readClause_36 rfl rfl ?_
    by_cases c10 : r1 = 97
    · rw [if_pos c10] at h
      refine y_lookup (pc := 37) dX6_readClause_37 c10 (q := 97) (by decide) (off := 73) (by decide) (t := 110) rfl ?_
      refine x_aload_n (pc := 110) dX6_readClause_110 rfl rfl hl0 ?_
      refine x_aload_n (pc := 111) dX6_readClause_111 rfl rfl hl1 ?_
      obtain ⟨g29, h⟩ := bt h
      obtain ⟨M11, e12, h⟩ := ob h
      refine x_callV (av := [.ref l1]) (st := []) (pc := 112) dX6_readClause_112 (E_X6_readWay (d := d) e12) rfl (Nat.le_of_ble_eq_true rfl) zc_X6_readWay rfl zm_X6_62 zi_X6_readWay zs_X6_readWay (zac_ok g29) (by decide) rfl rfl (zst_ok rfl (Nat.le_of_ble_eq_true rfl)) rfl ?_
      refine x_goto (pc := 115) dX6_readClause_115 (t := 153) rfl ?_
      refine x_aload_n (pc := 153) dX6_readClause_153 rfl rfl hl0 ?_
      obtain ⟨g28, h⟩ := bt h
      obtain ⟨M13, e14, h⟩ := ob h
      refine x_callV (av := []) (st := []) (pc := 154) dX6_readClause_154 (E_X6_skipBlanks (d := d + 2) e14) rfl (Nat.le_of_ble_eq_true rfl) zc_X6_skipBlanks rfl zm_X6_33 zi_X6_skipBlanks zs_X6_skipBlanks (zac_ok g28) (by decide) rfl rfl (zst_ok rfl (Nat.le_of_ble_eq_true rfl)) rfl ?_
      refine x_aload_n (pc := 157) dX6_readClause_157 rfl rfl hl0 ?_
      obtain ⟨g27, h⟩ := bt h
      obtain ⟨r15, e16, h⟩ := ob h
      refine x_callV (av := []) (st := []) (pc := 158) dX6_readClause_158 (E_X6_letterHere (d := d + 2) e16) rfl (Nat.le_of_ble_eq_true rfl) zc_X6_letterHere rfl zm_X6_40 zi_X6_letterHere zs_X6_letterHere (zac_ok g27) (by decide) rfl rfl (zst_ok rfl (Nat.le_of_ble_eq_true rfl)) rfl ?_
      refine x_bipush (pc := 161) dX6_readClause_161 (v := 59) (by decide) ?_
      refine x_icmp_ne (pc := 163) dX6_readClause_163 (t := 179) rfl (fun c17 => ?_) (fun c17 => ?_)
      · rw [if_neg c17] at h
        refine x_aload_n (pc := 179) dX6_readClause_179 rfl rfl hl0 ?_
        refine x_aload_n (pc := 180) dX6_readClause_180 rfl rfl hl0 ?_
        obtain ⟨v22, e23, h⟩ := ob h
        refine y_getI (pc := 181) dX6_readClause_181 zf_X6_30 e23 (by decide) ?_
        refine x_iconst (pc := 184) dX6_readClause_184 (v := 1) rfl ?_
        obtain ⟨g26, h⟩ := bt h
        obtain ⟨M24, e25, h⟩ := ob h
        refine x_callV (av := [.int v22, .int 1]) (st := []) (pc := 185) dX6_readClause_185 (E_X6_blame (d := d + 2) e25) rfl (Nat.le_of_ble_eq_true rfl) zc_X6_blame rfl zm_X6_48 zi_X6_blame zs_X6_blame (zac_ok g26) (by decide) rfl rfl (zst_ok rfl (Nat.le_of_ble_eq_true rfl)) rfl ?_
        obtain rfl := s1 h
        exact x_vret (pc := 188) dX6_readClause_188 rfl
      · rw [if_pos c17] at h
        refine x_aload_n (pc := 166) dX6_readClause_166 rfl rfl hl0 ?_
        refine x_dup (pc := 167) dX6_readClause_167 rv_cr ?_
        obtain ⟨v18, e19, h⟩ := ob h
        refine y_getI (pc := 168) dX6_readClause_168 zf_X6_30 e19 (by decide) ?_
        refine x_iconst (pc := 171) dX6_readClause_171 (v := 1) rfl ?_
        refine x_iadd (pc := 172) dX6_readClause_172 ?_
        obtain ⟨M20, e21, h⟩ := ob h
        refine y_putI (pc := 173) dX6_readClause_173 zf_X6_30 e21 ?_
        refine x_goto (pc := 176) dX6_readClause_176 (t := 188) rfl ?_
        obtain rfl := s1 h
        exact x_vret (pc := 188) dX6_readClause_188 rfl
    · rw [if_neg c10] at h
      by_cases c30 : r1 = 111
      · rw [if_pos c30] at h
        refine y_lookup (pc := 37) dX6_readClause_37 c30 (q := 111) (by decide) (off := 81) (by decide) (t := 118) rfl ?_
        refine x_aload_n (pc := 118) dX6_readClause_118 rfl rfl hl0 ?_
        refine x_aload_n (pc := 119) dX6_readClause_119 rfl rfl hl1 ?_
        obtain ⟨g49, h⟩ := bt h
        obtain ⟨M31, e32, h⟩ := ob h
        refine x_callV (av := [.ref l1]) (st := []) (pc := 120) dX6_readClause_120 (E_X6_readPointing (d := d) e32) rfl (Nat.le_of_ble_eq_true rfl) zc_X6_readPointing rfl zm_X6_65 zi_X6_readPointing zs_X6_readPointing (zac_ok g49) (by decide) rfl rfl (zst_ok rfl (Nat.le_of_ble_eq_true rfl)) rfl ?_
        refine x_goto (pc := 123) dX6_readClause_123 (t := 153) rfl ?_
        refine x_aload_n (pc := 153) dX6_readClause_153 rfl rfl hl0 ?_
        obtain ⟨g48, h⟩ := bt h
        obtain ⟨M33, e34, h⟩ := ob h
        refine x_callV (av := []) (st := []) (pc := 154) dX6_readClause_154 (E_X6_skipBlanks (d := d + 2) e34) rfl (Nat.le_of_ble_eq_true rfl) zc_X6_skipBlanks rfl zm_X6_33 zi_X6_skipBlanks zs_X6_skipBlanks (zac_ok g48) (by decide) rfl rfl (zst_ok rfl (Nat.le_of_ble_eq_true rfl)) rfl ?_
        refine x_aload_n (pc := 157) dX6_readClause_157 rfl rfl hl0 ?_
        obtain ⟨g47, h⟩ := bt h
        obtain ⟨r35, e36, h⟩ := ob h
        refine x_callV (av := []) (st := []) (pc := 158) dX6_readClause_158 (E_X6_letterHere (d := d + 2) e36) rfl (Nat.le_of_ble_eq_true rfl) zc_X6_letterHere rfl zm_X6_40 zi_X6_letterHere zs_X6_letterHere (zac_ok g47) (by decide) rfl rfl (zst_ok rfl (Nat.le_of_ble_eq_true rfl)) rfl ?_
        refine x_bipush (pc := 161) dX6_readClause_161 (v := 59) (by decide) ?_
        refine x_icmp_ne (pc := 163) dX6_readClause_163 (t := 179) rfl (fun c37 => ?_) (fun c37 => ?_)
        · rw [if_neg c37] at h
          refine x_aload_n (pc := 179) dX6_readClause_179 rfl rfl hl0 ?_
          refine x_aload_n (pc := 180) dX6_readClause_180 rfl rfl hl0 ?_
          obtain ⟨v42, e43, h⟩ := ob h
          refine y_getI (pc := 181) dX6_readClause_181 zf_X6_30 e43 (by decide) ?_
          refine x_iconst (pc := 184) dX6_readClause_184 (v := 1) rfl ?_
          obtain ⟨g46, h⟩ := bt h
          obtain ⟨M44, e45, h⟩ := ob h
          refine x_callV (av := [.int v42, .int 1]) (st := []) (pc := 185) dX6_readClause_185 (E_X6_blame (d := d + 2) e45) rfl (Nat.le_of_ble_eq_true rfl) zc_X6_blame rfl zm_X6_48 zi_X6_blame zs_X6_blame (zac_ok g46) (by decide) rfl rfl (zst_ok rfl (Nat.le_of_ble_eq_true rfl)) rfl ?_
          obtain rfl := s1 h
          exact x_vret (pc := 188) dX6_readClause_188 rfl
        · rw [if_pos c37] at h
          refine x_aload_n (pc := 166) dX6_readClause_166 rfl rfl hl0 ?_
          refine x_dup (pc := 167) dX6_readClause_167 rv_cr ?_
          obtain ⟨v38, e39, h⟩ := ob h
          refine y_getI (pc := 168) dX6_readClause_168 zf_X6_30 e39 (by decide) ?_
          refine x_iconst (pc := 171) dX6_readClause_171 (v := 1) rfl ?_
          refine x_iadd (pc := 172) dX6_readClause_172 ?_
          obtain ⟨M40, e41, h⟩ := ob h
          refine y_putI (pc := 173) dX6_readClause_173 zf_X6_30 e41 ?_
          refine x_goto (pc := 176) dX6_readClause_176 (t := 188) rfl ?_
          obtain rfl := s1 h
          exact x_vret (pc := 188) dX6_readClause_188 rfl
      · rw [if_neg c30] at h
        by_cases c50 : r1 = 112
        · rw [if_pos c50] at h
          refine y_lookup (pc := 37) dX6_readClause_37 c50 (q := 112) (by decide) (off := 89) (by decide) (t := 126) rfl ?_
          refine x_aload_n (pc := 126) dX6_readClause_126 rfl rfl hl1 ?_
          refine x_aload_n (pc := 127) dX6_readClause_127 rfl rfl hl0 ?_
          refine x_iconst (pc := 128) dX6_readClause_128 (v := 0) rfl ?_
          refine x_iconst (pc := 129) dX6_readClause_129 (v := 1) rfl ?_
          obtain ⟨g93, h⟩ := bt h
          obtain ⟨r51, M52, e53, h⟩ := ob2 h
          refine x_callV (av := [.int 0, .int 1]) (st := [.ref l1]) (pc := 130) dX6_readClause_130 (E_X6_readNumber (d := d + 1) e53) rfl (Nat.le_of_ble_eq_true rfl) zc_X6_readNumber rfl zm_X6_52 zi_X6_readNumber zs_X6_readNumber (zac_ok g93) (by decide) rfl rfl (zst_ok rfl (Nat.le_of_ble_eq_true rfl)) rfl ?_
          refine x_iconst (pc := 133) dX6_readClause_133 (v := 1) rfl ?_
          refine x_icmp_ne (pc := 134) dX6_readClause_134 (t := 141) rfl (fun c54 => ?_) (fun c54 => ?_)
          · rw [if_neg c54] at h
            refine x_iconst (pc := 141) dX6_readClause_141 (v := 0) rfl ?_
            obtain ⟨g92, h⟩ := bt h
            obtain ⟨M74, e75, h⟩ := ob h
            refine x_callV (av := [.int 0]) (st := []) (pc := 142) dX6_readClause_142 (E_X7_addPerson (d := d + 2) e75) rfl (Nat.le_of_ble_eq_true rfl) zc_X7_addPerson rfl zm_X6_68 zi_X7_addPerson zs_X7_addPerson (zac_ok g92) (by decide) rfl rfl (zst_ok rfl (Nat.le_of_ble_eq_true rfl)) rfl ?_
            refine x_goto (pc := 145) dX6_readClause_145 (t := 153) rfl ?_
            refine x_aload_n (pc := 153) dX6_readClause_153 rfl rfl hl0 ?_
            obtain ⟨g91, h⟩ := bt h
            obtain ⟨M76, e77, h⟩ := ob h
            refine x_callV (av := []) (st := []) (pc := 154) dX6_readClause_154 (E_X6_skipBlanks (d := d + 2) e77) rfl (Nat.le_of_ble_eq_true rfl) zc_X6_skipBlanks rfl zm_X6_33 zi_X6_skipBlanks zs_X6_skipBlanks (zac_ok g91) (by decide) rfl rfl (zst_ok rfl (Nat.le_of_ble_eq_true rfl)) rfl ?_
            refine x_aload_n (pc := 157) dX6_readClause_157 rfl rfl hl0 ?_
            obtain ⟨g90, h⟩ := bt h
            obtain ⟨r78, e79, h⟩ := ob h
            refine x_callV (av := []) (st := []) (pc := 158) dX6_readClause_158 (E_X6_letterHere (d := d + 2) e79) rfl (Nat.le_of_ble_eq_true rfl) zc_X6_letterHere rfl zm_X6_40 zi_X6_letterHere zs_X6_letterHere (zac_ok g90) (by decide) rfl rfl (zst_ok rfl (Nat.le_of_ble_eq_true rfl)) rfl ?_
            refine x_bipush (pc := 161) dX6_readClause_161 (v := 59) (by decide) ?_
            refine x_icmp_ne (pc := 163) dX6_readClause_163 (t := 179) rfl (fun c80 => ?_) (fun c80 => ?_)
            · rw [if_neg c80] at h
              refine x_aload_n (pc := 179) dX6_readClause_179 rfl rfl hl0 ?_
              refine x_aload_n (pc := 180) dX6_readClause_180 rfl rfl hl0 ?_
              obtain ⟨v85, e86, h⟩ := ob h
              refine y_getI (pc := 181) dX6_readClause_181 zf_X6_30 e86 (by decide) ?_
              refine x_iconst (pc := 184) dX6_readClause_184 (v := 1) rfl ?_
              obtain ⟨g89, h⟩ := bt h
              obtain ⟨M87, e88, h⟩ := ob h
              refine x_callV (av := [.int v85, .int 1]) (st := []) (pc := 185) dX6_readClause_185 (E_X6_blame (d := d + 2) e88) rfl (Nat.le_of_ble_eq_true rfl) zc_X6_blame rfl zm_X6_48 zi_X6_blame zs_X6_blame (zac_ok g89) (by decide) rfl rfl (zst_ok rfl (Nat.le_of_ble_eq_true rfl)) rfl ?_
              obtain rfl := s1 h
              exact x_vret (pc := 188) dX6_readClause_188 rfl
            · rw [if_pos c80] at h
              refine x_aload_n (pc := 166) dX6_readClause_166 rfl rfl hl0 ?_
              refine x_dup (pc := 167) dX6_readClause_167 rv_cr ?_
              obtain ⟨v81, e82, h⟩ := ob h
              refine y_getI (pc := 168) dX6_readClause_168 zf_X6_30 e82 (by decide) ?_
              refine x_iconst (pc := 171) dX6_readClause_171 (v := 1) rfl ?_
              refine x_iadd (pc := 172) dX6_readClause_172 ?_
              obtain ⟨M83, e84, h⟩ := ob h
              refine y_putI (pc := 173) dX6_readClause_173 zf_X6_30 e84 ?_
              refine x_goto (pc := 176) dX6_readClause_176 (t := 188) rfl ?_
              obtain rfl := s1 h
              exact x_vret (pc := 188) dX6_readClause_188 rfl
          · rw [if_pos c54] at h
            refine x_iconst (pc := 137) dX6_readClause_137 (v := 1) rfl ?_
            refine x_goto (pc := 138) dX6_readClause_138 (t := 142) rfl ?_
            obtain ⟨g73, h⟩ := bt h
            obtain ⟨M55, e56, h⟩ := ob h
            refine x_callV (av := [.int 1]) (st := []) (pc := 142) dX6_readClause_142 (E_X7_addPerson (d := d + 2) e56) rfl (Nat.le_of_ble_eq_true rfl) zc_X7_addPerson rfl zm_X6_68 zi_X7_addPerson zs_X7_addPerson (zac_ok g73) (by decide) rfl rfl (zst_ok rfl (Nat.le_of_ble_eq_true rfl)) rfl ?_
            refine x_goto (pc := 145) dX6_readClause_145 (t := 153) rfl ?_
            refine x_aload_n (pc := 153) dX6_readClause_153 rfl rfl hl0 ?_
            obtain ⟨g72, h⟩ := bt h
            obtain ⟨M57, e58, h⟩ := ob h
            refine x_callV (av := []) (st := []) (pc := 154) dX6_readClause_154 (E_X6_skipBlanks (d := d + 2) e58) rfl (Nat.le_of_ble_eq_true rfl) zc_X6_skipBlanks rfl zm_X6_33 zi_X6_skipBlanks zs_X6_skipBlanks (zac_ok g72) (by decide) rfl rfl (zst_ok rfl (Nat.le_of_ble_eq_true rfl)) rfl ?_
            refine x_aload_n (pc := 157) dX6_readClause_157 rfl rfl hl0 ?_
            obtain ⟨g71, h⟩ := bt h
            obtain ⟨r59, e60, h⟩ := ob h
            refine x_callV (av := []) (st := []) (pc := 158) dX6_readClause_158 (E_X6_letterHere (d := d + 2) e60) rfl (Nat.le_of_ble_eq_true rfl) zc_X6_letterHere rfl zm_X6_40 zi_X6_letterHere zs_X6_letterHere (zac_ok g71) (by decide) rfl rfl (zst_ok rfl (Nat.le_of_ble_eq_true rfl)) rfl ?_
            refine x_bipush (pc := 161) dX6_readClause_161 (v := 59) (by decide) ?_
            refine x_icmp_ne (pc := 163) dX6_readClause_163 (t := 179) rfl (fun c61 => ?_) (fun c61 => ?_)
            · rw [if_neg c61] at h
              refine x_aload_n (pc := 179) dX6_readClause_179 rfl rfl hl0 ?_
              refine x_aload_n (pc := 180) dX6_readClause_180 rfl rfl hl0 ?_
              obtain ⟨v66, e67, h⟩ := ob h
              refine y_getI (pc := 181) dX6_readClause_181 zf_X6_30 e67 (by decide) ?_
              refine x_iconst (pc := 184) dX6_readClause_184 (v := 1) rfl ?_
              obtain ⟨g70, h⟩ := bt h
              obtain ⟨M68, e69, h⟩ := ob h
              refine x_callV (av := [.int v66, .int 1]) (st := []) (pc := 185) dX6_readClause_185 (E_X6_blame (d := d + 2) e69) rfl (Nat.le_of_ble_eq_true rfl) zc_X6_blame rfl zm_X6_48 zi_X6_blame zs_X6_blame (zac_ok g70) (by decide) rfl rfl (zst_ok rfl (Nat.le_of_ble_eq_true rfl)) rfl ?_
              obtain rfl := s1 h
              exact x_vret (pc := 188) dX6_readClause_188 rfl
            · rw [if_pos c61] at h
              refine x_aload_n (pc := 166) dX6_readClause_166 rfl rfl hl0 ?_
              refine x_dup (pc := 167) dX6_readClause_167 rv_cr ?_
              obtain ⟨v62, e63, h⟩ := ob h
              refine y_getI (pc := 168) dX6_readClause_168 zf_X6_30 e63 (by decide) ?_
              refine x_iconst (pc := 171) dX6_readClause_171 (v := 1) rfl ?_
              refine x_iadd (pc := 172) dX6_readClause_172 ?_
              obtain ⟨M64, e65, h⟩ := ob h
              refine y_putI (pc := 173) dX6_readClause_173 zf_X6_30 e65 ?_
              refine x_goto (pc := 176) dX6_readClause_176 (t := 188) rfl ?_
              obtain rfl := s1 h
              exact x_vret (pc := 188) dX6_readClause_188 rfl
        · rw [if_neg c50] at h
          by_cases c94 : r1 = 119
          · rw [if_pos c94] at h
            refine y_lookup (pc := 37) dX6_readClause_37 c94 (q := 119) (by decide) (off := 65) (by decide) (t := 102) rfl ?_
            refine x_aload_n (pc := 102) dX6_readClause_102 rfl rfl hl0 ?_
            refine x_aload_n (pc := 103) dX6_readClause_103 rfl rfl hl1 ?_
            obtain ⟨g113, h⟩ := bt h
            obtain ⟨M95, e96, h⟩ := ob h
            refine x_callV (av := [.ref l1]) (st := []) (pc := 104) dX6_readClause_104 (E_X6_readWord (d := d) e96) rfl (Nat.le_of_ble_eq_true rfl) zc_X6_readWord rfl zm_X6_59 zi_X6_readWord zs_X6_readWord (zac_ok g113) (by decide) rfl rfl (zst_ok rfl (Nat.le_of_ble_eq_true rfl)) rfl ?_
            refine x_goto (pc := 107) dX6_readClause_107 (t := 153) rfl ?_
            refine x_aload_n (pc := 153) dX6_readClause_153 rfl rfl hl0 ?_
            obtain ⟨g112, h⟩ := bt h
            obtain ⟨M97, e98, h⟩ := ob h
            refine x_callV (av := []) (st := []) (pc := 154) dX6_readClause_154 (E_X6_skipBlanks (d := d + 2) e98) rfl (Nat.le_of_ble_eq_true rfl) zc_X6_skipBlanks rfl zm_X6_33 zi_X6_skipBlanks zs_X6_skipBlanks (zac_ok g112) (by decide) rfl rfl (zst_ok rfl (Nat.le_of_ble_eq_true rfl)) rfl ?_
            refine x_aload_n (pc := 157) dX6_readClause_157 rfl rfl hl0 ?_
            obtain ⟨g111, h⟩ := bt h
            obtain ⟨r99, e100, h⟩ := ob h
            refine x_callV (av := []) (st := []) (pc := 158) dX6_readClause_158 (E_X6_letterHere (d := d + 2) e100) rfl (Nat.le_of_ble_eq_true rfl) zc_X6_letterHere rfl zm_X6_40 zi_X6_letterHere zs_X6_letterHere (zac_ok g111) (by decide) rfl rfl (zst_ok rfl (Nat.le_of_ble_eq_true rfl)) rfl ?_
            refine x_bipush (pc := 161) dX6_readClause_161 (v := 59) (by decide) ?_
            refine x_icmp_ne (pc := 163) dX6_readClause_163 (t := 179) rfl (fun c101 => ?_) (fun c101 => ?_)
            · rw [if_neg c101] at h
              refine x_aload_n (pc := 179) dX6_readClause_179 rfl rfl hl0 ?_
              refine x_aload_n (pc := 180) dX6_readClause_180 rfl rfl hl0 ?_
              obtain ⟨v106, e107, h⟩ := ob h
              refine y_getI (pc := 181) dX6_readClause_181 zf_X6_30 e107 (by decide) ?_
              refine x_iconst (pc := 184) dX6_readClause_184 (v := 1) rfl ?_
              obtain ⟨g110, h⟩ := bt h
              obtain ⟨M108, e109, h⟩ := ob h
              refine x_callV (av := [.int v106, .int 1]) (st := []) (pc := 185) dX6_readClause_185 (E_X6_blame (d := d + 2) e109) rfl (Nat.le_of_ble_eq_true rfl) zc_X6_blame rfl zm_X6_48 zi_X6_blame zs_X6_blame (zac_ok g110) (by decide) rfl rfl (zst_ok rfl (Nat.le_of_ble_eq_true rfl)) rfl ?_
              obtain rfl := s1 h
              exact x_vret (pc := 188) dX6_readClause_188 rfl
            · rw [if_pos c101] at h
              refine x_aload_n (pc := 166) dX6_readClause_166 rfl rfl hl0 ?_
              refine x_dup (pc := 167) dX6_readClause_167 rv_cr ?_
              obtain ⟨v102, e103, h⟩ := ob h
              refine y_getI (pc := 168) dX6_readClause_168 zf_X6_30 e103 (by decide) ?_
              refine x_iconst (pc := 171) dX6_readClause_171 (v := 1) rfl ?_
              refine x_iadd (pc := 172) dX6_readClause_172 ?_
              obtain ⟨M104, e105, h⟩ := ob h
              refine y_putI (pc := 173) dX6_readClause_173 zf_X6_30 e105 ?_
              refine x_goto (pc := 176) dX6_readClause_176 (t := 188) rfl ?_
              obtain rfl := s1 h
              exact x_vret (pc := 188) dX6_readClause_188 rfl
          · rw [if_neg c94] at h
            by_cases c114 : r1 = 121
            · rw [if_pos c114] at h
              refine y_lookup (pc := 37) dX6_readClause_37 c114 (q := 121) (by decide) (off := 51) (by decide) (t := 88) rfl ?_
              refine x_aload_n (pc := 88) dX6_readClause_88 rfl rfl hl1 ?_
              refine x_aload_n (pc := 89) dX6_readClause_89 rfl rfl hl0 ?_
              refine x_iconst (pc := 90) dX6_readClause_90 (v := 1) rfl ?_
              refine x_bipush (pc := 91) dX6_readClause_91 (v := 99) (by decide) ?_
              obtain ⟨g136, h⟩ := bt h
              obtain ⟨r115, M116, e117, h⟩ := ob2 h
              refine x_callV (av := [.int 1, .int 99]) (st := [.ref l1]) (pc := 93) dX6_readClause_93 (E_X6_readNumber (d := d + 1) e117) rfl (Nat.le_of_ble_eq_true rfl) zc_X6_readNumber rfl zm_X6_52 zi_X6_readNumber zs_X6_readNumber (zac_ok g136) (by decide) rfl rfl (zst_ok rfl (Nat.le_of_ble_eq_true rfl)) rfl ?_
              obtain ⟨M118, e119, h⟩ := ob h
              refine y_putI (pc := 96) dX6_readClause_96 zf_X6_56 e119 ?_
              refine x_goto (pc := 99) dX6_readClause_99 (t := 153) rfl ?_
              refine x_aload_n (pc := 153) dX6_readClause_153 rfl rfl hl0 ?_
              obtain ⟨g135, h⟩ := bt h
              obtain ⟨M120, e121, h⟩ := ob h
              refine x_callV (av := []) (st := []) (pc := 154) dX6_readClause_154 (E_X6_skipBlanks (d := d + 2) e121) rfl (Nat.le_of_ble_eq_true rfl) zc_X6_skipBlanks rfl zm_X6_33 zi_X6_skipBlanks zs_X6_skipBlanks (zac_ok g135) (by decide) rfl rfl (zst_ok rfl (Nat.le_of_ble_eq_true rfl)) rfl ?_
              refine x_aload_n (pc := 157) dX6_readClause_157 rfl rfl hl0 ?_
              obtain ⟨g134, h⟩ := bt h
              obtain ⟨r122, e123, h⟩ := ob h
              refine x_callV (av := []) (st := []) (pc := 158) dX6_readClause_158 (E_X6_letterHere (d := d + 2) e123) rfl (Nat.le_of_ble_eq_true rfl) zc_X6_letterHere rfl zm_X6_40 zi_X6_letterHere zs_X6_letterHere (zac_ok g134) (by decide) rfl rfl (zst_ok rfl (Nat.le_of_ble_eq_true rfl)) rfl ?_
              refine x_bipush (pc := 161) dX6_readClause_161 (v := 59) (by decide) ?_
              refine x_icmp_ne (pc := 163) dX6_readClause_163 (t := 179) rfl (fun c124 => ?_) (fun c124 => ?_)
              · rw [if_neg c124] at h
                refine x_aload_n (pc := 179) dX6_readClause_179 rfl rfl hl0 ?_
                refine x_aload_n (pc := 180) dX6_readClause_180 rfl rfl hl0 ?_
                obtain ⟨v129, e130, h⟩ := ob h
                refine y_getI (pc := 181) dX6_readClause_181 zf_X6_30 e130 (by decide) ?_
                refine x_iconst (pc := 184) dX6_readClause_184 (v := 1) rfl ?_
                obtain ⟨g133, h⟩ := bt h
                obtain ⟨M131, e132, h⟩ := ob h
                refine x_callV (av := [.int v129, .int 1]) (st := []) (pc := 185) dX6_readClause_185 (E_X6_blame (d := d + 2) e132) rfl (Nat.le_of_ble_eq_true rfl) zc_X6_blame rfl zm_X6_48 zi_X6_blame zs_X6_blame (zac_ok g133) (by decide) rfl rfl (zst_ok rfl (Nat.le_of_ble_eq_true rfl)) rfl ?_
                obtain rfl := s1 h
                exact x_vret (pc := 188) dX6_readClause_188 rfl
              · rw [if_pos c124] at h
                refine x_aload_n (pc := 166) dX6_readClause_166 rfl rfl hl0 ?_
                refine x_dup (pc := 167) dX6_readClause_167 rv_cr ?_
                obtain ⟨v125, e126, h⟩ := ob h
                refine y_getI (pc := 168) dX6_readClause_168 zf_X6_30 e126 (by decide) ?_
                refine x_iconst (pc := 171) dX6_readClause_171 (v := 1) rfl ?_
                refine x_iadd (pc := 172) dX6_readClause_172 ?_
                obtain ⟨M127, e128, h⟩ := ob h
                refine y_putI (pc := 173) dX6_readClause_173 zf_X6_30 e128 ?_
                refine x_goto (pc := 176) dX6_readClause_176 (t := 188) rfl ?_
                obtain rfl := s1 h
                exact x_vret (pc := 188) dX6_readClause_188 rfl
            · rw [if_neg c114] at h
              refine x_lookup (pc := 37) dX6_readClause_37 (by decide) (off := 111) ?_ (t := 148) rfl ?_
              · show Op.lookupswitch.offset [(97, 73), (111, 81), (112, 89), (119, 65), (121, 51)] 111 _ = _
                rw [lv_osw (a := 97) c10 (by decide), lv_osw (a := 111) c30 (by decide), lv_osw (a := 112) c50 (by decide), lv_osw (a := 119) c94 (by decide), lv_osw (a := 121) c114 (by decide)]
                rfl
              · refine x_aload_n (pc := 148) dX6_readClause_148 rfl rfl hl0 ?_
                refine x_aload_n (pc := 149) dX6_readClause_149 rfl rfl hl1 ?_
                obtain ⟨g155, h⟩ := bt h
                obtain ⟨M137, e138, h⟩ := ob h
                refine x_callV (av := [.ref l1]) (st := []) (pc := 150) dX6_readClause_150 (E_X6_readNeed (d := d) e138) rfl (Nat.le_of_ble_eq_true rfl) zc_X6_readNeed rfl zm_X6_72 zi_X6_readNeed zs_X6_readNeed (zac_ok g155) (by decide) rfl rfl (zst_ok rfl (Nat.le_of_ble_eq_true rfl)) rfl ?_
                refine x_aload_n (pc := 153) dX6_readClause_153 rfl rfl hl0 ?_
                obtain ⟨g154, h⟩ := bt h
                obtain ⟨M139, e140, h⟩ := ob h
                refine x_callV (av := []) (st := []) (pc := 154) dX6_readClause_154 (E_X6_skipBlanks (d := d + 2) e140) rfl (Nat.le_of_ble_eq_true rfl) zc_X6_skipBlanks rfl zm_X6_33 zi_X6_skipBlanks zs_X6_skipBlanks (zac_ok g154) (by decide) rfl rfl (zst_ok rfl (Nat.le_of_ble_eq_true rfl)) rfl ?_
                refine x_aload_n (pc := 157) dX6_readClause_157 rfl rfl hl0 ?_
                obtain ⟨g153, h⟩ := bt h
                obtain ⟨r141, e142, h⟩ := ob h
                refine x_callV (av := []) (st := []) (pc := 158) dX6_readClause_158 (E_X6_letterHere (d := d + 2) e142) rfl (Nat.le_of_ble_eq_true rfl) zc_X6_letterHere rfl zm_X6_40 zi_X6_letterHere zs_X6_letterHere (zac_ok g153) (by decide) rfl rfl (zst_ok rfl (Nat.le_of_ble_eq_true rfl)) rfl ?_
                refine x_bipush (pc := 161) dX6_readClause_161 (v := 59) (by decide) ?_
                refine x_icmp_ne (pc := 163) dX6_readClause_163 (t := 179) rfl (fun c143 => ?_) (fun c143 => ?_)
                · rw [if_neg c143] at h
                  refine x_aload_n (pc := 179) dX6_readClause_179 rfl rfl hl0 ?_
                  refine x_aload_n (pc := 180) dX6_readClause_180 rfl rfl hl0 ?_
                  obtain ⟨v148, e149, h⟩ := ob h
                  refine y_getI (pc := 181) dX6_readClause_181 zf_X6_30 e149 (by decide) ?_
                  refine x_iconst (pc := 184) dX6_readClause_184 (v := 1) rfl ?_
                  obtain ⟨g152, h⟩ := bt h
                  obtain ⟨M150, e151, h⟩ := ob h
                  refine x_callV (av := [.int v148, .int 1]) (st := []) (pc := 185) dX6_readClause_185 (E_X6_blame (d := d + 2) e151) rfl (Nat.le_of_ble_eq_true rfl) zc_X6_blame rfl zm_X6_48 zi_X6_blame zs_X6_blame (zac_ok g152) (by decide) rfl rfl (zst_ok rfl (Nat.le_of_ble_eq_true rfl)) rfl ?_
                  obtain rfl := s1 h
                  exact x_vret (pc := 188) dX6_readClause_188 rfl
                · rw [if_pos c143] at h
                  refine x_aload_n (pc := 166) dX6_readClause_166 rfl rfl hl0 ?_
                  refine x_dup (pc := 167) dX6_readClause_167 rv_cr ?_
                  obtain ⟨v144, e145, h⟩ := ob h
                  refine y_getI (pc := 168) dX6_readClause_168 zf_X6_30 e145 (by decide) ?_
                  refine x_iconst (pc := 171) dX6_readClause_171 (v := 1) rfl ?_
                  refine x_iadd (pc := 172) dX6_readClause_172 ?_
                  obtain ⟨M146, e147, h⟩ := ob h
                  refine y_putI (pc := 173) dX6_readClause_173 zf_X6_30 e147 ?_
                  refine x_goto (pc := 176) dX6_readClause_176 (t := 188) rfl ?_
                  obtain rfl := s1 h
                  exact x_vret (pc := 188) dX6_readClause_188 rfl
  · rw [if_neg c5] at h
    refine x_aload_n (pc := 16) dX6_readClause_16 rfl rfl hl0 ?_
    refine x_aload_n (pc := 17) dX6_readClause_17 rfl rfl hl0 ?_
    obtain ⟨v156, e157, h⟩ := ob h
    refine y_getI (pc := 18) dX6_readClause_18 zf_X6_30 e157 (by decide) ?_
    refine x_iload_n (pc := 21) dX6_readClause_21 rfl rfl ?_
    obtain ⟨g160, h⟩ := bt h
    obtain ⟨M158, e159, h⟩ := ob h
    refine x_callV (av := [.int v156, .int r3]) (st := []) (pc := 22) dX6_readClause_22 (E_X6_blame (d := d + 2) e159) rfl (Nat.le_of_ble_eq_true rfl) zc_X6_blame rfl zm_X6_48 zi_X6_blame zs_X6_blame (zac_ok g160) (by decide) rfl rfl (zst_ok rfl (Nat.le_of_ble_eq_true rfl)) rfl ?_
    obtain rfl := s1 h
    exact x_vret (pc := 25) dX6_readClause_25 rfl
def L_X7_clear_37 : Nat → Nat → Int32 → zM → Option (zM)
  | 0, _, _, _ => none
  | n + 1, l0, l1, M => (oR M l0 7 15 10).bind fun v15 => (aN M v15).bind fun v17 => if v17 ≤ l1 then (some M) else ((oR M l0 7 15 10).bind fun v20 => (sI M v20 l1 0).bind fun M22 => L_X7_clear_37 n l0 (l1 + 1) M22)
def f_X7_clear (l0 : Nat) (M : zM) : Option (zM) := bif Nat.ble 1 l0 then ((pI M l0 7 15 0 0).bind fun M1 => (pI M1 l0 7 15 1 0).bind fun M3 => (pI M3 l0 7 15 2 0).bind fun M5 => (pI M5 l0 7 15 3 0).bind fun M7 => (pI M7 l0 7 15 4 0).bind fun M9 => (pI M9 l0 7 15 5 0).bind fun M11 => (pI M11 l0 7 15 6 0).bind fun M13 => (L_X7_clear_37 zN l0 0 M13).bind fun M16 => some M16) else none
theorem LX_X7_clear_37 {G : zG} {d : Nat} : ∀ (n : Nat) (l0 : Nat) (l1 : Int32) (M : zM) (hl0 : l0 ≠ 0) (MX : zM) {res : Option Value × zM}, L_X7_clear_37 n l0 l1 M = some MX → Ex G d yX7_clear cX7_clear 2 none 59 [.null, .null] [] MX res → Ex G d yX7_clear cX7_clear 2 none 37 [.ref l0, .int l1] [] M res := by
  intro n
  induction n with
  | zero =>
    intro l0 l1 M hl0 MX res h K
    simp [L_X7_clear_37] at h
  | succ n ih =>
    intro l0 l1 M hl0 MX res h K
    simp only [L_X7_clear_37] at h
    refine x_iload_n (pc := 37) dX7_clear_37 rfl rfl ?_
    refine x_aload_n (pc := 38) dX7_clear_38 rfl rfl hl0 ?_
    obtain ⟨v15, e16, h⟩ := ob h
    refine y_getR (pc := 39) dX7_clear_39 zf_X7_21 e16 ?_
    obtain ⟨v17, e18, h⟩ := ob h
    refine y_alen (pc := 42) dX7_clear_42 e18 ?_
    refine x_icmp_ge (pc := 43) dX7_clear_43 (t := 59) rfl (fun c19 => ?_) (fun c19 => ?_)
    · rw [if_pos c19] at h
      obtain rfl := s1 h
      refine ex_weak (Ls2 := [.null, .null]) ⟨Or.inl rfl, Or.inl rfl, trivial⟩ ?_
      exact K
    · rw [if_neg c19] at h
      refine x_aload_n (pc := 46) dX7_clear_46 rfl rfl hl0 ?_
      obtain ⟨v20, e21, h⟩ := ob h
      refine y_getR (pc := 47) dX7_clear_47 zf_X7_21 e21 ?_
      refine x_iload_n (pc := 50) dX7_clear_50 rfl rfl ?_
      refine x_iconst (pc := 51) dX7_clear_51 (v := 0) rfl ?_
      obtain ⟨M22, e23, h⟩ := ob h
      refine y_iast (pc := 52) dX7_clear_52 e23 ?_
      refine x_iinc (pc := 53) dX7_clear_53 rfl rfl (by decide) rfl ?_
      refine x_goto (pc := 56) dX7_clear_56 (t := 37) rfl ?_
      refine ex_weak (Ls2 := [.ref l0, .int (l1 + 1)]) ⟨Or.inr rfl, Or.inr rfl, trivial⟩ ?_
      exact ih _ _ _ hl0  _ h K
theorem E_X7_clear {G : zG} {d : Nat} {l0 : Nat} {M MR : zM} (h : f_X7_clear l0 M = some MR) : Ex G d yX7_clear cX7_clear 2 none 0 (zent0 [.ref l0] 2) [] M (none, MR) := by
  unfold f_X7_clear at h
  obtain ⟨zz0, h⟩ := bt h
  have hl0 := bz zz0
  show Ex _ _ _ _ _ _ 0 [.ref l0, .null] [] _ _
  refine x_aload_n (pc := 0) dX7_clear_0 rfl rfl hl0 ?_
  refine x_iconst (pc := 1) dX7_clear_1 (v := 0) rfl ?_
  obtain ⟨M1, e2, h⟩ := ob h
  refine y_putI (pc := 2) dX7_clear_2 zf_X7_36 e2 ?_
  refine x_aload_n (pc := 5) dX7_clear_5 rfl rfl hl0 ?_
  refine x_iconst (pc := 6) dX7_clear_6 (v := 0) rfl ?_
  obtain ⟨M3, e4, h⟩ := ob h
  refine y_putI (pc := 7) dX7_clear_7 zf_X7_40 e4 ?_
  refine x_aload_n (pc := 10) dX7_clear_10 rfl rfl hl0 ?_
  refine x_iconst (pc := 11) dX7_clear_11 (v := 0) rfl ?_
  obtain ⟨M5, e6, h⟩ := ob h
  refine y_putI (pc := 12) dX7_clear_12 zf_X7_43 e6 ?_
  refine x_aload_n (pc := 15) dX7_clear_15 rfl rfl hl0 ?_
  refine x_iconst (pc := 16) dX7_clear_16 (v := 0) rfl ?_
  obtain ⟨M7, e8, h⟩ := ob h
  refine y_putI (pc := 17) dX7_clear_17 zf_X7_46 e8 ?_
  refine x_aload_n (pc := 20) dX7_clear_20 rfl rfl hl0 ?_
  refine x_iconst (pc := 21) dX7_clear_21 (v := 0) rfl ?_
  obtain ⟨M9, e10, h⟩ := ob h
  refine y_putI (pc := 22) dX7_clear_22 zf_X7_49 e10 ?_
  refine x_aload_n (pc := 25) dX7_clear_25 rfl rfl hl0 ?_
  refine x_iconst (pc := 26) dX7_clear_26 (v := 0) rfl ?_
  obtain ⟨M11, e12, h⟩ := ob h
  refine y_putI (pc := 27) dX7_clear_27 zf_X7_52 e12 ?_
  refine x_aload_n (pc := 30) dX7_clear_30 rfl rfl hl0 ?_
  refine x_iconst (pc := 31) dX7_clear_31 (v := 0) rfl ?_
  obtain ⟨M13, e14, h⟩ := ob h
  refine y_putI (pc := 32) dX7_clear_32 zf_X7_55 e14 ?_
  refine x_iconst (pc := 35) dX7_clear_35 (v := 0) rfl ?_
  refine x_istore_n (pc := 36) dX7_clear_36 rfl (by decide) rfl ?_
  obtain ⟨M16, e15, h⟩ := ob h
  refine ex_weak (Ls2 := [.ref l0, .int 0]) ⟨Or.inr rfl, Or.inr rfl, trivial⟩ ?_
  refine LX_X7_clear_37 zN _ _ _ hl0 _ e15 ?_
  obtain rfl := s1 h
  exact x_vret (pc := 59) dX7_clear_59 rfl
def L_X6_readInto_25 : Nat → Nat → Nat → Int32 → zM → Option (zM)
  | 0, _, _, _, _ => none
  | n + 1, l0, l1, l2, M => if 240 ≤ l2 then (some M) else ((oI M l0 6 6 2).bind fun v12 => if v12 = 0 then ((oI M l0 6 6 4).bind fun v15 => (oI M l0 6 6 1).bind fun v17 => if v17 ≤ v15 then (some M) else (bif zac M l0 6 6 then ((f_X6_readClause l0 l1 M).bind fun M20 => bif zac M20 l0 6 6 then ((f_X6_skipBlanks l0 M20).bind fun M22 => L_X6_readInto_25 n l0 l1 (l2 + 1) M22) else none) else none)) else (some M))
def f_X6_readInto (l0 : Nat) (l1 : Nat) (M : zM) : Option (zM) := bif Nat.ble 1 l0 then (bif Nat.ble 1 l1 then (bif zac M l1 7 15 then ((f_X7_clear l1 M).bind fun M1 => (pI M1 l0 6 6 2 0).bind fun M3 => (pI M3 l0 6 6 3 (-1)).bind fun M5 => (pI M5 l0 6 6 4 0).bind fun M7 => bif zac M7 l0 6 6 then ((f_X6_skipBlanks l0 M7).bind fun M9 => (L_X6_readInto_25 zN l0 l1 0 M9).bind fun M12 => some M12) else none) else none) else none) else none
theorem LX_X6_readInto_25 {G : zG} {d : Nat} : ∀ (n : Nat) (l0 : Nat) (l1 : Nat) (l2 : Int32) (M : zM) (hl0 : l0 ≠ 0) (hl1 : l1 ≠ 0) (MX : zM) {res : Option Value × zM}, L_X6_readInto_25 n l0 l1 l2 M = some MX → Ex G (d + 4) yX6_readInto cX6_readInto 3 none 65 [.null, .null, .null] [] MX res → Ex G (d + 4) yX6_readInto cX6_readInto 3 none 25 [.ref l0, .ref l1, .int l2] [] M res := by
  intro n
  induction n with
  | zero =>
    intro l0 l1 l2 M hl0 hl1 MX res h K
    simp [L_X6_readInto_25] at h
  | succ n ih =>
    intro l0 l1 l2 M hl0 hl1 MX res h K
    simp only [L_X6_readInto_25] at h
    refine x_iload_n (pc := 25) dX6_readInto_25 rfl rfl ?_
    refine x_sipush (pc := 26) dX6_readInto_26 (v := 240) (by decide) ?_
    refine x_icmp_ge (pc := 29) dX6_readInto_29 (t := 65) rfl (fun c11 => ?_) (fun c11 => ?_)
    · rw [if_pos c11] at h
      obtain rfl := s1 h
      refine ex_weak (Ls2 := [.null, .null, .null]) ⟨Or.inl rfl, Or.inl rfl, Or.inl rfl, trivial⟩ ?_
      exact K
    · rw [if_neg c11] at h
      refine x_aload_n (pc := 32) dX6_readInto_32 rfl rfl hl0 ?_
      obtain ⟨v12, e13, h⟩ := ob h
      refine y_getI (pc := 33) dX6_readInto_33 zf_X6_27 e13 (by decide) ?_
      refine x_if_ne (pc := 36) dX6_readInto_36 (t := 65) rfl (fun c14 => ?_) (fun c14 => ?_)
      · rw [if_neg c14] at h
        obtain rfl := s1 h
        refine ex_weak (Ls2 := [.null, .null, .null]) ⟨Or.inl rfl, Or.inl rfl, Or.inl rfl, trivial⟩ ?_
        exact K
      · rw [if_pos c14] at h
        refine x_aload_n (pc := 39) dX6_readInto_39 rfl rfl hl0 ?_
        obtain ⟨v15, e16, h⟩ := ob h
        refine y_getI (pc := 40) dX6_readInto_40 zf_X6_30 e16 (by decide) ?_
        refine x_aload_n (pc := 43) dX6_readInto_43 rfl rfl hl0 ?_
        obtain ⟨v17, e18, h⟩ := ob h
        refine y_getI (pc := 44) dX6_readInto_44 zf_X6_19 e18 (by decide) ?_
        refine x_icmp_ge (pc := 47) dX6_readInto_47 (t := 65) rfl (fun c19 => ?_) (fun c19 => ?_)
        · rw [if_pos c19] at h
          obtain rfl := s1 h
          refine ex_weak (Ls2 := [.null, .null, .null]) ⟨Or.inl rfl, Or.inl rfl, Or.inl rfl, trivial⟩ ?_
          exact K
        · rw [if_neg c19] at h
          refine x_aload_n (pc := 50) dX6_readInto_50 rfl rfl hl0 ?_
          refine x_aload_n (pc := 51) dX6_readInto_51 rfl rfl hl1 ?_
          obtain ⟨g25, h⟩ := bt h
          obtain ⟨M20, e21, h⟩ := ob h
          refine x_callV (av := [.ref l1]) (st := []) (pc := 52) dX6_readInto_52 (E_X6_readClause (d := d) e21) rfl (Nat.le_of_ble_eq_true rfl) zc_X6_readClause rfl zm_X6_36 zi_X6_readClause zs_X6_readClause (zac_ok g25) (by decide) rfl rfl (zst_ok rfl (Nat.le_of_ble_eq_true rfl)) rfl ?_
          refine x_aload_n (pc := 55) dX6_readInto_55 rfl rfl hl0 ?_
          obtain ⟨g24, h⟩ := bt h
          obtain ⟨M22, e23, h⟩ := ob h
          refine x_callV (av := []) (st := []) (pc := 56) dX6_readInto_56 (E_X6_skipBlanks (d := d + 3) e23) rfl (Nat.le_of_ble_eq_true rfl) zc_X6_skipBlanks rfl zm_X6_33 zi_X6_skipBlanks zs_X6_skipBlanks (zac_ok g24) (by decide) rfl rfl (zst_ok rfl (Nat.le_of_ble_eq_true rfl)) rfl ?_
          refine x_iinc (pc := 59) dX6_readInto_59 rfl rfl (by decide) rfl ?_
          refine x_goto (pc := 62) dX6_readInto_62 (t := 25) rfl ?_
          refine ex_weak (Ls2 := [.ref l0, .ref l1, .int (l2 + 1)]) ⟨Or.inr rfl, Or.inr rfl, Or.inr rfl, trivial⟩ ?_
          exact ih _ _ _ _ hl0 hl1  _ h K
theorem E_X6_readInto {G : zG} {d : Nat} {l0 : Nat} {l1 : Nat} {M MR : zM} (h : f_X6_readInto l0 l1 M = some MR) : Ex G (d + 4) yX6_readInto cX6_readInto 3 none 0 (zent0 [.ref l0, .ref l1] 3) [] M (none, MR) := by
  unfold f_X6_readInto at h
  obtain ⟨zz0, h⟩ := bt h
  have hl0 := bz zz0
  obtain ⟨zz1, h⟩ := bt h
  have hl1 := bz zz1
  show Ex _ _ _ _ _ _ 0 [.ref l0, .ref l1, .null] [] _ _
  refine x_aload_n (pc := 0) dX6_readInto_0 rfl rfl hl1 ?_
  obtain ⟨g14, h⟩ := bt h
  obtain ⟨M1, e2, h⟩ := ob h
  refine x_callV (av := []) (st := []) (pc := 1) dX6_readInto_1 (E_X7_clear (d := d + 3) e2) rfl (Nat.le_of_ble_eq_true rfl) zc_X7_clear rfl zm_X6_22 zi_X7_clear zs_X7_clear (zac_ok g14) (by decide) rfl rfl (zst_ok rfl (Nat.le_of_ble_eq_true rfl)) rfl ?_
  refine x_aload_n (pc := 4) dX6_readInto_4 rfl rfl hl0 ?_
  refine x_iconst (pc := 5) dX6_readInto_5 (v := 0) rfl ?_
  obtain ⟨M3, e4, h⟩ := ob h
  refine y_putI (pc := 6) dX6_readInto_6 zf_X6_27 e4 ?_
  refine x_aload_n (pc := 9) dX6_readInto_9 rfl rfl hl0 ?_
  refine x_iconst (pc := 10) dX6_readInto_10 (v := (-1)) rfl ?_
  obtain ⟨M5, e6, h⟩ := ob h
  refine y_putI (pc := 11) dX6_readInto_11 zf_X6_15 e6 ?_
  refine x_aload_n (pc := 14) dX6_readInto_14 rfl rfl hl0 ?_
  refine x_iconst (pc := 15) dX6_readInto_15 (v := 0) rfl ?_
  obtain ⟨M7, e8, h⟩ := ob h
  refine y_putI (pc := 16) dX6_readInto_16 zf_X6_30 e8 ?_
  refine x_aload_n (pc := 19) dX6_readInto_19 rfl rfl hl0 ?_
  obtain ⟨g13, h⟩ := bt h
  obtain ⟨M9, e10, h⟩ := ob h
  refine x_callV (av := []) (st := []) (pc := 20) dX6_readInto_20 (E_X6_skipBlanks (d := d + 3) e10) rfl (Nat.le_of_ble_eq_true rfl) zc_X6_skipBlanks rfl zm_X6_33 zi_X6_skipBlanks zs_X6_skipBlanks (zac_ok g13) (by decide) rfl rfl (zst_ok rfl (Nat.le_of_ble_eq_true rfl)) rfl ?_
  refine x_iconst (pc := 23) dX6_readInto_23 (v := 0) rfl ?_
  refine x_istore_n (pc := 24) dX6_readInto_24 rfl (by decide) rfl ?_
  obtain ⟨M12, e11, h⟩ := ob h
  refine ex_weak (Ls2 := [.ref l0, .ref l1, .int 0]) ⟨Or.inr rfl, Or.inr rfl, Or.inr rfl, trivial⟩ ?_
  refine LX_X6_readInto_25 zN _ _ _ _ hl0 hl1 _ e11 ?_
  obtain rfl := s1 h
  exact x_vret (pc := 65) dX6_readInto_65 rfl
def f_X7_init (l0 : Nat) (M : zM) : Option (zM) := bif Nat.ble 1 l0 then ((mk M 10 8).bind fun M1 => (pR M1 l0 7 15 7 (M.1 + 1)).bind fun M3 => (mk M3 10 8).bind fun M5 => (pR M5 l0 7 15 8 (M3.1 + 1)).bind fun M7 => (mk M7 10 8).bind fun M9 => (pR M9 l0 7 15 9 (M7.1 + 1)).bind fun M11 => (mk M11 10 16).bind fun M13 => (pR M13 l0 7 15 10 (M11.1 + 1)).bind fun M15 => (mk M15 10 8).bind fun M17 => (pR M17 l0 7 15 11 (M15.1 + 1)).bind fun M19 => (mk M19 10 8).bind fun M21 => (pR M21 l0 7 15 12 (M19.1 + 1)).bind fun M23 => (mk M23 10 8).bind fun M25 => (pR M25 l0 7 15 13 (M23.1 + 1)).bind fun M27 => (mk M27 10 8).bind fun M29 => (pR M29 l0 7 15 14 (M27.1 + 1)).bind fun M31 => some M31) else none
theorem E_X7_init {G : zG} {d : Nat} {l0 : Nat} {M MR : zM} (h : f_X7_init l0 M = some MR) : Ex G d yX7_init cX7_init 1 none 0 (zent0 [.ref l0] 1) [] M (none, MR) := by
  unfold f_X7_init at h
  obtain ⟨zz0, h⟩ := bt h
  have hl0 := bz zz0
  show Ex _ _ _ _ _ _ 0 [.ref l0] [] _ _
  refine x_aload_n (pc := 0) dX7_init_0 rfl rfl hl0 ?_
  refine y_oinit (pc := 1) dX7_init_1 zm_X7_3 hl0 ?_
  refine x_aload_n (pc := 4) dX7_init_4 rfl rfl hl0 ?_
  refine x_bipush (pc := 5) dX7_init_5 (v := 8) (by decide) ?_
  obtain ⟨M1, e2, h⟩ := ob h
  refine y_newa (pc := 7) dX7_init_7 (N := 8) (by decide) (by decide) (by decide) e2 ?_
  obtain ⟨M3, e4, h⟩ := ob h
  refine y_putF (pc := 9) dX7_init_9 zf_X7_9 rfl (by intro C T n q; cases q; rfl) e4 ?_
  refine x_aload_n (pc := 12) dX7_init_12 rfl rfl hl0 ?_
  refine x_bipush (pc := 13) dX7_init_13 (v := 8) (by decide) ?_
  obtain ⟨M5, e6, h⟩ := ob h
  refine y_newa (pc := 15) dX7_init_15 (N := 8) (by decide) (by decide) (by decide) e6 ?_
  obtain ⟨M7, e8, h⟩ := ob h
  refine y_putF (pc := 17) dX7_init_17 zf_X7_15 rfl (by intro C T n q; cases q; rfl) e8 ?_
  refine x_aload_n (pc := 20) dX7_init_20 rfl rfl hl0 ?_
  refine x_bipush (pc := 21) dX7_init_21 (v := 8) (by decide) ?_
  obtain ⟨M9, e10, h⟩ := ob h
  refine y_newa (pc := 23) dX7_init_23 (N := 8) (by decide) (by decide) (by decide) e10 ?_
  obtain ⟨M11, e12, h⟩ := ob h
  refine y_putF (pc := 25) dX7_init_25 zf_X7_18 rfl (by intro C T n q; cases q; rfl) e12 ?_
  refine x_aload_n (pc := 28) dX7_init_28 rfl rfl hl0 ?_
  refine x_bipush (pc := 29) dX7_init_29 (v := 16) (by decide) ?_
  obtain ⟨M13, e14, h⟩ := ob h
  refine y_newa (pc := 31) dX7_init_31 (N := 16) (by decide) (by decide) (by decide) e14 ?_
  obtain ⟨M15, e16, h⟩ := ob h
  refine y_putF (pc := 33) dX7_init_33 zf_X7_21 rfl (by intro C T n q; cases q; rfl) e16 ?_
  refine x_aload_n (pc := 36) dX7_init_36 rfl rfl hl0 ?_
  refine x_bipush (pc := 37) dX7_init_37 (v := 8) (by decide) ?_
  obtain ⟨M17, e18, h⟩ := ob h
  refine y_newa (pc := 39) dX7_init_39 (N := 8) (by decide) (by decide) (by decide) e18 ?_
  obtain ⟨M19, e20, h⟩ := ob h
  refine y_putF (pc := 41) dX7_init_41 zf_X7_24 rfl (by intro C T n q; cases q; rfl) e20 ?_
  refine x_aload_n (pc := 44) dX7_init_44 rfl rfl hl0 ?_
  refine x_bipush (pc := 45) dX7_init_45 (v := 8) (by decide) ?_
  obtain ⟨M21, e22, h⟩ := ob h
  refine y_newa (pc := 47) dX7_init_47 (N := 8) (by decide) (by decide) (by decide) e22 ?_
  obtain ⟨M23, e24, h⟩ := ob h
  refine y_putF (pc := 49) dX7_init_49 zf_X7_27 rfl (by intro C T n q; cases q; rfl) e24 ?_
  refine x_aload_n (pc := 52) dX7_init_52 rfl rfl hl0 ?_
  refine x_bipush (pc := 53) dX7_init_53 (v := 8) (by decide) ?_
  obtain ⟨M25, e26, h⟩ := ob h
  refine y_newa (pc := 55) dX7_init_55 (N := 8) (by decide) (by decide) (by decide) e26 ?_
  obtain ⟨M27, e28, h⟩ := ob h
  refine y_putF (pc := 57) dX7_init_57 zf_X7_30 rfl (by intro C T n q; cases q; rfl) e28 ?_
  refine x_aload_n (pc := 60) dX7_init_60 rfl rfl hl0 ?_
  refine x_bipush (pc := 61) dX7_init_61 (v := 8) (by decide) ?_
  obtain ⟨M29, e30, h⟩ := ob h
  refine y_newa (pc := 63) dX7_init_63 (N := 8) (by decide) (by decide) (by decide) e30 ?_
  obtain ⟨M31, e32, h⟩ := ob h
  refine y_putF (pc := 65) dX7_init_65 zf_X7_33 rfl (by intro C T n q; cases q; rfl) e32 ?_
  obtain rfl := s1 h
  exact x_vret (pc := 68) dX7_init_68 rfl
