def L_X8_init_129 : Nat → Nat → Int32 → zM → Option (zM)
  | 0, _, _, _ => none
  | n + 1, l0, l1, M => if 2 ≤ l1 then (some M) else ((oR M l0 8 13 6).bind fun v68 => (mk M 1 3).bind fun M70 => (f_X1_init (M.1 + 1) M70).bind fun M72 => (sQ M72 v68 12 l1 (M.1 + 1) 1 3).bind fun M74 => L_X8_init_129 n l0 (l1 + 1) M74)
def f_X8_init (l0 : Nat) (M : zM) : Option (zM) := bif Nat.ble 1 l0 then ((mk M 6 6).bind fun M1 => (f_X6_init (M.1 + 1) M1).bind fun M3 => (pR M3 l0 8 13 0 (M.1 + 1)).bind fun M5 => (mk M5 7 15).bind fun M7 => (f_X7_init (M5.1 + 1) M7).bind fun M9 => (pR M9 l0 8 13 1 (M5.1 + 1)).bind fun M11 => (mk M11 7 15).bind fun M13 => (f_X7_init (M11.1 + 1) M13).bind fun M15 => (pR M15 l0 8 13 2 (M11.1 + 1)).bind fun M17 => (mk M17 5 9).bind fun M19 => (f_X5_init (M17.1 + 1) M19).bind fun M21 => (pR M21 l0 8 13 3 (M17.1 + 1)).bind fun M23 => (mk M23 5 9).bind fun M25 => (f_X5_init (M23.1 + 1) M25).bind fun M27 => (pR M27 l0 8 13 4 (M23.1 + 1)).bind fun M29 => (mk M29 3 3).bind fun M31 => (f_X3_init (M29.1 + 1) M31).bind fun M33 => (pR M33 l0 8 13 5 (M29.1 + 1)).bind fun M35 => (mk M35 12 2).bind fun M37 => (pR M37 l0 8 13 6 (M35.1 + 1)).bind fun M39 => (mk M39 4 10).bind fun M41 => (f_X4_init (M39.1 + 1) M41).bind fun M43 => (pR M43 l0 8 13 7 (M39.1 + 1)).bind fun M45 => (mk M45 2 4).bind fun M47 => (f_X2_init (M45.1 + 1) M47).bind fun M49 => (pR M49 l0 8 13 8 (M45.1 + 1)).bind fun M51 => (mk M51 0 3).bind fun M53 => (f_X0_init (M51.1 + 1) M53).bind fun M55 => (pR M55 l0 8 13 9 (M51.1 + 1)).bind fun M57 => (mk M57 10 8).bind fun M59 => (pR M59 l0 8 13 10 (M57.1 + 1)).bind fun M61 => (mk M61 10 10).bind fun M63 => (pR M63 l0 8 13 11 (M61.1 + 1)).bind fun M65 => (L_X8_init_129 zN l0 0 M65).bind fun M68 => some M68) else none
set_option maxRecDepth 100000 in
set_option maxHeartbeats 2000000 in
theorem LX_X8_init_129 {G : zG} {d : Nat} : ∀ (n : Nat) (l0 : Nat) (l1 : Int32) (M : zM) (hl0 : l0 ≠ 0) (MX : zM) {res : Option Value × zM}, L_X8_init_129 n l0 l1 M = some MX → Ex G (d + 2) yX8_init cX8_init 2 none 153 [.null, .null] [] MX res → Ex G (d + 2) yX8_init cX8_init 2 none 129 [.ref l0, .int l1] [] M res := by
  intro n
  induction n with
  | zero =>
    intro l0 l1 M hl0 MX res h K
    simp [L_X8_init_129] at h
  | succ n ih =>
    intro l0 l1 M hl0 MX res h K
    simp only [L_X8_init_129] at h
    refine x_iload_n (pc := 129) dX8_init_129 rfl rfl ?_
    refine x_iconst (pc := 130) dX8_init_130 (v := 2) rfl ?_
    refine x_icmp_ge (pc := 131) dX8_init_131 (t := 153) rfl (fun c67 => ?_) (fun c67 => ?_)
    · rw [if_pos c67] at h
      obtain rfl := s1 h
      refine ex_weak (Ls2 := [.null, .null]) ⟨Or.inl rfl, Or.inl rfl, trivial⟩ ?_
      exact K
    · rw [if_neg c67] at h
      refine x_aload_n (pc := 134) dX8_init_134 rfl rfl hl0 ?_
      obtain ⟨v68, e69, h⟩ := ob h
      refine y_getR (pc := 135) dX8_init_135 zf_X8_45 e69 ?_
      refine x_iload_n (pc := 138) dX8_init_138 rfl rfl ?_
      obtain ⟨M70, e71, h⟩ := ob h
      refine y_new (pc := 139) dX8_init_139 zn_X8_43 e71 ?_
      refine x_dup (pc := 142) dX8_init_142 rv_cr ?_
      obtain ⟨M72, e73, h⟩ := ob h
      refine x_callN (av := []) (st := [.ref (M.1 + 1), .int l1, .ref v68]) (pc := 143) dX8_init_143 (E_X1_init (d := d) e73) rfl (Nat.le_of_ble_eq_true rfl) zc_X1_init rfl zm_X8_77 zi_X1_init rfl (Nat.succ_ne_zero _) rfl (zst_ok rfl (Nat.le_of_ble_eq_true rfl)) rfl ?_
      obtain ⟨M74, e75, h⟩ := ob h
      refine y_aastM (pc := 146) dX8_init_146 e75 ?_
      refine x_iinc (pc := 147) dX8_init_147 rfl rfl (by decide) rfl ?_
      refine x_goto (pc := 150) dX8_init_150 (t := 129) rfl ?_
      refine ex_weak (Ls2 := [.ref l0, .int (l1 + 1)]) ⟨Or.inr rfl, Or.inr rfl, trivial⟩ ?_
      exact ih _ _ _ hl0  _ h K
set_option maxRecDepth 100000 in
set_option maxHeartbeats 2000000 in
theorem E_X8_init {G : zG} {d : Nat} {l0 : Nat} {M MR : zM} (h : f_X8_init l0 M = some MR) : Ex G (d + 2) yX8_init cX8_init 2 none 0 (zent0 [.ref l0] 2) [] M (none, MR) := by
  unfold f_X8_init at h
  obtain ⟨zz0, h⟩ := bt h
  have hl0 := bz zz0
  show Ex _ _ _ _ _ _ 0 [.ref l0, .null] [] _ _
  refine x_aload_n (pc := 0) dX8_init_0 rfl rfl hl0 ?_
  refine y_oinit (pc := 1) dX8_init_1 zm_X8_1 hl0 ?_
  refine x_aload_n (pc := 4) dX8_init_4 rfl rfl hl0 ?_
  obtain ⟨M1, e2, h⟩ := ob h
  refine y_new (pc := 5) dX8_init_5 zn_X8_7 e2 ?_
  refine x_dup (pc := 8) dX8_init_8 rv_cr ?_
  obtain ⟨M3, e4, h⟩ := ob h
  refine x_callN (av := []) (st := [.ref (M.1 + 1), .ref l0]) (pc := 9) dX8_init_9 (E_X6_init (d := d + 1) e4) rfl (Nat.le_of_ble_eq_true rfl) zc_X6_init rfl zm_X8_9 zi_X6_init rfl (Nat.succ_ne_zero _) rfl (zst_ok rfl (Nat.le_of_ble_eq_true rfl)) rfl ?_
  obtain ⟨M5, e6, h⟩ := ob h
  refine y_putF (pc := 12) dX8_init_12 zf_X8_10 rfl (by intro C T n q; cases q; rfl) e6 ?_
  refine x_aload_n (pc := 15) dX8_init_15 rfl rfl hl0 ?_
  obtain ⟨M7, e8, h⟩ := ob h
  refine y_new (pc := 16) dX8_init_16 zn_X8_16 e8 ?_
  refine x_dup (pc := 19) dX8_init_19 rv_cr ?_
  obtain ⟨M9, e10, h⟩ := ob h
  refine x_callN (av := []) (st := [.ref (M5.1 + 1), .ref l0]) (pc := 20) dX8_init_20 (E_X7_init (d := d + 1) e10) rfl (Nat.le_of_ble_eq_true rfl) zc_X7_init rfl zm_X8_18 zi_X7_init rfl (Nat.succ_ne_zero _) rfl (zst_ok rfl (Nat.le_of_ble_eq_true rfl)) rfl ?_
  obtain ⟨M11, e12, h⟩ := ob h
  refine y_putR (pc := 23) dX8_init_23 zf_X8_19 e12 ?_
  refine x_aload_n (pc := 26) dX8_init_26 rfl rfl hl0 ?_
  obtain ⟨M13, e14, h⟩ := ob h
  refine y_new (pc := 27) dX8_init_27 zn_X8_16 e14 ?_
  refine x_dup (pc := 30) dX8_init_30 rv_cr ?_
  obtain ⟨M15, e16, h⟩ := ob h
  refine x_callN (av := []) (st := [.ref (M11.1 + 1), .ref l0]) (pc := 31) dX8_init_31 (E_X7_init (d := d + 1) e16) rfl (Nat.le_of_ble_eq_true rfl) zc_X7_init rfl zm_X8_18 zi_X7_init rfl (Nat.succ_ne_zero _) rfl (zst_ok rfl (Nat.le_of_ble_eq_true rfl)) rfl ?_
  obtain ⟨M17, e18, h⟩ := ob h
  refine y_putR (pc := 34) dX8_init_34 zf_X8_23 e18 ?_
  refine x_aload_n (pc := 37) dX8_init_37 rfl rfl hl0 ?_
  obtain ⟨M19, e20, h⟩ := ob h
  refine y_new (pc := 38) dX8_init_38 zn_X8_26 e20 ?_
  refine x_dup (pc := 41) dX8_init_41 rv_cr ?_
  obtain ⟨M21, e22, h⟩ := ob h
  refine x_callN (av := []) (st := [.ref (M17.1 + 1), .ref l0]) (pc := 42) dX8_init_42 (E_X5_init (d := d + 1) e22) rfl (Nat.le_of_ble_eq_true rfl) zc_X5_init rfl zm_X8_28 zi_X5_init rfl (Nat.succ_ne_zero _) rfl (zst_ok rfl (Nat.le_of_ble_eq_true rfl)) rfl ?_
  obtain ⟨M23, e24, h⟩ := ob h
  refine y_putF (pc := 45) dX8_init_45 zf_X8_29 rfl (by intro C T n q; cases q; rfl) e24 ?_
  refine x_aload_n (pc := 48) dX8_init_48 rfl rfl hl0 ?_
  obtain ⟨M25, e26, h⟩ := ob h
  refine y_new (pc := 49) dX8_init_49 zn_X8_26 e26 ?_
  refine x_dup (pc := 52) dX8_init_52 rv_cr ?_
  obtain ⟨M27, e28, h⟩ := ob h
  refine x_callN (av := []) (st := [.ref (M23.1 + 1), .ref l0]) (pc := 53) dX8_init_53 (E_X5_init (d := d + 1) e28) rfl (Nat.le_of_ble_eq_true rfl) zc_X5_init rfl zm_X8_28 zi_X5_init rfl (Nat.succ_ne_zero _) rfl (zst_ok rfl (Nat.le_of_ble_eq_true rfl)) rfl ?_
  obtain ⟨M29, e30, h⟩ := ob h
  refine y_putF (pc := 56) dX8_init_56 zf_X8_33 rfl (by intro C T n q; cases q; rfl) e30 ?_
  refine x_aload_n (pc := 59) dX8_init_59 rfl rfl hl0 ?_
  obtain ⟨M31, e32, h⟩ := ob h
  refine y_new (pc := 60) dX8_init_60 zn_X8_36 e32 ?_
  refine x_dup (pc := 63) dX8_init_63 rv_cr ?_
  obtain ⟨M33, e34, h⟩ := ob h
  refine x_callI (av := []) (st := [.ref (M29.1 + 1), .ref l0]) (pc := 64) dX8_init_64 (E_X3_init (d := d) e34) rfl (Nat.le_of_ble_eq_true rfl) zc_X3_init rfl zm_X8_38 zi_X3_init rfl (Nat.succ_ne_zero _) rfl (zst_ok rfl (Nat.le_of_ble_eq_true rfl)) rfl ?_
  obtain ⟨M35, e36, h⟩ := ob h
  refine y_putF (pc := 67) dX8_init_67 zf_X8_39 rfl (by intro C T n q; cases q; rfl) e36 ?_
  refine x_aload_n (pc := 70) dX8_init_70 rfl rfl hl0 ?_
  refine x_iconst (pc := 71) dX8_init_71 (v := 2) rfl ?_
  obtain ⟨M37, e38, h⟩ := ob h
  refine y_newqM (pc := 72) dX8_init_72 zq_X8_43 (N := 2) (by decide) (by decide) (by decide) e38 ?_
  obtain ⟨M39, e40, h⟩ := ob h
  refine y_putF (pc := 75) dX8_init_75 zf_X8_45 rfl (by intro C T n q; cases q; rfl) e40 ?_
  refine x_aload_n (pc := 78) dX8_init_78 rfl rfl hl0 ?_
  obtain ⟨M41, e42, h⟩ := ob h
  refine y_new (pc := 79) dX8_init_79 zn_X8_49 e42 ?_
  refine x_dup (pc := 82) dX8_init_82 rv_cr ?_
  obtain ⟨M43, e44, h⟩ := ob h
  refine x_callN (av := []) (st := [.ref (M39.1 + 1), .ref l0]) (pc := 83) dX8_init_83 (E_X4_init (d := d + 1) e44) rfl (Nat.le_of_ble_eq_true rfl) zc_X4_init rfl zm_X8_51 zi_X4_init rfl (Nat.succ_ne_zero _) rfl (zst_ok rfl (Nat.le_of_ble_eq_true rfl)) rfl ?_
  obtain ⟨M45, e46, h⟩ := ob h
  refine y_putF (pc := 86) dX8_init_86 zf_X8_52 rfl (by intro C T n q; cases q; rfl) e46 ?_
  refine x_aload_n (pc := 89) dX8_init_89 rfl rfl hl0 ?_
  obtain ⟨M47, e48, h⟩ := ob h
  refine y_new (pc := 90) dX8_init_90 zn_X8_56 e48 ?_
  refine x_dup (pc := 93) dX8_init_93 rv_cr ?_
  obtain ⟨M49, e50, h⟩ := ob h
  refine x_callN (av := []) (st := [.ref (M45.1 + 1), .ref l0]) (pc := 94) dX8_init_94 (E_X2_init (d := d + 1) e50) rfl (Nat.le_of_ble_eq_true rfl) zc_X2_init rfl zm_X8_58 zi_X2_init rfl (Nat.succ_ne_zero _) rfl (zst_ok rfl (Nat.le_of_ble_eq_true rfl)) rfl ?_
  obtain ⟨M51, e52, h⟩ := ob h
  refine y_putF (pc := 97) dX8_init_97 zf_X8_59 rfl (by intro C T n q; cases q; rfl) e52 ?_
  refine x_aload_n (pc := 100) dX8_init_100 rfl rfl hl0 ?_
  obtain ⟨M53, e54, h⟩ := ob h
  refine y_new (pc := 101) dX8_init_101 zn_X8_63 e54 ?_
  refine x_dup (pc := 104) dX8_init_104 rv_cr ?_
  obtain ⟨M55, e56, h⟩ := ob h
  refine x_callN (av := []) (st := [.ref (M51.1 + 1), .ref l0]) (pc := 105) dX8_init_105 (E_X0_init (d := d + 1) e56) rfl (Nat.le_of_ble_eq_true rfl) zc_X0_init rfl zm_X8_65 zi_X0_init rfl (Nat.succ_ne_zero _) rfl (zst_ok rfl (Nat.le_of_ble_eq_true rfl)) rfl ?_
  obtain ⟨M57, e58, h⟩ := ob h
  refine y_putF (pc := 108) dX8_init_108 zf_X8_66 rfl (by intro C T n q; cases q; rfl) e58 ?_
  refine x_aload_n (pc := 111) dX8_init_111 rfl rfl hl0 ?_
  refine x_bipush (pc := 112) dX8_init_112 (v := 8) (by decide) ?_
  obtain ⟨M59, e60, h⟩ := ob h
  refine y_newa (pc := 114) dX8_init_114 (N := 8) (by decide) (by decide) (by decide) e60 ?_
  obtain ⟨M61, e62, h⟩ := ob h
  refine y_putF (pc := 116) dX8_init_116 zf_X8_70 rfl (by intro C T n q; cases q; rfl) e62 ?_
  refine x_aload_n (pc := 119) dX8_init_119 rfl rfl hl0 ?_
  refine x_bipush (pc := 120) dX8_init_120 (v := 10) (by decide) ?_
  obtain ⟨M63, e64, h⟩ := ob h
  refine y_newa (pc := 122) dX8_init_122 (N := 10) (by decide) (by decide) (by decide) e64 ?_
  obtain ⟨M65, e66, h⟩ := ob h
  refine y_putF (pc := 124) dX8_init_124 zf_X8_74 rfl (by intro C T n q; cases q; rfl) e66 ?_
  refine x_iconst (pc := 127) dX8_init_127 (v := 0) rfl ?_
  refine x_istore_n (pc := 128) dX8_init_128 rfl (by decide) rfl ?_
  obtain ⟨M68, e67, h⟩ := ob h
  refine ex_weak (Ls2 := [.ref l0, .int 0]) ⟨Or.inr rfl, Or.inr rfl, trivial⟩ ?_
  refine LX_X8_init_129 zN _ _ _ hl0 _ e67 ?_
  obtain rfl := s1 h
  exact x_vret (pc := 153) dX8_init_153 rfl
def f_X8_feed (l0 : Nat) (l1 : Int32) (M : zM) : Option (Int32 × zM) := bif Nat.ble 1 l0 then (if l1 < 0 then (some ((-1000000002), M)) else (if l1 ≤ 255 then ((oR M l0 8 13 0).bind fun v3 => bif zac M v3 6 6 then ((f_X6_isFull v3 M).bind fun r5 => if r5 = 0 then ((oR M l0 8 13 0).bind fun v8 => bif zac M v8 6 6 then ((f_X6_add v8 l1 M).bind fun M10 => (oR M10 l0 8 13 0).bind fun v12 => (oI M10 v12 6 6 1).bind fun v14 => some (v14, M10)) else none) else (some ((-1000000004), M))) else none) else (some ((-1000000002), M)))) else none
theorem E_X8_feed {G : zG} {d : Nat} {l0 : Nat} {l1 : Int32} {M MR : zM} {r : Int32} (h : f_X8_feed l0 l1 M = some (r, MR)) : Ex G (d + 1) yX8_feed cX8_feed 2 (some .int) 0 (zent0 [.ref l0, .int l1] 2) [] M (some (.int r), MR) := by
  unfold f_X8_feed at h
  obtain ⟨zz0, h⟩ := bt h
  have hl0 := bz zz0
  show Ex _ _ _ _ _ _ 0 [.ref l0, .int l1] [] _ _
  refine x_iload_n (pc := 0) dX8_feed_0 rfl rfl ?_
  refine x_if_lt (pc := 1) dX8_feed_1 (t := 11) rfl (fun c1 => ?_) (fun c1 => ?_)
  · rw [if_pos c1] at h
    refine x_ldc (pc := 11) dX8_feed_11 zk_X8_78 ?_
    obtain ⟨rfl, rfl⟩ := s2 h
    exact y_retI (pc := 13) dX8_feed_13 rfl
  · rw [if_neg c1] at h
    refine x_iload_n (pc := 4) dX8_feed_4 rfl rfl ?_
    refine x_sipush (pc := 5) dX8_feed_5 (v := 255) (by decide) ?_
    refine x_icmp_le (pc := 8) dX8_feed_8 (t := 14) rfl (fun c2 => ?_) (fun c2 => ?_)
    · rw [if_pos c2] at h
      refine x_aload_n (pc := 14) dX8_feed_14 rfl rfl hl0 ?_
      obtain ⟨v3, e4, h⟩ := ob h
      refine y_getR (pc := 15) dX8_feed_15 zf_X8_10 e4 ?_
      obtain ⟨g17, h⟩ := bt h
      obtain ⟨r5, e6, h⟩ := ob h
      refine x_callV (av := []) (st := []) (pc := 18) dX8_feed_18 (E_X6_isFull (d := d) e6) rfl (Nat.le_of_ble_eq_true rfl) zc_X6_isFull rfl zm_X8_79 zi_X6_isFull zs_X6_isFull (zac_ok g17) (by decide) rfl rfl (zst_ok rfl (Nat.le_of_ble_eq_true rfl)) rfl ?_
      refine x_if_eq (pc := 21) dX8_feed_21 (t := 27) rfl (fun c7 => ?_) (fun c7 => ?_)
      · rw [if_pos c7] at h
        refine x_aload_n (pc := 27) dX8_feed_27 rfl rfl hl0 ?_
        obtain ⟨v8, e9, h⟩ := ob h
        refine y_getR (pc := 28) dX8_feed_28 zf_X8_10 e9 ?_
        refine x_iload_n (pc := 31) dX8_feed_31 rfl rfl ?_
        obtain ⟨g16, h⟩ := bt h
        obtain ⟨M10, e11, h⟩ := ob h
        refine x_callV (av := [.int l1]) (st := []) (pc := 32) dX8_feed_32 (E_X6_add (d := d) e11) rfl (Nat.le_of_ble_eq_true rfl) zc_X6_add rfl zm_X8_84 zi_X6_add zs_X6_add (zac_ok g16) (by decide) rfl rfl (zst_ok rfl (Nat.le_of_ble_eq_true rfl)) rfl ?_
        refine x_aload_n (pc := 35) dX8_feed_35 rfl rfl hl0 ?_
        obtain ⟨v12, e13, h⟩ := ob h
        refine y_getR (pc := 36) dX8_feed_36 zf_X8_10 e13 ?_
        obtain ⟨v14, e15, h⟩ := ob h
        refine y_getI (pc := 39) dX8_feed_39 zf_X8_88 e15 (by decide) ?_
        obtain ⟨rfl, rfl⟩ := s2 h
        exact y_retI (pc := 42) dX8_feed_42 rfl
      · rw [if_neg c7] at h
        refine x_ldc (pc := 24) dX8_feed_24 zk_X8_83 ?_
        obtain ⟨rfl, rfl⟩ := s2 h
        exact y_retI (pc := 26) dX8_feed_26 rfl
    · rw [if_neg c2] at h
      refine x_ldc (pc := 11) dX8_feed_11 zk_X8_78 ?_
      obtain ⟨rfl, rfl⟩ := s2 h
      exact y_retI (pc := 13) dX8_feed_13 rfl
def L_X8_town_91 : Nat → Nat → Int32 → zM → Option (zM)
  | 0, _, _, _ => none
  | n + 1, l0, l2, M => if 2 ≤ l2 then (some M) else ((oR M l0 8 13 6).bind fun v44 => (aQ M v44 12 l2).bind fun v46 => (pZ M v46 1 3 2 0).bind fun M48 => L_X8_town_91 n l0 (l2 + 1) M48)
def f_X8_town (l0 : Nat) (M : zM) : Option (Int32 × zM) := bif Nat.ble 1 l0 then ((oR M l0 8 13 0).bind fun v1 => (oR M l0 8 13 2).bind fun v3 => bif zac M v1 6 6 then ((f_X6_readInto v1 v3 M).bind fun M5 => (oR M5 l0 8 13 0).bind fun v7 => bif zac M5 v7 6 6 then ((f_X6_empty v7 M5).bind fun M9 => (oR M9 l0 8 13 0).bind fun v11 => (oI M9 v11 6 6 2).bind fun v13 => if v13 = 0 then ((oR M9 l0 8 13 1).bind fun v16 => bif Nat.ble 1 v16 then ((oR M9 l0 8 13 2).bind fun v19 => (pR M9 l0 8 13 1 v19).bind fun M21 => (pR M21 l0 8 13 2 v16).bind fun M23 => (oR M23 l0 8 13 3).bind fun v25 => (oR M23 l0 8 13 1).bind fun v27 => bif zac M23 v25 5 9 then ((f_X5_begin v25 v27 M23).bind fun M29 => (oR M29 l0 8 13 5).bind fun v31 => bif zac M29 v31 3 3 then ((f_X3_forget v31 M29).bind fun M33 => (oR M33 l0 8 13 8).bind fun v35 => bif zac M33 v35 2 4 then ((f_X2_clear v35 M33).bind fun M37 => (oR M37 l0 8 13 9).bind fun v39 => bif zac M37 v39 0 3 then ((f_X0_clear v39 M37).bind fun M41 => (L_X8_town_91 zN l0 0 M41).bind fun M44 => (oR M44 l0 8 13 1).bind fun v45 => (oI M44 v45 7 15 1).bind fun v47 => some (v47, M44)) else none) else none) else none) else none) else none) else ((oR M9 l0 8 13 0).bind fun v53 => (oI M9 v53 6 6 2).bind fun v55 => some ((-10) - v55, M9))) else none) else none) else none
theorem LX_X8_town_91 {G : zG} {d : Nat} : ∀ (n : Nat) (l0 : Nat) (l2 : Int32) (M : zM) (hl0 : l0 ≠ 0) (MX : zM) {res : Option Value × zM}, L_X8_town_91 n l0 l2 M = some MX → Ex G (d + 5) yX8_town cX8_town 3 (some .int) 112 [.ref l0, .null, .null] [] MX res → Ex G (d + 5) yX8_town cX8_town 3 (some .int) 91 [.ref l0, .null, .int l2] [] M res := by
  intro n
  induction n with
  | zero =>
    intro l0 l2 M hl0 MX res h K
    simp [L_X8_town_91] at h
  | succ n ih =>
    intro l0 l2 M hl0 MX res h K
    simp only [L_X8_town_91] at h
    refine x_iload_n (pc := 91) dX8_town_91 rfl rfl ?_
    refine x_iconst (pc := 92) dX8_town_92 (v := 2) rfl ?_
    refine x_icmp_ge (pc := 93) dX8_town_93 (t := 112) rfl (fun c43 => ?_) (fun c43 => ?_)
    · rw [if_pos c43] at h
      obtain rfl := s1 h
      refine ex_weak (Ls2 := [.ref l0, .null, .null]) ⟨Or.inr rfl, Or.inl rfl, Or.inl rfl, trivial⟩ ?_
      exact K
    · rw [if_neg c43] at h
      refine x_aload_n (pc := 96) dX8_town_96 rfl rfl hl0 ?_
      obtain ⟨v44, e45, h⟩ := ob h
      refine y_getR (pc := 97) dX8_town_97 zf_X8_45 e45 ?_
      refine x_iload_n (pc := 100) dX8_town_100 rfl rfl ?_
      obtain ⟨v46, e47, h⟩ := ob h
      refine y_aaldM (pc := 101) dX8_town_101 e47 ?_
      refine x_iconst (pc := 102) dX8_town_102 (v := 0) rfl ?_
      obtain ⟨M48, e49, h⟩ := ob h
      refine y_putZ (pc := 103) dX8_town_103 zf_X8_112 e49 ?_
      refine x_iinc (pc := 106) dX8_town_106 rfl rfl (by decide) rfl ?_
      refine x_goto (pc := 109) dX8_town_109 (t := 91) rfl ?_
      refine ex_weak (Ls2 := [.ref l0, .null, .int (l2 + 1)]) ⟨Or.inr rfl, Or.inl rfl, Or.inr rfl, trivial⟩ ?_
      exact ih _ _ _ hl0  _ h K
theorem E_X8_town {G : zG} {d : Nat} {l0 : Nat} {M MR : zM} {r : Int32} (h : f_X8_town l0 M = some (r, MR)) : Ex G (d + 5) yX8_town cX8_town 3 (some .int) 0 (zent0 [.ref l0] 3) [] M (some (.int r), MR) := by
  unfold f_X8_town at h
  obtain ⟨zz0, h⟩ := bt h
  have hl0 := bz zz0
  show Ex _ _ _ _ _ _ 0 [.ref l0, .null, .null] [] _ _
  refine x_aload_n (pc := 0) dX8_town_0 rfl rfl hl0 ?_
  obtain ⟨v1, e2, h⟩ := ob h
  refine y_getR (pc := 1) dX8_town_1 zf_X8_10 e2 ?_
  refine x_aload_n (pc := 4) dX8_town_4 rfl rfl hl0 ?_
  obtain ⟨v3, e4, h⟩ := ob h
  refine y_getR (pc := 5) dX8_town_5 zf_X8_23 e4 ?_
  obtain ⟨g58, h⟩ := bt h
  obtain ⟨M5, e6, h⟩ := ob h
  refine x_callV (av := [.ref v3]) (st := []) (pc := 8) dX8_town_8 (E_X6_readInto (d := d) e6) rfl (Nat.le_of_ble_eq_true rfl) zc_X6_readInto rfl zm_X8_92 zi_X6_readInto zs_X6_readInto (zac_ok g58) (by decide) rfl rfl (zst_ok rfl (Nat.le_of_ble_eq_true rfl)) rfl ?_
  refine x_aload_n (pc := 11) dX8_town_11 rfl rfl hl0 ?_
  obtain ⟨v7, e8, h⟩ := ob h
  refine y_getR (pc := 12) dX8_town_12 zf_X8_10 e8 ?_
  obtain ⟨g57, h⟩ := bt h
  obtain ⟨M9, e10, h⟩ := ob h
  refine x_callV (av := []) (st := []) (pc := 15) dX8_town_15 (E_X6_empty (d := d + 4) e10) rfl (Nat.le_of_ble_eq_true rfl) zc_X6_empty rfl zm_X8_96 zi_X6_empty zs_X6_empty (zac_ok g57) (by decide) rfl rfl (zst_ok rfl (Nat.le_of_ble_eq_true rfl)) rfl ?_
  refine x_aload_n (pc := 18) dX8_town_18 rfl rfl hl0 ?_
  obtain ⟨v11, e12, h⟩ := ob h
  refine y_getR (pc := 19) dX8_town_19 zf_X8_10 e12 ?_
  obtain ⟨v13, e14, h⟩ := ob h
  refine y_getI (pc := 22) dX8_town_22 zf_X8_99 e14 (by decide) ?_
  refine x_if_eq (pc := 25) dX8_town_25 (t := 39) rfl (fun c15 => ?_) (fun c15 => ?_)
  · rw [if_pos c15] at h
    refine x_aload_n (pc := 39) dX8_town_39 rfl rfl hl0 ?_
    obtain ⟨v16, e17, h⟩ := ob h
    refine y_getR (pc := 40) dX8_town_40 zf_X8_19 e17 ?_
    obtain ⟨z18, h⟩ := bt h
    refine x_astore_n (pc := 43) dX8_town_43 rfl (by decide) rfl (bz z18) ?_
    refine x_aload_n (pc := 44) dX8_town_44 rfl rfl hl0 ?_
    refine x_aload_n (pc := 45) dX8_town_45 rfl rfl hl0 ?_
    obtain ⟨v19, e20, h⟩ := ob h
    refine y_getR (pc := 46) dX8_town_46 zf_X8_23 e20 ?_
    obtain ⟨M21, e22, h⟩ := ob h
    refine y_putR (pc := 49) dX8_town_49 zf_X8_19 e22 ?_
    refine x_aload_n (pc := 52) dX8_town_52 rfl rfl hl0 ?_
    refine x_aload_n (pc := 53) dX8_town_53 rfl rfl (bz z18) ?_
    obtain ⟨M23, e24, h⟩ := ob h
    refine y_putR (pc := 54) dX8_town_54 zf_X8_23 e24 ?_
    refine x_aload_n (pc := 57) dX8_town_57 rfl rfl hl0 ?_
    obtain ⟨v25, e26, h⟩ := ob h
    refine y_getR (pc := 58) dX8_town_58 zf_X8_29 e26 ?_
    refine x_aload_n (pc := 61) dX8_town_61 rfl rfl hl0 ?_
    obtain ⟨v27, e28, h⟩ := ob h
    refine y_getR (pc := 62) dX8_town_62 zf_X8_19 e28 ?_
    obtain ⟨g52, h⟩ := bt h
    obtain ⟨M29, e30, h⟩ := ob h
    refine x_callV (av := [.ref v27]) (st := []) (pc := 65) dX8_town_65 (E_X5_begin (d := d + 3) e30) rfl (Nat.le_of_ble_eq_true rfl) zc_X5_begin rfl zm_X8_102 zi_X5_begin zs_X5_begin (zac_ok g52) (by decide) rfl rfl (zst_ok rfl (Nat.le_of_ble_eq_true rfl)) rfl ?_
    refine x_aload_n (pc := 68) dX8_town_68 rfl rfl hl0 ?_
    obtain ⟨v31, e32, h⟩ := ob h
    refine y_getR (pc := 69) dX8_town_69 zf_X8_39 e32 ?_
    obtain ⟨g51, h⟩ := bt h
    obtain ⟨M33, e34, h⟩ := ob h
    refine x_callV (av := []) (st := []) (pc := 72) dX8_town_72 (E_X3_forget (d := d + 4) e34) rfl (Nat.le_of_ble_eq_true rfl) zc_X3_forget rfl zm_X8_105 zi_X3_forget zs_X3_forget (zac_ok g51) (by decide) rfl rfl (zst_ok rfl (Nat.le_of_ble_eq_true rfl)) rfl ?_
    refine x_aload_n (pc := 75) dX8_town_75 rfl rfl hl0 ?_
    obtain ⟨v35, e36, h⟩ := ob h
    refine y_getR (pc := 76) dX8_town_76 zf_X8_59 e36 ?_
    obtain ⟨g50, h⟩ := bt h
    obtain ⟨M37, e38, h⟩ := ob h
    refine x_callV (av := []) (st := []) (pc := 79) dX8_town_79 (E_X2_clear (d := d + 4) e38) rfl (Nat.le_of_ble_eq_true rfl) zc_X2_clear rfl zm_X8_108 zi_X2_clear zs_X2_clear (zac_ok g50) (by decide) rfl rfl (zst_ok rfl (Nat.le_of_ble_eq_true rfl)) rfl ?_
    refine x_aload_n (pc := 82) dX8_town_82 rfl rfl hl0 ?_
    obtain ⟨v39, e40, h⟩ := ob h
    refine y_getR (pc := 83) dX8_town_83 zf_X8_66 e40 ?_
    obtain ⟨g49, h⟩ := bt h
    obtain ⟨M41, e42, h⟩ := ob h
    refine x_callV (av := []) (st := []) (pc := 86) dX8_town_86 (E_X0_clear (d := d + 4) e42) rfl (Nat.le_of_ble_eq_true rfl) zc_X0_clear rfl zm_X8_111 zi_X0_clear zs_X0_clear (zac_ok g49) (by decide) rfl rfl (zst_ok rfl (Nat.le_of_ble_eq_true rfl)) rfl ?_
    refine x_iconst (pc := 89) dX8_town_89 (v := 0) rfl ?_
    refine x_istore_n (pc := 90) dX8_town_90 rfl (by decide) rfl ?_
    obtain ⟨M44, e43, h⟩ := ob h
    refine ex_weak (Ls2 := [.ref l0, .null, .int 0]) ⟨Or.inr rfl, Or.inl rfl, Or.inr rfl, trivial⟩ ?_
    refine LX_X8_town_91 zN _ _ _ hl0 _ e43 ?_
    refine x_aload_n (pc := 112) dX8_town_112 rfl rfl hl0 ?_
    obtain ⟨v45, e46, h⟩ := ob h
    refine y_getR (pc := 113) dX8_town_113 zf_X8_19 e46 ?_
    obtain ⟨v47, e48, h⟩ := ob h
    refine y_getI (pc := 116) dX8_town_116 zf_X8_116 e48 (by decide) ?_
    obtain ⟨rfl, rfl⟩ := s2 h
    exact y_retI (pc := 119) dX8_town_119 rfl
  · rw [if_neg c15] at h
    refine x_bipush (pc := 28) dX8_town_28 (v := (-10)) (by decide) ?_
    refine x_aload_n (pc := 30) dX8_town_30 rfl rfl hl0 ?_
    obtain ⟨v53, e54, h⟩ := ob h
    refine y_getR (pc := 31) dX8_town_31 zf_X8_10 e54 ?_
    obtain ⟨v55, e56, h⟩ := ob h
    refine y_getI (pc := 34) dX8_town_34 zf_X8_99 e56 (by decide) ?_
    refine x_isub (pc := 37) dX8_town_37 ?_
    obtain ⟨rfl, rfl⟩ := s2 h
    exact y_retI (pc := 38) dX8_town_38 rfl
def f_X8_fault (l0 : Nat) (M : zM) : Option (Int32) := bif Nat.ble 1 l0 then ((oR M l0 8 13 0).bind fun v1 => (oI M v1 6 6 3).bind fun v3 => some v3) else none
theorem E_X8_fault {G : zG} {d : Nat} {l0 : Nat} {M : zM} {r : Int32} (h : f_X8_fault l0 M = some r) : Ex G d yX8_fault cX8_fault 1 (some .int) 0 (zent0 [.ref l0] 1) [] M (some (.int r), M) := by
  unfold f_X8_fault at h
  obtain ⟨zz0, h⟩ := bt h
  have hl0 := bz zz0
  show Ex _ _ _ _ _ _ 0 [.ref l0] [] _ _
  refine x_aload_n (pc := 0) dX8_fault_0 rfl rfl hl0 ?_
  obtain ⟨v1, e2, h⟩ := ob h
  refine y_getR (pc := 1) dX8_fault_1 zf_X8_10 e2 ?_
  obtain ⟨v3, e4, h⟩ := ob h
  refine y_getI (pc := 4) dX8_fault_4 zf_X8_119 e4 (by decide) ?_
  obtain rfl := s1 h
  exact y_retI (pc := 7) dX8_fault_7 rfl
def L_X8_neverSaid_4 : Nat → Nat → Int32 → Int32 → zM → Option (Int32)
  | 0, _, _, _, _ => none
  | n + 1, l0, l1, l2, M => (oR M l0 8 13 1).bind fun v1 => (oI M v1 7 15 1).bind fun v3 => if v3 ≤ l2 then (some l1) else ((oR M l0 8 13 3).bind fun v6 => (oR M v6 5 9 2).bind fun v8 => (aI M v8 l2).bind fun v10 => if v10 = 0 then (L_X8_neverSaid_4 n l0 (l1 ||| (1 <<< (l2 &&& 31))) (l2 + 1) M) else (L_X8_neverSaid_4 n l0 l1 (l2 + 1) M))
def f_X8_neverSaid (l0 : Nat) (M : zM) : Option (Int32) := bif Nat.ble 1 l0 then ((L_X8_neverSaid_4 zN l0 0 0 M).bind fun v2 => some v2) else none
theorem LX_X8_neverSaid_4 {G : zG} {d : Nat} : ∀ (n : Nat) (l0 : Nat) (l1 : Int32) (l2 : Int32) (M : zM) (hl0 : l0 ≠ 0) (o1 : Int32) {res : Option Value × zM}, L_X8_neverSaid_4 n l0 l1 l2 M = some o1 → Ex G d yX8_neverSaid cX8_neverSaid 3 (some .int) 39 [.null, .int o1, .null] [] M res → Ex G d yX8_neverSaid cX8_neverSaid 3 (some .int) 4 [.ref l0, .int l1, .int l2] [] M res := by
  intro n
  induction n with
  | zero =>
    intro l0 l1 l2 M hl0 o1 res h K
    simp [L_X8_neverSaid_4] at h
  | succ n ih =>
    intro l0 l1 l2 M hl0 o1 res h K
    simp only [L_X8_neverSaid_4] at h
    refine x_iload_n (pc := 4) dX8_neverSaid_4 rfl rfl ?_
    refine x_aload_n (pc := 5) dX8_neverSaid_5 rfl rfl hl0 ?_
    obtain ⟨v1, e2, h⟩ := ob h
    refine y_getR (pc := 6) dX8_neverSaid_6 zf_X8_19 e2 ?_
    obtain ⟨v3, e4, h⟩ := ob h
    refine y_getI (pc := 9) dX8_neverSaid_9 zf_X8_116 e4 (by decide) ?_
    refine x_icmp_ge (pc := 12) dX8_neverSaid_12 (t := 39) rfl (fun c5 => ?_) (fun c5 => ?_)
    · rw [if_pos c5] at h
      obtain rfl := s1 h
      refine ex_weak (Ls2 := [.null, .int l1, .null]) ⟨Or.inl rfl, Or.inr rfl, Or.inl rfl, trivial⟩ ?_
      exact K
    · rw [if_neg c5] at h
      refine x_aload_n (pc := 15) dX8_neverSaid_15 rfl rfl hl0 ?_
      obtain ⟨v6, e7, h⟩ := ob h
      refine y_getR (pc := 16) dX8_neverSaid_16 zf_X8_29 e7 ?_
      obtain ⟨v8, e9, h⟩ := ob h
      refine y_getR (pc := 19) dX8_neverSaid_19 zf_X8_180 e9 ?_
      refine x_iload_n (pc := 22) dX8_neverSaid_22 rfl rfl ?_
      obtain ⟨v10, e11, h⟩ := ob h
      refine y_iald (pc := 23) dX8_neverSaid_23 e11 ?_
      refine x_if_ne (pc := 24) dX8_neverSaid_24 (t := 33) rfl (fun c12 => ?_) (fun c12 => ?_)
      · rw [if_neg c12] at h
        refine x_iinc (pc := 33) dX8_neverSaid_33 rfl rfl (by decide) rfl ?_
        refine x_goto (pc := 36) dX8_neverSaid_36 (t := 4) rfl ?_
        refine ex_weak (Ls2 := [.ref l0, .int l1, .int (l2 + 1)]) ⟨Or.inr rfl, Or.inr rfl, Or.inr rfl, trivial⟩ ?_
        exact ih _ _ _ _ hl0 _ h K
      · rw [if_pos c12] at h
        refine x_iload_n (pc := 27) dX8_neverSaid_27 rfl rfl ?_
        refine x_iconst (pc := 28) dX8_neverSaid_28 (v := 1) rfl ?_
        refine x_iload_n (pc := 29) dX8_neverSaid_29 rfl rfl ?_
        refine x_ishl (pc := 30) dX8_neverSaid_30 ?_
        refine x_ior (pc := 31) dX8_neverSaid_31 ?_
        refine x_istore_n (pc := 32) dX8_neverSaid_32 rfl (by decide) rfl ?_
        refine x_iinc (pc := 33) dX8_neverSaid_33 rfl rfl (by decide) rfl ?_
        refine x_goto (pc := 36) dX8_neverSaid_36 (t := 4) rfl ?_
        refine ex_weak (Ls2 := [.ref l0, .int (l1 ||| (1 <<< (l2 &&& 31))), .int (l2 + 1)]) ⟨Or.inr rfl, Or.inr rfl, Or.inr rfl, trivial⟩ ?_
        exact ih _ _ _ _ hl0 _ h K
theorem E_X8_neverSaid {G : zG} {d : Nat} {l0 : Nat} {M : zM} {r : Int32} (h : f_X8_neverSaid l0 M = some r) : Ex G d yX8_neverSaid cX8_neverSaid 3 (some .int) 0 (zent0 [.ref l0] 3) [] M (some (.int r), M) := by
  unfold f_X8_neverSaid at h
  obtain ⟨zz0, h⟩ := bt h
  have hl0 := bz zz0
  show Ex _ _ _ _ _ _ 0 [.ref l0, .null, .null] [] _ _
  refine x_iconst (pc := 0) dX8_neverSaid_0 (v := 0) rfl ?_
  refine x_istore_n (pc := 1) dX8_neverSaid_1 rfl (by decide) rfl ?_
  refine x_iconst (pc := 2) dX8_neverSaid_2 (v := 0) rfl ?_
  refine x_istore_n (pc := 3) dX8_neverSaid_3 rfl (by decide) rfl ?_
  obtain ⟨v2, e1, h⟩ := ob h
  refine ex_weak (Ls2 := [.ref l0, .int 0, .int 0]) ⟨Or.inr rfl, Or.inr rfl, Or.inr rfl, trivial⟩ ?_
  refine LX_X8_neverSaid_4 zN _ _ _ _ hl0 _ e1 ?_
  refine x_iload_n (pc := 39) dX8_neverSaid_39 rfl rfl ?_
  obtain rfl := s1 h
  exact y_retI (pc := 40) dX8_neverSaid_40 rfl
def f_X8_today (l0 : Nat) (M : zM) : Option (Int32) := bif Nat.ble 1 l0 then ((oR M l0 8 13 1).bind fun v1 => (oR M l0 8 13 3).bind fun v3 => (oI M v3 5 9 4).bind fun v5 => bif zac M v1 7 15 then ((f_X7_dayOfYear v1 v5 M).bind fun r7 => some r7) else none) else none
theorem E_X8_today {G : zG} {d : Nat} {l0 : Nat} {M : zM} {r : Int32} (h : f_X8_today l0 M = some r) : Ex G (d + 1) yX8_today cX8_today 1 (some .int) 0 (zent0 [.ref l0] 1) [] M (some (.int r), M) := by
  unfold f_X8_today at h
  obtain ⟨zz0, h⟩ := bt h
  have hl0 := bz zz0
  show Ex _ _ _ _ _ _ 0 [.ref l0] [] _ _
  refine x_aload_n (pc := 0) dX8_today_0 rfl rfl hl0 ?_
  obtain ⟨v1, e2, h⟩ := ob h
  refine y_getR (pc := 1) dX8_today_1 zf_X8_19 e2 ?_
  refine x_aload_n (pc := 4) dX8_today_4 rfl rfl hl0 ?_
  obtain ⟨v3, e4, h⟩ := ob h
  refine y_getR (pc := 5) dX8_today_5 zf_X8_29 e4 ?_
  obtain ⟨v5, e6, h⟩ := ob h
  refine y_getI (pc := 8) dX8_today_8 zf_X8_134 e6 (by decide) ?_
  obtain ⟨g9, h⟩ := bt h
  obtain ⟨r7, e8, h⟩ := ob h
  refine x_callV (av := [.int v5]) (st := []) (pc := 11) dX8_today_11 (E_X7_dayOfYear (d := d) e8) rfl (Nat.le_of_ble_eq_true rfl) zc_X7_dayOfYear rfl zm_X8_339 zi_X7_dayOfYear zs_X7_dayOfYear (zac_ok g9) (by decide) rfl rfl (zst_ok rfl (Nat.le_of_ble_eq_true rfl)) rfl ?_
  obtain rfl := s1 h
  exact y_retI (pc := 14) dX8_today_14 rfl
def f_X8_told (l0 : Nat) (l1 : Int32) (M : zM) : Option (Int32) := bif Nat.ble 1 l0 then (if l1 = 0 then ((oR M l0 8 13 1).bind fun v2 => (oI M v2 7 15 0).bind fun v4 => some v4) else (if l1 = 1 then ((oR M l0 8 13 1).bind fun v7 => (oI M v7 7 15 1).bind fun v9 => some v9) else (if l1 = 2 then ((oR M l0 8 13 1).bind fun v12 => (oI M v12 7 15 2).bind fun v14 => some v14) else (if l1 = 3 then ((oR M l0 8 13 1).bind fun v17 => (oI M v17 7 15 3).bind fun v19 => some v19) else (if l1 = 4 then ((oR M l0 8 13 1).bind fun v22 => (oI M v22 7 15 4).bind fun v24 => some v24) else (if l1 = 5 then ((oR M l0 8 13 0).bind fun v27 => (oI M v27 6 6 1).bind fun v29 => some v29) else (if l1 = 6 then ((oR M l0 8 13 3).bind fun v32 => (oI M v32 5 9 4).bind fun v34 => some v34) else (if l1 = 7 then (bif zac M l0 8 13 then ((f_X8_today l0 M).bind fun r37 => some r37) else none) else (if l1 = 8 then ((oR M l0 8 13 3).bind fun v41 => (oI M v41 5 9 5).bind fun v43 => some v43) else (if l1 = 9 then ((oR M l0 8 13 3).bind fun v46 => (oI M v46 5 9 6).bind fun v48 => some v48) else (if l1 = 10 then ((oR M l0 8 13 3).bind fun v51 => (oI M v51 5 9 7).bind fun v53 => some v53) else (if l1 = 11 then ((oR M l0 8 13 3).bind fun v56 => (oI M v56 5 9 8).bind fun v58 => some v58) else (if l1 = 12 then (bif zac M l0 8 13 then ((f_X8_neverSaid l0 M).bind fun r61 => some r61) else none) else (if l1 = 13 then ((oR M l0 8 13 8).bind fun v65 => (oI M v65 2 4 3).bind fun v67 => some v67) else (if l1 = 14 then ((oR M l0 8 13 9).bind fun v70 => (oI M v70 0 3 2).bind fun v72 => some v72) else (if l1 = 15 then ((oR M l0 8 13 5).bind fun v75 => (oI M v75 3 3 2).bind fun v77 => some v77) else (some (-1000000002)))))))))))))))))) else none
set_option maxRecDepth 100000 in
set_option maxHeartbeats 2000000 in
theorem E_X8_told {G : zG} {d : Nat} {l0 : Nat} {l1 : Int32} {M : zM} {r : Int32} (h : f_X8_told l0 l1 M = some r) : Ex G (d + 2) yX8_told cX8_told 2 (some .int) 0 (zent0 [.ref l0, .int l1] 2) [] M (some (.int r), M) := by
  unfold f_X8_told at h
  obtain ⟨zz0, h⟩ := bt h
  have hl0 := bz zz0
  show Ex _ _ _ _ _ _ 0 [.ref l0, .int l1] [] _ _
  refine x_iload_n (pc := 0) dX8_told_0 rfl rfl ?_
  by_cases c1 : l1 = 0
  · rw [if_pos c1] at h
    refine y_tableIn (pc := 1) dX8_told_1 c1 (q := 0) (off := 79) (t := 80) (by decide) (by decide) (by decide) rfl ?_
    refine x_aload_n (pc := 80) dX8_told_80 rfl rfl hl0 ?_
    obtain ⟨v2, e3, h⟩ := ob h
    refine y_getR (pc := 81) dX8_told_81 zf_X8_19 e3 ?_
    obtain ⟨v4, e5, h⟩ := ob h
    refine y_getI (pc := 84) dX8_told_84 zf_X8_122 e5 (by decide) ?_
    obtain rfl := s1 h
    exact y_retI (pc := 87) dX8_told_87 rfl
  · rw [if_neg c1] at h
    by_cases c6 : l1 = 1
    · rw [if_pos c6] at h
      refine y_tableIn (pc := 1) dX8_told_1 c6 (q := 1) (off := 87) (t := 88) (by decide) (by decide) (by decide) rfl ?_
      refine x_aload_n (pc := 88) dX8_told_88 rfl rfl hl0 ?_
      obtain ⟨v7, e8, h⟩ := ob h
      refine y_getR (pc := 89) dX8_told_89 zf_X8_19 e8 ?_
      obtain ⟨v9, e10, h⟩ := ob h
      refine y_getI (pc := 92) dX8_told_92 zf_X8_116 e10 (by decide) ?_
      obtain rfl := s1 h
      exact y_retI (pc := 95) dX8_told_95 rfl
    · rw [if_neg c6] at h
      by_cases c11 : l1 = 2
      · rw [if_pos c11] at h
        refine y_tableIn (pc := 1) dX8_told_1 c11 (q := 2) (off := 95) (t := 96) (by decide) (by decide) (by decide) rfl ?_
        refine x_aload_n (pc := 96) dX8_told_96 rfl rfl hl0 ?_
        obtain ⟨v12, e13, h⟩ := ob h
        refine y_getR (pc := 97) dX8_told_97 zf_X8_19 e13 ?_
        obtain ⟨v14, e15, h⟩ := ob h
        refine y_getI (pc := 100) dX8_told_100 zf_X8_125 e15 (by decide) ?_
        obtain rfl := s1 h
        exact y_retI (pc := 103) dX8_told_103 rfl
      · rw [if_neg c11] at h
        by_cases c16 : l1 = 3
        · rw [if_pos c16] at h
          refine y_tableIn (pc := 1) dX8_told_1 c16 (q := 3) (off := 103) (t := 104) (by decide) (by decide) (by decide) rfl ?_
          refine x_aload_n (pc := 104) dX8_told_104 rfl rfl hl0 ?_
          obtain ⟨v17, e18, h⟩ := ob h
          refine y_getR (pc := 105) dX8_told_105 zf_X8_19 e18 ?_
          obtain ⟨v19, e20, h⟩ := ob h
          refine y_getI (pc := 108) dX8_told_108 zf_X8_128 e20 (by decide) ?_
          obtain rfl := s1 h
          exact y_retI (pc := 111) dX8_told_111 rfl
        · rw [if_neg c16] at h
          by_cases c21 : l1 = 4
          · rw [if_pos c21] at h
            refine y_tableIn (pc := 1) dX8_told_1 c21 (q := 4) (off := 111) (t := 112) (by decide) (by decide) (by decide) rfl ?_
            refine x_aload_n (pc := 112) dX8_told_112 rfl rfl hl0 ?_
            obtain ⟨v22, e23, h⟩ := ob h
            refine y_getR (pc := 113) dX8_told_113 zf_X8_19 e23 ?_
            obtain ⟨v24, e25, h⟩ := ob h
            refine y_getI (pc := 116) dX8_told_116 zf_X8_131 e25 (by decide) ?_
            obtain rfl := s1 h
            exact y_retI (pc := 119) dX8_told_119 rfl
          · rw [if_neg c21] at h
            by_cases c26 : l1 = 5
            · rw [if_pos c26] at h
              refine y_tableIn (pc := 1) dX8_told_1 c26 (q := 5) (off := 119) (t := 120) (by decide) (by decide) (by decide) rfl ?_
              refine x_aload_n (pc := 120) dX8_told_120 rfl rfl hl0 ?_
              obtain ⟨v27, e28, h⟩ := ob h
              refine y_getR (pc := 121) dX8_told_121 zf_X8_10 e28 ?_
              obtain ⟨v29, e30, h⟩ := ob h
              refine y_getI (pc := 124) dX8_told_124 zf_X8_88 e30 (by decide) ?_
              obtain rfl := s1 h
              exact y_retI (pc := 127) dX8_told_127 rfl
            · rw [if_neg c26] at h
              by_cases c31 : l1 = 6
              · rw [if_pos c31] at h
                refine y_tableIn (pc := 1) dX8_told_1 c31 (q := 6) (off := 127) (t := 128) (by decide) (by decide) (by decide) rfl ?_
                refine x_aload_n (pc := 128) dX8_told_128 rfl rfl hl0 ?_
                obtain ⟨v32, e33, h⟩ := ob h
                refine y_getR (pc := 129) dX8_told_129 zf_X8_29 e33 ?_
                obtain ⟨v34, e35, h⟩ := ob h
                refine y_getI (pc := 132) dX8_told_132 zf_X8_134 e35 (by decide) ?_
                obtain rfl := s1 h
                exact y_retI (pc := 135) dX8_told_135 rfl
              · rw [if_neg c31] at h
                by_cases c36 : l1 = 7
                · rw [if_pos c36] at h
                  refine y_tableIn (pc := 1) dX8_told_1 c36 (q := 7) (off := 135) (t := 136) (by decide) (by decide) (by decide) rfl ?_
                  refine x_aload_n (pc := 136) dX8_told_136 rfl rfl hl0 ?_
                  obtain ⟨g39, h⟩ := bt h
                  obtain ⟨r37, e38, h⟩ := ob h
                  refine x_callV (av := []) (st := []) (pc := 137) dX8_told_137 (E_X8_today (d := d) e38) rfl (Nat.le_of_ble_eq_true rfl) zc_X8_today rfl zm_X8_135 zi_X8_today zs_X8_today (zac_ok g39) (by decide) rfl rfl (zst_ok rfl (Nat.le_of_ble_eq_true rfl)) rfl ?_
                  obtain rfl := s1 h
                  exact y_retI (pc := 140) dX8_told_140 rfl
                · rw [if_neg c36] at h
                  by_cases c40 : l1 = 8
                  · rw [if_pos c40] at h
                    refine y_tableIn (pc := 1) dX8_told_1 c40 (q := 8) (off := 140) (t := 141) (by decide) (by decide) (by decide) rfl ?_
                    refine x_aload_n (pc := 141) dX8_told_141 rfl rfl hl0 ?_
                    obtain ⟨v41, e42, h⟩ := ob h
                    refine y_getR (pc := 142) dX8_told_142 zf_X8_29 e42 ?_
                    obtain ⟨v43, e44, h⟩ := ob h
                    refine y_getI (pc := 145) dX8_told_145 zf_X8_139 e44 (by decide) ?_
                    obtain rfl := s1 h
                    exact y_retI (pc := 148) dX8_told_148 rfl
                  · rw [if_neg c40] at h
                    by_cases c45 : l1 = 9
                    · rw [if_pos c45] at h
                      refine y_tableIn (pc := 1) dX8_told_1 c45 (q := 9) (off := 148) (t := 149) (by decide) (by decide) (by decide) rfl ?_
                      refine x_aload_n (pc := 149) dX8_told_149 rfl rfl hl0 ?_
                      obtain ⟨v46, e47, h⟩ := ob h
                      refine y_getR (pc := 150) dX8_told_150 zf_X8_29 e47 ?_
                      obtain ⟨v48, e49, h⟩ := ob h
                      refine y_getI (pc := 153) dX8_told_153 zf_X8_142 e49 (by decide) ?_
                      obtain rfl := s1 h
                      exact y_retI (pc := 156) dX8_told_156 rfl
                    · rw [if_neg c45] at h
                      by_cases c50 : l1 = 10
                      · rw [if_pos c50] at h
                        refine y_tableIn (pc := 1) dX8_told_1 c50 (q := 10) (off := 156) (t := 157) (by decide) (by decide) (by decide) rfl ?_
                        refine x_aload_n (pc := 157) dX8_told_157 rfl rfl hl0 ?_
                        obtain ⟨v51, e52, h⟩ := ob h
                        refine y_getR (pc := 158) dX8_told_158 zf_X8_29 e52 ?_
                        obtain ⟨v53, e54, h⟩ := ob h
                        refine y_getI (pc := 161) dX8_told_161 zf_X8_145 e54 (by decide) ?_
                        obtain rfl := s1 h
                        exact y_retI (pc := 164) dX8_told_164 rfl
                      · rw [if_neg c50] at h
                        by_cases c55 : l1 = 11
                        · rw [if_pos c55] at h
                          refine y_tableIn (pc := 1) dX8_told_1 c55 (q := 11) (off := 164) (t := 165) (by decide) (by decide) (by decide) rfl ?_
                          refine x_aload_n (pc := 165) dX8_told_165 rfl rfl hl0 ?_
                          obtain ⟨v56, e57, h⟩ := ob h
                          refine y_getR (pc := 166) dX8_told_166 zf_X8_29 e57 ?_
                          obtain ⟨v58, e59, h⟩ := ob h
                          refine y_getI (pc := 169) dX8_told_169 zf_X8_148 e59 (by decide) ?_
                          obtain rfl := s1 h
                          exact y_retI (pc := 172) dX8_told_172 rfl
                        · rw [if_neg c55] at h
                          by_cases c60 : l1 = 12
                          · rw [if_pos c60] at h
                            refine y_tableIn (pc := 1) dX8_told_1 c60 (q := 12) (off := 172) (t := 173) (by decide) (by decide) (by decide) rfl ?_
                            refine x_aload_n (pc := 173) dX8_told_173 rfl rfl hl0 ?_
                            obtain ⟨g63, h⟩ := bt h
                            obtain ⟨r61, e62, h⟩ := ob h
                            refine x_callV (av := []) (st := []) (pc := 174) dX8_told_174 (E_X8_neverSaid (d := d + 1) e62) rfl (Nat.le_of_ble_eq_true rfl) zc_X8_neverSaid rfl zm_X8_151 zi_X8_neverSaid zs_X8_neverSaid (zac_ok g63) (by decide) rfl rfl (zst_ok rfl (Nat.le_of_ble_eq_true rfl)) rfl ?_
                            obtain rfl := s1 h
                            exact y_retI (pc := 177) dX8_told_177 rfl
                          · rw [if_neg c60] at h
                            by_cases c64 : l1 = 13
                            · rw [if_pos c64] at h
                              refine y_tableIn (pc := 1) dX8_told_1 c64 (q := 13) (off := 177) (t := 178) (by decide) (by decide) (by decide) rfl ?_
                              refine x_aload_n (pc := 178) dX8_told_178 rfl rfl hl0 ?_
                              obtain ⟨v65, e66, h⟩ := ob h
                              refine y_getR (pc := 179) dX8_told_179 zf_X8_59 e66 ?_
                              obtain ⟨v67, e68, h⟩ := ob h
                              refine y_getI (pc := 182) dX8_told_182 zf_X8_154 e68 (by decide) ?_
                              obtain rfl := s1 h
                              exact y_retI (pc := 185) dX8_told_185 rfl
                            · rw [if_neg c64] at h
                              by_cases c69 : l1 = 14
                              · rw [if_pos c69] at h
                                refine y_tableIn (pc := 1) dX8_told_1 c69 (q := 14) (off := 185) (t := 186) (by decide) (by decide) (by decide) rfl ?_
                                refine x_aload_n (pc := 186) dX8_told_186 rfl rfl hl0 ?_
                                obtain ⟨v70, e71, h⟩ := ob h
                                refine y_getR (pc := 187) dX8_told_187 zf_X8_66 e71 ?_
                                obtain ⟨v72, e73, h⟩ := ob h
                                refine y_getI (pc := 190) dX8_told_190 zf_X8_157 e73 (by decide) ?_
                                obtain rfl := s1 h
                                exact y_retI (pc := 193) dX8_told_193 rfl
                              · rw [if_neg c69] at h
                                by_cases c74 : l1 = 15
                                · rw [if_pos c74] at h
                                  refine y_tableIn (pc := 1) dX8_told_1 c74 (q := 15) (off := 193) (t := 194) (by decide) (by decide) (by decide) rfl ?_
                                  refine x_aload_n (pc := 194) dX8_told_194 rfl rfl hl0 ?_
                                  obtain ⟨v75, e76, h⟩ := ob h
                                  refine y_getR (pc := 195) dX8_told_195 zf_X8_39 e76 ?_
                                  obtain ⟨v77, e78, h⟩ := ob h
                                  refine y_getI (pc := 198) dX8_told_198 zf_X8_158 e78 (by decide) ?_
                                  obtain rfl := s1 h
                                  exact y_retI (pc := 201) dX8_told_201 rfl
                                · rw [if_neg c74] at h
                                  refine x_tableOut (pc := 1) dX8_told_1 (y_out (n := 15) (by decide) (fun j hj => ?_)) (t := 202) rfl ?_
                                  · match j, hj with
                                    | 0, _ => exact c1
                                    | 1, _ => exact c6
                                    | 2, _ => exact c11
                                    | 3, _ => exact c16
                                    | 4, _ => exact c21
                                    | 5, _ => exact c26
                                    | 6, _ => exact c31
                                    | 7, _ => exact c36
                                    | 8, _ => exact c40
                                    | 9, _ => exact c45
                                    | 10, _ => exact c50
                                    | 11, _ => exact c55
                                    | 12, _ => exact c60
                                    | 13, _ => exact c64
                                    | 14, _ => exact c69
                                    | 15, _ => exact c74
                                    | j + 16, hj => omega
                                  · refine x_ldc (pc := 202) dX8_told_202 zk_X8_78 ?_
                                    obtain rfl := s1 h
                                    exact y_retI (pc := 204) dX8_told_204 rfl
def f_X8_isWord (l0 : Nat) (l1 : Int32) (M : zM) : Option (Int32) := bif Nat.ble 1 l0 then (if l1 < 0 then (some 0) else ((oR M l0 8 13 1).bind fun v2 => (oI M v2 7 15 1).bind fun v4 => if v4 ≤ l1 then (some 0) else (some 1))) else none
theorem E_X8_isWord {G : zG} {d : Nat} {l0 : Nat} {l1 : Int32} {M : zM} {r : Int32} (h : f_X8_isWord l0 l1 M = some r) : Ex G d yX8_isWord cX8_isWord 2 (some .boolean) 0 (zent0 [.ref l0, .int l1] 2) [] M (some (.int r), M) := by
  unfold f_X8_isWord at h
  obtain ⟨zz0, h⟩ := bt h
  have hl0 := bz zz0
  show Ex _ _ _ _ _ _ 0 [.ref l0, .int l1] [] _ _
  refine x_iload_n (pc := 0) dX8_isWord_0 rfl rfl ?_
  refine x_if_lt (pc := 1) dX8_isWord_1 (t := 19) rfl (fun c1 => ?_) (fun c1 => ?_)
  · rw [if_pos c1] at h
    refine x_iconst (pc := 19) dX8_isWord_19 (v := 0) rfl ?_
    obtain rfl := s1 h
    exact x_ret (pc := 20) dX8_isWord_20 (ty := .boolean) rfl rfl
  · rw [if_neg c1] at h
    refine x_iload_n (pc := 4) dX8_isWord_4 rfl rfl ?_
    refine x_aload_n (pc := 5) dX8_isWord_5 rfl rfl hl0 ?_
    obtain ⟨v2, e3, h⟩ := ob h
    refine y_getR (pc := 6) dX8_isWord_6 zf_X8_19 e3 ?_
    obtain ⟨v4, e5, h⟩ := ob h
    refine y_getI (pc := 9) dX8_isWord_9 zf_X8_116 e5 (by decide) ?_
    refine x_icmp_ge (pc := 12) dX8_isWord_12 (t := 19) rfl (fun c6 => ?_) (fun c6 => ?_)
    · rw [if_pos c6] at h
      refine x_iconst (pc := 19) dX8_isWord_19 (v := 0) rfl ?_
      obtain rfl := s1 h
      exact x_ret (pc := 20) dX8_isWord_20 (ty := .boolean) rfl rfl
    · rw [if_neg c6] at h
      refine x_iconst (pc := 15) dX8_isWord_15 (v := 1) rfl ?_
      refine x_goto (pc := 16) dX8_isWord_16 (t := 20) rfl ?_
      obtain rfl := s1 h
      exact x_ret (pc := 20) dX8_isWord_20 (ty := .boolean) rfl rfl
def f_X8_word (l0 : Nat) (l1 : Int32) (l2 : Int32) (M : zM) : Option (Int32) := bif Nat.ble 1 l0 then (bif zac M l0 8 13 then ((f_X8_isWord l0 l1 M).bind fun r1 => if r1 = 0 then (some (-1000000001)) else (if l2 = 0 then ((oR M l0 8 13 3).bind fun v5 => (oR M v5 5 9 0).bind fun v7 => (aI M v7 l1).bind fun v9 => some v9) else (if l2 = 1 then ((oR M l0 8 13 1).bind fun v12 => (oR M v12 7 15 8).bind fun v14 => (aI M v14 l1).bind fun v16 => some v16) else (if l2 = 2 then ((oR M l0 8 13 1).bind fun v19 => (oR M v19 7 15 9).bind fun v21 => (aI M v21 l1).bind fun v23 => some v23) else (if l2 = 3 then ((oR M l0 8 13 3).bind fun v26 => (oR M v26 5 9 1).bind fun v28 => (aI M v28 l1).bind fun v30 => some v30) else (if l2 = 4 then ((oR M l0 8 13 3).bind fun v33 => bif zac M v33 5 9 then ((f_X5_hoardedByAll v33 l1 M).bind fun r35 => some r35) else none) else (if l2 = 5 then ((oR M l0 8 13 3).bind fun v39 => (oR M v39 5 9 2).bind fun v41 => (aI M v41 l1).bind fun v43 => some v43) else (if l2 = 6 then ((oR M l0 8 13 1).bind fun v46 => bif zac M v46 7 15 then ((f_X7_wayRound v46 l1 0 M).bind fun r48 => some r48) else none) else (if l2 = 7 then ((oR M l0 8 13 1).bind fun v52 => bif zac M v52 7 15 then ((f_X7_wayRound v52 l1 1 M).bind fun r54 => some r54) else none) else (if l2 = 8 then ((oR M l0 8 13 1).bind fun v58 => bif zac M v58 7 15 then ((f_X7_canPoint v58 l1 M).bind fun r60 => if r60 = 0 then (some 0) else (some 1)) else none) else (some (-1000000002)))))))))))) else none) else none
set_option maxRecDepth 100000 in
set_option maxHeartbeats 2000000 in
theorem E_X8_word {G : zG} {d : Nat} {l0 : Nat} {l1 : Int32} {l2 : Int32} {M : zM} {r : Int32} (h : f_X8_word l0 l1 l2 M = some r) : Ex G (d + 2) yX8_word cX8_word 3 (some .int) 0 (zent0 [.ref l0, .int l1, .int l2] 3) [] M (some (.int r), M) := by
  unfold f_X8_word at h
  obtain ⟨zz0, h⟩ := bt h
  have hl0 := bz zz0
  show Ex _ _ _ _ _ _ 0 [.ref l0, .int l1, .int l2] [] _ _
  refine x_aload_n (pc := 0) dX8_word_0 rfl rfl hl0 ?_
  refine x_iload_n (pc := 1) dX8_word_1 rfl rfl ?_
  obtain ⟨g64, h⟩ := bt h
  obtain ⟨r1, e2, h⟩ := ob h
  refine x_callV (av := [.int l1]) (st := []) (pc := 2) dX8_word_2 (E_X8_isWord (d := d + 1) e2) rfl (Nat.le_of_ble_eq_true rfl) zc_X8_isWord rfl zm_X8_159 zi_X8_isWord zs_X8_isWord (zac_ok g64) (by decide) rfl rfl (zst_ok rfl (Nat.le_of_ble_eq_true rfl)) rfl ?_
  refine x_if_ne (pc := 5) dX8_word_5 (t := 11) rfl (fun c3 => ?_) (fun c3 => ?_)
  · rw [if_neg c3] at h
    refine x_iload_n (pc := 11) dX8_word_11 rfl rfl ?_
    by_cases c4 : l2 = 0
    · rw [if_pos c4] at h
      refine y_tableIn (pc := 12) dX8_word_12 c4 (q := 0) (off := 52) (t := 64) (by decide) (by decide) (by decide) rfl ?_
      refine x_aload_n (pc := 64) dX8_word_64 rfl rfl hl0 ?_
      obtain ⟨v5, e6, h⟩ := ob h
      refine y_getR (pc := 65) dX8_word_65 zf_X8_29 e6 ?_
      obtain ⟨v7, e8, h⟩ := ob h
      refine y_getR (pc := 68) dX8_word_68 zf_X8_164 e8 ?_
      refine x_iload_n (pc := 71) dX8_word_71 rfl rfl ?_
      obtain ⟨v9, e10, h⟩ := ob h
      refine y_iald (pc := 72) dX8_word_72 e10 ?_
      obtain rfl := s1 h
      exact y_retI (pc := 73) dX8_word_73 rfl
    · rw [if_neg c4] at h
      by_cases c11 : l2 = 1
      · rw [if_pos c11] at h
        refine y_tableIn (pc := 12) dX8_word_12 c11 (q := 1) (off := 62) (t := 74) (by decide) (by decide) (by decide) rfl ?_
        refine x_aload_n (pc := 74) dX8_word_74 rfl rfl hl0 ?_
        obtain ⟨v12, e13, h⟩ := ob h
        refine y_getR (pc := 75) dX8_word_75 zf_X8_19 e13 ?_
        obtain ⟨v14, e15, h⟩ := ob h
        refine y_getR (pc := 78) dX8_word_78 zf_X8_167 e15 ?_
        refine x_iload_n (pc := 81) dX8_word_81 rfl rfl ?_
        obtain ⟨v16, e17, h⟩ := ob h
        refine y_iald (pc := 82) dX8_word_82 e17 ?_
        obtain rfl := s1 h
        exact y_retI (pc := 83) dX8_word_83 rfl
      · rw [if_neg c11] at h
        by_cases c18 : l2 = 2
        · rw [if_pos c18] at h
          refine y_tableIn (pc := 12) dX8_word_12 c18 (q := 2) (off := 72) (t := 84) (by decide) (by decide) (by decide) rfl ?_
          refine x_aload_n (pc := 84) dX8_word_84 rfl rfl hl0 ?_
          obtain ⟨v19, e20, h⟩ := ob h
          refine y_getR (pc := 85) dX8_word_85 zf_X8_19 e20 ?_
          obtain ⟨v21, e22, h⟩ := ob h
          refine y_getR (pc := 88) dX8_word_88 zf_X8_170 e22 ?_
          refine x_iload_n (pc := 91) dX8_word_91 rfl rfl ?_
          obtain ⟨v23, e24, h⟩ := ob h
          refine y_iald (pc := 92) dX8_word_92 e24 ?_
          obtain rfl := s1 h
          exact y_retI (pc := 93) dX8_word_93 rfl
        · rw [if_neg c18] at h
          by_cases c25 : l2 = 3
          · rw [if_pos c25] at h
            refine y_tableIn (pc := 12) dX8_word_12 c25 (q := 3) (off := 82) (t := 94) (by decide) (by decide) (by decide) rfl ?_
            refine x_aload_n (pc := 94) dX8_word_94 rfl rfl hl0 ?_
            obtain ⟨v26, e27, h⟩ := ob h
            refine y_getR (pc := 95) dX8_word_95 zf_X8_29 e27 ?_
            obtain ⟨v28, e29, h⟩ := ob h
            refine y_getR (pc := 98) dX8_word_98 zf_X8_173 e29 ?_
            refine x_iload_n (pc := 101) dX8_word_101 rfl rfl ?_
            obtain ⟨v30, e31, h⟩ := ob h
            refine y_iald (pc := 102) dX8_word_102 e31 ?_
            obtain rfl := s1 h
            exact y_retI (pc := 103) dX8_word_103 rfl
          · rw [if_neg c25] at h
            by_cases c32 : l2 = 4
            · rw [if_pos c32] at h
              refine y_tableIn (pc := 12) dX8_word_12 c32 (q := 4) (off := 92) (t := 104) (by decide) (by decide) (by decide) rfl ?_
              refine x_aload_n (pc := 104) dX8_word_104 rfl rfl hl0 ?_
              obtain ⟨v33, e34, h⟩ := ob h
              refine y_getR (pc := 105) dX8_word_105 zf_X8_29 e34 ?_
              refine x_iload_n (pc := 108) dX8_word_108 rfl rfl ?_
              obtain ⟨g37, h⟩ := bt h
              obtain ⟨r35, e36, h⟩ := ob h
              refine x_callV (av := [.int l1]) (st := []) (pc := 109) dX8_word_109 (E_X5_hoardedByAll (d := d) e36) rfl (Nat.le_of_ble_eq_true rfl) zc_X5_hoardedByAll rfl zm_X8_176 zi_X5_hoardedByAll zs_X5_hoardedByAll (zac_ok g37) (by decide) rfl rfl (zst_ok rfl (Nat.le_of_ble_eq_true rfl)) rfl ?_
              obtain rfl := s1 h
              exact y_retI (pc := 112) dX8_word_112 rfl
            · rw [if_neg c32] at h
              by_cases c38 : l2 = 5
              · rw [if_pos c38] at h
                refine y_tableIn (pc := 12) dX8_word_12 c38 (q := 5) (off := 101) (t := 113) (by decide) (by decide) (by decide) rfl ?_
                refine x_aload_n (pc := 113) dX8_word_113 rfl rfl hl0 ?_
                obtain ⟨v39, e40, h⟩ := ob h
                refine y_getR (pc := 114) dX8_word_114 zf_X8_29 e40 ?_
                obtain ⟨v41, e42, h⟩ := ob h
                refine y_getR (pc := 117) dX8_word_117 zf_X8_180 e42 ?_
                refine x_iload_n (pc := 120) dX8_word_120 rfl rfl ?_
                obtain ⟨v43, e44, h⟩ := ob h
                refine y_iald (pc := 121) dX8_word_121 e44 ?_
                obtain rfl := s1 h
                exact y_retI (pc := 122) dX8_word_122 rfl
              · rw [if_neg c38] at h
                by_cases c45 : l2 = 6
                · rw [if_pos c45] at h
                  refine y_tableIn (pc := 12) dX8_word_12 c45 (q := 6) (off := 111) (t := 123) (by decide) (by decide) (by decide) rfl ?_
                  refine x_aload_n (pc := 123) dX8_word_123 rfl rfl hl0 ?_
                  obtain ⟨v46, e47, h⟩ := ob h
                  refine y_getR (pc := 124) dX8_word_124 zf_X8_19 e47 ?_
                  refine x_iload_n (pc := 127) dX8_word_127 rfl rfl ?_
                  refine x_iconst (pc := 128) dX8_word_128 (v := 0) rfl ?_
                  obtain ⟨g50, h⟩ := bt h
                  obtain ⟨r48, e49, h⟩ := ob h
                  refine x_callV (av := [.int l1, .int 0]) (st := []) (pc := 129) dX8_word_129 (E_X7_wayRound (d := d + 1) e49) rfl (Nat.le_of_ble_eq_true rfl) zc_X7_wayRound rfl zm_X8_183 zi_X7_wayRound zs_X7_wayRound (zac_ok g50) (by decide) rfl rfl (zst_ok rfl (Nat.le_of_ble_eq_true rfl)) rfl ?_
                  obtain rfl := s1 h
                  exact y_retI (pc := 132) dX8_word_132 rfl
                · rw [if_neg c45] at h
                  by_cases c51 : l2 = 7
                  · rw [if_pos c51] at h
                    refine y_tableIn (pc := 12) dX8_word_12 c51 (q := 7) (off := 121) (t := 133) (by decide) (by decide) (by decide) rfl ?_
                    refine x_aload_n (pc := 133) dX8_word_133 rfl rfl hl0 ?_
                    obtain ⟨v52, e53, h⟩ := ob h
                    refine y_getR (pc := 134) dX8_word_134 zf_X8_19 e53 ?_
                    refine x_iload_n (pc := 137) dX8_word_137 rfl rfl ?_
                    refine x_iconst (pc := 138) dX8_word_138 (v := 1) rfl ?_
                    obtain ⟨g56, h⟩ := bt h
                    obtain ⟨r54, e55, h⟩ := ob h
                    refine x_callV (av := [.int l1, .int 1]) (st := []) (pc := 139) dX8_word_139 (E_X7_wayRound (d := d + 1) e55) rfl (Nat.le_of_ble_eq_true rfl) zc_X7_wayRound rfl zm_X8_183 zi_X7_wayRound zs_X7_wayRound (zac_ok g56) (by decide) rfl rfl (zst_ok rfl (Nat.le_of_ble_eq_true rfl)) rfl ?_
                    obtain rfl := s1 h
                    exact y_retI (pc := 142) dX8_word_142 rfl
                  · rw [if_neg c51] at h
                    by_cases c57 : l2 = 8
                    · rw [if_pos c57] at h
                      refine y_tableIn (pc := 12) dX8_word_12 c57 (q := 8) (off := 131) (t := 143) (by decide) (by decide) (by decide) rfl ?_
                      refine x_aload_n (pc := 143) dX8_word_143 rfl rfl hl0 ?_
                      obtain ⟨v58, e59, h⟩ := ob h
                      refine y_getR (pc := 144) dX8_word_144 zf_X8_19 e59 ?_
                      refine x_iload_n (pc := 147) dX8_word_147 rfl rfl ?_
                      obtain ⟨g63, h⟩ := bt h
                      obtain ⟨r60, e61, h⟩ := ob h
                      refine x_callV (av := [.int l1]) (st := []) (pc := 148) dX8_word_148 (E_X7_canPoint (d := d + 1) e61) rfl (Nat.le_of_ble_eq_true rfl) zc_X7_canPoint rfl zm_X8_187 zi_X7_canPoint zs_X7_canPoint (zac_ok g63) (by decide) rfl rfl (zst_ok rfl (Nat.le_of_ble_eq_true rfl)) rfl ?_
                      refine x_if_eq (pc := 151) dX8_word_151 (t := 158) rfl (fun c62 => ?_) (fun c62 => ?_)
                      · rw [if_pos c62] at h
                        refine x_iconst (pc := 158) dX8_word_158 (v := 0) rfl ?_
                        obtain rfl := s1 h
                        exact y_retI (pc := 159) dX8_word_159 rfl
                      · rw [if_neg c62] at h
                        refine x_iconst (pc := 154) dX8_word_154 (v := 1) rfl ?_
                        refine x_goto (pc := 155) dX8_word_155 (t := 159) rfl ?_
                        obtain rfl := s1 h
                        exact y_retI (pc := 159) dX8_word_159 rfl
                    · rw [if_neg c57] at h
                      refine x_tableOut (pc := 12) dX8_word_12 (y_out (n := 8) (by decide) (fun j hj => ?_)) (t := 160) rfl ?_
                      · match j, hj with
                        | 0, _ => exact c4
                        | 1, _ => exact c11
                        | 2, _ => exact c18
                        | 3, _ => exact c25
                        | 4, _ => exact c32
                        | 5, _ => exact c38
                        | 6, _ => exact c45
                        | 7, _ => exact c51
                        | 8, _ => exact c57
                        | j + 9, hj => omega
                      · refine x_ldc (pc := 160) dX8_word_160 zk_X8_78 ?_
                        obtain rfl := s1 h
                        exact y_retI (pc := 162) dX8_word_162 rfl
  · rw [if_pos c3] at h
    refine x_ldc (pc := 8) dX8_word_8 zk_X8_163 ?_
    obtain rfl := s1 h
    exact y_retI (pc := 10) dX8_word_10 rfl
def f_X8_isPerson (l0 : Nat) (l1 : Int32) (M : zM) : Option (Int32) := bif Nat.ble 1 l0 then (if l1 < 0 then (some 0) else ((oR M l0 8 13 1).bind fun v2 => (oI M v2 7 15 3).bind fun v4 => if v4 ≤ l1 then (some 0) else (some 1))) else none
theorem E_X8_isPerson {G : zG} {d : Nat} {l0 : Nat} {l1 : Int32} {M : zM} {r : Int32} (h : f_X8_isPerson l0 l1 M = some r) : Ex G d yX8_isPerson cX8_isPerson 2 (some .boolean) 0 (zent0 [.ref l0, .int l1] 2) [] M (some (.int r), M) := by
  unfold f_X8_isPerson at h
  obtain ⟨zz0, h⟩ := bt h
  have hl0 := bz zz0
  show Ex _ _ _ _ _ _ 0 [.ref l0, .int l1] [] _ _
  refine x_iload_n (pc := 0) dX8_isPerson_0 rfl rfl ?_
  refine x_if_lt (pc := 1) dX8_isPerson_1 (t := 19) rfl (fun c1 => ?_) (fun c1 => ?_)
  · rw [if_pos c1] at h
    refine x_iconst (pc := 19) dX8_isPerson_19 (v := 0) rfl ?_
    obtain rfl := s1 h
    exact x_ret (pc := 20) dX8_isPerson_20 (ty := .boolean) rfl rfl
  · rw [if_neg c1] at h
    refine x_iload_n (pc := 4) dX8_isPerson_4 rfl rfl ?_
    refine x_aload_n (pc := 5) dX8_isPerson_5 rfl rfl hl0 ?_
    obtain ⟨v2, e3, h⟩ := ob h
    refine y_getR (pc := 6) dX8_isPerson_6 zf_X8_19 e3 ?_
    obtain ⟨v4, e5, h⟩ := ob h
    refine y_getI (pc := 9) dX8_isPerson_9 zf_X8_128 e5 (by decide) ?_
    refine x_icmp_ge (pc := 12) dX8_isPerson_12 (t := 19) rfl (fun c6 => ?_) (fun c6 => ?_)
    · rw [if_pos c6] at h
      refine x_iconst (pc := 19) dX8_isPerson_19 (v := 0) rfl ?_
      obtain rfl := s1 h
      exact x_ret (pc := 20) dX8_isPerson_20 (ty := .boolean) rfl rfl
    · rw [if_neg c6] at h
      refine x_iconst (pc := 15) dX8_isPerson_15 (v := 1) rfl ?_
      refine x_goto (pc := 16) dX8_isPerson_16 (t := 20) rfl ?_
      obtain rfl := s1 h
      exact x_ret (pc := 20) dX8_isPerson_20 (ty := .boolean) rfl rfl
def f_X8_hoarded (l0 : Nat) (l1 : Int32) (l2 : Int32) (M : zM) : Option (Int32) := bif Nat.ble 1 l0 then (bif zac M l0 8 13 then ((f_X8_isPerson l0 l1 M).bind fun r1 => if r1 = 0 then (some (-1000000001)) else (bif zac M l0 8 13 then ((f_X8_isWord l0 l2 M).bind fun r4 => if r4 = 0 then (some (-1000000001)) else ((oR M l0 8 13 3).bind fun v7 => bif zac M v7 5 9 then ((f_X5_hoardedBy v7 l1 l2 M).bind fun r9 => some r9) else none)) else none)) else none) else none
theorem E_X8_hoarded {G : zG} {d : Nat} {l0 : Nat} {l1 : Int32} {l2 : Int32} {M : zM} {r : Int32} (h : f_X8_hoarded l0 l1 l2 M = some r) : Ex G (d + 1) yX8_hoarded cX8_hoarded 3 (some .int) 0 (zent0 [.ref l0, .int l1, .int l2] 3) [] M (some (.int r), M) := by
  unfold f_X8_hoarded at h
  obtain ⟨zz0, h⟩ := bt h
  have hl0 := bz zz0
  show Ex _ _ _ _ _ _ 0 [.ref l0, .int l1, .int l2] [] _ _
  refine x_aload_n (pc := 0) dX8_hoarded_0 rfl rfl hl0 ?_
  refine x_iload_n (pc := 1) dX8_hoarded_1 rfl rfl ?_
  obtain ⟨g13, h⟩ := bt h
  obtain ⟨r1, e2, h⟩ := ob h
  refine x_callV (av := [.int l1]) (st := []) (pc := 2) dX8_hoarded_2 (E_X8_isPerson (d := d) e2) rfl (Nat.le_of_ble_eq_true rfl) zc_X8_isPerson rfl zm_X8_190 zi_X8_isPerson zs_X8_isPerson (zac_ok g13) (by decide) rfl rfl (zst_ok rfl (Nat.le_of_ble_eq_true rfl)) rfl ?_
  refine x_if_eq (pc := 5) dX8_hoarded_5 (t := 16) rfl (fun c3 => ?_) (fun c3 => ?_)
  · rw [if_pos c3] at h
    refine x_ldc (pc := 16) dX8_hoarded_16 zk_X8_163 ?_
    obtain rfl := s1 h
    exact y_retI (pc := 18) dX8_hoarded_18 rfl
  · rw [if_neg c3] at h
    refine x_aload_n (pc := 8) dX8_hoarded_8 rfl rfl hl0 ?_
    refine x_iload_n (pc := 9) dX8_hoarded_9 rfl rfl ?_
    obtain ⟨g12, h⟩ := bt h
    obtain ⟨r4, e5, h⟩ := ob h
    refine x_callV (av := [.int l2]) (st := []) (pc := 10) dX8_hoarded_10 (E_X8_isWord (d := d) e5) rfl (Nat.le_of_ble_eq_true rfl) zc_X8_isWord rfl zm_X8_159 zi_X8_isWord zs_X8_isWord (zac_ok g12) (by decide) rfl rfl (zst_ok rfl (Nat.le_of_ble_eq_true rfl)) rfl ?_
    refine x_if_ne (pc := 13) dX8_hoarded_13 (t := 19) rfl (fun c6 => ?_) (fun c6 => ?_)
    · rw [if_neg c6] at h
      refine x_aload_n (pc := 19) dX8_hoarded_19 rfl rfl hl0 ?_
      obtain ⟨v7, e8, h⟩ := ob h
      refine y_getR (pc := 20) dX8_hoarded_20 zf_X8_29 e8 ?_
      refine x_iload_n (pc := 23) dX8_hoarded_23 rfl rfl ?_
      refine x_iload_n (pc := 24) dX8_hoarded_24 rfl rfl ?_
      obtain ⟨g11, h⟩ := bt h
      obtain ⟨r9, e10, h⟩ := ob h
      refine x_callV (av := [.int l1, .int l2]) (st := []) (pc := 25) dX8_hoarded_25 (E_X5_hoardedBy (d := d) e10) rfl (Nat.le_of_ble_eq_true rfl) zc_X5_hoardedBy rfl zm_X8_193 zi_X5_hoardedBy zs_X5_hoardedBy (zac_ok g11) (by decide) rfl rfl (zst_ok rfl (Nat.le_of_ble_eq_true rfl)) rfl ?_
      obtain rfl := s1 h
      exact y_retI (pc := 28) dX8_hoarded_28 rfl
    · rw [if_pos c6] at h
      refine x_ldc (pc := 16) dX8_hoarded_16 zk_X8_163 ?_
      obtain rfl := s1 h
      exact y_retI (pc := 18) dX8_hoarded_18 rfl
def f_X8_isNeed (l0 : Nat) (l1 : Int32) (M : zM) : Option (Int32) := bif Nat.ble 1 l0 then (if l1 < 0 then (some 0) else ((oR M l0 8 13 1).bind fun v2 => (oI M v2 7 15 4).bind fun v4 => if v4 ≤ l1 then (some 0) else (some 1))) else none
theorem E_X8_isNeed {G : zG} {d : Nat} {l0 : Nat} {l1 : Int32} {M : zM} {r : Int32} (h : f_X8_isNeed l0 l1 M = some r) : Ex G d yX8_isNeed cX8_isNeed 2 (some .boolean) 0 (zent0 [.ref l0, .int l1] 2) [] M (some (.int r), M) := by
  unfold f_X8_isNeed at h
  obtain ⟨zz0, h⟩ := bt h
  have hl0 := bz zz0
  show Ex _ _ _ _ _ _ 0 [.ref l0, .int l1] [] _ _
  refine x_iload_n (pc := 0) dX8_isNeed_0 rfl rfl ?_
  refine x_if_lt (pc := 1) dX8_isNeed_1 (t := 19) rfl (fun c1 => ?_) (fun c1 => ?_)
  · rw [if_pos c1] at h
    refine x_iconst (pc := 19) dX8_isNeed_19 (v := 0) rfl ?_
    obtain rfl := s1 h
    exact x_ret (pc := 20) dX8_isNeed_20 (ty := .boolean) rfl rfl
  · rw [if_neg c1] at h
    refine x_iload_n (pc := 4) dX8_isNeed_4 rfl rfl ?_
    refine x_aload_n (pc := 5) dX8_isNeed_5 rfl rfl hl0 ?_
    obtain ⟨v2, e3, h⟩ := ob h
    refine y_getR (pc := 6) dX8_isNeed_6 zf_X8_19 e3 ?_
    obtain ⟨v4, e5, h⟩ := ob h
    refine y_getI (pc := 9) dX8_isNeed_9 zf_X8_131 e5 (by decide) ?_
    refine x_icmp_ge (pc := 12) dX8_isNeed_12 (t := 19) rfl (fun c6 => ?_) (fun c6 => ?_)
    · rw [if_pos c6] at h
      refine x_iconst (pc := 19) dX8_isNeed_19 (v := 0) rfl ?_
      obtain rfl := s1 h
      exact x_ret (pc := 20) dX8_isNeed_20 (ty := .boolean) rfl rfl
    · rw [if_neg c6] at h
      refine x_iconst (pc := 15) dX8_isNeed_15 (v := 1) rfl ?_
      refine x_goto (pc := 16) dX8_isNeed_16 (t := 20) rfl ?_
      obtain rfl := s1 h
      exact x_ret (pc := 20) dX8_isNeed_20 (ty := .boolean) rfl rfl
def f_X8_need (l0 : Nat) (l1 : Int32) (l2 : Int32) (M : zM) : Option (Int32) := bif Nat.ble 1 l0 then (bif zac M l0 8 13 then ((f_X8_isNeed l0 l1 M).bind fun r1 => if r1 = 0 then (some (-1000000001)) else (if l2 = 0 then ((oR M l0 8 13 1).bind fun v5 => (oR M v5 7 15 11).bind fun v7 => (aI M v7 l1).bind fun v9 => some v9) else (if l2 = 1 then ((oR M l0 8 13 1).bind fun v12 => (oR M v12 7 15 12).bind fun v14 => (aI M v14 l1).bind fun v16 => some v16) else (if l2 = 2 then ((oR M l0 8 13 1).bind fun v19 => (oR M v19 7 15 13).bind fun v21 => (aI M v21 l1).bind fun v23 => some v23) else (if l2 = 3 then ((oR M l0 8 13 1).bind fun v26 => (oR M v26 7 15 14).bind fun v28 => (aI M v28 l1).bind fun v30 => some v30) else (if l2 = 4 then ((oR M l0 8 13 1).bind fun v33 => bif zac M l0 8 13 then ((f_X8_today l0 M).bind fun r35 => bif zac M v33 7 15 then ((f_X7_isToCome v33 l1 r35 M).bind fun r37 => if r37 = 0 then (some 0) else (some 1)) else none) else none) else (some (-1000000002)))))))) else none) else none
theorem E_X8_need {G : zG} {d : Nat} {l0 : Nat} {l1 : Int32} {l2 : Int32} {M : zM} {r : Int32} (h : f_X8_need l0 l1 l2 M = some r) : Ex G (d + 2) yX8_need cX8_need 3 (some .int) 0 (zent0 [.ref l0, .int l1, .int l2] 3) [] M (some (.int r), M) := by
  unfold f_X8_need at h
  obtain ⟨zz0, h⟩ := bt h
  have hl0 := bz zz0
  show Ex _ _ _ _ _ _ 0 [.ref l0, .int l1, .int l2] [] _ _
  refine x_aload_n (pc := 0) dX8_need_0 rfl rfl hl0 ?_
  refine x_iload_n (pc := 1) dX8_need_1 rfl rfl ?_
  obtain ⟨g42, h⟩ := bt h
  obtain ⟨r1, e2, h⟩ := ob h
  refine x_callV (av := [.int l1]) (st := []) (pc := 2) dX8_need_2 (E_X8_isNeed (d := d + 1) e2) rfl (Nat.le_of_ble_eq_true rfl) zc_X8_isNeed rfl zm_X8_196 zi_X8_isNeed zs_X8_isNeed (zac_ok g42) (by decide) rfl rfl (zst_ok rfl (Nat.le_of_ble_eq_true rfl)) rfl ?_
  refine x_if_ne (pc := 5) dX8_need_5 (t := 11) rfl (fun c3 => ?_) (fun c3 => ?_)
  · rw [if_neg c3] at h
    refine x_iload_n (pc := 11) dX8_need_11 rfl rfl ?_
    by_cases c4 : l2 = 0
    · rw [if_pos c4] at h
      refine y_tableIn (pc := 12) dX8_need_12 c4 (q := 0) (off := 36) (t := 48) (by decide) (by decide) (by decide) rfl ?_
      refine x_aload_n (pc := 48) dX8_need_48 rfl rfl hl0 ?_
      obtain ⟨v5, e6, h⟩ := ob h
      refine y_getR (pc := 49) dX8_need_49 zf_X8_19 e6 ?_
      obtain ⟨v7, e8, h⟩ := ob h
      refine y_getR (pc := 52) dX8_need_52 zf_X8_199 e8 ?_
      refine x_iload_n (pc := 55) dX8_need_55 rfl rfl ?_
      obtain ⟨v9, e10, h⟩ := ob h
      refine y_iald (pc := 56) dX8_need_56 e10 ?_
      obtain rfl := s1 h
      exact y_retI (pc := 57) dX8_need_57 rfl
    · rw [if_neg c4] at h
      by_cases c11 : l2 = 1
      · rw [if_pos c11] at h
        refine y_tableIn (pc := 12) dX8_need_12 c11 (q := 1) (off := 46) (t := 58) (by decide) (by decide) (by decide) rfl ?_
        refine x_aload_n (pc := 58) dX8_need_58 rfl rfl hl0 ?_
        obtain ⟨v12, e13, h⟩ := ob h
        refine y_getR (pc := 59) dX8_need_59 zf_X8_19 e13 ?_
        obtain ⟨v14, e15, h⟩ := ob h
        refine y_getR (pc := 62) dX8_need_62 zf_X8_202 e15 ?_
        refine x_iload_n (pc := 65) dX8_need_65 rfl rfl ?_
        obtain ⟨v16, e17, h⟩ := ob h
        refine y_iald (pc := 66) dX8_need_66 e17 ?_
        obtain rfl := s1 h
        exact y_retI (pc := 67) dX8_need_67 rfl
      · rw [if_neg c11] at h
        by_cases c18 : l2 = 2
        · rw [if_pos c18] at h
          refine y_tableIn (pc := 12) dX8_need_12 c18 (q := 2) (off := 56) (t := 68) (by decide) (by decide) (by decide) rfl ?_
          refine x_aload_n (pc := 68) dX8_need_68 rfl rfl hl0 ?_
          obtain ⟨v19, e20, h⟩ := ob h
          refine y_getR (pc := 69) dX8_need_69 zf_X8_19 e20 ?_
          obtain ⟨v21, e22, h⟩ := ob h
          refine y_getR (pc := 72) dX8_need_72 zf_X8_205 e22 ?_
          refine x_iload_n (pc := 75) dX8_need_75 rfl rfl ?_
          obtain ⟨v23, e24, h⟩ := ob h
          refine y_iald (pc := 76) dX8_need_76 e24 ?_
          obtain rfl := s1 h
          exact y_retI (pc := 77) dX8_need_77 rfl
        · rw [if_neg c18] at h
          by_cases c25 : l2 = 3
          · rw [if_pos c25] at h
            refine y_tableIn (pc := 12) dX8_need_12 c25 (q := 3) (off := 66) (t := 78) (by decide) (by decide) (by decide) rfl ?_
            refine x_aload_n (pc := 78) dX8_need_78 rfl rfl hl0 ?_
            obtain ⟨v26, e27, h⟩ := ob h
            refine y_getR (pc := 79) dX8_need_79 zf_X8_19 e27 ?_
            obtain ⟨v28, e29, h⟩ := ob h
            refine y_getR (pc := 82) dX8_need_82 zf_X8_208 e29 ?_
            refine x_iload_n (pc := 85) dX8_need_85 rfl rfl ?_
            obtain ⟨v30, e31, h⟩ := ob h
            refine y_iald (pc := 86) dX8_need_86 e31 ?_
            obtain rfl := s1 h
            exact y_retI (pc := 87) dX8_need_87 rfl
          · rw [if_neg c25] at h
            by_cases c32 : l2 = 4
            · rw [if_pos c32] at h
              refine y_tableIn (pc := 12) dX8_need_12 c32 (q := 4) (off := 76) (t := 88) (by decide) (by decide) (by decide) rfl ?_
              refine x_aload_n (pc := 88) dX8_need_88 rfl rfl hl0 ?_
              obtain ⟨v33, e34, h⟩ := ob h
              refine y_getR (pc := 89) dX8_need_89 zf_X8_19 e34 ?_
              refine x_iload_n (pc := 92) dX8_need_92 rfl rfl ?_
              refine x_aload_n (pc := 93) dX8_need_93 rfl rfl hl0 ?_
              obtain ⟨g41, h⟩ := bt h
              obtain ⟨r35, e36, h⟩ := ob h
              refine x_callV (av := []) (st := [.int l1, .ref v33]) (pc := 94) dX8_need_94 (E_X8_today (d := d) e36) rfl (Nat.le_of_ble_eq_true rfl) zc_X8_today rfl zm_X8_135 zi_X8_today zs_X8_today (zac_ok g41) (by decide) rfl rfl (zst_ok rfl (Nat.le_of_ble_eq_true rfl)) rfl ?_
              obtain ⟨g40, h⟩ := bt h
              obtain ⟨r37, e38, h⟩ := ob h
              refine x_callV (av := [.int l1, .int r35]) (st := []) (pc := 97) dX8_need_97 (E_X7_isToCome (d := d + 1) e38) rfl (Nat.le_of_ble_eq_true rfl) zc_X7_isToCome rfl zm_X8_211 zi_X7_isToCome zs_X7_isToCome (zac_ok g40) (by decide) rfl rfl (zst_ok rfl (Nat.le_of_ble_eq_true rfl)) rfl ?_
              refine x_if_eq (pc := 100) dX8_need_100 (t := 107) rfl (fun c39 => ?_) (fun c39 => ?_)
              · rw [if_pos c39] at h
                refine x_iconst (pc := 107) dX8_need_107 (v := 0) rfl ?_
                obtain rfl := s1 h
                exact y_retI (pc := 108) dX8_need_108 rfl
              · rw [if_neg c39] at h
                refine x_iconst (pc := 103) dX8_need_103 (v := 1) rfl ?_
                refine x_goto (pc := 104) dX8_need_104 (t := 108) rfl ?_
                obtain rfl := s1 h
                exact y_retI (pc := 108) dX8_need_108 rfl
            · rw [if_neg c32] at h
              refine x_tableOut (pc := 12) dX8_need_12 (y_out (n := 4) (by decide) (fun j hj => ?_)) (t := 109) rfl ?_
              · match j, hj with
                | 0, _ => exact c4
                | 1, _ => exact c11
                | 2, _ => exact c18
                | 3, _ => exact c25
                | 4, _ => exact c32
                | j + 5, hj => omega
              · refine x_ldc (pc := 109) dX8_need_109 zk_X8_78 ?_
                obtain rfl := s1 h
                exact y_retI (pc := 111) dX8_need_111 rfl
  · rw [if_pos c3] at h
    refine x_ldc (pc := 8) dX8_need_8 zk_X8_163 ?_
    obtain rfl := s1 h
    exact y_retI (pc := 10) dX8_need_10 rfl
def f_X8_refusalOfDays (l0 : Nat) (l1 : Int32) (M : zM) : Option (Int32) := bif Nat.ble 1 l0 then (if l1 < 1 then (some (-1000000002)) else (if l1 ≤ 60 then ((oR M l0 8 13 1).bind fun v3 => (oI M v3 7 15 0).bind fun v5 => if v5 = 0 then (some (-1000000003)) else ((oR M l0 8 13 3).bind fun v8 => (oI M v8 5 9 4).bind fun v10 => if v10 ≤ 9000 then (some 0) else (some (-1000000004)))) else (some (-1000000002)))) else none
theorem E_X8_refusalOfDays {G : zG} {d : Nat} {l0 : Nat} {l1 : Int32} {M : zM} {r : Int32} (h : f_X8_refusalOfDays l0 l1 M = some r) : Ex G d yX8_refusalOfDays cX8_refusalOfDays 2 (some .int) 0 (zent0 [.ref l0, .int l1] 2) [] M (some (.int r), M) := by
  unfold f_X8_refusalOfDays at h
  obtain ⟨zz0, h⟩ := bt h
  have hl0 := bz zz0
  show Ex _ _ _ _ _ _ 0 [.ref l0, .int l1] [] _ _
  refine x_iload_n (pc := 0) dX8_refusalOfDays_0 rfl rfl ?_
  refine x_iconst (pc := 1) dX8_refusalOfDays_1 (v := 1) rfl ?_
  refine x_icmp_lt (pc := 2) dX8_refusalOfDays_2 (t := 11) rfl (fun c1 => ?_) (fun c1 => ?_)
  · rw [if_pos c1] at h
    refine x_ldc (pc := 11) dX8_refusalOfDays_11 zk_X8_78 ?_
    obtain rfl := s1 h
    exact y_retI (pc := 13) dX8_refusalOfDays_13 rfl
  · rw [if_neg c1] at h
    refine x_iload_n (pc := 5) dX8_refusalOfDays_5 rfl rfl ?_
    refine x_bipush (pc := 6) dX8_refusalOfDays_6 (v := 60) (by decide) ?_
    refine x_icmp_le (pc := 8) dX8_refusalOfDays_8 (t := 14) rfl (fun c2 => ?_) (fun c2 => ?_)
    · rw [if_pos c2] at h
      refine x_aload_n (pc := 14) dX8_refusalOfDays_14 rfl rfl hl0 ?_
      obtain ⟨v3, e4, h⟩ := ob h
      refine y_getR (pc := 15) dX8_refusalOfDays_15 zf_X8_19 e4 ?_
      obtain ⟨v5, e6, h⟩ := ob h
      refine y_getI (pc := 18) dX8_refusalOfDays_18 zf_X8_122 e6 (by decide) ?_
      refine x_if_ne (pc := 21) dX8_refusalOfDays_21 (t := 27) rfl (fun c7 => ?_) (fun c7 => ?_)
      · rw [if_neg c7] at h
        refine x_aload_n (pc := 27) dX8_refusalOfDays_27 rfl rfl hl0 ?_
        obtain ⟨v8, e9, h⟩ := ob h
        refine y_getR (pc := 28) dX8_refusalOfDays_28 zf_X8_29 e9 ?_
        obtain ⟨v10, e11, h⟩ := ob h
        refine y_getI (pc := 31) dX8_refusalOfDays_31 zf_X8_134 e11 (by decide) ?_
        refine x_sipush (pc := 34) dX8_refusalOfDays_34 (v := 9000) (by decide) ?_
        refine x_icmp_le (pc := 37) dX8_refusalOfDays_37 (t := 45) rfl (fun c12 => ?_) (fun c12 => ?_)
        · rw [if_pos c12] at h
          refine x_iconst (pc := 45) dX8_refusalOfDays_45 (v := 0) rfl ?_
          obtain rfl := s1 h
          exact y_retI (pc := 46) dX8_refusalOfDays_46 rfl
        · rw [if_neg c12] at h
          refine x_ldc (pc := 40) dX8_refusalOfDays_40 zk_X8_83 ?_
          refine x_goto (pc := 42) dX8_refusalOfDays_42 (t := 46) rfl ?_
          obtain rfl := s1 h
          exact y_retI (pc := 46) dX8_refusalOfDays_46 rfl
      · rw [if_pos c7] at h
        refine x_ldc (pc := 24) dX8_refusalOfDays_24 zk_X8_228 ?_
        obtain rfl := s1 h
        exact y_retI (pc := 26) dX8_refusalOfDays_26 rfl
    · rw [if_neg c2] at h
      refine x_ldc (pc := 11) dX8_refusalOfDays_11 zk_X8_78 ?_
      obtain rfl := s1 h
      exact y_retI (pc := 13) dX8_refusalOfDays_13 rfl
def L_X8_day_25 : Nat → Nat → Int32 → Int32 → zM → Option (zM)
  | 0, _, _, _, _ => none
  | n + 1, l0, l1, l3, M => if l1 ≤ l3 then (some M) else ((oR M l0 8 13 3).bind fun v11 => (oR M l0 8 13 1).bind fun v13 => bif zac M v11 5 9 then ((f_X5_passDay v11 v13 M).bind fun M15 => L_X8_day_25 n l0 l1 (l3 + 1) M15) else none)
def f_X8_day (l0 : Nat) (l1 : Int32) (M : zM) : Option (Int32 × zM) := bif Nat.ble 1 l0 then (bif zac M l0 8 13 then ((f_X8_refusalOfDays l0 l1 M).bind fun r1 => if r1 = 0 then ((oR M l0 8 13 5).bind fun v4 => (oR M l0 8 13 3).bind fun v6 => bif zac M v4 3 3 then ((f_X3_remember v4 v6 M).bind fun M8 => (L_X8_day_25 zN l0 l1 0 M8).bind fun M11 => (oR M11 l0 8 13 3).bind fun v12 => (oI M11 v12 5 9 4).bind fun v14 => some (v14, M11)) else none) else (some (r1, M))) else none) else none
theorem LX_X8_day_25 {G : zG} {d : Nat} : ∀ (n : Nat) (l0 : Nat) (l1 : Int32) (l3 : Int32) (M : zM) (hl0 : l0 ≠ 0) (MX : zM) {res : Option Value × zM}, L_X8_day_25 n l0 l1 l3 M = some MX → Ex G (d + 6) yX8_day cX8_day 4 (some .int) 47 [.ref l0, .null, .null, .null] [] MX res → Ex G (d + 6) yX8_day cX8_day 4 (some .int) 25 [.ref l0, .int l1, .null, .int l3] [] M res := by
  intro n
  induction n with
  | zero =>
    intro l0 l1 l3 M hl0 MX res h K
    simp [L_X8_day_25] at h
  | succ n ih =>
    intro l0 l1 l3 M hl0 MX res h K
    simp only [L_X8_day_25] at h
    refine x_iload_n (pc := 25) dX8_day_25 rfl rfl ?_
    refine x_iload_n (pc := 26) dX8_day_26 rfl rfl ?_
    refine x_icmp_ge (pc := 27) dX8_day_27 (t := 47) rfl (fun c10 => ?_) (fun c10 => ?_)
    · rw [if_pos c10] at h
      obtain rfl := s1 h
      refine ex_weak (Ls2 := [.ref l0, .null, .null, .null]) ⟨Or.inr rfl, Or.inl rfl, Or.inl rfl, Or.inl rfl, trivial⟩ ?_
      exact K
    · rw [if_neg c10] at h
      refine x_aload_n (pc := 30) dX8_day_30 rfl rfl hl0 ?_
      obtain ⟨v11, e12, h⟩ := ob h
      refine y_getR (pc := 31) dX8_day_31 zf_X8_29 e12 ?_
      refine x_aload_n (pc := 34) dX8_day_34 rfl rfl hl0 ?_
      obtain ⟨v13, e14, h⟩ := ob h
      refine y_getR (pc := 35) dX8_day_35 zf_X8_19 e14 ?_
      obtain ⟨g17, h⟩ := bt h
      obtain ⟨M15, e16, h⟩ := ob h
      refine x_callV (av := [.ref v13]) (st := []) (pc := 38) dX8_day_38 (E_X5_passDay (d := d) e16) rfl (Nat.le_of_ble_eq_true rfl) zc_X5_passDay rfl zm_X8_222 zi_X5_passDay zs_X5_passDay (zac_ok g17) (by decide) rfl rfl (zst_ok rfl (Nat.le_of_ble_eq_true rfl)) rfl ?_
      refine x_iinc (pc := 41) dX8_day_41 rfl rfl (by decide) rfl ?_
      refine x_goto (pc := 44) dX8_day_44 (t := 25) rfl ?_
      refine ex_weak (Ls2 := [.ref l0, .int l1, .null, .int (l3 + 1)]) ⟨Or.inr rfl, Or.inr rfl, Or.inl rfl, Or.inr rfl, trivial⟩ ?_
      exact ih _ _ _ _ hl0  _ h K
theorem E_X8_day {G : zG} {d : Nat} {l0 : Nat} {l1 : Int32} {M MR : zM} {r : Int32} (h : f_X8_day l0 l1 M = some (r, MR)) : Ex G (d + 6) yX8_day cX8_day 4 (some .int) 0 (zent0 [.ref l0, .int l1] 4) [] M (some (.int r), MR) := by
  unfold f_X8_day at h
  obtain ⟨zz0, h⟩ := bt h
  have hl0 := bz zz0
  show Ex _ _ _ _ _ _ 0 [.ref l0, .int l1, .null, .null] [] _ _
  refine x_aload_n (pc := 0) dX8_day_0 rfl rfl hl0 ?_
  refine x_iload_n (pc := 1) dX8_day_1 rfl rfl ?_
  obtain ⟨g17, h⟩ := bt h
  obtain ⟨r1, e2, h⟩ := ob h
  refine x_callV (av := [.int l1]) (st := []) (pc := 2) dX8_day_2 (E_X8_refusalOfDays (d := d + 5) e2) rfl (Nat.le_of_ble_eq_true rfl) zc_X8_refusalOfDays rfl zm_X8_215 zi_X8_refusalOfDays zs_X8_refusalOfDays (zac_ok g17) (by decide) rfl rfl (zst_ok rfl (Nat.le_of_ble_eq_true rfl)) rfl ?_
  refine x_istore_n (pc := 5) dX8_day_5 rfl (by decide) rfl ?_
  refine x_iload_n (pc := 6) dX8_day_6 rfl rfl ?_
  refine x_if_eq (pc := 7) dX8_day_7 (t := 12) rfl (fun c3 => ?_) (fun c3 => ?_)
  · rw [if_pos c3] at h
    refine x_aload_n (pc := 12) dX8_day_12 rfl rfl hl0 ?_
    obtain ⟨v4, e5, h⟩ := ob h
    refine y_getR (pc := 13) dX8_day_13 zf_X8_39 e5 ?_
    refine x_aload_n (pc := 16) dX8_day_16 rfl rfl hl0 ?_
    obtain ⟨v6, e7, h⟩ := ob h
    refine y_getR (pc := 17) dX8_day_17 zf_X8_29 e7 ?_
    obtain ⟨g16, h⟩ := bt h
    obtain ⟨M8, e9, h⟩ := ob h
    refine x_callV (av := [.ref v6]) (st := []) (pc := 20) dX8_day_20 (E_X3_remember (d := d + 4) e9) rfl (Nat.le_of_ble_eq_true rfl) zc_X3_remember rfl zm_X8_218 zi_X3_remember zs_X3_remember (zac_ok g16) (by decide) rfl rfl (zst_ok rfl (Nat.le_of_ble_eq_true rfl)) rfl ?_
    refine x_iconst (pc := 23) dX8_day_23 (v := 0) rfl ?_
    refine x_istore_n (pc := 24) dX8_day_24 rfl (by decide) rfl ?_
    obtain ⟨M11, e10, h⟩ := ob h
    refine ex_weak (Ls2 := [.ref l0, .int l1, .null, .int 0]) ⟨Or.inr rfl, Or.inr rfl, Or.inl rfl, Or.inr rfl, trivial⟩ ?_
    refine LX_X8_day_25 zN _ _ _ _ hl0 _ e10 ?_
    refine x_aload_n (pc := 47) dX8_day_47 rfl rfl hl0 ?_
    obtain ⟨v12, e13, h⟩ := ob h
    refine y_getR (pc := 48) dX8_day_48 zf_X8_29 e13 ?_
    obtain ⟨v14, e15, h⟩ := ob h
    refine y_getI (pc := 51) dX8_day_51 zf_X8_134 e15 (by decide) ?_
    obtain ⟨rfl, rfl⟩ := s2 h
    exact y_retI (pc := 54) dX8_day_54 rfl
  · rw [if_neg c3] at h
    refine x_iload_n (pc := 10) dX8_day_10 rfl rfl ?_
    obtain ⟨rfl, rfl⟩ := s2 h
    exact y_retI (pc := 11) dX8_day_11 rfl
def f_X8_say (l0 : Nat) (l1 : Int32) (l2 : Int32) (M : zM) : Option (Int32 × zM) := bif Nat.ble 1 l0 then (bif zac M l0 8 13 then ((f_X8_isPerson l0 l1 M).bind fun r1 => if r1 = 0 then (some ((-1000000001), M)) else (bif zac M l0 8 13 then ((f_X8_isWord l0 l2 M).bind fun r4 => if r4 = 0 then (some ((-1000000001), M)) else ((oR M l0 8 13 3).bind fun v7 => bif zac M v7 5 9 then ((f_X5_canSay v7 l1 l2 M).bind fun r9 => if r9 = 0 then (some ((-1000000003), M)) else ((oR M l0 8 13 5).bind fun v12 => (oR M l0 8 13 3).bind fun v14 => bif zac M v12 3 3 then ((f_X3_remember v12 v14 M).bind fun M16 => (oR M16 l0 8 13 3).bind fun v18 => bif zac M16 v18 5 9 then ((f_X5_speak v18 l1 l2 M16).bind fun M20 => (oR M20 l0 8 13 3).bind fun v22 => bif zac M20 v22 5 9 then ((f_X5_sayable v22 l1 l2 M20).bind fun r24 => some (r24, M20)) else none) else none) else none)) else none)) else none)) else none) else none
theorem E_X8_say {G : zG} {d : Nat} {l0 : Nat} {l1 : Int32} {l2 : Int32} {M MR : zM} {r : Int32} (h : f_X8_say l0 l1 l2 M = some (r, MR)) : Ex G (d + 2) yX8_say cX8_say 3 (some .int) 0 (zent0 [.ref l0, .int l1, .int l2] 3) [] M (some (.int r), MR) := by
  unfold f_X8_say at h
  obtain ⟨zz0, h⟩ := bt h
  have hl0 := bz zz0
  show Ex _ _ _ _ _ _ 0 [.ref l0, .int l1, .int l2] [] _ _
  refine x_aload_n (pc := 0) dX8_say_0 rfl rfl hl0 ?_
  refine x_iload_n (pc := 1) dX8_say_1 rfl rfl ?_
  obtain ⟨g31, h⟩ := bt h
  obtain ⟨r1, e2, h⟩ := ob h
  refine x_callV (av := [.int l1]) (st := []) (pc := 2) dX8_say_2 (E_X8_isPerson (d := d + 1) e2) rfl (Nat.le_of_ble_eq_true rfl) zc_X8_isPerson rfl zm_X8_190 zi_X8_isPerson zs_X8_isPerson (zac_ok g31) (by decide) rfl rfl (zst_ok rfl (Nat.le_of_ble_eq_true rfl)) rfl ?_
  refine x_if_eq (pc := 5) dX8_say_5 (t := 16) rfl (fun c3 => ?_) (fun c3 => ?_)
  · rw [if_pos c3] at h
    refine x_ldc (pc := 16) dX8_say_16 zk_X8_163 ?_
    obtain ⟨rfl, rfl⟩ := s2 h
    exact y_retI (pc := 18) dX8_say_18 rfl
  · rw [if_neg c3] at h
    refine x_aload_n (pc := 8) dX8_say_8 rfl rfl hl0 ?_
    refine x_iload_n (pc := 9) dX8_say_9 rfl rfl ?_
    obtain ⟨g30, h⟩ := bt h
    obtain ⟨r4, e5, h⟩ := ob h
    refine x_callV (av := [.int l2]) (st := []) (pc := 10) dX8_say_10 (E_X8_isWord (d := d + 1) e5) rfl (Nat.le_of_ble_eq_true rfl) zc_X8_isWord rfl zm_X8_159 zi_X8_isWord zs_X8_isWord (zac_ok g30) (by decide) rfl rfl (zst_ok rfl (Nat.le_of_ble_eq_true rfl)) rfl ?_
    refine x_if_ne (pc := 13) dX8_say_13 (t := 19) rfl (fun c6 => ?_) (fun c6 => ?_)
    · rw [if_neg c6] at h
      refine x_aload_n (pc := 19) dX8_say_19 rfl rfl hl0 ?_
      obtain ⟨v7, e8, h⟩ := ob h
      refine y_getR (pc := 20) dX8_say_20 zf_X8_29 e8 ?_
      refine x_iload_n (pc := 23) dX8_say_23 rfl rfl ?_
      refine x_iload_n (pc := 24) dX8_say_24 rfl rfl ?_
      obtain ⟨g29, h⟩ := bt h
      obtain ⟨r9, e10, h⟩ := ob h
      refine x_callV (av := [.int l1, .int l2]) (st := []) (pc := 25) dX8_say_25 (E_X5_canSay (d := d) e10) rfl (Nat.le_of_ble_eq_true rfl) zc_X5_canSay rfl zm_X8_225 zi_X5_canSay zs_X5_canSay (zac_ok g29) (by decide) rfl rfl (zst_ok rfl (Nat.le_of_ble_eq_true rfl)) rfl ?_
      refine x_if_ne (pc := 28) dX8_say_28 (t := 34) rfl (fun c11 => ?_) (fun c11 => ?_)
      · rw [if_neg c11] at h
        refine x_aload_n (pc := 34) dX8_say_34 rfl rfl hl0 ?_
        obtain ⟨v12, e13, h⟩ := ob h
        refine y_getR (pc := 35) dX8_say_35 zf_X8_39 e13 ?_
        refine x_aload_n (pc := 38) dX8_say_38 rfl rfl hl0 ?_
        obtain ⟨v14, e15, h⟩ := ob h
        refine y_getR (pc := 39) dX8_say_39 zf_X8_29 e15 ?_
        obtain ⟨g28, h⟩ := bt h
        obtain ⟨M16, e17, h⟩ := ob h
        refine x_callV (av := [.ref v14]) (st := []) (pc := 42) dX8_say_42 (E_X3_remember (d := d) e17) rfl (Nat.le_of_ble_eq_true rfl) zc_X3_remember rfl zm_X8_218 zi_X3_remember zs_X3_remember (zac_ok g28) (by decide) rfl rfl (zst_ok rfl (Nat.le_of_ble_eq_true rfl)) rfl ?_
        refine x_aload_n (pc := 45) dX8_say_45 rfl rfl hl0 ?_
        obtain ⟨v18, e19, h⟩ := ob h
        refine y_getR (pc := 46) dX8_say_46 zf_X8_29 e19 ?_
        refine x_iload_n (pc := 49) dX8_say_49 rfl rfl ?_
        refine x_iload_n (pc := 50) dX8_say_50 rfl rfl ?_
        obtain ⟨g27, h⟩ := bt h
        obtain ⟨M20, e21, h⟩ := ob h
        refine x_callV (av := [.int l1, .int l2]) (st := []) (pc := 51) dX8_say_51 (E_X5_speak (d := d) e21) rfl (Nat.le_of_ble_eq_true rfl) zc_X5_speak rfl zm_X8_229 zi_X5_speak zs_X5_speak (zac_ok g27) (by decide) rfl rfl (zst_ok rfl (Nat.le_of_ble_eq_true rfl)) rfl ?_
        refine x_aload_n (pc := 54) dX8_say_54 rfl rfl hl0 ?_
        obtain ⟨v22, e23, h⟩ := ob h
        refine y_getR (pc := 55) dX8_say_55 zf_X8_29 e23 ?_
        refine x_iload_n (pc := 58) dX8_say_58 rfl rfl ?_
        refine x_iload_n (pc := 59) dX8_say_59 rfl rfl ?_
        obtain ⟨g26, h⟩ := bt h
        obtain ⟨r24, e25, h⟩ := ob h
        refine x_callV (av := [.int l1, .int l2]) (st := []) (pc := 60) dX8_say_60 (E_X5_sayable (d := d + 1) e25) rfl (Nat.le_of_ble_eq_true rfl) zc_X5_sayable rfl zm_X8_233 zi_X5_sayable zs_X5_sayable (zac_ok g26) (by decide) rfl rfl (zst_ok rfl (Nat.le_of_ble_eq_true rfl)) rfl ?_
        obtain ⟨rfl, rfl⟩ := s2 h
        exact y_retI (pc := 63) dX8_say_63 rfl
      · rw [if_pos c11] at h
        refine x_ldc (pc := 31) dX8_say_31 zk_X8_228 ?_
        obtain ⟨rfl, rfl⟩ := s2 h
        exact y_retI (pc := 33) dX8_say_33 rfl
    · rw [if_pos c6] at h
      refine x_ldc (pc := 16) dX8_say_16 zk_X8_163 ?_
      obtain ⟨rfl, rfl⟩ := s2 h
      exact y_retI (pc := 18) dX8_say_18 rfl
def f_X8_around (l0 : Nat) (l1 : Int32) (l2 : Int32) (l3 : Int32) (M : zM) : Option (Int32 × zM) := bif Nat.ble 1 l0 then (bif zac M l0 8 13 then ((f_X8_isPerson l0 l1 M).bind fun r1 => if r1 = 0 then (some ((-1000000001), M)) else (bif zac M l0 8 13 then ((f_X8_isWord l0 l2 M).bind fun r4 => if r4 = 0 then (some ((-1000000001), M)) else (if l3 < 0 then (some ((-1000000002), M)) else (if l3 < 2 then ((oR M l0 8 13 1).bind fun v9 => bif zac M v9 7 15 then ((f_X7_wayRound v9 l2 l3 M).bind fun r11 => (oR M l0 8 13 3).bind fun v13 => bif zac M v13 5 9 then ((f_X5_canGo v13 l1 r11 M).bind fun r15 => if r15 = 0 then (some ((-1000000003), M)) else ((oR M l0 8 13 5).bind fun v18 => (oR M l0 8 13 3).bind fun v20 => bif zac M v18 3 3 then ((f_X3_remember v18 v20 M).bind fun M22 => (oR M22 l0 8 13 3).bind fun v24 => bif zac M22 v24 5 9 then ((f_X5_go v24 l1 r11 M22).bind fun M26 => some (r11, M26)) else none) else none)) else none) else none) else (some ((-1000000002), M))))) else none)) else none) else none
theorem E_X8_around {G : zG} {d : Nat} {l0 : Nat} {l1 : Int32} {l2 : Int32} {l3 : Int32} {M MR : zM} {r : Int32} (h : f_X8_around l0 l1 l2 l3 M = some (r, MR)) : Ex G (d + 3) yX8_around cX8_around 5 (some .int) 0 (zent0 [.ref l0, .int l1, .int l2, .int l3] 5) [] M (some (.int r), MR) := by
  unfold f_X8_around at h
  obtain ⟨zz0, h⟩ := bt h
  have hl0 := bz zz0
  show Ex _ _ _ _ _ _ 0 [.ref l0, .int l1, .int l2, .int l3, .null] [] _ _
  refine x_aload_n (pc := 0) dX8_around_0 rfl rfl hl0 ?_
  refine x_iload_n (pc := 1) dX8_around_1 rfl rfl ?_
  obtain ⟨g33, h⟩ := bt h
  obtain ⟨r1, e2, h⟩ := ob h
  refine x_callV (av := [.int l1]) (st := []) (pc := 2) dX8_around_2 (E_X8_isPerson (d := d + 2) e2) rfl (Nat.le_of_ble_eq_true rfl) zc_X8_isPerson rfl zm_X8_190 zi_X8_isPerson zs_X8_isPerson (zac_ok g33) (by decide) rfl rfl (zst_ok rfl (Nat.le_of_ble_eq_true rfl)) rfl ?_
  refine x_if_eq (pc := 5) dX8_around_5 (t := 16) rfl (fun c3 => ?_) (fun c3 => ?_)
  · rw [if_pos c3] at h
    refine x_ldc (pc := 16) dX8_around_16 zk_X8_163 ?_
    obtain ⟨rfl, rfl⟩ := s2 h
    exact y_retI (pc := 18) dX8_around_18 rfl
  · rw [if_neg c3] at h
    refine x_aload_n (pc := 8) dX8_around_8 rfl rfl hl0 ?_
    refine x_iload_n (pc := 9) dX8_around_9 rfl rfl ?_
    obtain ⟨g32, h⟩ := bt h
    obtain ⟨r4, e5, h⟩ := ob h
    refine x_callV (av := [.int l2]) (st := []) (pc := 10) dX8_around_10 (E_X8_isWord (d := d + 2) e5) rfl (Nat.le_of_ble_eq_true rfl) zc_X8_isWord rfl zm_X8_159 zi_X8_isWord zs_X8_isWord (zac_ok g32) (by decide) rfl rfl (zst_ok rfl (Nat.le_of_ble_eq_true rfl)) rfl ?_
    refine x_if_ne (pc := 13) dX8_around_13 (t := 19) rfl (fun c6 => ?_) (fun c6 => ?_)
    · rw [if_neg c6] at h
      refine x_iload_n (pc := 19) dX8_around_19 rfl rfl ?_
      refine x_if_lt (pc := 20) dX8_around_20 (t := 28) rfl (fun c7 => ?_) (fun c7 => ?_)
      · rw [if_pos c7] at h
        refine x_ldc (pc := 28) dX8_around_28 zk_X8_78 ?_
        obtain ⟨rfl, rfl⟩ := s2 h
        exact y_retI (pc := 30) dX8_around_30 rfl
      · rw [if_neg c7] at h
        refine x_iload_n (pc := 23) dX8_around_23 rfl rfl ?_
        refine x_iconst (pc := 24) dX8_around_24 (v := 2) rfl ?_
        refine x_icmp_lt (pc := 25) dX8_around_25 (t := 31) rfl (fun c8 => ?_) (fun c8 => ?_)
        · rw [if_pos c8] at h
          refine x_aload_n (pc := 31) dX8_around_31 rfl rfl hl0 ?_
          obtain ⟨v9, e10, h⟩ := ob h
          refine y_getR (pc := 32) dX8_around_32 zf_X8_19 e10 ?_
          refine x_iload_n (pc := 35) dX8_around_35 rfl rfl ?_
          refine x_iload_n (pc := 36) dX8_around_36 rfl rfl ?_
          obtain ⟨g31, h⟩ := bt h
          obtain ⟨r11, e12, h⟩ := ob h
          refine x_callV (av := [.int l2, .int l3]) (st := []) (pc := 37) dX8_around_37 (E_X7_wayRound (d := d + 2) e12) rfl (Nat.le_of_ble_eq_true rfl) zc_X7_wayRound rfl zm_X8_183 zi_X7_wayRound zs_X7_wayRound (zac_ok g31) (by decide) rfl rfl (zst_ok rfl (Nat.le_of_ble_eq_true rfl)) rfl ?_
          refine x_istore (pc := 40) dX8_around_40 (by decide) rfl ?_
          refine x_aload_n (pc := 42) dX8_around_42 rfl rfl hl0 ?_
          obtain ⟨v13, e14, h⟩ := ob h
          refine y_getR (pc := 43) dX8_around_43 zf_X8_29 e14 ?_
          refine x_iload_n (pc := 46) dX8_around_46 rfl rfl ?_
          refine x_iload (pc := 47) dX8_around_47 rfl ?_
          obtain ⟨g30, h⟩ := bt h
          obtain ⟨r15, e16, h⟩ := ob h
          refine x_callV (av := [.int l1, .int r11]) (st := []) (pc := 49) dX8_around_49 (E_X5_canGo (d := d) e16) rfl (Nat.le_of_ble_eq_true rfl) zc_X5_canGo rfl zm_X8_236 zi_X5_canGo zs_X5_canGo (zac_ok g30) (by decide) rfl rfl (zst_ok rfl (Nat.le_of_ble_eq_true rfl)) rfl ?_
          refine x_if_ne (pc := 52) dX8_around_52 (t := 58) rfl (fun c17 => ?_) (fun c17 => ?_)
          · rw [if_neg c17] at h
            refine x_aload_n (pc := 58) dX8_around_58 rfl rfl hl0 ?_
            obtain ⟨v18, e19, h⟩ := ob h
            refine y_getR (pc := 59) dX8_around_59 zf_X8_39 e19 ?_
            refine x_aload_n (pc := 62) dX8_around_62 rfl rfl hl0 ?_
            obtain ⟨v20, e21, h⟩ := ob h
            refine y_getR (pc := 63) dX8_around_63 zf_X8_29 e21 ?_
            obtain ⟨g29, h⟩ := bt h
            obtain ⟨M22, e23, h⟩ := ob h
            refine x_callV (av := [.ref v20]) (st := []) (pc := 66) dX8_around_66 (E_X3_remember (d := d + 1) e23) rfl (Nat.le_of_ble_eq_true rfl) zc_X3_remember rfl zm_X8_218 zi_X3_remember zs_X3_remember (zac_ok g29) (by decide) rfl rfl (zst_ok rfl (Nat.le_of_ble_eq_true rfl)) rfl ?_
            refine x_aload_n (pc := 69) dX8_around_69 rfl rfl hl0 ?_
            obtain ⟨v24, e25, h⟩ := ob h
            refine y_getR (pc := 70) dX8_around_70 zf_X8_29 e25 ?_
            refine x_iload_n (pc := 73) dX8_around_73 rfl rfl ?_
            refine x_iload (pc := 74) dX8_around_74 rfl ?_
            obtain ⟨g28, h⟩ := bt h
            obtain ⟨M26, e27, h⟩ := ob h
            refine x_callV (av := [.int l1, .int r11]) (st := []) (pc := 76) dX8_around_76 (E_X5_go (d := d) e27) rfl (Nat.le_of_ble_eq_true rfl) zc_X5_go rfl zm_X8_239 zi_X5_go zs_X5_go (zac_ok g28) (by decide) rfl rfl (zst_ok rfl (Nat.le_of_ble_eq_true rfl)) rfl ?_
            refine x_iload (pc := 79) dX8_around_79 rfl ?_
            obtain ⟨rfl, rfl⟩ := s2 h
            exact y_retI (pc := 81) dX8_around_81 rfl
          · rw [if_pos c17] at h
            refine x_ldc (pc := 55) dX8_around_55 zk_X8_228 ?_
            obtain ⟨rfl, rfl⟩ := s2 h
            exact y_retI (pc := 57) dX8_around_57 rfl
        · rw [if_neg c8] at h
          refine x_ldc (pc := 28) dX8_around_28 zk_X8_78 ?_
          obtain ⟨rfl, rfl⟩ := s2 h
          exact y_retI (pc := 30) dX8_around_30 rfl
    · rw [if_pos c6] at h
      refine x_ldc (pc := 16) dX8_around_16 zk_X8_163 ?_
      obtain ⟨rfl, rfl⟩ := s2 h
      exact y_retI (pc := 18) dX8_around_18 rfl
def f_X8_point (l0 : Nat) (l1 : Int32) (M : zM) : Option (Int32 × zM) := bif Nat.ble 1 l0 then (bif zac M l0 8 13 then ((f_X8_isWord l0 l1 M).bind fun r1 => if r1 = 0 then (some ((-1000000001), M)) else ((oR M l0 8 13 1).bind fun v4 => bif zac M v4 7 15 then ((f_X7_canPoint v4 l1 M).bind fun r6 => if r6 = 0 then (some ((-1000000003), M)) else ((oR M l0 8 13 5).bind fun v9 => (oR M l0 8 13 3).bind fun v11 => bif zac M v9 3 3 then ((f_X3_remember v9 v11 M).bind fun M13 => (oR M13 l0 8 13 3).bind fun v15 => bif zac M13 v15 5 9 then ((f_X5_gesture v15 M13).bind fun M17 => (oR M17 l0 8 13 3).bind fun v19 => (oI M17 v19 5 9 8).bind fun v21 => some (v21, M17)) else none) else none)) else none)) else none) else none
theorem E_X8_point {G : zG} {d : Nat} {l0 : Nat} {l1 : Int32} {M MR : zM} {r : Int32} (h : f_X8_point l0 l1 M = some (r, MR)) : Ex G (d + 2) yX8_point cX8_point 2 (some .int) 0 (zent0 [.ref l0, .int l1] 2) [] M (some (.int r), MR) := by
  unfold f_X8_point at h
  obtain ⟨zz0, h⟩ := bt h
  have hl0 := bz zz0
  show Ex _ _ _ _ _ _ 0 [.ref l0, .int l1] [] _ _
  refine x_aload_n (pc := 0) dX8_point_0 rfl rfl hl0 ?_
  refine x_iload_n (pc := 1) dX8_point_1 rfl rfl ?_
  obtain ⟨g26, h⟩ := bt h
  obtain ⟨r1, e2, h⟩ := ob h
  refine x_callV (av := [.int l1]) (st := []) (pc := 2) dX8_point_2 (E_X8_isWord (d := d + 1) e2) rfl (Nat.le_of_ble_eq_true rfl) zc_X8_isWord rfl zm_X8_159 zi_X8_isWord zs_X8_isWord (zac_ok g26) (by decide) rfl rfl (zst_ok rfl (Nat.le_of_ble_eq_true rfl)) rfl ?_
  refine x_if_ne (pc := 5) dX8_point_5 (t := 11) rfl (fun c3 => ?_) (fun c3 => ?_)
  · rw [if_neg c3] at h
    refine x_aload_n (pc := 11) dX8_point_11 rfl rfl hl0 ?_
    obtain ⟨v4, e5, h⟩ := ob h
    refine y_getR (pc := 12) dX8_point_12 zf_X8_19 e5 ?_
    refine x_iload_n (pc := 15) dX8_point_15 rfl rfl ?_
    obtain ⟨g25, h⟩ := bt h
    obtain ⟨r6, e7, h⟩ := ob h
    refine x_callV (av := [.int l1]) (st := []) (pc := 16) dX8_point_16 (E_X7_canPoint (d := d + 1) e7) rfl (Nat.le_of_ble_eq_true rfl) zc_X7_canPoint rfl zm_X8_187 zi_X7_canPoint zs_X7_canPoint (zac_ok g25) (by decide) rfl rfl (zst_ok rfl (Nat.le_of_ble_eq_true rfl)) rfl ?_
    refine x_if_ne (pc := 19) dX8_point_19 (t := 25) rfl (fun c8 => ?_) (fun c8 => ?_)
    · rw [if_neg c8] at h
      refine x_aload_n (pc := 25) dX8_point_25 rfl rfl hl0 ?_
      obtain ⟨v9, e10, h⟩ := ob h
      refine y_getR (pc := 26) dX8_point_26 zf_X8_39 e10 ?_
      refine x_aload_n (pc := 29) dX8_point_29 rfl rfl hl0 ?_
      obtain ⟨v11, e12, h⟩ := ob h
      refine y_getR (pc := 30) dX8_point_30 zf_X8_29 e12 ?_
      obtain ⟨g24, h⟩ := bt h
      obtain ⟨M13, e14, h⟩ := ob h
      refine x_callV (av := [.ref v11]) (st := []) (pc := 33) dX8_point_33 (E_X3_remember (d := d) e14) rfl (Nat.le_of_ble_eq_true rfl) zc_X3_remember rfl zm_X8_218 zi_X3_remember zs_X3_remember (zac_ok g24) (by decide) rfl rfl (zst_ok rfl (Nat.le_of_ble_eq_true rfl)) rfl ?_
      refine x_aload_n (pc := 36) dX8_point_36 rfl rfl hl0 ?_
      obtain ⟨v15, e16, h⟩ := ob h
      refine y_getR (pc := 37) dX8_point_37 zf_X8_29 e16 ?_
      obtain ⟨g23, h⟩ := bt h
      obtain ⟨M17, e18, h⟩ := ob h
      refine x_callV (av := []) (st := []) (pc := 40) dX8_point_40 (E_X5_gesture (d := d) e18) rfl (Nat.le_of_ble_eq_true rfl) zc_X5_gesture rfl zm_X8_242 zi_X5_gesture zs_X5_gesture (zac_ok g23) (by decide) rfl rfl (zst_ok rfl (Nat.le_of_ble_eq_true rfl)) rfl ?_
      refine x_aload_n (pc := 43) dX8_point_43 rfl rfl hl0 ?_
      obtain ⟨v19, e20, h⟩ := ob h
      refine y_getR (pc := 44) dX8_point_44 zf_X8_29 e20 ?_
      obtain ⟨v21, e22, h⟩ := ob h
      refine y_getI (pc := 47) dX8_point_47 zf_X8_148 e22 (by decide) ?_
      obtain ⟨rfl, rfl⟩ := s2 h
      exact y_retI (pc := 50) dX8_point_50 rfl
    · rw [if_pos c8] at h
      refine x_ldc (pc := 22) dX8_point_22 zk_X8_228 ?_
      obtain ⟨rfl, rfl⟩ := s2 h
      exact y_retI (pc := 24) dX8_point_24 rfl
  · rw [if_pos c3] at h
    refine x_ldc (pc := 8) dX8_point_8 zk_X8_163 ?_
    obtain ⟨rfl, rfl⟩ := s2 h
    exact y_retI (pc := 10) dX8_point_10 rfl
def f_X8_hoard (l0 : Nat) (l1 : Int32) (l2 : Int32) (l3 : Int32) (M : zM) : Option (Int32 × zM) := bif Nat.ble 1 l0 then (bif zac M l0 8 13 then ((f_X8_isPerson l0 l1 M).bind fun r1 => if r1 = 0 then (some ((-1000000001), M)) else (bif zac M l0 8 13 then ((f_X8_isWord l0 l2 M).bind fun r4 => if r4 = 0 then (some ((-1000000001), M)) else (if l3 < 1 then (some ((-1000000002), M)) else (if l3 ≤ 99 then ((oR M l0 8 13 3).bind fun v9 => (oR M v9 5 9 1).bind fun v11 => (aI M v11 l2).bind fun v13 => if l3 ≤ v13 then ((oR M l0 8 13 5).bind fun v16 => (oR M l0 8 13 3).bind fun v18 => bif zac M v16 3 3 then ((f_X3_remember v16 v18 M).bind fun M20 => (oR M20 l0 8 13 3).bind fun v22 => bif zac M20 v22 5 9 then ((f_X5_store v22 l1 l2 l3 M20).bind fun M24 => (oR M24 l0 8 13 3).bind fun v26 => bif zac M24 v26 5 9 then ((f_X5_hoardedBy v26 l1 l2 M24).bind fun r28 => some (r28, M24)) else none) else none) else none) else (some ((-1000000003), M))) else (some ((-1000000002), M))))) else none)) else none) else none
theorem E_X8_hoard {G : zG} {d : Nat} {l0 : Nat} {l1 : Int32} {l2 : Int32} {l3 : Int32} {M MR : zM} {r : Int32} (h : f_X8_hoard l0 l1 l2 l3 M = some (r, MR)) : Ex G (d + 2) yX8_hoard cX8_hoard 4 (some .int) 0 (zent0 [.ref l0, .int l1, .int l2, .int l3] 4) [] M (some (.int r), MR) := by
  unfold f_X8_hoard at h
  obtain ⟨zz0, h⟩ := bt h
  have hl0 := bz zz0
  show Ex _ _ _ _ _ _ 0 [.ref l0, .int l1, .int l2, .int l3] [] _ _
  refine x_aload_n (pc := 0) dX8_hoard_0 rfl rfl hl0 ?_
  refine x_iload_n (pc := 1) dX8_hoard_1 rfl rfl ?_
  obtain ⟨g34, h⟩ := bt h
  obtain ⟨r1, e2, h⟩ := ob h
  refine x_callV (av := [.int l1]) (st := []) (pc := 2) dX8_hoard_2 (E_X8_isPerson (d := d + 1) e2) rfl (Nat.le_of_ble_eq_true rfl) zc_X8_isPerson rfl zm_X8_190 zi_X8_isPerson zs_X8_isPerson (zac_ok g34) (by decide) rfl rfl (zst_ok rfl (Nat.le_of_ble_eq_true rfl)) rfl ?_
  refine x_if_eq (pc := 5) dX8_hoard_5 (t := 16) rfl (fun c3 => ?_) (fun c3 => ?_)
  · rw [if_pos c3] at h
    refine x_ldc (pc := 16) dX8_hoard_16 zk_X8_163 ?_
    obtain ⟨rfl, rfl⟩ := s2 h
    exact y_retI (pc := 18) dX8_hoard_18 rfl
  · rw [if_neg c3] at h
    refine x_aload_n (pc := 8) dX8_hoard_8 rfl rfl hl0 ?_
    refine x_iload_n (pc := 9) dX8_hoard_9 rfl rfl ?_
    obtain ⟨g33, h⟩ := bt h
    obtain ⟨r4, e5, h⟩ := ob h
    refine x_callV (av := [.int l2]) (st := []) (pc := 10) dX8_hoard_10 (E_X8_isWord (d := d + 1) e5) rfl (Nat.le_of_ble_eq_true rfl) zc_X8_isWord rfl zm_X8_159 zi_X8_isWord zs_X8_isWord (zac_ok g33) (by decide) rfl rfl (zst_ok rfl (Nat.le_of_ble_eq_true rfl)) rfl ?_
    refine x_if_ne (pc := 13) dX8_hoard_13 (t := 19) rfl (fun c6 => ?_) (fun c6 => ?_)
    · rw [if_neg c6] at h
      refine x_iload_n (pc := 19) dX8_hoard_19 rfl rfl ?_
      refine x_iconst (pc := 20) dX8_hoard_20 (v := 1) rfl ?_
      refine x_icmp_lt (pc := 21) dX8_hoard_21 (t := 30) rfl (fun c7 => ?_) (fun c7 => ?_)
      · rw [if_pos c7] at h
        refine x_ldc (pc := 30) dX8_hoard_30 zk_X8_78 ?_
        obtain ⟨rfl, rfl⟩ := s2 h
        exact y_retI (pc := 32) dX8_hoard_32 rfl
      · rw [if_neg c7] at h
        refine x_iload_n (pc := 24) dX8_hoard_24 rfl rfl ?_
        refine x_bipush (pc := 25) dX8_hoard_25 (v := 99) (by decide) ?_
        refine x_icmp_le (pc := 27) dX8_hoard_27 (t := 33) rfl (fun c8 => ?_) (fun c8 => ?_)
        · rw [if_pos c8] at h
          refine x_aload_n (pc := 33) dX8_hoard_33 rfl rfl hl0 ?_
          obtain ⟨v9, e10, h⟩ := ob h
          refine y_getR (pc := 34) dX8_hoard_34 zf_X8_29 e10 ?_
          obtain ⟨v11, e12, h⟩ := ob h
          refine y_getR (pc := 37) dX8_hoard_37 zf_X8_173 e12 ?_
          refine x_iload_n (pc := 40) dX8_hoard_40 rfl rfl ?_
          obtain ⟨v13, e14, h⟩ := ob h
          refine y_iald (pc := 41) dX8_hoard_41 e14 ?_
          refine x_iload_n (pc := 42) dX8_hoard_42 rfl rfl ?_
          refine x_icmp_ge (pc := 43) dX8_hoard_43 (t := 49) rfl (fun c15 => ?_) (fun c15 => ?_)
          · rw [if_pos c15] at h
            refine x_aload_n (pc := 49) dX8_hoard_49 rfl rfl hl0 ?_
            obtain ⟨v16, e17, h⟩ := ob h
            refine y_getR (pc := 50) dX8_hoard_50 zf_X8_39 e17 ?_
            refine x_aload_n (pc := 53) dX8_hoard_53 rfl rfl hl0 ?_
            obtain ⟨v18, e19, h⟩ := ob h
            refine y_getR (pc := 54) dX8_hoard_54 zf_X8_29 e19 ?_
            obtain ⟨g32, h⟩ := bt h
            obtain ⟨M20, e21, h⟩ := ob h
            refine x_callV (av := [.ref v18]) (st := []) (pc := 57) dX8_hoard_57 (E_X3_remember (d := d) e21) rfl (Nat.le_of_ble_eq_true rfl) zc_X3_remember rfl zm_X8_218 zi_X3_remember zs_X3_remember (zac_ok g32) (by decide) rfl rfl (zst_ok rfl (Nat.le_of_ble_eq_true rfl)) rfl ?_
            refine x_aload_n (pc := 60) dX8_hoard_60 rfl rfl hl0 ?_
            obtain ⟨v22, e23, h⟩ := ob h
            refine y_getR (pc := 61) dX8_hoard_61 zf_X8_29 e23 ?_
            refine x_iload_n (pc := 64) dX8_hoard_64 rfl rfl ?_
            refine x_iload_n (pc := 65) dX8_hoard_65 rfl rfl ?_
            refine x_iload_n (pc := 66) dX8_hoard_66 rfl rfl ?_
            obtain ⟨g31, h⟩ := bt h
            obtain ⟨M24, e25, h⟩ := ob h
            refine x_callV (av := [.int l1, .int l2, .int l3]) (st := []) (pc := 67) dX8_hoard_67 (E_X5_store (d := d) e25) rfl (Nat.le_of_ble_eq_true rfl) zc_X5_store rfl zm_X8_245 zi_X5_store zs_X5_store (zac_ok g31) (by decide) rfl rfl (zst_ok rfl (Nat.le_of_ble_eq_true rfl)) rfl ?_
            refine x_aload_n (pc := 70) dX8_hoard_70 rfl rfl hl0 ?_
            obtain ⟨v26, e27, h⟩ := ob h
            refine y_getR (pc := 71) dX8_hoard_71 zf_X8_29 e27 ?_
            refine x_iload_n (pc := 74) dX8_hoard_74 rfl rfl ?_
            refine x_iload_n (pc := 75) dX8_hoard_75 rfl rfl ?_
            obtain ⟨g30, h⟩ := bt h
            obtain ⟨r28, e29, h⟩ := ob h
            refine x_callV (av := [.int l1, .int l2]) (st := []) (pc := 76) dX8_hoard_76 (E_X5_hoardedBy (d := d + 1) e29) rfl (Nat.le_of_ble_eq_true rfl) zc_X5_hoardedBy rfl zm_X8_193 zi_X5_hoardedBy zs_X5_hoardedBy (zac_ok g30) (by decide) rfl rfl (zst_ok rfl (Nat.le_of_ble_eq_true rfl)) rfl ?_
            obtain ⟨rfl, rfl⟩ := s2 h
            exact y_retI (pc := 79) dX8_hoard_79 rfl
          · rw [if_neg c15] at h
            refine x_ldc (pc := 46) dX8_hoard_46 zk_X8_228 ?_
            obtain ⟨rfl, rfl⟩ := s2 h
            exact y_retI (pc := 48) dX8_hoard_48 rfl
        · rw [if_neg c8] at h
          refine x_ldc (pc := 30) dX8_hoard_30 zk_X8_78 ?_
          obtain ⟨rfl, rfl⟩ := s2 h
          exact y_retI (pc := 32) dX8_hoard_32 rfl
    · rw [if_pos c6] at h
      refine x_ldc (pc := 16) dX8_hoard_16 zk_X8_163 ?_
      obtain ⟨rfl, rfl⟩ := s2 h
      exact y_retI (pc := 18) dX8_hoard_18 rfl
def f_X8_sell (l0 : Nat) (l1 : Int32) (l2 : Int32) (l3 : Int32) (l4 : Int32) (M : zM) : Option (Int32 × zM) := bif Nat.ble 1 l0 then (bif zac M l0 8 13 then ((f_X8_isPerson l0 l1 M).bind fun r1 => if r1 = 0 then (some ((-1000000001), M)) else (bif zac M l0 8 13 then ((f_X8_isPerson l0 l2 M).bind fun r4 => if r4 = 0 then (some ((-1000000001), M)) else (if l1 = l2 then (some ((-1000000001), M)) else (bif zac M l0 8 13 then ((f_X8_isWord l0 l3 M).bind fun r8 => if r8 = 0 then (some ((-1000000001), M)) else (if l4 < 1 then (some ((-1000000002), M)) else (if l4 ≤ 99 then ((oR M l0 8 13 3).bind fun v13 => bif zac M v13 5 9 then ((f_X5_hoardedBy v13 l1 l3 M).bind fun r15 => if l4 ≤ r15 then ((oR M l0 8 13 5).bind fun v18 => (oR M l0 8 13 3).bind fun v20 => bif zac M v18 3 3 then ((f_X3_remember v18 v20 M).bind fun M22 => (oR M22 l0 8 13 3).bind fun v24 => bif zac M22 v24 5 9 then ((f_X5_addHoarded v24 l1 l3 (-l4) M22).bind fun M26 => (oR M26 l0 8 13 3).bind fun v28 => bif zac M26 v28 5 9 then ((f_X5_addHoarded v28 l2 l3 l4 M26).bind fun M30 => (oR M30 l0 8 13 3).bind fun v32 => bif zac M30 v32 5 9 then ((f_X5_hoardedBy v32 l2 l3 M30).bind fun r34 => some (r34, M30)) else none) else none) else none) else none) else (some ((-1000000003), M))) else none) else (some ((-1000000002), M))))) else none))) else none)) else none) else none
theorem E_X8_sell {G : zG} {d : Nat} {l0 : Nat} {l1 : Int32} {l2 : Int32} {l3 : Int32} {l4 : Int32} {M MR : zM} {r : Int32} (h : f_X8_sell l0 l1 l2 l3 l4 M = some (r, MR)) : Ex G (d + 2) yX8_sell cX8_sell 5 (some .int) 0 (zent0 [.ref l0, .int l1, .int l2, .int l3, .int l4] 5) [] M (some (.int r), MR) := by
  unfold f_X8_sell at h
  obtain ⟨zz0, h⟩ := bt h
  have hl0 := bz zz0
  show Ex _ _ _ _ _ _ 0 [.ref l0, .int l1, .int l2, .int l3, .int l4] [] _ _
  refine x_aload_n (pc := 0) dX8_sell_0 rfl rfl hl0 ?_
  refine x_iload_n (pc := 1) dX8_sell_1 rfl rfl ?_
  obtain ⟨g43, h⟩ := bt h
  obtain ⟨r1, e2, h⟩ := ob h
  refine x_callV (av := [.int l1]) (st := []) (pc := 2) dX8_sell_2 (E_X8_isPerson (d := d + 1) e2) rfl (Nat.le_of_ble_eq_true rfl) zc_X8_isPerson rfl zm_X8_190 zi_X8_isPerson zs_X8_isPerson (zac_ok g43) (by decide) rfl rfl (zst_ok rfl (Nat.le_of_ble_eq_true rfl)) rfl ?_
  refine x_if_eq (pc := 5) dX8_sell_5 (t := 29) rfl (fun c3 => ?_) (fun c3 => ?_)
  · rw [if_pos c3] at h
    refine x_ldc (pc := 29) dX8_sell_29 zk_X8_163 ?_
    obtain ⟨rfl, rfl⟩ := s2 h
    exact y_retI (pc := 31) dX8_sell_31 rfl
  · rw [if_neg c3] at h
    refine x_aload_n (pc := 8) dX8_sell_8 rfl rfl hl0 ?_
    refine x_iload_n (pc := 9) dX8_sell_9 rfl rfl ?_
    obtain ⟨g42, h⟩ := bt h
    obtain ⟨r4, e5, h⟩ := ob h
    refine x_callV (av := [.int l2]) (st := []) (pc := 10) dX8_sell_10 (E_X8_isPerson (d := d + 1) e5) rfl (Nat.le_of_ble_eq_true rfl) zc_X8_isPerson rfl zm_X8_190 zi_X8_isPerson zs_X8_isPerson (zac_ok g42) (by decide) rfl rfl (zst_ok rfl (Nat.le_of_ble_eq_true rfl)) rfl ?_
    refine x_if_eq (pc := 13) dX8_sell_13 (t := 29) rfl (fun c6 => ?_) (fun c6 => ?_)
    · rw [if_pos c6] at h
      refine x_ldc (pc := 29) dX8_sell_29 zk_X8_163 ?_
      obtain ⟨rfl, rfl⟩ := s2 h
      exact y_retI (pc := 31) dX8_sell_31 rfl
    · rw [if_neg c6] at h
      refine x_iload_n (pc := 16) dX8_sell_16 rfl rfl ?_
      refine x_iload_n (pc := 17) dX8_sell_17 rfl rfl ?_
      refine x_icmp_eq (pc := 18) dX8_sell_18 (t := 29) rfl (fun c7 => ?_) (fun c7 => ?_)
      · rw [if_pos c7] at h
        refine x_ldc (pc := 29) dX8_sell_29 zk_X8_163 ?_
        obtain ⟨rfl, rfl⟩ := s2 h
        exact y_retI (pc := 31) dX8_sell_31 rfl
      · rw [if_neg c7] at h
        refine x_aload_n (pc := 21) dX8_sell_21 rfl rfl hl0 ?_
        refine x_iload_n (pc := 22) dX8_sell_22 rfl rfl ?_
        obtain ⟨g41, h⟩ := bt h
        obtain ⟨r8, e9, h⟩ := ob h
        refine x_callV (av := [.int l3]) (st := []) (pc := 23) dX8_sell_23 (E_X8_isWord (d := d + 1) e9) rfl (Nat.le_of_ble_eq_true rfl) zc_X8_isWord rfl zm_X8_159 zi_X8_isWord zs_X8_isWord (zac_ok g41) (by decide) rfl rfl (zst_ok rfl (Nat.le_of_ble_eq_true rfl)) rfl ?_
        refine x_if_ne (pc := 26) dX8_sell_26 (t := 32) rfl (fun c10 => ?_) (fun c10 => ?_)
        · rw [if_neg c10] at h
          refine x_iload (pc := 32) dX8_sell_32 rfl ?_
          refine x_iconst (pc := 34) dX8_sell_34 (v := 1) rfl ?_
          refine x_icmp_lt (pc := 35) dX8_sell_35 (t := 45) rfl (fun c11 => ?_) (fun c11 => ?_)
          · rw [if_pos c11] at h
            refine x_ldc (pc := 45) dX8_sell_45 zk_X8_78 ?_
            obtain ⟨rfl, rfl⟩ := s2 h
            exact y_retI (pc := 47) dX8_sell_47 rfl
          · rw [if_neg c11] at h
            refine x_iload (pc := 38) dX8_sell_38 rfl ?_
            refine x_bipush (pc := 40) dX8_sell_40 (v := 99) (by decide) ?_
            refine x_icmp_le (pc := 42) dX8_sell_42 (t := 48) rfl (fun c12 => ?_) (fun c12 => ?_)
            · rw [if_pos c12] at h
              refine x_aload_n (pc := 48) dX8_sell_48 rfl rfl hl0 ?_
              obtain ⟨v13, e14, h⟩ := ob h
              refine y_getR (pc := 49) dX8_sell_49 zf_X8_29 e14 ?_
              refine x_iload_n (pc := 52) dX8_sell_52 rfl rfl ?_
              refine x_iload_n (pc := 53) dX8_sell_53 rfl rfl ?_
              obtain ⟨g40, h⟩ := bt h
              obtain ⟨r15, e16, h⟩ := ob h
              refine x_callV (av := [.int l1, .int l3]) (st := []) (pc := 54) dX8_sell_54 (E_X5_hoardedBy (d := d + 1) e16) rfl (Nat.le_of_ble_eq_true rfl) zc_X5_hoardedBy rfl zm_X8_193 zi_X5_hoardedBy zs_X5_hoardedBy (zac_ok g40) (by decide) rfl rfl (zst_ok rfl (Nat.le_of_ble_eq_true rfl)) rfl ?_
              refine x_iload (pc := 57) dX8_sell_57 rfl ?_
              refine x_icmp_ge (pc := 59) dX8_sell_59 (t := 65) rfl (fun c17 => ?_) (fun c17 => ?_)
              · rw [if_pos c17] at h
                refine x_aload_n (pc := 65) dX8_sell_65 rfl rfl hl0 ?_
                obtain ⟨v18, e19, h⟩ := ob h
                refine y_getR (pc := 66) dX8_sell_66 zf_X8_39 e19 ?_
                refine x_aload_n (pc := 69) dX8_sell_69 rfl rfl hl0 ?_
                obtain ⟨v20, e21, h⟩ := ob h
                refine y_getR (pc := 70) dX8_sell_70 zf_X8_29 e21 ?_
                obtain ⟨g39, h⟩ := bt h
                obtain ⟨M22, e23, h⟩ := ob h
                refine x_callV (av := [.ref v20]) (st := []) (pc := 73) dX8_sell_73 (E_X3_remember (d := d) e23) rfl (Nat.le_of_ble_eq_true rfl) zc_X3_remember rfl zm_X8_218 zi_X3_remember zs_X3_remember (zac_ok g39) (by decide) rfl rfl (zst_ok rfl (Nat.le_of_ble_eq_true rfl)) rfl ?_
                refine x_aload_n (pc := 76) dX8_sell_76 rfl rfl hl0 ?_
                obtain ⟨v24, e25, h⟩ := ob h
                refine y_getR (pc := 77) dX8_sell_77 zf_X8_29 e25 ?_
                refine x_iload_n (pc := 80) dX8_sell_80 rfl rfl ?_
                refine x_iload_n (pc := 81) dX8_sell_81 rfl rfl ?_
                refine x_iload (pc := 82) dX8_sell_82 rfl ?_
                refine x_ineg (pc := 84) dX8_sell_84 ?_
                obtain ⟨g38, h⟩ := bt h
                obtain ⟨M26, e27, h⟩ := ob h
                refine x_callV (av := [.int l1, .int l3, .int (-l4)]) (st := []) (pc := 85) dX8_sell_85 (E_X5_addHoarded (d := d + 1) e27) rfl (Nat.le_of_ble_eq_true rfl) zc_X5_addHoarded rfl zm_X8_249 zi_X5_addHoarded zs_X5_addHoarded (zac_ok g38) (by decide) rfl rfl (zst_ok rfl (Nat.le_of_ble_eq_true rfl)) rfl ?_
                refine x_aload_n (pc := 88) dX8_sell_88 rfl rfl hl0 ?_
                obtain ⟨v28, e29, h⟩ := ob h
                refine y_getR (pc := 89) dX8_sell_89 zf_X8_29 e29 ?_
                refine x_iload_n (pc := 92) dX8_sell_92 rfl rfl ?_
                refine x_iload_n (pc := 93) dX8_sell_93 rfl rfl ?_
                refine x_iload (pc := 94) dX8_sell_94 rfl ?_
                obtain ⟨g37, h⟩ := bt h
                obtain ⟨M30, e31, h⟩ := ob h
                refine x_callV (av := [.int l2, .int l3, .int l4]) (st := []) (pc := 96) dX8_sell_96 (E_X5_addHoarded (d := d + 1) e31) rfl (Nat.le_of_ble_eq_true rfl) zc_X5_addHoarded rfl zm_X8_249 zi_X5_addHoarded zs_X5_addHoarded (zac_ok g37) (by decide) rfl rfl (zst_ok rfl (Nat.le_of_ble_eq_true rfl)) rfl ?_
                refine x_aload_n (pc := 99) dX8_sell_99 rfl rfl hl0 ?_
                obtain ⟨v32, e33, h⟩ := ob h
                refine y_getR (pc := 100) dX8_sell_100 zf_X8_29 e33 ?_
                refine x_iload_n (pc := 103) dX8_sell_103 rfl rfl ?_
                refine x_iload_n (pc := 104) dX8_sell_104 rfl rfl ?_
                obtain ⟨g36, h⟩ := bt h
                obtain ⟨r34, e35, h⟩ := ob h
                refine x_callV (av := [.int l2, .int l3]) (st := []) (pc := 105) dX8_sell_105 (E_X5_hoardedBy (d := d + 1) e35) rfl (Nat.le_of_ble_eq_true rfl) zc_X5_hoardedBy rfl zm_X8_193 zi_X5_hoardedBy zs_X5_hoardedBy (zac_ok g36) (by decide) rfl rfl (zst_ok rfl (Nat.le_of_ble_eq_true rfl)) rfl ?_
                obtain ⟨rfl, rfl⟩ := s2 h
                exact y_retI (pc := 108) dX8_sell_108 rfl
              · rw [if_neg c17] at h
                refine x_ldc (pc := 62) dX8_sell_62 zk_X8_228 ?_
                obtain ⟨rfl, rfl⟩ := s2 h
                exact y_retI (pc := 64) dX8_sell_64 rfl
            · rw [if_neg c12] at h
              refine x_ldc (pc := 45) dX8_sell_45 zk_X8_78 ?_
              obtain ⟨rfl, rfl⟩ := s2 h
              exact y_retI (pc := 47) dX8_sell_47 rfl
        · rw [if_pos c10] at h
          refine x_ldc (pc := 29) dX8_sell_29 zk_X8_163 ?_
          obtain ⟨rfl, rfl⟩ := s2 h
          exact y_retI (pc := 31) dX8_sell_31 rfl
def f_X8_raise (l0 : Nat) (l1 : Int32) (l2 : Int32) (M : zM) : Option (Int32 × zM) := bif Nat.ble 1 l0 then (bif zac M l0 8 13 then ((f_X8_isWord l0 l1 M).bind fun r1 => if r1 = 0 then (some ((-1000000001), M)) else (if l2 < 1 then (some ((-1000000002), M)) else (if l2 ≤ 99 then ((oR M l0 8 13 3).bind fun v6 => (oR M v6 5 9 0).bind fun v8 => (aI M v8 l1).bind fun v10 => if v10 + l2 ≤ 99 then ((oR M l0 8 13 5).bind fun v13 => (oR M l0 8 13 3).bind fun v15 => bif zac M v13 3 3 then ((f_X3_remember v13 v15 M).bind fun M17 => (oR M17 l0 8 13 3).bind fun v19 => (oR M17 v19 5 9 0).bind fun v21 => (aI M17 v21 l1).bind fun v23 => (sI M17 v21 l1 (v23 + l2)).bind fun M25 => (oR M25 l0 8 13 3).bind fun v27 => (oR M25 v27 5 9 1).bind fun v29 => (aI M25 v29 l1).bind fun v31 => (sI M25 v29 l1 (v31 + l2)).bind fun M33 => (oR M33 l0 8 13 3).bind fun v35 => (oR M33 v35 5 9 0).bind fun v37 => (aI M33 v37 l1).bind fun v39 => some (v39, M33)) else none) else (some ((-1000000003), M))) else (some ((-1000000002), M))))) else none) else none
theorem E_X8_raise {G : zG} {d : Nat} {l0 : Nat} {l1 : Int32} {l2 : Int32} {M MR : zM} {r : Int32} (h : f_X8_raise l0 l1 l2 M = some (r, MR)) : Ex G (d + 2) yX8_raise cX8_raise 3 (some .int) 0 (zent0 [.ref l0, .int l1, .int l2] 3) [] M (some (.int r), MR) := by
  unfold f_X8_raise at h
  obtain ⟨zz0, h⟩ := bt h
  have hl0 := bz zz0
  show Ex _ _ _ _ _ _ 0 [.ref l0, .int l1, .int l2] [] _ _
  refine x_aload_n (pc := 0) dX8_raise_0 rfl rfl hl0 ?_
  refine x_iload_n (pc := 1) dX8_raise_1 rfl rfl ?_
  obtain ⟨g42, h⟩ := bt h
  obtain ⟨r1, e2, h⟩ := ob h
  refine x_callV (av := [.int l1]) (st := []) (pc := 2) dX8_raise_2 (E_X8_isWord (d := d + 1) e2) rfl (Nat.le_of_ble_eq_true rfl) zc_X8_isWord rfl zm_X8_159 zi_X8_isWord zs_X8_isWord (zac_ok g42) (by decide) rfl rfl (zst_ok rfl (Nat.le_of_ble_eq_true rfl)) rfl ?_
  refine x_if_ne (pc := 5) dX8_raise_5 (t := 11) rfl (fun c3 => ?_) (fun c3 => ?_)
  · rw [if_neg c3] at h
    refine x_iload_n (pc := 11) dX8_raise_11 rfl rfl ?_
    refine x_iconst (pc := 12) dX8_raise_12 (v := 1) rfl ?_
    refine x_icmp_lt (pc := 13) dX8_raise_13 (t := 22) rfl (fun c4 => ?_) (fun c4 => ?_)
    · rw [if_pos c4] at h
      refine x_ldc (pc := 22) dX8_raise_22 zk_X8_78 ?_
      obtain ⟨rfl, rfl⟩ := s2 h
      exact y_retI (pc := 24) dX8_raise_24 rfl
    · rw [if_neg c4] at h
      refine x_iload_n (pc := 16) dX8_raise_16 rfl rfl ?_
      refine x_bipush (pc := 17) dX8_raise_17 (v := 99) (by decide) ?_
      refine x_icmp_le (pc := 19) dX8_raise_19 (t := 25) rfl (fun c5 => ?_) (fun c5 => ?_)
      · rw [if_pos c5] at h
        refine x_aload_n (pc := 25) dX8_raise_25 rfl rfl hl0 ?_
        obtain ⟨v6, e7, h⟩ := ob h
        refine y_getR (pc := 26) dX8_raise_26 zf_X8_29 e7 ?_
        obtain ⟨v8, e9, h⟩ := ob h
        refine y_getR (pc := 29) dX8_raise_29 zf_X8_164 e9 ?_
        refine x_iload_n (pc := 32) dX8_raise_32 rfl rfl ?_
        obtain ⟨v10, e11, h⟩ := ob h
        refine y_iald (pc := 33) dX8_raise_33 e11 ?_
        refine x_iload_n (pc := 34) dX8_raise_34 rfl rfl ?_
        refine x_iadd (pc := 35) dX8_raise_35 ?_
        refine x_bipush (pc := 36) dX8_raise_36 (v := 99) (by decide) ?_
        refine x_icmp_le (pc := 38) dX8_raise_38 (t := 44) rfl (fun c12 => ?_) (fun c12 => ?_)
        · rw [if_pos c12] at h
          refine x_aload_n (pc := 44) dX8_raise_44 rfl rfl hl0 ?_
          obtain ⟨v13, e14, h⟩ := ob h
          refine y_getR (pc := 45) dX8_raise_45 zf_X8_39 e14 ?_
          refine x_aload_n (pc := 48) dX8_raise_48 rfl rfl hl0 ?_
          obtain ⟨v15, e16, h⟩ := ob h
          refine y_getR (pc := 49) dX8_raise_49 zf_X8_29 e16 ?_
          obtain ⟨g41, h⟩ := bt h
          obtain ⟨M17, e18, h⟩ := ob h
          refine x_callV (av := [.ref v15]) (st := []) (pc := 52) dX8_raise_52 (E_X3_remember (d := d) e18) rfl (Nat.le_of_ble_eq_true rfl) zc_X3_remember rfl zm_X8_218 zi_X3_remember zs_X3_remember (zac_ok g41) (by decide) rfl rfl (zst_ok rfl (Nat.le_of_ble_eq_true rfl)) rfl ?_
          refine x_aload_n (pc := 55) dX8_raise_55 rfl rfl hl0 ?_
          obtain ⟨v19, e20, h⟩ := ob h
          refine y_getR (pc := 56) dX8_raise_56 zf_X8_29 e20 ?_
          obtain ⟨v21, e22, h⟩ := ob h
          refine y_getR (pc := 59) dX8_raise_59 zf_X8_164 e22 ?_
          refine x_iload_n (pc := 62) dX8_raise_62 rfl rfl ?_
          refine x_dup2 (pc := 63) dX8_raise_63 rfl rv_cr ?_
          obtain ⟨v23, e24, h⟩ := ob h
          refine y_iald (pc := 64) dX8_raise_64 e24 ?_
          refine x_iload_n (pc := 65) dX8_raise_65 rfl rfl ?_
          refine x_iadd (pc := 66) dX8_raise_66 ?_
          obtain ⟨M25, e26, h⟩ := ob h
          refine y_iast (pc := 67) dX8_raise_67 e26 ?_
          refine x_aload_n (pc := 68) dX8_raise_68 rfl rfl hl0 ?_
          obtain ⟨v27, e28, h⟩ := ob h
          refine y_getR (pc := 69) dX8_raise_69 zf_X8_29 e28 ?_
          obtain ⟨v29, e30, h⟩ := ob h
          refine y_getR (pc := 72) dX8_raise_72 zf_X8_173 e30 ?_
          refine x_iload_n (pc := 75) dX8_raise_75 rfl rfl ?_
          refine x_dup2 (pc := 76) dX8_raise_76 rfl rv_cr ?_
          obtain ⟨v31, e32, h⟩ := ob h
          refine y_iald (pc := 77) dX8_raise_77 e32 ?_
          refine x_iload_n (pc := 78) dX8_raise_78 rfl rfl ?_
          refine x_iadd (pc := 79) dX8_raise_79 ?_
          obtain ⟨M33, e34, h⟩ := ob h
          refine y_iast (pc := 80) dX8_raise_80 e34 ?_
          refine x_aload_n (pc := 81) dX8_raise_81 rfl rfl hl0 ?_
          obtain ⟨v35, e36, h⟩ := ob h
          refine y_getR (pc := 82) dX8_raise_82 zf_X8_29 e36 ?_
          obtain ⟨v37, e38, h⟩ := ob h
          refine y_getR (pc := 85) dX8_raise_85 zf_X8_164 e38 ?_
          refine x_iload_n (pc := 88) dX8_raise_88 rfl rfl ?_
          obtain ⟨v39, e40, h⟩ := ob h
          refine y_iald (pc := 89) dX8_raise_89 e40 ?_
          obtain ⟨rfl, rfl⟩ := s2 h
          exact y_retI (pc := 90) dX8_raise_90 rfl
        · rw [if_neg c12] at h
          refine x_ldc (pc := 41) dX8_raise_41 zk_X8_228 ?_
          obtain ⟨rfl, rfl⟩ := s2 h
          exact y_retI (pc := 43) dX8_raise_43 rfl
      · rw [if_neg c5] at h
        refine x_ldc (pc := 22) dX8_raise_22 zk_X8_78 ?_
        obtain ⟨rfl, rfl⟩ := s2 h
        exact y_retI (pc := 24) dX8_raise_24 rfl
  · rw [if_pos c3] at h
    refine x_ldc (pc := 8) dX8_raise_8 zk_X8_163 ?_
    obtain ⟨rfl, rfl⟩ := s2 h
    exact y_retI (pc := 10) dX8_raise_10 rfl
def f_X8_drawOf (l0 : Nat) (l1 : Int32) (M : zM) : Option (Int32 × zM) := bif Nat.ble 1 l0 then ((oI M l0 8 13 12).bind fun v1 => (pI M l0 8 13 12 (Int64.toInt32 ((((Int32.toInt64 v1) * 1103515245) + 12345) &&& 2147483647))).bind fun M3 => if l1 ≤ 0 then (some (0, M3)) else ((oI M3 l0 8 13 12).bind fun v6 => (dv v6 65536).bind fun v8 => (rm v8 l1).bind fun v10 => some (v10, M3))) else none
theorem E_X8_drawOf {G : zG} {d : Nat} {l0 : Nat} {l1 : Int32} {M MR : zM} {r : Int32} (h : f_X8_drawOf l0 l1 M = some (r, MR)) : Ex G d yX8_drawOf cX8_drawOf 4 (some .int) 0 (zent0 [.ref l0, .int l1] 4) [] M (some (.int r), MR) := by
  unfold f_X8_drawOf at h
  obtain ⟨zz0, h⟩ := bt h
  have hl0 := bz zz0
  show Ex _ _ _ _ _ _ 0 [.ref l0, .int l1, .null, .null] [] _ _
  refine x_aload_n (pc := 0) dX8_drawOf_0 rfl rfl hl0 ?_
  obtain ⟨v1, e2, h⟩ := ob h
  refine y_getI (pc := 1) dX8_drawOf_1 zf_X8_332 e2 (by decide) ?_
  refine x_i2l (pc := 4) dX8_drawOf_4 ?_
  refine x_ldc2 (pc := 5) dX8_drawOf_5 zk_X8_342 ?_
  refine x_lmul (pc := 8) dX8_drawOf_8 ?_
  refine x_ldc2 (pc := 9) dX8_drawOf_9 zk_X8_344 ?_
  refine x_ladd (pc := 12) dX8_drawOf_12 ?_
  refine x_ldc2 (pc := 13) dX8_drawOf_13 zk_X8_346 ?_
  refine x_land (pc := 16) dX8_drawOf_16 ?_
  refine x_lstore_n (pc := 17) dX8_drawOf_17 rfl (by decide) rfl ?_
  refine x_aload_n (pc := 18) dX8_drawOf_18 rfl rfl hl0 ?_
  refine x_lload_n (pc := 19) dX8_drawOf_19 rfl rfl ?_
  refine x_l2i (pc := 20) dX8_drawOf_20 ?_
  obtain ⟨M3, e4, h⟩ := ob h
  refine y_putI (pc := 21) dX8_drawOf_21 zf_X8_332 e4 ?_
  refine x_iload_n (pc := 24) dX8_drawOf_24 rfl rfl ?_
  refine x_if_le (pc := 25) dX8_drawOf_25 (t := 41) rfl (fun c5 => ?_) (fun c5 => ?_)
  · rw [if_pos c5] at h
    refine x_iconst (pc := 41) dX8_drawOf_41 (v := 0) rfl ?_
    obtain ⟨rfl, rfl⟩ := s2 h
    exact y_retI (pc := 42) dX8_drawOf_42 rfl
  · rw [if_neg c5] at h
    refine x_aload_n (pc := 28) dX8_drawOf_28 rfl rfl hl0 ?_
    obtain ⟨v6, e7, h⟩ := ob h
    refine y_getI (pc := 29) dX8_drawOf_29 zf_X8_332 e7 (by decide) ?_
    refine x_ldcw (pc := 32) dX8_drawOf_32 zk_X8_348 ?_
    obtain ⟨v8, e9, h⟩ := ob h
    refine y_idiv (pc := 35) dX8_drawOf_35 e9 ?_
    refine x_iload_n (pc := 36) dX8_drawOf_36 rfl rfl ?_
    obtain ⟨v10, e11, h⟩ := ob h
    refine y_irem (pc := 37) dX8_drawOf_37 e11 ?_
    refine x_goto (pc := 38) dX8_drawOf_38 (t := 42) rfl ?_
    obtain ⟨rfl, rfl⟩ := s2 h
    exact y_retI (pc := 42) dX8_drawOf_42 rfl
def f_X8_doByDraws (l0 : Nat) (M : zM) : Option (zM) := bif Nat.ble 1 l0 then ((oR M l0 8 13 1).bind fun v1 => (oI M v1 7 15 3).bind fun v3 => bif zac M l0 8 13 then (b2 (f_X8_drawOf l0 v3 M) fun r5 M6 => (oR M6 l0 8 13 1).bind fun v8 => (oI M6 v8 7 15 1).bind fun v10 => bif zac M6 l0 8 13 then (b2 (f_X8_drawOf l0 v10 M6) fun r12 M13 => bif zac M13 l0 8 13 then (b2 (f_X8_drawOf l0 4 M13) fun r15 M16 => if r15 = 0 then ((oR M16 l0 8 13 3).bind fun v19 => bif zac M16 v19 5 9 then ((f_X5_canSay v19 r5 r12 M16).bind fun r21 => if r21 = 0 then (if r15 = 1 then ((oR M16 l0 8 13 3).bind fun v25 => (oR M16 v25 5 9 1).bind fun v27 => (aI M16 v27 r12).bind fun v29 => if v29 ≤ 0 then (if r15 = 2 then ((oR M16 l0 8 13 3).bind fun v33 => (oR M16 l0 8 13 1).bind fun v35 => bif zac M16 v35 7 15 then ((f_X7_wayRound v35 r12 0 M16).bind fun r37 => bif zac M16 v33 5 9 then ((f_X5_canGo v33 r5 r37 M16).bind fun r39 => if r39 = 0 then (if r15 = 3 then ((oR M16 l0 8 13 1).bind fun v43 => bif zac M16 v43 7 15 then ((f_X7_canPoint v43 r12 M16).bind fun r45 => if r45 = 0 then (some M16) else ((oR M16 l0 8 13 3).bind fun v48 => bif zac M16 v48 5 9 then ((f_X5_gesture v48 M16).bind fun M50 => some M50) else none)) else none) else (some M16)) else ((oR M16 l0 8 13 3).bind fun v54 => (oR M16 l0 8 13 1).bind fun v56 => bif zac M16 v56 7 15 then ((f_X7_wayRound v56 r12 0 M16).bind fun r58 => bif zac M16 v54 5 9 then ((f_X5_go v54 r5 r58 M16).bind fun M60 => some M60) else none) else none)) else none) else none) else (if r15 = 3 then ((oR M16 l0 8 13 1).bind fun v67 => bif zac M16 v67 7 15 then ((f_X7_canPoint v67 r12 M16).bind fun r69 => if r69 = 0 then (some M16) else ((oR M16 l0 8 13 3).bind fun v72 => bif zac M16 v72 5 9 then ((f_X5_gesture v72 M16).bind fun M74 => some M74) else none)) else none) else (some M16))) else ((oR M16 l0 8 13 3).bind fun v78 => bif zac M16 v78 5 9 then ((f_X5_store v78 r5 r12 1 M16).bind fun M80 => some M80) else none)) else (if r15 = 2 then ((oR M16 l0 8 13 3).bind fun v84 => (oR M16 l0 8 13 1).bind fun v86 => bif zac M16 v86 7 15 then ((f_X7_wayRound v86 r12 0 M16).bind fun r88 => bif zac M16 v84 5 9 then ((f_X5_canGo v84 r5 r88 M16).bind fun r90 => if r90 = 0 then (if r15 = 3 then ((oR M16 l0 8 13 1).bind fun v94 => bif zac M16 v94 7 15 then ((f_X7_canPoint v94 r12 M16).bind fun r96 => if r96 = 0 then (some M16) else ((oR M16 l0 8 13 3).bind fun v99 => bif zac M16 v99 5 9 then ((f_X5_gesture v99 M16).bind fun M101 => some M101) else none)) else none) else (some M16)) else ((oR M16 l0 8 13 3).bind fun v105 => (oR M16 l0 8 13 1).bind fun v107 => bif zac M16 v107 7 15 then ((f_X7_wayRound v107 r12 0 M16).bind fun r109 => bif zac M16 v105 5 9 then ((f_X5_go v105 r5 r109 M16).bind fun M111 => some M111) else none) else none)) else none) else none) else (if r15 = 3 then ((oR M16 l0 8 13 1).bind fun v118 => bif zac M16 v118 7 15 then ((f_X7_canPoint v118 r12 M16).bind fun r120 => if r120 = 0 then (some M16) else ((oR M16 l0 8 13 3).bind fun v123 => bif zac M16 v123 5 9 then ((f_X5_gesture v123 M16).bind fun M125 => some M125) else none)) else none) else (some M16)))) else ((oR M16 l0 8 13 3).bind fun v129 => bif zac M16 v129 5 9 then ((f_X5_speak v129 r5 r12 M16).bind fun M131 => some M131) else none)) else none) else (if r15 = 1 then ((oR M16 l0 8 13 3).bind fun v136 => (oR M16 v136 5 9 1).bind fun v138 => (aI M16 v138 r12).bind fun v140 => if v140 ≤ 0 then (if r15 = 2 then ((oR M16 l0 8 13 3).bind fun v144 => (oR M16 l0 8 13 1).bind fun v146 => bif zac M16 v146 7 15 then ((f_X7_wayRound v146 r12 0 M16).bind fun r148 => bif zac M16 v144 5 9 then ((f_X5_canGo v144 r5 r148 M16).bind fun r150 => if r150 = 0 then (if r15 = 3 then ((oR M16 l0 8 13 1).bind fun v154 => bif zac M16 v154 7 15 then ((f_X7_canPoint v154 r12 M16).bind fun r156 => if r156 = 0 then (some M16) else ((oR M16 l0 8 13 3).bind fun v159 => bif zac M16 v159 5 9 then ((f_X5_gesture v159 M16).bind fun M161 => some M161) else none)) else none) else (some M16)) else ((oR M16 l0 8 13 3).bind fun v165 => (oR M16 l0 8 13 1).bind fun v167 => bif zac M16 v167 7 15 then ((f_X7_wayRound v167 r12 0 M16).bind fun r169 => bif zac M16 v165 5 9 then ((f_X5_go v165 r5 r169 M16).bind fun M171 => some M171) else none) else none)) else none) else none) else (if r15 = 3 then ((oR M16 l0 8 13 1).bind fun v178 => bif zac M16 v178 7 15 then ((f_X7_canPoint v178 r12 M16).bind fun r180 => if r180 = 0 then (some M16) else ((oR M16 l0 8 13 3).bind fun v183 => bif zac M16 v183 5 9 then ((f_X5_gesture v183 M16).bind fun M185 => some M185) else none)) else none) else (some M16))) else ((oR M16 l0 8 13 3).bind fun v189 => bif zac M16 v189 5 9 then ((f_X5_store v189 r5 r12 1 M16).bind fun M191 => some M191) else none)) else (if r15 = 2 then ((oR M16 l0 8 13 3).bind fun v195 => (oR M16 l0 8 13 1).bind fun v197 => bif zac M16 v197 7 15 then ((f_X7_wayRound v197 r12 0 M16).bind fun r199 => bif zac M16 v195 5 9 then ((f_X5_canGo v195 r5 r199 M16).bind fun r201 => if r201 = 0 then (if r15 = 3 then ((oR M16 l0 8 13 1).bind fun v205 => bif zac M16 v205 7 15 then ((f_X7_canPoint v205 r12 M16).bind fun r207 => if r207 = 0 then (some M16) else ((oR M16 l0 8 13 3).bind fun v210 => bif zac M16 v210 5 9 then ((f_X5_gesture v210 M16).bind fun M212 => some M212) else none)) else none) else (some M16)) else ((oR M16 l0 8 13 3).bind fun v216 => (oR M16 l0 8 13 1).bind fun v218 => bif zac M16 v218 7 15 then ((f_X7_wayRound v218 r12 0 M16).bind fun r220 => bif zac M16 v216 5 9 then ((f_X5_go v216 r5 r220 M16).bind fun M222 => some M222) else none) else none)) else none) else none) else (if r15 = 3 then ((oR M16 l0 8 13 1).bind fun v229 => bif zac M16 v229 7 15 then ((f_X7_canPoint v229 r12 M16).bind fun r231 => if r231 = 0 then (some M16) else ((oR M16 l0 8 13 3).bind fun v234 => bif zac M16 v234 5 9 then ((f_X5_gesture v234 M16).bind fun M236 => some M236) else none)) else none) else (some M16))))) else none) else none) else none) else none
set_option maxRecDepth 100000 in
set_option maxHeartbeats 2000000 in
theorem E_X8_doByDraws {G : zG} {d : Nat} {l0 : Nat} {M MR : zM} (h : f_X8_doByDraws l0 M = some MR) : Ex G (d + 3) yX8_doByDraws cX8_doByDraws 4 none 0 (zent0 [.ref l0] 4) [] M (none, MR) := by
  unfold f_X8_doByDraws at h
  obtain ⟨zz0, h⟩ := bt h
  have hl0 := bz zz0
  show Ex _ _ _ _ _ _ 0 [.ref l0, .null, .null, .null] [] _ _
  refine x_aload_n (pc := 0) dX8_doByDraws_0 rfl rfl hl0 ?_
  refine x_aload_n (pc := 1) dX8_doByDraws_1 rfl rfl hl0 ?_
  obtain ⟨v1, e2, h⟩ := ob h
  refine y_getR (pc := 2) dX8_doByDraws_2 zf_X8_19 e2 ?_
  obtain ⟨v3, e4, h⟩ := ob h
  refine y_getI (pc := 5) dX8_doByDraws_5 zf_X8_128 e4 (by decide) ?_
  obtain ⟨g242, h⟩ := bt h
  obtain ⟨r5, M6, e7, h⟩ := ob2 h
  refine x_callV (av := [.int v3]) (st := []) (pc := 8) dX8_doByDraws_8 (E_X8_drawOf (d := d + 2) e7) rfl (Nat.le_of_ble_eq_true rfl) zc_X8_drawOf rfl zm_X8_349 zi_X8_drawOf zs_X8_drawOf (zac_ok g242) (by decide) rfl rfl (zst_ok rfl (Nat.le_of_ble_eq_true rfl)) rfl ?_
  refine x_istore_n (pc := 11) dX8_doByDraws_11 rfl (by decide) rfl ?_
  refine x_aload_n (pc := 12) dX8_doByDraws_12 rfl rfl hl0 ?_
  refine x_aload_n (pc := 13) dX8_doByDraws_13 rfl rfl hl0 ?_
  obtain ⟨v8, e9, h⟩ := ob h
  refine y_getR (pc := 14) dX8_doByDraws_14 zf_X8_19 e9 ?_
  obtain ⟨v10, e11, h⟩ := ob h
  refine y_getI (pc := 17) dX8_doByDraws_17 zf_X8_116 e11 (by decide) ?_
  obtain ⟨g241, h⟩ := bt h
  obtain ⟨r12, M13, e14, h⟩ := ob2 h
  refine x_callV (av := [.int v10]) (st := []) (pc := 20) dX8_doByDraws_20 (E_X8_drawOf (d := d + 2) e14) rfl (Nat.le_of_ble_eq_true rfl) zc_X8_drawOf rfl zm_X8_349 zi_X8_drawOf zs_X8_drawOf (zac_ok g241) (by decide) rfl rfl (zst_ok rfl (Nat.le_of_ble_eq_true rfl)) rfl ?_
  refine x_istore_n (pc := 23) dX8_doByDraws_23 rfl (by decide) rfl ?_
  refine x_aload_n (pc := 24) dX8_doByDraws_24 rfl rfl hl0 ?_
  refine x_iconst (pc := 25) dX8_doByDraws_25 (v := 4) rfl ?_
  obtain ⟨g240, h⟩ := bt h
  obtain ⟨r15, M16, e17, h⟩ := ob2 h
  refine x_callV (av := [.int 4]) (st := []) (pc := 26) dX8_doByDraws_26 (E_X8_drawOf (d := d + 2) e17) rfl (Nat.le_of_ble_eq_true rfl) zc_X8_drawOf rfl zm_X8_349 zi_X8_drawOf zs_X8_drawOf (zac_ok g240) (by decide) rfl rfl (zst_ok rfl (Nat.le_of_ble_eq_true rfl)) rfl ?_
  refine x_istore_n (pc := 29) dX8_doByDraws_29 rfl (by decide) rfl ?_
  refine x_iload_n (pc := 30) dX8_doByDraws_30 rfl rfl ?_
  refine x_if_ne (pc := 31) dX8_doByDraws_31 (t := 58) rfl (fun c18 => ?_) (fun c18 => ?_)
  · rw [if_neg c18] at h
    refine x_iload_n (pc := 58) dX8_doByDraws_58 rfl rfl ?_
    refine x_iconst (pc := 59) dX8_doByDraws_59 (v := 1) rfl ?_
    refine x_icmp_ne (pc := 60) dX8_doByDraws_60 (t := 88) rfl (fun c135 => ?_) (fun c135 => ?_)
    · rw [if_neg c135] at h
      refine x_iload_n (pc := 88) dX8_doByDraws_88 rfl rfl ?_
      refine x_iconst (pc := 89) dX8_doByDraws_89 (v := 2) rfl ?_
      refine x_icmp_ne (pc := 90) dX8_doByDraws_90 (t := 133) rfl (fun c194 => ?_) (fun c194 => ?_)
      · rw [if_neg c194] at h
        refine x_iload_n (pc := 133) dX8_doByDraws_133 rfl rfl ?_
        refine x_iconst (pc := 134) dX8_doByDraws_134 (v := 3) rfl ?_
        refine x_icmp_ne (pc := 135) dX8_doByDraws_135 (t := 156) rfl (fun c228 => ?_) (fun c228 => ?_)
        · rw [if_neg c228] at h
          obtain rfl := s1 h
          exact x_vret (pc := 156) dX8_doByDraws_156 rfl
        · rw [if_pos c228] at h
          refine x_aload_n (pc := 138) dX8_doByDraws_138 rfl rfl hl0 ?_
          obtain ⟨v229, e230, h⟩ := ob h
          refine y_getR (pc := 139) dX8_doByDraws_139 zf_X8_19 e230 ?_
          refine x_iload_n (pc := 142) dX8_doByDraws_142 rfl rfl ?_
          obtain ⟨g239, h⟩ := bt h
          obtain ⟨r231, e232, h⟩ := ob h
          refine x_callV (av := [.int r12]) (st := []) (pc := 143) dX8_doByDraws_143 (E_X7_canPoint (d := d + 2) e232) rfl (Nat.le_of_ble_eq_true rfl) zc_X7_canPoint rfl zm_X8_187 zi_X7_canPoint zs_X7_canPoint (zac_ok g239) (by decide) rfl rfl (zst_ok rfl (Nat.le_of_ble_eq_true rfl)) rfl ?_
          refine x_if_eq (pc := 146) dX8_doByDraws_146 (t := 156) rfl (fun c233 => ?_) (fun c233 => ?_)
          · rw [if_pos c233] at h
            obtain rfl := s1 h
            exact x_vret (pc := 156) dX8_doByDraws_156 rfl
          · rw [if_neg c233] at h
            refine x_aload_n (pc := 149) dX8_doByDraws_149 rfl rfl hl0 ?_
            obtain ⟨v234, e235, h⟩ := ob h
            refine y_getR (pc := 150) dX8_doByDraws_150 zf_X8_29 e235 ?_
            obtain ⟨g238, h⟩ := bt h
            obtain ⟨M236, e237, h⟩ := ob h
            refine x_callV (av := []) (st := []) (pc := 153) dX8_doByDraws_153 (E_X5_gesture (d := d + 1) e237) rfl (Nat.le_of_ble_eq_true rfl) zc_X5_gesture rfl zm_X8_242 zi_X5_gesture zs_X5_gesture (zac_ok g238) (by decide) rfl rfl (zst_ok rfl (Nat.le_of_ble_eq_true rfl)) rfl ?_
            obtain rfl := s1 h
            exact x_vret (pc := 156) dX8_doByDraws_156 rfl
      · rw [if_pos c194] at h
        refine x_aload_n (pc := 93) dX8_doByDraws_93 rfl rfl hl0 ?_
        obtain ⟨v195, e196, h⟩ := ob h
        refine y_getR (pc := 94) dX8_doByDraws_94 zf_X8_29 e196 ?_
        refine x_iload_n (pc := 97) dX8_doByDraws_97 rfl rfl ?_
        refine x_aload_n (pc := 98) dX8_doByDraws_98 rfl rfl hl0 ?_
        obtain ⟨v197, e198, h⟩ := ob h
        refine y_getR (pc := 99) dX8_doByDraws_99 zf_X8_19 e198 ?_
        refine x_iload_n (pc := 102) dX8_doByDraws_102 rfl rfl ?_
        refine x_iconst (pc := 103) dX8_doByDraws_103 (v := 0) rfl ?_
        obtain ⟨g227, h⟩ := bt h
        obtain ⟨r199, e200, h⟩ := ob h
        refine x_callV (av := [.int r12, .int 0]) (st := [.int r5, .ref v195]) (pc := 104) dX8_doByDraws_104 (E_X7_wayRound (d := d + 2) e200) rfl (Nat.le_of_ble_eq_true rfl) zc_X7_wayRound rfl zm_X8_183 zi_X7_wayRound zs_X7_wayRound (zac_ok g227) (by decide) rfl rfl (zst_ok rfl (Nat.le_of_ble_eq_true rfl)) rfl ?_
        obtain ⟨g226, h⟩ := bt h
        obtain ⟨r201, e202, h⟩ := ob h
        refine x_callV (av := [.int r5, .int r199]) (st := []) (pc := 107) dX8_doByDraws_107 (E_X5_canGo (d := d) e202) rfl (Nat.le_of_ble_eq_true rfl) zc_X5_canGo rfl zm_X8_236 zi_X5_canGo zs_X5_canGo (zac_ok g226) (by decide) rfl rfl (zst_ok rfl (Nat.le_of_ble_eq_true rfl)) rfl ?_
        refine x_if_eq (pc := 110) dX8_doByDraws_110 (t := 133) rfl (fun c203 => ?_) (fun c203 => ?_)
        · rw [if_pos c203] at h
          refine x_iload_n (pc := 133) dX8_doByDraws_133 rfl rfl ?_
          refine x_iconst (pc := 134) dX8_doByDraws_134 (v := 3) rfl ?_
          refine x_icmp_ne (pc := 135) dX8_doByDraws_135 (t := 156) rfl (fun c204 => ?_) (fun c204 => ?_)
          · rw [if_neg c204] at h
            obtain rfl := s1 h
            exact x_vret (pc := 156) dX8_doByDraws_156 rfl
          · rw [if_pos c204] at h
            refine x_aload_n (pc := 138) dX8_doByDraws_138 rfl rfl hl0 ?_
            obtain ⟨v205, e206, h⟩ := ob h
            refine y_getR (pc := 139) dX8_doByDraws_139 zf_X8_19 e206 ?_
            refine x_iload_n (pc := 142) dX8_doByDraws_142 rfl rfl ?_
            obtain ⟨g215, h⟩ := bt h
            obtain ⟨r207, e208, h⟩ := ob h
            refine x_callV (av := [.int r12]) (st := []) (pc := 143) dX8_doByDraws_143 (E_X7_canPoint (d := d + 2) e208) rfl (Nat.le_of_ble_eq_true rfl) zc_X7_canPoint rfl zm_X8_187 zi_X7_canPoint zs_X7_canPoint (zac_ok g215) (by decide) rfl rfl (zst_ok rfl (Nat.le_of_ble_eq_true rfl)) rfl ?_
            refine x_if_eq (pc := 146) dX8_doByDraws_146 (t := 156) rfl (fun c209 => ?_) (fun c209 => ?_)
            · rw [if_pos c209] at h
              obtain rfl := s1 h
              exact x_vret (pc := 156) dX8_doByDraws_156 rfl
            · rw [if_neg c209] at h
              refine x_aload_n (pc := 149) dX8_doByDraws_149 rfl rfl hl0 ?_
              obtain ⟨v210, e211, h⟩ := ob h
              refine y_getR (pc := 150) dX8_doByDraws_150 zf_X8_29 e211 ?_
              obtain ⟨g214, h⟩ := bt h
              obtain ⟨M212, e213, h⟩ := ob h
              refine x_callV (av := []) (st := []) (pc := 153) dX8_doByDraws_153 (E_X5_gesture (d := d + 1) e213) rfl (Nat.le_of_ble_eq_true rfl) zc_X5_gesture rfl zm_X8_242 zi_X5_gesture zs_X5_gesture (zac_ok g214) (by decide) rfl rfl (zst_ok rfl (Nat.le_of_ble_eq_true rfl)) rfl ?_
              obtain rfl := s1 h
              exact x_vret (pc := 156) dX8_doByDraws_156 rfl
        · rw [if_neg c203] at h
          refine x_aload_n (pc := 113) dX8_doByDraws_113 rfl rfl hl0 ?_
          obtain ⟨v216, e217, h⟩ := ob h
          refine y_getR (pc := 114) dX8_doByDraws_114 zf_X8_29 e217 ?_
          refine x_iload_n (pc := 117) dX8_doByDraws_117 rfl rfl ?_
          refine x_aload_n (pc := 118) dX8_doByDraws_118 rfl rfl hl0 ?_
          obtain ⟨v218, e219, h⟩ := ob h
          refine y_getR (pc := 119) dX8_doByDraws_119 zf_X8_19 e219 ?_
          refine x_iload_n (pc := 122) dX8_doByDraws_122 rfl rfl ?_
          refine x_iconst (pc := 123) dX8_doByDraws_123 (v := 0) rfl ?_
          obtain ⟨g225, h⟩ := bt h
          obtain ⟨r220, e221, h⟩ := ob h
          refine x_callV (av := [.int r12, .int 0]) (st := [.int r5, .ref v216]) (pc := 124) dX8_doByDraws_124 (E_X7_wayRound (d := d + 2) e221) rfl (Nat.le_of_ble_eq_true rfl) zc_X7_wayRound rfl zm_X8_183 zi_X7_wayRound zs_X7_wayRound (zac_ok g225) (by decide) rfl rfl (zst_ok rfl (Nat.le_of_ble_eq_true rfl)) rfl ?_
          obtain ⟨g224, h⟩ := bt h
          obtain ⟨M222, e223, h⟩ := ob h
          refine x_callV (av := [.int r5, .int r220]) (st := []) (pc := 127) dX8_doByDraws_127 (E_X5_go (d := d) e223) rfl (Nat.le_of_ble_eq_true rfl) zc_X5_go rfl zm_X8_239 zi_X5_go zs_X5_go (zac_ok g224) (by decide) rfl rfl (zst_ok rfl (Nat.le_of_ble_eq_true rfl)) rfl ?_
          refine x_goto (pc := 130) dX8_doByDraws_130 (t := 156) rfl ?_
          obtain rfl := s1 h
          exact x_vret (pc := 156) dX8_doByDraws_156 rfl
    · rw [if_pos c135] at h
      refine x_aload_n (pc := 63) dX8_doByDraws_63 rfl rfl hl0 ?_
      obtain ⟨v136, e137, h⟩ := ob h
      refine y_getR (pc := 64) dX8_doByDraws_64 zf_X8_29 e137 ?_
      obtain ⟨v138, e139, h⟩ := ob h
      refine y_getR (pc := 67) dX8_doByDraws_67 zf_X8_173 e139 ?_
      refine x_iload_n (pc := 70) dX8_doByDraws_70 rfl rfl ?_
      obtain ⟨v140, e141, h⟩ := ob h
      refine y_iald (pc := 71) dX8_doByDraws_71 e141 ?_
      refine x_if_le (pc := 72) dX8_doByDraws_72 (t := 88) rfl (fun c142 => ?_) (fun c142 => ?_)
      · rw [if_pos c142] at h
        refine x_iload_n (pc := 88) dX8_doByDraws_88 rfl rfl ?_
        refine x_iconst (pc := 89) dX8_doByDraws_89 (v := 2) rfl ?_
        refine x_icmp_ne (pc := 90) dX8_doByDraws_90 (t := 133) rfl (fun c143 => ?_) (fun c143 => ?_)
        · rw [if_neg c143] at h
          refine x_iload_n (pc := 133) dX8_doByDraws_133 rfl rfl ?_
          refine x_iconst (pc := 134) dX8_doByDraws_134 (v := 3) rfl ?_
          refine x_icmp_ne (pc := 135) dX8_doByDraws_135 (t := 156) rfl (fun c177 => ?_) (fun c177 => ?_)
          · rw [if_neg c177] at h
            obtain rfl := s1 h
            exact x_vret (pc := 156) dX8_doByDraws_156 rfl
          · rw [if_pos c177] at h
            refine x_aload_n (pc := 138) dX8_doByDraws_138 rfl rfl hl0 ?_
            obtain ⟨v178, e179, h⟩ := ob h
            refine y_getR (pc := 139) dX8_doByDraws_139 zf_X8_19 e179 ?_
            refine x_iload_n (pc := 142) dX8_doByDraws_142 rfl rfl ?_
            obtain ⟨g188, h⟩ := bt h
            obtain ⟨r180, e181, h⟩ := ob h
            refine x_callV (av := [.int r12]) (st := []) (pc := 143) dX8_doByDraws_143 (E_X7_canPoint (d := d + 2) e181) rfl (Nat.le_of_ble_eq_true rfl) zc_X7_canPoint rfl zm_X8_187 zi_X7_canPoint zs_X7_canPoint (zac_ok g188) (by decide) rfl rfl (zst_ok rfl (Nat.le_of_ble_eq_true rfl)) rfl ?_
            refine x_if_eq (pc := 146) dX8_doByDraws_146 (t := 156) rfl (fun c182 => ?_) (fun c182 => ?_)
            · rw [if_pos c182] at h
              obtain rfl := s1 h
              exact x_vret (pc := 156) dX8_doByDraws_156 rfl
            · rw [if_neg c182] at h
              refine x_aload_n (pc := 149) dX8_doByDraws_149 rfl rfl hl0 ?_
              obtain ⟨v183, e184, h⟩ := ob h
              refine y_getR (pc := 150) dX8_doByDraws_150 zf_X8_29 e184 ?_
              obtain ⟨g187, h⟩ := bt h
              obtain ⟨M185, e186, h⟩ := ob h
              refine x_callV (av := []) (st := []) (pc := 153) dX8_doByDraws_153 (E_X5_gesture (d := d + 1) e186) rfl (Nat.le_of_ble_eq_true rfl) zc_X5_gesture rfl zm_X8_242 zi_X5_gesture zs_X5_gesture (zac_ok g187) (by decide) rfl rfl (zst_ok rfl (Nat.le_of_ble_eq_true rfl)) rfl ?_
              obtain rfl := s1 h
              exact x_vret (pc := 156) dX8_doByDraws_156 rfl
        · rw [if_pos c143] at h
          refine x_aload_n (pc := 93) dX8_doByDraws_93 rfl rfl hl0 ?_
          obtain ⟨v144, e145, h⟩ := ob h
          refine y_getR (pc := 94) dX8_doByDraws_94 zf_X8_29 e145 ?_
          refine x_iload_n (pc := 97) dX8_doByDraws_97 rfl rfl ?_
          refine x_aload_n (pc := 98) dX8_doByDraws_98 rfl rfl hl0 ?_
          obtain ⟨v146, e147, h⟩ := ob h
          refine y_getR (pc := 99) dX8_doByDraws_99 zf_X8_19 e147 ?_
          refine x_iload_n (pc := 102) dX8_doByDraws_102 rfl rfl ?_
          refine x_iconst (pc := 103) dX8_doByDraws_103 (v := 0) rfl ?_
          obtain ⟨g176, h⟩ := bt h
          obtain ⟨r148, e149, h⟩ := ob h
          refine x_callV (av := [.int r12, .int 0]) (st := [.int r5, .ref v144]) (pc := 104) dX8_doByDraws_104 (E_X7_wayRound (d := d + 2) e149) rfl (Nat.le_of_ble_eq_true rfl) zc_X7_wayRound rfl zm_X8_183 zi_X7_wayRound zs_X7_wayRound (zac_ok g176) (by decide) rfl rfl (zst_ok rfl (Nat.le_of_ble_eq_true rfl)) rfl ?_
          obtain ⟨g175, h⟩ := bt h
          obtain ⟨r150, e151, h⟩ := ob h
          refine x_callV (av := [.int r5, .int r148]) (st := []) (pc := 107) dX8_doByDraws_107 (E_X5_canGo (d := d) e151) rfl (Nat.le_of_ble_eq_true rfl) zc_X5_canGo rfl zm_X8_236 zi_X5_canGo zs_X5_canGo (zac_ok g175) (by decide) rfl rfl (zst_ok rfl (Nat.le_of_ble_eq_true rfl)) rfl ?_
          refine x_if_eq (pc := 110) dX8_doByDraws_110 (t := 133) rfl (fun c152 => ?_) (fun c152 => ?_)
          · rw [if_pos c152] at h
            refine x_iload_n (pc := 133) dX8_doByDraws_133 rfl rfl ?_
            refine x_iconst (pc := 134) dX8_doByDraws_134 (v := 3) rfl ?_
            refine x_icmp_ne (pc := 135) dX8_doByDraws_135 (t := 156) rfl (fun c153 => ?_) (fun c153 => ?_)
            · rw [if_neg c153] at h
              obtain rfl := s1 h
              exact x_vret (pc := 156) dX8_doByDraws_156 rfl
            · rw [if_pos c153] at h
              refine x_aload_n (pc := 138) dX8_doByDraws_138 rfl rfl hl0 ?_
              obtain ⟨v154, e155, h⟩ := ob h
              refine y_getR (pc := 139) dX8_doByDraws_139 zf_X8_19 e155 ?_
              refine x_iload_n (pc := 142) dX8_doByDraws_142 rfl rfl ?_
              obtain ⟨g164, h⟩ := bt h
              obtain ⟨r156, e157, h⟩ := ob h
              refine x_callV (av := [.int r12]) (st := []) (pc := 143) dX8_doByDraws_143 (E_X7_canPoint (d := d + 2) e157) rfl (Nat.le_of_ble_eq_true rfl) zc_X7_canPoint rfl zm_X8_187 zi_X7_canPoint zs_X7_canPoint (zac_ok g164) (by decide) rfl rfl (zst_ok rfl (Nat.le_of_ble_eq_true rfl)) rfl ?_
              refine x_if_eq (pc := 146) dX8_doByDraws_146 (t := 156) rfl (fun c158 => ?_) (fun c158 => ?_)
              · rw [if_pos c158] at h
                obtain rfl := s1 h
                exact x_vret (pc := 156) dX8_doByDraws_156 rfl
              · rw [if_neg c158] at h
                refine x_aload_n (pc := 149) dX8_doByDraws_149 rfl rfl hl0 ?_
                obtain ⟨v159, e160, h⟩ := ob h
                refine y_getR (pc := 150) dX8_doByDraws_150 zf_X8_29 e160 ?_
                obtain ⟨g163, h⟩ := bt h
                obtain ⟨M161, e162, h⟩ := ob h
                refine x_callV (av := []) (st := []) (pc := 153) dX8_doByDraws_153 (E_X5_gesture (d := d + 1) e162) rfl (Nat.le_of_ble_eq_true rfl) zc_X5_gesture rfl zm_X8_242 zi_X5_gesture zs_X5_gesture (zac_ok g163) (by decide) rfl rfl (zst_ok rfl (Nat.le_of_ble_eq_true rfl)) rfl ?_
                obtain rfl := s1 h
                exact x_vret (pc := 156) dX8_doByDraws_156 rfl
          · rw [if_neg c152] at h
            refine x_aload_n (pc := 113) dX8_doByDraws_113 rfl rfl hl0 ?_
            obtain ⟨v165, e166, h⟩ := ob h
            refine y_getR (pc := 114) dX8_doByDraws_114 zf_X8_29 e166 ?_
            refine x_iload_n (pc := 117) dX8_doByDraws_117 rfl rfl ?_
            refine x_aload_n (pc := 118) dX8_doByDraws_118 rfl rfl hl0 ?_
            obtain ⟨v167, e168, h⟩ := ob h
            refine y_getR (pc := 119) dX8_doByDraws_119 zf_X8_19 e168 ?_
            refine x_iload_n (pc := 122) dX8_doByDraws_122 rfl rfl ?_
            refine x_iconst (pc := 123) dX8_doByDraws_123 (v := 0) rfl ?_
            obtain ⟨g174, h⟩ := bt h
            obtain ⟨r169, e170, h⟩ := ob h
            refine x_callV (av := [.int r12, .int 0]) (st := [.int r5, .ref v165]) (pc := 124) dX8_doByDraws_124 (E_X7_wayRound (d := d + 2) e170) rfl (Nat.le_of_ble_eq_true rfl) zc_X7_wayRound rfl zm_X8_183 zi_X7_wayRound zs_X7_wayRound (zac_ok g174) (by decide) rfl rfl (zst_ok rfl (Nat.le_of_ble_eq_true rfl)) rfl ?_
            obtain ⟨g173, h⟩ := bt h
            obtain ⟨M171, e172, h⟩ := ob h
            refine x_callV (av := [.int r5, .int r169]) (st := []) (pc := 127) dX8_doByDraws_127 (E_X5_go (d := d) e172) rfl (Nat.le_of_ble_eq_true rfl) zc_X5_go rfl zm_X8_239 zi_X5_go zs_X5_go (zac_ok g173) (by decide) rfl rfl (zst_ok rfl (Nat.le_of_ble_eq_true rfl)) rfl ?_
            refine x_goto (pc := 130) dX8_doByDraws_130 (t := 156) rfl ?_
            obtain rfl := s1 h
            exact x_vret (pc := 156) dX8_doByDraws_156 rfl
      · rw [if_neg c142] at h
        refine x_aload_n (pc := 75) dX8_doByDraws_75 rfl rfl hl0 ?_
        obtain ⟨v189, e190, h⟩ := ob h
        refine y_getR (pc := 76) dX8_doByDraws_76 zf_X8_29 e190 ?_
        refine x_iload_n (pc := 79) dX8_doByDraws_79 rfl rfl ?_
        refine x_iload_n (pc := 80) dX8_doByDraws_80 rfl rfl ?_
        refine x_iconst (pc := 81) dX8_doByDraws_81 (v := 1) rfl ?_
        obtain ⟨g193, h⟩ := bt h
        obtain ⟨M191, e192, h⟩ := ob h
        refine x_callV (av := [.int r5, .int r12, .int 1]) (st := []) (pc := 82) dX8_doByDraws_82 (E_X5_store (d := d + 1) e192) rfl (Nat.le_of_ble_eq_true rfl) zc_X5_store rfl zm_X8_245 zi_X5_store zs_X5_store (zac_ok g193) (by decide) rfl rfl (zst_ok rfl (Nat.le_of_ble_eq_true rfl)) rfl ?_
        refine x_goto (pc := 85) dX8_doByDraws_85 (t := 156) rfl ?_
        obtain rfl := s1 h
        exact x_vret (pc := 156) dX8_doByDraws_156 rfl
  · rw [if_pos c18] at h
    refine x_aload_n (pc := 34) dX8_doByDraws_34 rfl rfl hl0 ?_
    obtain ⟨v19, e20, h⟩ := ob h
    refine y_getR (pc := 35) dX8_doByDraws_35 zf_X8_29 e20 ?_
    refine x_iload_n (pc := 38) dX8_doByDraws_38 rfl rfl ?_
    refine x_iload_n (pc := 39) dX8_doByDraws_39 rfl rfl ?_
    obtain ⟨g134, h⟩ := bt h
    obtain ⟨r21, e22, h⟩ := ob h
    refine x_callV (av := [.int r5, .int r12]) (st := []) (pc := 40) dX8_doByDraws_40 (E_X5_canSay (d := d + 1) e22) rfl (Nat.le_of_ble_eq_true rfl) zc_X5_canSay rfl zm_X8_225 zi_X5_canSay zs_X5_canSay (zac_ok g134) (by decide) rfl rfl (zst_ok rfl (Nat.le_of_ble_eq_true rfl)) rfl ?_
    refine x_if_eq (pc := 43) dX8_doByDraws_43 (t := 58) rfl (fun c23 => ?_) (fun c23 => ?_)
    · rw [if_pos c23] at h
      refine x_iload_n (pc := 58) dX8_doByDraws_58 rfl rfl ?_
      refine x_iconst (pc := 59) dX8_doByDraws_59 (v := 1) rfl ?_
      refine x_icmp_ne (pc := 60) dX8_doByDraws_60 (t := 88) rfl (fun c24 => ?_) (fun c24 => ?_)
      · rw [if_neg c24] at h
        refine x_iload_n (pc := 88) dX8_doByDraws_88 rfl rfl ?_
        refine x_iconst (pc := 89) dX8_doByDraws_89 (v := 2) rfl ?_
        refine x_icmp_ne (pc := 90) dX8_doByDraws_90 (t := 133) rfl (fun c83 => ?_) (fun c83 => ?_)
        · rw [if_neg c83] at h
          refine x_iload_n (pc := 133) dX8_doByDraws_133 rfl rfl ?_
          refine x_iconst (pc := 134) dX8_doByDraws_134 (v := 3) rfl ?_
          refine x_icmp_ne (pc := 135) dX8_doByDraws_135 (t := 156) rfl (fun c117 => ?_) (fun c117 => ?_)
          · rw [if_neg c117] at h
            obtain rfl := s1 h
            exact x_vret (pc := 156) dX8_doByDraws_156 rfl
          · rw [if_pos c117] at h
            refine x_aload_n (pc := 138) dX8_doByDraws_138 rfl rfl hl0 ?_
            obtain ⟨v118, e119, h⟩ := ob h
            refine y_getR (pc := 139) dX8_doByDraws_139 zf_X8_19 e119 ?_
            refine x_iload_n (pc := 142) dX8_doByDraws_142 rfl rfl ?_
            obtain ⟨g128, h⟩ := bt h
            obtain ⟨r120, e121, h⟩ := ob h
            refine x_callV (av := [.int r12]) (st := []) (pc := 143) dX8_doByDraws_143 (E_X7_canPoint (d := d + 2) e121) rfl (Nat.le_of_ble_eq_true rfl) zc_X7_canPoint rfl zm_X8_187 zi_X7_canPoint zs_X7_canPoint (zac_ok g128) (by decide) rfl rfl (zst_ok rfl (Nat.le_of_ble_eq_true rfl)) rfl ?_
            refine x_if_eq (pc := 146) dX8_doByDraws_146 (t := 156) rfl (fun c122 => ?_) (fun c122 => ?_)
            · rw [if_pos c122] at h
              obtain rfl := s1 h
              exact x_vret (pc := 156) dX8_doByDraws_156 rfl
            · rw [if_neg c122] at h
              refine x_aload_n (pc := 149) dX8_doByDraws_149 rfl rfl hl0 ?_
              obtain ⟨v123, e124, h⟩ := ob h
              refine y_getR (pc := 150) dX8_doByDraws_150 zf_X8_29 e124 ?_
              obtain ⟨g127, h⟩ := bt h
              obtain ⟨M125, e126, h⟩ := ob h
              refine x_callV (av := []) (st := []) (pc := 153) dX8_doByDraws_153 (E_X5_gesture (d := d + 1) e126) rfl (Nat.le_of_ble_eq_true rfl) zc_X5_gesture rfl zm_X8_242 zi_X5_gesture zs_X5_gesture (zac_ok g127) (by decide) rfl rfl (zst_ok rfl (Nat.le_of_ble_eq_true rfl)) rfl ?_
              obtain rfl := s1 h
              exact x_vret (pc := 156) dX8_doByDraws_156 rfl
        · rw [if_pos c83] at h
          refine x_aload_n (pc := 93) dX8_doByDraws_93 rfl rfl hl0 ?_
          obtain ⟨v84, e85, h⟩ := ob h
          refine y_getR (pc := 94) dX8_doByDraws_94 zf_X8_29 e85 ?_
          refine x_iload_n (pc := 97) dX8_doByDraws_97 rfl rfl ?_
          refine x_aload_n (pc := 98) dX8_doByDraws_98 rfl rfl hl0 ?_
          obtain ⟨v86, e87, h⟩ := ob h
          refine y_getR (pc := 99) dX8_doByDraws_99 zf_X8_19 e87 ?_
          refine x_iload_n (pc := 102) dX8_doByDraws_102 rfl rfl ?_
          refine x_iconst (pc := 103) dX8_doByDraws_103 (v := 0) rfl ?_
          obtain ⟨g116, h⟩ := bt h
          obtain ⟨r88, e89, h⟩ := ob h
          refine x_callV (av := [.int r12, .int 0]) (st := [.int r5, .ref v84]) (pc := 104) dX8_doByDraws_104 (E_X7_wayRound (d := d + 2) e89) rfl (Nat.le_of_ble_eq_true rfl) zc_X7_wayRound rfl zm_X8_183 zi_X7_wayRound zs_X7_wayRound (zac_ok g116) (by decide) rfl rfl (zst_ok rfl (Nat.le_of_ble_eq_true rfl)) rfl ?_
          obtain ⟨g115, h⟩ := bt h
          obtain ⟨r90, e91, h⟩ := ob h
          refine x_callV (av := [.int r5, .int r88]) (st := []) (pc := 107) dX8_doByDraws_107 (E_X5_canGo (d := d) e91) rfl (Nat.le_of_ble_eq_true rfl) zc_X5_canGo rfl zm_X8_236 zi_X5_canGo zs_X5_canGo (zac_ok g115) (by decide) rfl rfl (zst_ok rfl (Nat.le_of_ble_eq_true rfl)) rfl ?_
          refine x_if_eq (pc := 110) dX8_doByDraws_110 (t := 133) rfl (fun c92 => ?_) (fun c92 => ?_)
          · rw [if_pos c92] at h
            refine x_iload_n (pc := 133) dX8_doByDraws_133 rfl rfl ?_
            refine x_iconst (pc := 134) dX8_doByDraws_134 (v := 3) rfl ?_
            refine x_icmp_ne (pc := 135) dX8_doByDraws_135 (t := 156) rfl (fun c93 => ?_) (fun c93 => ?_)
            · rw [if_neg c93] at h
              obtain rfl := s1 h
              exact x_vret (pc := 156) dX8_doByDraws_156 rfl
            · rw [if_pos c93] at h
              refine x_aload_n (pc := 138) dX8_doByDraws_138 rfl rfl hl0 ?_
              obtain ⟨v94, e95, h⟩ := ob h
              refine y_getR (pc := 139) dX8_doByDraws_139 zf_X8_19 e95 ?_
              refine x_iload_n (pc := 142) dX8_doByDraws_142 rfl rfl ?_
              obtain ⟨g104, h⟩ := bt h
              obtain ⟨r96, e97, h⟩ := ob h
              refine x_callV (av := [.int r12]) (st := []) (pc := 143) dX8_doByDraws_143 (E_X7_canPoint (d := d + 2) e97) rfl (Nat.le_of_ble_eq_true rfl) zc_X7_canPoint rfl zm_X8_187 zi_X7_canPoint zs_X7_canPoint (zac_ok g104) (by decide) rfl rfl (zst_ok rfl (Nat.le_of_ble_eq_true rfl)) rfl ?_
              refine x_if_eq (pc := 146) dX8_doByDraws_146 (t := 156) rfl (fun c98 => ?_) (fun c98 => ?_)
              · rw [if_pos c98] at h
                obtain rfl := s1 h
                exact x_vret (pc := 156) dX8_doByDraws_156 rfl
              · rw [if_neg c98] at h
                refine x_aload_n (pc := 149) dX8_doByDraws_149 rfl rfl hl0 ?_
                obtain ⟨v99, e100, h⟩ := ob h
                refine y_getR (pc := 150) dX8_doByDraws_150 zf_X8_29 e100 ?_
                obtain ⟨g103, h⟩ := bt h
                obtain ⟨M101, e102, h⟩ := ob h
                refine x_callV (av := []) (st := []) (pc := 153) dX8_doByDraws_153 (E_X5_gesture (d := d + 1) e102) rfl (Nat.le_of_ble_eq_true rfl) zc_X5_gesture rfl zm_X8_242 zi_X5_gesture zs_X5_gesture (zac_ok g103) (by decide) rfl rfl (zst_ok rfl (Nat.le_of_ble_eq_true rfl)) rfl ?_
                obtain rfl := s1 h
                exact x_vret (pc := 156) dX8_doByDraws_156 rfl
          · rw [if_neg c92] at h
            refine x_aload_n (pc := 113) dX8_doByDraws_113 rfl rfl hl0 ?_
            obtain ⟨v105, e106, h⟩ := ob h
            refine y_getR (pc := 114) dX8_doByDraws_114 zf_X8_29 e106 ?_
            refine x_iload_n (pc := 117) dX8_doByDraws_117 rfl rfl ?_
            refine x_aload_n (pc := 118) dX8_doByDraws_118 rfl rfl hl0 ?_
            obtain ⟨v107, e108, h⟩ := ob h
            refine y_getR (pc := 119) dX8_doByDraws_119 zf_X8_19 e108 ?_
            refine x_iload_n (pc := 122) dX8_doByDraws_122 rfl rfl ?_
            refine x_iconst (pc := 123) dX8_doByDraws_123 (v := 0) rfl ?_
            obtain ⟨g114, h⟩ := bt h
            obtain ⟨r109, e110, h⟩ := ob h
            refine x_callV (av := [.int r12, .int 0]) (st := [.int r5, .ref v105]) (pc := 124) dX8_doByDraws_124 (E_X7_wayRound (d := d + 2) e110) rfl (Nat.le_of_ble_eq_true rfl) zc_X7_wayRound rfl zm_X8_183 zi_X7_wayRound zs_X7_wayRound (zac_ok g114) (by decide) rfl rfl (zst_ok rfl (Nat.le_of_ble_eq_true rfl)) rfl ?_
            obtain ⟨g113, h⟩ := bt h
            obtain ⟨M111, e112, h⟩ := ob h
            refine x_callV (av := [.int r5, .int r109]) (st := []) (pc := 127) dX8_doByDraws_127 (E_X5_go (d := d) e112) rfl (Nat.le_of_ble_eq_true rfl) zc_X5_go rfl zm_X8_239 zi_X5_go zs_X5_go (zac_ok g113) (by decide) rfl rfl (zst_ok rfl (Nat.le_of_ble_eq_true rfl)) rfl ?_
            refine x_goto (pc := 130) dX8_doByDraws_130 (t := 156) rfl ?_
            obtain rfl := s1 h
            exact x_vret (pc := 156) dX8_doByDraws_156 rfl
      · rw [if_pos c24] at h
        refine x_aload_n (pc := 63) dX8_doByDraws_63 rfl rfl hl0 ?_
        obtain ⟨v25, e26, h⟩ := ob h
        refine y_getR (pc := 64) dX8_doByDraws_64 zf_X8_29 e26 ?_
        obtain ⟨v27, e28, h⟩ := ob h
        refine y_getR (pc := 67) dX8_doByDraws_67 zf_X8_173 e28 ?_
        refine x_iload_n (pc := 70) dX8_doByDraws_70 rfl rfl ?_
        obtain ⟨v29, e30, h⟩ := ob h
        refine y_iald (pc := 71) dX8_doByDraws_71 e30 ?_
        refine x_if_le (pc := 72) dX8_doByDraws_72 (t := 88) rfl (fun c31 => ?_) (fun c31 => ?_)
        · rw [if_pos c31] at h
          refine x_iload_n (pc := 88) dX8_doByDraws_88 rfl rfl ?_
          refine x_iconst (pc := 89) dX8_doByDraws_89 (v := 2) rfl ?_
          refine x_icmp_ne (pc := 90) dX8_doByDraws_90 (t := 133) rfl (fun c32 => ?_) (fun c32 => ?_)
          · rw [if_neg c32] at h
            refine x_iload_n (pc := 133) dX8_doByDraws_133 rfl rfl ?_
            refine x_iconst (pc := 134) dX8_doByDraws_134 (v := 3) rfl ?_
            refine x_icmp_ne (pc := 135) dX8_doByDraws_135 (t := 156) rfl (fun c66 => ?_) (fun c66 => ?_)
            · rw [if_neg c66] at h
              obtain rfl := s1 h
              exact x_vret (pc := 156) dX8_doByDraws_156 rfl
            · rw [if_pos c66] at h
              refine x_aload_n (pc := 138) dX8_doByDraws_138 rfl rfl hl0 ?_
              obtain ⟨v67, e68, h⟩ := ob h
              refine y_getR (pc := 139) dX8_doByDraws_139 zf_X8_19 e68 ?_
              refine x_iload_n (pc := 142) dX8_doByDraws_142 rfl rfl ?_
              obtain ⟨g77, h⟩ := bt h
              obtain ⟨r69, e70, h⟩ := ob h
              refine x_callV (av := [.int r12]) (st := []) (pc := 143) dX8_doByDraws_143 (E_X7_canPoint (d := d + 2) e70) rfl (Nat.le_of_ble_eq_true rfl) zc_X7_canPoint rfl zm_X8_187 zi_X7_canPoint zs_X7_canPoint (zac_ok g77) (by decide) rfl rfl (zst_ok rfl (Nat.le_of_ble_eq_true rfl)) rfl ?_
              refine x_if_eq (pc := 146) dX8_doByDraws_146 (t := 156) rfl (fun c71 => ?_) (fun c71 => ?_)
              · rw [if_pos c71] at h
                obtain rfl := s1 h
                exact x_vret (pc := 156) dX8_doByDraws_156 rfl
              · rw [if_neg c71] at h
                refine x_aload_n (pc := 149) dX8_doByDraws_149 rfl rfl hl0 ?_
                obtain ⟨v72, e73, h⟩ := ob h
                refine y_getR (pc := 150) dX8_doByDraws_150 zf_X8_29 e73 ?_
                obtain ⟨g76, h⟩ := bt h
                obtain ⟨M74, e75, h⟩ := ob h
                refine x_callV (av := []) (st := []) (pc := 153) dX8_doByDraws_153 (E_X5_gesture (d := d + 1) e75) rfl (Nat.le_of_ble_eq_true rfl) zc_X5_gesture rfl zm_X8_242 zi_X5_gesture zs_X5_gesture (zac_ok g76) (by decide) rfl rfl (zst_ok rfl (Nat.le_of_ble_eq_true rfl)) rfl ?_
                obtain rfl := s1 h
                exact x_vret (pc := 156) dX8_doByDraws_156 rfl
          · rw [if_pos c32] at h
            refine x_aload_n (pc := 93) dX8_doByDraws_93 rfl rfl hl0 ?_
            obtain ⟨v33, e34, h⟩ := ob h
            refine y_getR (pc := 94) dX8_doByDraws_94 zf_X8_29 e34 ?_
            refine x_iload_n (pc := 97) dX8_doByDraws_97 rfl rfl ?_
            refine x_aload_n (pc := 98) dX8_doByDraws_98 rfl rfl hl0 ?_
            obtain ⟨v35, e36, h⟩ := ob h
            refine y_getR (pc := 99) dX8_doByDraws_99 zf_X8_19 e36 ?_
            refine x_iload_n (pc := 102) dX8_doByDraws_102 rfl rfl ?_
            refine x_iconst (pc := 103) dX8_doByDraws_103 (v := 0) rfl ?_
            obtain ⟨g65, h⟩ := bt h
            obtain ⟨r37, e38, h⟩ := ob h
            refine x_callV (av := [.int r12, .int 0]) (st := [.int r5, .ref v33]) (pc := 104) dX8_doByDraws_104 (E_X7_wayRound (d := d + 2) e38) rfl (Nat.le_of_ble_eq_true rfl) zc_X7_wayRound rfl zm_X8_183 zi_X7_wayRound zs_X7_wayRound (zac_ok g65) (by decide) rfl rfl (zst_ok rfl (Nat.le_of_ble_eq_true rfl)) rfl ?_
            obtain ⟨g64, h⟩ := bt h
            obtain ⟨r39, e40, h⟩ := ob h
            refine x_callV (av := [.int r5, .int r37]) (st := []) (pc := 107) dX8_doByDraws_107 (E_X5_canGo (d := d) e40) rfl (Nat.le_of_ble_eq_true rfl) zc_X5_canGo rfl zm_X8_236 zi_X5_canGo zs_X5_canGo (zac_ok g64) (by decide) rfl rfl (zst_ok rfl (Nat.le_of_ble_eq_true rfl)) rfl ?_
            refine x_if_eq (pc := 110) dX8_doByDraws_110 (t := 133) rfl (fun c41 => ?_) (fun c41 => ?_)
            · rw [if_pos c41] at h
              refine x_iload_n (pc := 133) dX8_doByDraws_133 rfl rfl ?_
              refine x_iconst (pc := 134) dX8_doByDraws_134 (v := 3) rfl ?_
              refine x_icmp_ne (pc := 135) dX8_doByDraws_135 (t := 156) rfl (fun c42 => ?_) (fun c42 => ?_)
              · rw [if_neg c42] at h
                obtain rfl := s1 h
                exact x_vret (pc := 156) dX8_doByDraws_156 rfl
              · rw [if_pos c42] at h
                refine x_aload_n (pc := 138) dX8_doByDraws_138 rfl rfl hl0 ?_
                obtain ⟨v43, e44, h⟩ := ob h
                refine y_getR (pc := 139) dX8_doByDraws_139 zf_X8_19 e44 ?_
                refine x_iload_n (pc := 142) dX8_doByDraws_142 rfl rfl ?_
                obtain ⟨g53, h⟩ := bt h
                obtain ⟨r45, e46, h⟩ := ob h
                refine x_callV (av := [.int r12]) (st := []) (pc := 143) dX8_doByDraws_143 (E_X7_canPoint (d := d + 2) e46) rfl (Nat.le_of_ble_eq_true rfl) zc_X7_canPoint rfl zm_X8_187 zi_X7_canPoint zs_X7_canPoint (zac_ok g53) (by decide) rfl rfl (zst_ok rfl (Nat.le_of_ble_eq_true rfl)) rfl ?_
                refine x_if_eq (pc := 146) dX8_doByDraws_146 (t := 156) rfl (fun c47 => ?_) (fun c47 => ?_)
                · rw [if_pos c47] at h
                  obtain rfl := s1 h
                  exact x_vret (pc := 156) dX8_doByDraws_156 rfl
                · rw [if_neg c47] at h
                  refine x_aload_n (pc := 149) dX8_doByDraws_149 rfl rfl hl0 ?_
                  obtain ⟨v48, e49, h⟩ := ob h
                  refine y_getR (pc := 150) dX8_doByDraws_150 zf_X8_29 e49 ?_
                  obtain ⟨g52, h⟩ := bt h
                  obtain ⟨M50, e51, h⟩ := ob h
                  refine x_callV (av := []) (st := []) (pc := 153) dX8_doByDraws_153 (E_X5_gesture (d := d + 1) e51) rfl (Nat.le_of_ble_eq_true rfl) zc_X5_gesture rfl zm_X8_242 zi_X5_gesture zs_X5_gesture (zac_ok g52) (by decide) rfl rfl (zst_ok rfl (Nat.le_of_ble_eq_true rfl)) rfl ?_
                  obtain rfl := s1 h
                  exact x_vret (pc := 156) dX8_doByDraws_156 rfl
            · rw [if_neg c41] at h
              refine x_aload_n (pc := 113) dX8_doByDraws_113 rfl rfl hl0 ?_
              obtain ⟨v54, e55, h⟩ := ob h
              refine y_getR (pc := 114) dX8_doByDraws_114 zf_X8_29 e55 ?_
              refine x_iload_n (pc := 117) dX8_doByDraws_117 rfl rfl ?_
              refine x_aload_n (pc := 118) dX8_doByDraws_118 rfl rfl hl0 ?_
              obtain ⟨v56, e57, h⟩ := ob h
              refine y_getR (pc := 119) dX8_doByDraws_119 zf_X8_19 e57 ?_
              refine x_iload_n (pc := 122) dX8_doByDraws_122 rfl rfl ?_
              refine x_iconst (pc := 123) dX8_doByDraws_123 (v := 0) rfl ?_
              obtain ⟨g63, h⟩ := bt h
              obtain ⟨r58, e59, h⟩ := ob h
              refine x_callV (av := [.int r12, .int 0]) (st := [.int r5, .ref v54]) (pc := 124) dX8_doByDraws_124 (E_X7_wayRound (d := d + 2) e59) rfl (Nat.le_of_ble_eq_true rfl) zc_X7_wayRound rfl zm_X8_183 zi_X7_wayRound zs_X7_wayRound (zac_ok g63) (by decide) rfl rfl (zst_ok rfl (Nat.le_of_ble_eq_true rfl)) rfl ?_
              obtain ⟨g62, h⟩ := bt h
              obtain ⟨M60, e61, h⟩ := ob h
              refine x_callV (av := [.int r5, .int r58]) (st := []) (pc := 127) dX8_doByDraws_127 (E_X5_go (d := d) e61) rfl (Nat.le_of_ble_eq_true rfl) zc_X5_go rfl zm_X8_239 zi_X5_go zs_X5_go (zac_ok g62) (by decide) rfl rfl (zst_ok rfl (Nat.le_of_ble_eq_true rfl)) rfl ?_
              refine x_goto (pc := 130) dX8_doByDraws_130 (t := 156) rfl ?_
              obtain rfl := s1 h
              exact x_vret (pc := 156) dX8_doByDraws_156 rfl
        · rw [if_neg c31] at h
          refine x_aload_n (pc := 75) dX8_doByDraws_75 rfl rfl hl0 ?_
          obtain ⟨v78, e79, h⟩ := ob h
          refine y_getR (pc := 76) dX8_doByDraws_76 zf_X8_29 e79 ?_
          refine x_iload_n (pc := 79) dX8_doByDraws_79 rfl rfl ?_
          refine x_iload_n (pc := 80) dX8_doByDraws_80 rfl rfl ?_
          refine x_iconst (pc := 81) dX8_doByDraws_81 (v := 1) rfl ?_
          obtain ⟨g82, h⟩ := bt h
          obtain ⟨M80, e81, h⟩ := ob h
          refine x_callV (av := [.int r5, .int r12, .int 1]) (st := []) (pc := 82) dX8_doByDraws_82 (E_X5_store (d := d + 1) e81) rfl (Nat.le_of_ble_eq_true rfl) zc_X5_store rfl zm_X8_245 zi_X5_store zs_X5_store (zac_ok g82) (by decide) rfl rfl (zst_ok rfl (Nat.le_of_ble_eq_true rfl)) rfl ?_
          refine x_goto (pc := 85) dX8_doByDraws_85 (t := 156) rfl ?_
          obtain rfl := s1 h
          exact x_vret (pc := 156) dX8_doByDraws_156 rfl
    · rw [if_neg c23] at h
      refine x_aload_n (pc := 46) dX8_doByDraws_46 rfl rfl hl0 ?_
      obtain ⟨v129, e130, h⟩ := ob h
      refine y_getR (pc := 47) dX8_doByDraws_47 zf_X8_29 e130 ?_
      refine x_iload_n (pc := 50) dX8_doByDraws_50 rfl rfl ?_
      refine x_iload_n (pc := 51) dX8_doByDraws_51 rfl rfl ?_
      obtain ⟨g133, h⟩ := bt h
      obtain ⟨M131, e132, h⟩ := ob h
      refine x_callV (av := [.int r5, .int r12]) (st := []) (pc := 52) dX8_doByDraws_52 (E_X5_speak (d := d + 1) e132) rfl (Nat.le_of_ble_eq_true rfl) zc_X5_speak rfl zm_X8_229 zi_X5_speak zs_X5_speak (zac_ok g133) (by decide) rfl rfl (zst_ok rfl (Nat.le_of_ble_eq_true rfl)) rfl ?_
      refine x_goto (pc := 55) dX8_doByDraws_55 (t := 156) rfl ?_
      obtain rfl := s1 h
      exact x_vret (pc := 156) dX8_doByDraws_156 rfl
def L_X8_drift_25 : Nat → Nat → Int32 → Int32 → zM → Option (zM)
  | 0, _, _, _, _ => none
  | n + 1, l0, l1, l3, M => if l1 ≤ l3 then (some M) else ((oR M l0 8 13 1).bind fun v11 => (oI M v11 7 15 3).bind fun v13 => if v13 ≤ 0 then ((oR M l0 8 13 3).bind fun v16 => (oR M l0 8 13 1).bind fun v18 => bif zac M v16 5 9 then ((f_X5_passDay v16 v18 M).bind fun M20 => L_X8_drift_25 n l0 l1 (l3 + 1) M20) else none) else ((oR M l0 8 13 1).bind fun v23 => (oI M v23 7 15 1).bind fun v25 => if v25 ≤ 0 then ((oR M l0 8 13 3).bind fun v28 => (oR M l0 8 13 1).bind fun v30 => bif zac M v28 5 9 then ((f_X5_passDay v28 v30 M).bind fun M32 => L_X8_drift_25 n l0 l1 (l3 + 1) M32) else none) else (bif zac M l0 8 13 then ((f_X8_doByDraws l0 M).bind fun M35 => (oR M35 l0 8 13 3).bind fun v37 => (oR M35 l0 8 13 1).bind fun v39 => bif zac M35 v37 5 9 then ((f_X5_passDay v37 v39 M35).bind fun M41 => L_X8_drift_25 n l0 l1 (l3 + 1) M41) else none) else none)))
def f_X8_drift (l0 : Nat) (l1 : Int32) (M : zM) : Option (Int32 × zM) := bif Nat.ble 1 l0 then (bif zac M l0 8 13 then ((f_X8_refusalOfDays l0 l1 M).bind fun r1 => if r1 = 0 then ((oR M l0 8 13 5).bind fun v4 => (oR M l0 8 13 3).bind fun v6 => bif zac M v4 3 3 then ((f_X3_remember v4 v6 M).bind fun M8 => (L_X8_drift_25 zN l0 l1 0 M8).bind fun M11 => (oR M11 l0 8 13 3).bind fun v12 => (oI M11 v12 5 9 6).bind fun v14 => some (v14, M11)) else none) else (some (r1, M))) else none) else none
theorem LX_X8_drift_25 {G : zG} {d : Nat} : ∀ (n : Nat) (l0 : Nat) (l1 : Int32) (l3 : Int32) (M : zM) (hl0 : l0 ≠ 0) (MX : zM) {res : Option Value × zM}, L_X8_drift_25 n l0 l1 l3 M = some MX → Ex G (d + 6) yX8_drift cX8_drift 4 (some .int) 71 [.ref l0, .null, .null, .null] [] MX res → Ex G (d + 6) yX8_drift cX8_drift 4 (some .int) 25 [.ref l0, .int l1, .null, .int l3] [] M res := by
  intro n
  induction n with
  | zero =>
    intro l0 l1 l3 M hl0 MX res h K
    simp [L_X8_drift_25] at h
  | succ n ih =>
    intro l0 l1 l3 M hl0 MX res h K
    simp only [L_X8_drift_25] at h
    refine x_iload_n (pc := 25) dX8_drift_25 rfl rfl ?_
    refine x_iload_n (pc := 26) dX8_drift_26 rfl rfl ?_
    refine x_icmp_ge (pc := 27) dX8_drift_27 (t := 71) rfl (fun c10 => ?_) (fun c10 => ?_)
    · rw [if_pos c10] at h
      obtain rfl := s1 h
      refine ex_weak (Ls2 := [.ref l0, .null, .null, .null]) ⟨Or.inr rfl, Or.inl rfl, Or.inl rfl, Or.inl rfl, trivial⟩ ?_
      exact K
    · rw [if_neg c10] at h
      refine x_aload_n (pc := 30) dX8_drift_30 rfl rfl hl0 ?_
      obtain ⟨v11, e12, h⟩ := ob h
      refine y_getR (pc := 31) dX8_drift_31 zf_X8_19 e12 ?_
      obtain ⟨v13, e14, h⟩ := ob h
      refine y_getI (pc := 34) dX8_drift_34 zf_X8_128 e14 (by decide) ?_
      refine x_if_le (pc := 37) dX8_drift_37 (t := 54) rfl (fun c15 => ?_) (fun c15 => ?_)
      · rw [if_pos c15] at h
        refine x_aload_n (pc := 54) dX8_drift_54 rfl rfl hl0 ?_
        obtain ⟨v16, e17, h⟩ := ob h
        refine y_getR (pc := 55) dX8_drift_55 zf_X8_29 e17 ?_
        refine x_aload_n (pc := 58) dX8_drift_58 rfl rfl hl0 ?_
        obtain ⟨v18, e19, h⟩ := ob h
        refine y_getR (pc := 59) dX8_drift_59 zf_X8_19 e19 ?_
        obtain ⟨g22, h⟩ := bt h
        obtain ⟨M20, e21, h⟩ := ob h
        refine x_callV (av := [.ref v18]) (st := []) (pc := 62) dX8_drift_62 (E_X5_passDay (d := d) e21) rfl (Nat.le_of_ble_eq_true rfl) zc_X5_passDay rfl zm_X8_222 zi_X5_passDay zs_X5_passDay (zac_ok g22) (by decide) rfl rfl (zst_ok rfl (Nat.le_of_ble_eq_true rfl)) rfl ?_
        refine x_iinc (pc := 65) dX8_drift_65 rfl rfl (by decide) rfl ?_
        refine x_goto (pc := 68) dX8_drift_68 (t := 25) rfl ?_
        refine ex_weak (Ls2 := [.ref l0, .int l1, .null, .int (l3 + 1)]) ⟨Or.inr rfl, Or.inr rfl, Or.inl rfl, Or.inr rfl, trivial⟩ ?_
        exact ih _ _ _ _ hl0  _ h K
      · rw [if_neg c15] at h
        refine x_aload_n (pc := 40) dX8_drift_40 rfl rfl hl0 ?_
        obtain ⟨v23, e24, h⟩ := ob h
        refine y_getR (pc := 41) dX8_drift_41 zf_X8_19 e24 ?_
        obtain ⟨v25, e26, h⟩ := ob h
        refine y_getI (pc := 44) dX8_drift_44 zf_X8_116 e26 (by decide) ?_
        refine x_if_le (pc := 47) dX8_drift_47 (t := 54) rfl (fun c27 => ?_) (fun c27 => ?_)
        · rw [if_pos c27] at h
          refine x_aload_n (pc := 54) dX8_drift_54 rfl rfl hl0 ?_
          obtain ⟨v28, e29, h⟩ := ob h
          refine y_getR (pc := 55) dX8_drift_55 zf_X8_29 e29 ?_
          refine x_aload_n (pc := 58) dX8_drift_58 rfl rfl hl0 ?_
          obtain ⟨v30, e31, h⟩ := ob h
          refine y_getR (pc := 59) dX8_drift_59 zf_X8_19 e31 ?_
          obtain ⟨g34, h⟩ := bt h
          obtain ⟨M32, e33, h⟩ := ob h
          refine x_callV (av := [.ref v30]) (st := []) (pc := 62) dX8_drift_62 (E_X5_passDay (d := d) e33) rfl (Nat.le_of_ble_eq_true rfl) zc_X5_passDay rfl zm_X8_222 zi_X5_passDay zs_X5_passDay (zac_ok g34) (by decide) rfl rfl (zst_ok rfl (Nat.le_of_ble_eq_true rfl)) rfl ?_
          refine x_iinc (pc := 65) dX8_drift_65 rfl rfl (by decide) rfl ?_
          refine x_goto (pc := 68) dX8_drift_68 (t := 25) rfl ?_
          refine ex_weak (Ls2 := [.ref l0, .int l1, .null, .int (l3 + 1)]) ⟨Or.inr rfl, Or.inr rfl, Or.inl rfl, Or.inr rfl, trivial⟩ ?_
          exact ih _ _ _ _ hl0  _ h K
        · rw [if_neg c27] at h
          refine x_aload_n (pc := 50) dX8_drift_50 rfl rfl hl0 ?_
          obtain ⟨g44, h⟩ := bt h
          obtain ⟨M35, e36, h⟩ := ob h
          refine x_callV (av := []) (st := []) (pc := 51) dX8_drift_51 (E_X8_doByDraws (d := d + 2) e36) rfl (Nat.le_of_ble_eq_true rfl) zc_X8_doByDraws rfl zm_X8_252 zi_X8_doByDraws zs_X8_doByDraws (zac_ok g44) (by decide) rfl rfl (zst_ok rfl (Nat.le_of_ble_eq_true rfl)) rfl ?_
          refine x_aload_n (pc := 54) dX8_drift_54 rfl rfl hl0 ?_
          obtain ⟨v37, e38, h⟩ := ob h
          refine y_getR (pc := 55) dX8_drift_55 zf_X8_29 e38 ?_
          refine x_aload_n (pc := 58) dX8_drift_58 rfl rfl hl0 ?_
          obtain ⟨v39, e40, h⟩ := ob h
          refine y_getR (pc := 59) dX8_drift_59 zf_X8_19 e40 ?_
          obtain ⟨g43, h⟩ := bt h
          obtain ⟨M41, e42, h⟩ := ob h
          refine x_callV (av := [.ref v39]) (st := []) (pc := 62) dX8_drift_62 (E_X5_passDay (d := d) e42) rfl (Nat.le_of_ble_eq_true rfl) zc_X5_passDay rfl zm_X8_222 zi_X5_passDay zs_X5_passDay (zac_ok g43) (by decide) rfl rfl (zst_ok rfl (Nat.le_of_ble_eq_true rfl)) rfl ?_
          refine x_iinc (pc := 65) dX8_drift_65 rfl rfl (by decide) rfl ?_
          refine x_goto (pc := 68) dX8_drift_68 (t := 25) rfl ?_
          refine ex_weak (Ls2 := [.ref l0, .int l1, .null, .int (l3 + 1)]) ⟨Or.inr rfl, Or.inr rfl, Or.inl rfl, Or.inr rfl, trivial⟩ ?_
          exact ih _ _ _ _ hl0  _ h K
theorem E_X8_drift {G : zG} {d : Nat} {l0 : Nat} {l1 : Int32} {M MR : zM} {r : Int32} (h : f_X8_drift l0 l1 M = some (r, MR)) : Ex G (d + 6) yX8_drift cX8_drift 4 (some .int) 0 (zent0 [.ref l0, .int l1] 4) [] M (some (.int r), MR) := by
  unfold f_X8_drift at h
  obtain ⟨zz0, h⟩ := bt h
  have hl0 := bz zz0
  show Ex _ _ _ _ _ _ 0 [.ref l0, .int l1, .null, .null] [] _ _
  refine x_aload_n (pc := 0) dX8_drift_0 rfl rfl hl0 ?_
  refine x_iload_n (pc := 1) dX8_drift_1 rfl rfl ?_
  obtain ⟨g17, h⟩ := bt h
  obtain ⟨r1, e2, h⟩ := ob h
  refine x_callV (av := [.int l1]) (st := []) (pc := 2) dX8_drift_2 (E_X8_refusalOfDays (d := d + 5) e2) rfl (Nat.le_of_ble_eq_true rfl) zc_X8_refusalOfDays rfl zm_X8_215 zi_X8_refusalOfDays zs_X8_refusalOfDays (zac_ok g17) (by decide) rfl rfl (zst_ok rfl (Nat.le_of_ble_eq_true rfl)) rfl ?_
  refine x_istore_n (pc := 5) dX8_drift_5 rfl (by decide) rfl ?_
  refine x_iload_n (pc := 6) dX8_drift_6 rfl rfl ?_
  refine x_if_eq (pc := 7) dX8_drift_7 (t := 12) rfl (fun c3 => ?_) (fun c3 => ?_)
  · rw [if_pos c3] at h
    refine x_aload_n (pc := 12) dX8_drift_12 rfl rfl hl0 ?_
    obtain ⟨v4, e5, h⟩ := ob h
    refine y_getR (pc := 13) dX8_drift_13 zf_X8_39 e5 ?_
    refine x_aload_n (pc := 16) dX8_drift_16 rfl rfl hl0 ?_
    obtain ⟨v6, e7, h⟩ := ob h
    refine y_getR (pc := 17) dX8_drift_17 zf_X8_29 e7 ?_
    obtain ⟨g16, h⟩ := bt h
    obtain ⟨M8, e9, h⟩ := ob h
    refine x_callV (av := [.ref v6]) (st := []) (pc := 20) dX8_drift_20 (E_X3_remember (d := d + 4) e9) rfl (Nat.le_of_ble_eq_true rfl) zc_X3_remember rfl zm_X8_218 zi_X3_remember zs_X3_remember (zac_ok g16) (by decide) rfl rfl (zst_ok rfl (Nat.le_of_ble_eq_true rfl)) rfl ?_
    refine x_iconst (pc := 23) dX8_drift_23 (v := 0) rfl ?_
    refine x_istore_n (pc := 24) dX8_drift_24 rfl (by decide) rfl ?_
    obtain ⟨M11, e10, h⟩ := ob h
    refine ex_weak (Ls2 := [.ref l0, .int l1, .null, .int 0]) ⟨Or.inr rfl, Or.inr rfl, Or.inl rfl, Or.inr rfl, trivial⟩ ?_
    refine LX_X8_drift_25 zN _ _ _ _ hl0 _ e10 ?_
    refine x_aload_n (pc := 71) dX8_drift_71 rfl rfl hl0 ?_
    obtain ⟨v12, e13, h⟩ := ob h
    refine y_getR (pc := 72) dX8_drift_72 zf_X8_29 e13 ?_
    obtain ⟨v14, e15, h⟩ := ob h
    refine y_getI (pc := 75) dX8_drift_75 zf_X8_142 e15 (by decide) ?_
    obtain ⟨rfl, rfl⟩ := s2 h
    exact y_retI (pc := 78) dX8_drift_78 rfl
  · rw [if_neg c3] at h
    refine x_iload_n (pc := 10) dX8_drift_10 rfl rfl ?_
    obtain ⟨rfl, rfl⟩ := s2 h
    exact y_retI (pc := 11) dX8_drift_11 rfl
def f_X8_undo (l0 : Nat) (M : zM) : Option (Int32 × zM) := bif Nat.ble 1 l0 then ((oR M l0 8 13 5).bind fun v1 => (oI M v1 3 3 2).bind fun v3 => if v3 = 0 then (some ((-1000000003), M)) else ((oR M l0 8 13 5).bind fun v6 => (oR M l0 8 13 3).bind fun v8 => bif zac M v6 3 3 then ((f_X3_returnTo v6 v8 M).bind fun M10 => (oR M10 l0 8 13 5).bind fun v12 => (oI M10 v12 3 3 2).bind fun v14 => some (v14, M10)) else none)) else none
theorem E_X8_undo {G : zG} {d : Nat} {l0 : Nat} {M MR : zM} {r : Int32} (h : f_X8_undo l0 M = some (r, MR)) : Ex G (d + 2) yX8_undo cX8_undo 1 (some .int) 0 (zent0 [.ref l0] 1) [] M (some (.int r), MR) := by
  unfold f_X8_undo at h
  obtain ⟨zz0, h⟩ := bt h
  have hl0 := bz zz0
  show Ex _ _ _ _ _ _ 0 [.ref l0] [] _ _
  refine x_aload_n (pc := 0) dX8_undo_0 rfl rfl hl0 ?_
  obtain ⟨v1, e2, h⟩ := ob h
  refine y_getR (pc := 1) dX8_undo_1 zf_X8_39 e2 ?_
  obtain ⟨v3, e4, h⟩ := ob h
  refine y_getI (pc := 4) dX8_undo_4 zf_X8_158 e4 (by decide) ?_
  refine x_if_ne (pc := 7) dX8_undo_7 (t := 13) rfl (fun c5 => ?_) (fun c5 => ?_)
  · rw [if_neg c5] at h
    refine x_aload_n (pc := 13) dX8_undo_13 rfl rfl hl0 ?_
    obtain ⟨v6, e7, h⟩ := ob h
    refine y_getR (pc := 14) dX8_undo_14 zf_X8_39 e7 ?_
    refine x_aload_n (pc := 17) dX8_undo_17 rfl rfl hl0 ?_
    obtain ⟨v8, e9, h⟩ := ob h
    refine y_getR (pc := 18) dX8_undo_18 zf_X8_29 e9 ?_
    obtain ⟨g16, h⟩ := bt h
    obtain ⟨M10, e11, h⟩ := ob h
    refine x_callV (av := [.ref v8]) (st := []) (pc := 21) dX8_undo_21 (E_X3_returnTo (d := d) e11) rfl (Nat.le_of_ble_eq_true rfl) zc_X3_returnTo rfl zm_X8_255 zi_X3_returnTo zs_X3_returnTo (zac_ok g16) (by decide) rfl rfl (zst_ok rfl (Nat.le_of_ble_eq_true rfl)) rfl ?_
    refine x_aload_n (pc := 24) dX8_undo_24 rfl rfl hl0 ?_
    obtain ⟨v12, e13, h⟩ := ob h
    refine y_getR (pc := 25) dX8_undo_25 zf_X8_39 e13 ?_
    obtain ⟨v14, e15, h⟩ := ob h
    refine y_getI (pc := 28) dX8_undo_28 zf_X8_158 e15 (by decide) ?_
    obtain ⟨rfl, rfl⟩ := s2 h
    exact y_retI (pc := 31) dX8_undo_31 rfl
  · rw [if_pos c5] at h
    refine x_ldc (pc := 10) dX8_undo_10 zk_X8_228 ?_
    obtain ⟨rfl, rfl⟩ := s2 h
    exact y_retI (pc := 12) dX8_undo_12 rfl
def L_X8_cheapTogether_4 : Nat → Nat → Int32 → Int32 → Int32 → zM → Option ((Int32) ⊕ (Int32))
  | 0, _, _, _, _, _ => none
  | n + 1, l0, l1, l2, l3, M => if 8 ≤ l3 then (some (.inr l2)) else (if (l1 >>> (l3 &&& 31)) &&& 1 = 0 then (L_X8_cheapTogether_4 n l0 l1 l2 (l3 + 1) M) else ((oR M l0 8 13 10).bind fun v3 => (aI M v3 l3).bind fun v5 => if v5 = (-1) then (some (.inl (-1))) else ((oR M l0 8 13 10).bind fun v8 => (aI M v8 l3).bind fun v10 => L_X8_cheapTogether_4 n l0 l1 (l2 + v10) (l3 + 1) M)))
def f_X8_cheapTogether (l0 : Nat) (l1 : Int32) (M : zM) : Option (Int32) := bif Nat.ble 1 l0 then (bs (L_X8_cheapTogether_4 zN l0 l1 0 0 M) some (fun v2 => if l1 = 0 then (some (-1)) else (some v2))) else none
theorem LX_X8_cheapTogether_4 {G : zG} {d : Nat} : ∀ (n : Nat) (l0 : Nat) (l1 : Int32) (l2 : Int32) (l3 : Int32) (M : zM) (hl0 : l0 ≠ 0) (e : (Int32) ⊕ (Int32)) {res : Option Value × zM}, L_X8_cheapTogether_4 n l0 l1 l2 l3 M = some e → (∀ r, e = .inl r → res = (some (.int r), M)) → (∀ (o2 : Int32), e = .inr o2 → Ex G d yX8_cheapTogether cX8_cheapTogether 4 (some .int) 45 [.null, .int l1, .int o2, .null] [] M res) → Ex G d yX8_cheapTogether cX8_cheapTogether 4 (some .int) 4 [.ref l0, .int l1, .int l2, .int l3] [] M res := by
  intro n
  induction n with
  | zero =>
    intro l0 l1 l2 l3 M hl0 e res h K1 K2
    simp [L_X8_cheapTogether_4] at h
  | succ n ih =>
    intro l0 l1 l2 l3 M hl0 e res h K1 K2
    simp only [L_X8_cheapTogether_4] at h
    refine x_iload_n (pc := 4) dX8_cheapTogether_4 rfl rfl ?_
    refine x_bipush (pc := 5) dX8_cheapTogether_5 (v := 8) (by decide) ?_
    refine x_icmp_ge (pc := 7) dX8_cheapTogether_7 (t := 45) rfl (fun c1 => ?_) (fun c1 => ?_)
    · rw [if_pos c1] at h
      obtain rfl := s1 h
      refine ex_weak (Ls2 := [.null, .int l1, .int l2, .null]) ⟨Or.inl rfl, Or.inr rfl, Or.inr rfl, Or.inl rfl, trivial⟩ ?_
      exact K2 _ rfl
    · rw [if_neg c1] at h
      refine x_iload_n (pc := 10) dX8_cheapTogether_10 rfl rfl ?_
      refine x_iload_n (pc := 11) dX8_cheapTogether_11 rfl rfl ?_
      refine x_ishr (pc := 12) dX8_cheapTogether_12 ?_
      refine x_iconst (pc := 13) dX8_cheapTogether_13 (v := 1) rfl ?_
      refine x_iand (pc := 14) dX8_cheapTogether_14 ?_
      refine x_if_eq (pc := 15) dX8_cheapTogether_15 (t := 39) rfl (fun c2 => ?_) (fun c2 => ?_)
      · rw [if_pos c2] at h
        refine x_iinc (pc := 39) dX8_cheapTogether_39 rfl rfl (by decide) rfl ?_
        refine x_goto (pc := 42) dX8_cheapTogether_42 (t := 4) rfl ?_
        refine ex_weak (Ls2 := [.ref l0, .int l1, .int l2, .int (l3 + 1)]) ⟨Or.inr rfl, Or.inr rfl, Or.inr rfl, Or.inr rfl, trivial⟩ ?_
        exact ih _ _ _ _ _ hl0 _ h K1 K2
      · rw [if_neg c2] at h
        refine x_aload_n (pc := 18) dX8_cheapTogether_18 rfl rfl hl0 ?_
        obtain ⟨v3, e4, h⟩ := ob h
        refine y_getR (pc := 19) dX8_cheapTogether_19 zf_X8_70 e4 ?_
        refine x_iload_n (pc := 22) dX8_cheapTogether_22 rfl rfl ?_
        obtain ⟨v5, e6, h⟩ := ob h
        refine y_iald (pc := 23) dX8_cheapTogether_23 e6 ?_
        refine x_iconst (pc := 24) dX8_cheapTogether_24 (v := (-1)) rfl ?_
        refine x_icmp_ne (pc := 25) dX8_cheapTogether_25 (t := 30) rfl (fun c7 => ?_) (fun c7 => ?_)
        · rw [if_neg c7] at h
          refine x_iload_n (pc := 30) dX8_cheapTogether_30 rfl rfl ?_
          refine x_aload_n (pc := 31) dX8_cheapTogether_31 rfl rfl hl0 ?_
          obtain ⟨v8, e9, h⟩ := ob h
          refine y_getR (pc := 32) dX8_cheapTogether_32 zf_X8_70 e9 ?_
          refine x_iload_n (pc := 35) dX8_cheapTogether_35 rfl rfl ?_
          obtain ⟨v10, e11, h⟩ := ob h
          refine y_iald (pc := 36) dX8_cheapTogether_36 e11 ?_
          refine x_iadd (pc := 37) dX8_cheapTogether_37 ?_
          refine x_istore_n (pc := 38) dX8_cheapTogether_38 rfl (by decide) rfl ?_
          refine x_iinc (pc := 39) dX8_cheapTogether_39 rfl rfl (by decide) rfl ?_
          refine x_goto (pc := 42) dX8_cheapTogether_42 (t := 4) rfl ?_
          refine ex_weak (Ls2 := [.ref l0, .int l1, .int (l2 + v10), .int (l3 + 1)]) ⟨Or.inr rfl, Or.inr rfl, Or.inr rfl, Or.inr rfl, trivial⟩ ?_
          exact ih _ _ _ _ _ hl0 _ h K1 K2
        · rw [if_pos c7] at h
          refine x_iconst (pc := 28) dX8_cheapTogether_28 (v := (-1)) rfl ?_
          obtain rfl := s1 h
          rw [K1 _ rfl]
          exact y_retI (pc := 29) dX8_cheapTogether_29 rfl
theorem E_X8_cheapTogether {G : zG} {d : Nat} {l0 : Nat} {l1 : Int32} {M : zM} {r : Int32} (h : f_X8_cheapTogether l0 l1 M = some r) : Ex G d yX8_cheapTogether cX8_cheapTogether 4 (some .int) 0 (zent0 [.ref l0, .int l1] 4) [] M (some (.int r), M) := by
  unfold f_X8_cheapTogether at h
  obtain ⟨zz0, h⟩ := bt h
  have hl0 := bz zz0
  show Ex _ _ _ _ _ _ 0 [.ref l0, .int l1, .null, .null] [] _ _
  refine x_iconst (pc := 0) dX8_cheapTogether_0 (v := 0) rfl ?_
  refine x_istore_n (pc := 1) dX8_cheapTogether_1 rfl (by decide) rfl ?_
  refine x_iconst (pc := 2) dX8_cheapTogether_2 (v := 0) rfl ?_
  refine x_istore_n (pc := 3) dX8_cheapTogether_3 rfl (by decide) rfl ?_
  refine ex_weak (Ls2 := [.ref l0, .int l1, .int 0, .int 0]) ⟨Or.inr rfl, Or.inr rfl, Or.inr rfl, Or.inr rfl, trivial⟩ ?_
  rcases obs h with ⟨r4, e1, h⟩ | ⟨v2, e1, h⟩
  · cases h
    exact LX_X8_cheapTogether_4 zN _ _ _ _ _ hl0 _ e1 (fun r q => by cases q; rfl) (by intros; contradiction)
  · refine LX_X8_cheapTogether_4 zN _ _ _ _ _ hl0 _ e1 (fun r q => by cases q) ?_
    intro u5 q
    cases q
    refine x_iload_n (pc := 45) dX8_cheapTogether_45 rfl rfl ?_
    refine x_if_ne (pc := 46) dX8_cheapTogether_46 (t := 53) rfl (fun c3 => ?_) (fun c3 => ?_)
    · rw [if_neg c3] at h
      refine x_iload_n (pc := 53) dX8_cheapTogether_53 rfl rfl ?_
      obtain rfl := s1 h
      exact y_retI (pc := 54) dX8_cheapTogether_54 rfl
    · rw [if_pos c3] at h
      refine x_iconst (pc := 49) dX8_cheapTogether_49 (v := (-1)) rfl ?_
      refine x_goto (pc := 50) dX8_cheapTogether_50 (t := 54) rfl ?_
      obtain rfl := s1 h
      exact y_retI (pc := 54) dX8_cheapTogether_54 rfl
def f_X8_costBy (l0 : Nat) (l1 : Int32) (l2 : Int32) (l3 : Int32) (M : zM) : Option (Int32) := bif Nat.ble 1 l0 then (if l3 = 0 then ((oR M l0 8 13 3).bind fun v2 => bif zac M v2 5 9 then ((f_X5_canSay v2 l1 l2 M).bind fun r4 => if r4 = 0 then (some (-1)) else ((oR M l0 8 13 1).bind fun v7 => (oR M v7 7 15 8).bind fun v9 => (aI M v9 l2).bind fun v11 => some v11)) else none) else (if l3 = 1 then ((oR M l0 8 13 1).bind fun v15 => bif zac M v15 7 15 then ((f_X7_canPoint v15 l2 M).bind fun r17 => if r17 = 0 then (some (-1)) else (some 0)) else none) else ((oR M l0 8 13 1).bind fun v21 => bif zac M v21 7 15 then ((f_X7_wayRound v21 l2 (l3 - 2) M).bind fun r23 => bif zac M l0 8 13 then ((f_X8_cheapTogether l0 r23 M).bind fun r25 => some r25) else none) else none))) else none
theorem E_X8_costBy {G : zG} {d : Nat} {l0 : Nat} {l1 : Int32} {l2 : Int32} {l3 : Int32} {M : zM} {r : Int32} (h : f_X8_costBy l0 l1 l2 l3 M = some r) : Ex G (d + 2) yX8_costBy cX8_costBy 4 (some .int) 0 (zent0 [.ref l0, .int l1, .int l2, .int l3] 4) [] M (some (.int r), M) := by
  unfold f_X8_costBy at h
  obtain ⟨zz0, h⟩ := bt h
  have hl0 := bz zz0
  show Ex _ _ _ _ _ _ 0 [.ref l0, .int l1, .int l2, .int l3] [] _ _
  refine x_iload_n (pc := 0) dX8_costBy_0 rfl rfl ?_
  refine x_if_ne (pc := 1) dX8_costBy_1 (t := 30) rfl (fun c1 => ?_) (fun c1 => ?_)
  · rw [if_neg c1] at h
    refine x_iload_n (pc := 30) dX8_costBy_30 rfl rfl ?_
    refine x_iconst (pc := 31) dX8_costBy_31 (v := 1) rfl ?_
    refine x_icmp_ne (pc := 32) dX8_costBy_32 (t := 52) rfl (fun c14 => ?_) (fun c14 => ?_)
    · rw [if_neg c14] at h
      refine x_aload_n (pc := 52) dX8_costBy_52 rfl rfl hl0 ?_
      refine x_aload_n (pc := 53) dX8_costBy_53 rfl rfl hl0 ?_
      obtain ⟨v21, e22, h⟩ := ob h
      refine y_getR (pc := 54) dX8_costBy_54 zf_X8_19 e22 ?_
      refine x_iload_n (pc := 57) dX8_costBy_57 rfl rfl ?_
      refine x_iload_n (pc := 58) dX8_costBy_58 rfl rfl ?_
      refine x_iconst (pc := 59) dX8_costBy_59 (v := 2) rfl ?_
      refine x_isub (pc := 60) dX8_costBy_60 ?_
      obtain ⟨g28, h⟩ := bt h
      obtain ⟨r23, e24, h⟩ := ob h
      refine x_callV (av := [.int l2, .int (l3 - 2)]) (st := [.ref l0]) (pc := 61) dX8_costBy_61 (E_X7_wayRound (d := d + 1) e24) rfl (Nat.le_of_ble_eq_true rfl) zc_X7_wayRound rfl zm_X8_183 zi_X7_wayRound zs_X7_wayRound (zac_ok g28) (by decide) rfl rfl (zst_ok rfl (Nat.le_of_ble_eq_true rfl)) rfl ?_
      obtain ⟨g27, h⟩ := bt h
      obtain ⟨r25, e26, h⟩ := ob h
      refine x_callV (av := [.int r23]) (st := []) (pc := 64) dX8_costBy_64 (E_X8_cheapTogether (d := d + 1) e26) rfl (Nat.le_of_ble_eq_true rfl) zc_X8_cheapTogether rfl zm_X8_355 zi_X8_cheapTogether zs_X8_cheapTogether (zac_ok g27) (by decide) rfl rfl (zst_ok rfl (Nat.le_of_ble_eq_true rfl)) rfl ?_
      obtain rfl := s1 h
      exact y_retI (pc := 67) dX8_costBy_67 rfl
    · rw [if_pos c14] at h
      refine x_aload_n (pc := 35) dX8_costBy_35 rfl rfl hl0 ?_
      obtain ⟨v15, e16, h⟩ := ob h
      refine y_getR (pc := 36) dX8_costBy_36 zf_X8_19 e16 ?_
      refine x_iload_n (pc := 39) dX8_costBy_39 rfl rfl ?_
      obtain ⟨g20, h⟩ := bt h
      obtain ⟨r17, e18, h⟩ := ob h
      refine x_callV (av := [.int l2]) (st := []) (pc := 40) dX8_costBy_40 (E_X7_canPoint (d := d + 1) e18) rfl (Nat.le_of_ble_eq_true rfl) zc_X7_canPoint rfl zm_X8_187 zi_X7_canPoint zs_X7_canPoint (zac_ok g20) (by decide) rfl rfl (zst_ok rfl (Nat.le_of_ble_eq_true rfl)) rfl ?_
      refine x_if_eq (pc := 43) dX8_costBy_43 (t := 50) rfl (fun c19 => ?_) (fun c19 => ?_)
      · rw [if_pos c19] at h
        refine x_iconst (pc := 50) dX8_costBy_50 (v := (-1)) rfl ?_
        obtain rfl := s1 h
        exact y_retI (pc := 51) dX8_costBy_51 rfl
      · rw [if_neg c19] at h
        refine x_iconst (pc := 46) dX8_costBy_46 (v := 0) rfl ?_
        refine x_goto (pc := 47) dX8_costBy_47 (t := 51) rfl ?_
        obtain rfl := s1 h
        exact y_retI (pc := 51) dX8_costBy_51 rfl
  · rw [if_pos c1] at h
    refine x_aload_n (pc := 4) dX8_costBy_4 rfl rfl hl0 ?_
    obtain ⟨v2, e3, h⟩ := ob h
    refine y_getR (pc := 5) dX8_costBy_5 zf_X8_29 e3 ?_
    refine x_iload_n (pc := 8) dX8_costBy_8 rfl rfl ?_
    refine x_iload_n (pc := 9) dX8_costBy_9 rfl rfl ?_
    obtain ⟨g13, h⟩ := bt h
    obtain ⟨r4, e5, h⟩ := ob h
    refine x_callV (av := [.int l1, .int l2]) (st := []) (pc := 10) dX8_costBy_10 (E_X5_canSay (d := d) e5) rfl (Nat.le_of_ble_eq_true rfl) zc_X5_canSay rfl zm_X8_225 zi_X5_canSay zs_X5_canSay (zac_ok g13) (by decide) rfl rfl (zst_ok rfl (Nat.le_of_ble_eq_true rfl)) rfl ?_
    refine x_if_eq (pc := 13) dX8_costBy_13 (t := 28) rfl (fun c6 => ?_) (fun c6 => ?_)
    · rw [if_pos c6] at h
      refine x_iconst (pc := 28) dX8_costBy_28 (v := (-1)) rfl ?_
      obtain rfl := s1 h
      exact y_retI (pc := 29) dX8_costBy_29 rfl
    · rw [if_neg c6] at h
      refine x_aload_n (pc := 16) dX8_costBy_16 rfl rfl hl0 ?_
      obtain ⟨v7, e8, h⟩ := ob h
      refine y_getR (pc := 17) dX8_costBy_17 zf_X8_19 e8 ?_
      obtain ⟨v9, e10, h⟩ := ob h
      refine y_getR (pc := 20) dX8_costBy_20 zf_X8_167 e10 ?_
      refine x_iload_n (pc := 23) dX8_costBy_23 rfl rfl ?_
      obtain ⟨v11, e12, h⟩ := ob h
      refine y_iald (pc := 24) dX8_costBy_24 e12 ?_
      refine x_goto (pc := 25) dX8_costBy_25 (t := 29) rfl ?_
      obtain rfl := s1 h
      exact y_retI (pc := 29) dX8_costBy_29 rfl
def L_X8_cheapestKind_2 : Nat → Nat → Int32 → Int32 → Int32 → zM → Option ((Int32) ⊕ (Unit))
  | 0, _, _, _, _, _ => none
  | n + 1, l0, l1, l2, l3, M => if 4 ≤ l3 then (some (.inr ())) else ((oR M l0 8 13 10).bind fun v2 => (aI M v2 l2).bind fun v4 => if v4 = (-1) then (L_X8_cheapestKind_2 n l0 l1 l2 (l3 + 1) M) else (bif zac M l0 8 13 then ((f_X8_costBy l0 l1 l2 l3 M).bind fun r7 => (oR M l0 8 13 10).bind fun v9 => (aI M v9 l2).bind fun v11 => if r7 = v11 then (some (.inl l3)) else (L_X8_cheapestKind_2 n l0 l1 l2 (l3 + 1) M)) else none))
def f_X8_cheapestKind (l0 : Nat) (l1 : Int32) (l2 : Int32) (M : zM) : Option (Int32) := bif Nat.ble 1 l0 then (bs (L_X8_cheapestKind_2 zN l0 l1 l2 0 M) some (fun _ => some (-1))) else none
theorem LX_X8_cheapestKind_2 {G : zG} {d : Nat} : ∀ (n : Nat) (l0 : Nat) (l1 : Int32) (l2 : Int32) (l3 : Int32) (M : zM) (hl0 : l0 ≠ 0) (e : (Int32) ⊕ (Unit)) {res : Option Value × zM}, L_X8_cheapestKind_2 n l0 l1 l2 l3 M = some e → (∀ r, e = .inl r → res = (some (.int r), M)) → (e = .inr () → Ex G (d + 3) yX8_cheapestKind cX8_cheapestKind 4 (some .int) 41 [.null, .null, .null, .null] [] M res) → Ex G (d + 3) yX8_cheapestKind cX8_cheapestKind 4 (some .int) 2 [.ref l0, .int l1, .int l2, .int l3] [] M res := by
  intro n
  induction n with
  | zero =>
    intro l0 l1 l2 l3 M hl0 e res h K1 K2
    simp [L_X8_cheapestKind_2] at h
  | succ n ih =>
    intro l0 l1 l2 l3 M hl0 e res h K1 K2
    simp only [L_X8_cheapestKind_2] at h
    refine x_iload_n (pc := 2) dX8_cheapestKind_2 rfl rfl ?_
    refine x_iconst (pc := 3) dX8_cheapestKind_3 (v := 4) rfl ?_
    refine x_icmp_ge (pc := 4) dX8_cheapestKind_4 (t := 41) rfl (fun c1 => ?_) (fun c1 => ?_)
    · rw [if_pos c1] at h
      obtain rfl := s1 h
      refine ex_weak (Ls2 := [.null, .null, .null, .null]) ⟨Or.inl rfl, Or.inl rfl, Or.inl rfl, Or.inl rfl, trivial⟩ ?_
      exact K2  rfl
    · rw [if_neg c1] at h
      refine x_aload_n (pc := 7) dX8_cheapestKind_7 rfl rfl hl0 ?_
      obtain ⟨v2, e3, h⟩ := ob h
      refine y_getR (pc := 8) dX8_cheapestKind_8 zf_X8_70 e3 ?_
      refine x_iload_n (pc := 11) dX8_cheapestKind_11 rfl rfl ?_
      obtain ⟨v4, e5, h⟩ := ob h
      refine y_iald (pc := 12) dX8_cheapestKind_12 e5 ?_
      refine x_iconst (pc := 13) dX8_cheapestKind_13 (v := (-1)) rfl ?_
      refine x_icmp_eq (pc := 14) dX8_cheapestKind_14 (t := 35) rfl (fun c6 => ?_) (fun c6 => ?_)
      · rw [if_pos c6] at h
        refine x_iinc (pc := 35) dX8_cheapestKind_35 rfl rfl (by decide) rfl ?_
        refine x_goto (pc := 38) dX8_cheapestKind_38 (t := 2) rfl ?_
        refine ex_weak (Ls2 := [.ref l0, .int l1, .int l2, .int (l3 + 1)]) ⟨Or.inr rfl, Or.inr rfl, Or.inr rfl, Or.inr rfl, trivial⟩ ?_
        exact ih _ _ _ _ _ hl0 _ h K1 K2
      · rw [if_neg c6] at h
        refine x_aload_n (pc := 17) dX8_cheapestKind_17 rfl rfl hl0 ?_
        refine x_iload_n (pc := 18) dX8_cheapestKind_18 rfl rfl ?_
        refine x_iload_n (pc := 19) dX8_cheapestKind_19 rfl rfl ?_
        refine x_iload_n (pc := 20) dX8_cheapestKind_20 rfl rfl ?_
        obtain ⟨g14, h⟩ := bt h
        obtain ⟨r7, e8, h⟩ := ob h
        refine x_callV (av := [.int l1, .int l2, .int l3]) (st := []) (pc := 21) dX8_cheapestKind_21 (E_X8_costBy (d := d) e8) rfl (Nat.le_of_ble_eq_true rfl) zc_X8_costBy rfl zm_X8_352 zi_X8_costBy zs_X8_costBy (zac_ok g14) (by decide) rfl rfl (zst_ok rfl (Nat.le_of_ble_eq_true rfl)) rfl ?_
        refine x_aload_n (pc := 24) dX8_cheapestKind_24 rfl rfl hl0 ?_
        obtain ⟨v9, e10, h⟩ := ob h
        refine y_getR (pc := 25) dX8_cheapestKind_25 zf_X8_70 e10 ?_
        refine x_iload_n (pc := 28) dX8_cheapestKind_28 rfl rfl ?_
        obtain ⟨v11, e12, h⟩ := ob h
        refine y_iald (pc := 29) dX8_cheapestKind_29 e12 ?_
        refine x_icmp_ne (pc := 30) dX8_cheapestKind_30 (t := 35) rfl (fun c13 => ?_) (fun c13 => ?_)
        · rw [if_neg c13] at h
          refine x_iinc (pc := 35) dX8_cheapestKind_35 rfl rfl (by decide) rfl ?_
          refine x_goto (pc := 38) dX8_cheapestKind_38 (t := 2) rfl ?_
          refine ex_weak (Ls2 := [.ref l0, .int l1, .int l2, .int (l3 + 1)]) ⟨Or.inr rfl, Or.inr rfl, Or.inr rfl, Or.inr rfl, trivial⟩ ?_
          exact ih _ _ _ _ _ hl0 _ h K1 K2
        · rw [if_pos c13] at h
          refine x_iload_n (pc := 33) dX8_cheapestKind_33 rfl rfl ?_
          obtain rfl := s1 h
          rw [K1 _ rfl]
          exact y_retI (pc := 34) dX8_cheapestKind_34 rfl
theorem E_X8_cheapestKind {G : zG} {d : Nat} {l0 : Nat} {l1 : Int32} {l2 : Int32} {M : zM} {r : Int32} (h : f_X8_cheapestKind l0 l1 l2 M = some r) : Ex G (d + 3) yX8_cheapestKind cX8_cheapestKind 4 (some .int) 0 (zent0 [.ref l0, .int l1, .int l2] 4) [] M (some (.int r), M) := by
  unfold f_X8_cheapestKind at h
  obtain ⟨zz0, h⟩ := bt h
  have hl0 := bz zz0
  show Ex _ _ _ _ _ _ 0 [.ref l0, .int l1, .int l2, .null] [] _ _
  refine x_iconst (pc := 0) dX8_cheapestKind_0 (v := 0) rfl ?_
  refine x_istore_n (pc := 1) dX8_cheapestKind_1 rfl (by decide) rfl ?_
  refine ex_weak (Ls2 := [.ref l0, .int l1, .int l2, .int 0]) ⟨Or.inr rfl, Or.inr rfl, Or.inr rfl, Or.inr rfl, trivial⟩ ?_
  rcases obs h with ⟨r2, e1, h⟩ | ⟨_, e1, h⟩
  · cases h
    exact LX_X8_cheapestKind_2 zN _ _ _ _ _ hl0 _ e1 (fun r q => by cases q; rfl) (by intros; contradiction)
  · refine LX_X8_cheapestKind_2 zN _ _ _ _ _ hl0 _ e1 (fun r q => by cases q) ?_
    intro q
    cases q
    refine x_iconst (pc := 41) dX8_cheapestKind_41 (v := (-1)) rfl ?_
    obtain rfl := s1 h
    exact y_retI (pc := 42) dX8_cheapestKind_42 rfl
def L_X8_workOutCheap_2 : Nat → Nat → Int32 → Int32 → zM → Option (zM)
  | 0, _, _, _, _ => none
  | n + 1, l0, l1, l2, M => if 8 ≤ l2 then (some M) else ((oR M l0 8 13 10).bind fun v2 => (sI M v2 l2 (-1)).bind fun M4 => L_X8_workOutCheap_2 n l0 l1 (l2 + 1) M4)
def L_X8_workOutCheap_50 : Nat → Nat → Int32 → Int32 → Int32 → Int32 → zM → Option (zM)
  | 0, _, _, _, _, _, _ => none
  | n + 1, l0, l1, l2, l3, l4, M => if 4 ≤ l4 then (some M) else (bif zac M l0 8 13 then ((f_X8_costBy l0 l1 l3 l4 M).bind fun r14 => if r14 = (-1) then (L_X8_workOutCheap_50 n l0 l1 l2 l3 (l4 + 1) M) else ((oR M l0 8 13 10).bind fun v17 => (aI M v17 l3).bind fun v19 => if v19 = (-1) then ((oR M l0 8 13 10).bind fun v22 => (sI M v22 l3 r14).bind fun M24 => L_X8_workOutCheap_50 n l0 l1 l2 l3 (l4 + 1) M24) else ((oR M l0 8 13 10).bind fun v26 => (aI M v26 l3).bind fun v28 => if v28 ≤ r14 then (L_X8_workOutCheap_50 n l0 l1 l2 l3 (l4 + 1) M) else ((oR M l0 8 13 10).bind fun v31 => (sI M v31 l3 r14).bind fun M33 => L_X8_workOutCheap_50 n l0 l1 l2 l3 (l4 + 1) M33)))) else none)
def L_X8_workOutCheap_36 : Nat → Nat → Int32 → Int32 → Int32 → zM → Option (zM)
  | 0, _, _, _, _, _ => none
  | n + 1, l0, l1, l2, l3, M => (oR M l0 8 13 1).bind fun v8 => (oI M v8 7 15 1).bind fun v10 => if v10 ≤ l3 then (some M) else ((L_X8_workOutCheap_50 zN l0 l1 l2 l3 0 M).bind fun M14 => L_X8_workOutCheap_36 n l0 l1 l2 (l3 + 1) M14)
def L_X8_workOutCheap_23 : Nat → Nat → Int32 → Int32 → zM → Option (zM)
  | 0, _, _, _, _ => none
  | n + 1, l0, l1, l2, M => (oR M l0 8 13 1).bind fun v3 => (oI M v3 7 15 1).bind fun v5 => if v5 ≤ l2 then (some M) else ((L_X8_workOutCheap_36 zN l0 l1 l2 0 M).bind fun M9 => L_X8_workOutCheap_23 n l0 l1 (l2 + 1) M9)
def f_X8_workOutCheap (l0 : Nat) (l1 : Int32) (M : zM) : Option (zM) := bif Nat.ble 1 l0 then ((L_X8_workOutCheap_2 zN l0 l1 0 M).bind fun M2 => (L_X8_workOutCheap_23 zN l0 l1 0 M2).bind fun M4 => some M4) else none
set_option maxRecDepth 100000 in
set_option maxHeartbeats 2000000 in
theorem LX_X8_workOutCheap_2 {G : zG} {d : Nat} : ∀ (n : Nat) (l0 : Nat) (l1 : Int32) (l2 : Int32) (M : zM) (hl0 : l0 ≠ 0) (MX : zM) {res : Option Value × zM}, L_X8_workOutCheap_2 n l0 l1 l2 M = some MX → Ex G (d + 3) yX8_workOutCheap cX8_workOutCheap 6 none 21 [.ref l0, .int l1, .null, .null, .null, .null] [] MX res → Ex G (d + 3) yX8_workOutCheap cX8_workOutCheap 6 none 2 [.ref l0, .int l1, .int l2, .null, .null, .null] [] M res := by
  intro n
  induction n with
  | zero =>
    intro l0 l1 l2 M hl0 MX res h K
    simp [L_X8_workOutCheap_2] at h
  | succ n ih =>
    intro l0 l1 l2 M hl0 MX res h K
    simp only [L_X8_workOutCheap_2] at h
    refine x_iload_n (pc := 2) dX8_workOutCheap_2 rfl rfl ?_
    refine x_bipush (pc := 3) dX8_workOutCheap_3 (v := 8) (by decide) ?_
    refine x_icmp_ge (pc := 5) dX8_workOutCheap_5 (t := 21) rfl (fun c1 => ?_) (fun c1 => ?_)
    · rw [if_pos c1] at h
      obtain rfl := s1 h
      refine ex_weak (Ls2 := [.ref l0, .int l1, .null, .null, .null, .null]) ⟨Or.inr rfl, Or.inr rfl, Or.inl rfl, Or.inl rfl, Or.inl rfl, Or.inl rfl, trivial⟩ ?_
      exact K
    · rw [if_neg c1] at h
      refine x_aload_n (pc := 8) dX8_workOutCheap_8 rfl rfl hl0 ?_
      obtain ⟨v2, e3, h⟩ := ob h
      refine y_getR (pc := 9) dX8_workOutCheap_9 zf_X8_70 e3 ?_
      refine x_iload_n (pc := 12) dX8_workOutCheap_12 rfl rfl ?_
      refine x_iconst (pc := 13) dX8_workOutCheap_13 (v := (-1)) rfl ?_
      obtain ⟨M4, e5, h⟩ := ob h
      refine y_iast (pc := 14) dX8_workOutCheap_14 e5 ?_
      refine x_iinc (pc := 15) dX8_workOutCheap_15 rfl rfl (by decide) rfl ?_
      refine x_goto (pc := 18) dX8_workOutCheap_18 (t := 2) rfl ?_
      refine ex_weak (Ls2 := [.ref l0, .int l1, .int (l2 + 1), .null, .null, .null]) ⟨Or.inr rfl, Or.inr rfl, Or.inr rfl, Or.inl rfl, Or.inl rfl, Or.inl rfl, trivial⟩ ?_
      exact ih _ _ _ _ hl0  _ h K
set_option maxRecDepth 100000 in
set_option maxHeartbeats 2000000 in
theorem LX_X8_workOutCheap_50 {G : zG} {d : Nat} : ∀ (n : Nat) (l0 : Nat) (l1 : Int32) (l2 : Int32) (l3 : Int32) (l4 : Int32) (M : zM) (hl0 : l0 ≠ 0) (MX : zM) {res : Option Value × zM}, L_X8_workOutCheap_50 n l0 l1 l2 l3 l4 M = some MX → Ex G (d + 3) yX8_workOutCheap cX8_workOutCheap 6 none 107 [.ref l0, .int l1, .int l2, .int l3, .null, .null] [] MX res → Ex G (d + 3) yX8_workOutCheap cX8_workOutCheap 6 none 50 [.ref l0, .int l1, .int l2, .int l3, .int l4, .null] [] M res := by
  intro n
  induction n with
  | zero =>
    intro l0 l1 l2 l3 l4 M hl0 MX res h K
    simp [L_X8_workOutCheap_50] at h
  | succ n ih =>
    intro l0 l1 l2 l3 l4 M hl0 MX res h K
    simp only [L_X8_workOutCheap_50] at h
    refine x_iload (pc := 50) dX8_workOutCheap_50 rfl ?_
    refine x_iconst (pc := 52) dX8_workOutCheap_52 (v := 4) rfl ?_
    refine x_icmp_ge (pc := 53) dX8_workOutCheap_53 (t := 107) rfl (fun c13 => ?_) (fun c13 => ?_)
    · rw [if_pos c13] at h
      obtain rfl := s1 h
      refine ex_weak (Ls2 := [.ref l0, .int l1, .int l2, .int l3, .null, .null]) ⟨Or.inr rfl, Or.inr rfl, Or.inr rfl, Or.inr rfl, Or.inl rfl, Or.inl rfl, trivial⟩ ?_
      exact K
    · rw [if_neg c13] at h
      refine x_aload_n (pc := 56) dX8_workOutCheap_56 rfl rfl hl0 ?_
      refine x_iload_n (pc := 57) dX8_workOutCheap_57 rfl rfl ?_
      refine x_iload_n (pc := 58) dX8_workOutCheap_58 rfl rfl ?_
      refine x_iload (pc := 59) dX8_workOutCheap_59 rfl ?_
      obtain ⟨g35, h⟩ := bt h
      obtain ⟨r14, e15, h⟩ := ob h
      refine x_callV (av := [.int l1, .int l3, .int l4]) (st := []) (pc := 61) dX8_workOutCheap_61 (E_X8_costBy (d := d) e15) rfl (Nat.le_of_ble_eq_true rfl) zc_X8_costBy rfl zm_X8_352 zi_X8_costBy zs_X8_costBy (zac_ok g35) (by decide) rfl rfl (zst_ok rfl (Nat.le_of_ble_eq_true rfl)) rfl ?_
      refine x_istore (pc := 64) dX8_workOutCheap_64 (by decide) rfl ?_
      refine x_iload (pc := 66) dX8_workOutCheap_66 rfl ?_
      refine x_iconst (pc := 68) dX8_workOutCheap_68 (v := (-1)) rfl ?_
      refine x_icmp_eq (pc := 69) dX8_workOutCheap_69 (t := 101) rfl (fun c16 => ?_) (fun c16 => ?_)
      · rw [if_pos c16] at h
        refine x_iinc (pc := 101) dX8_workOutCheap_101 rfl rfl (by decide) rfl ?_
        refine x_goto (pc := 104) dX8_workOutCheap_104 (t := 50) rfl ?_
        refine ex_weak (Ls2 := [.ref l0, .int l1, .int l2, .int l3, .int (l4 + 1), .null]) ⟨Or.inr rfl, Or.inr rfl, Or.inr rfl, Or.inr rfl, Or.inr rfl, Or.inl rfl, trivial⟩ ?_
        exact ih _ _ _ _ _ _ hl0  _ h K
      · rw [if_neg c16] at h
        refine x_aload_n (pc := 72) dX8_workOutCheap_72 rfl rfl hl0 ?_
        obtain ⟨v17, e18, h⟩ := ob h
        refine y_getR (pc := 73) dX8_workOutCheap_73 zf_X8_70 e18 ?_
        refine x_iload_n (pc := 76) dX8_workOutCheap_76 rfl rfl ?_
        obtain ⟨v19, e20, h⟩ := ob h
        refine y_iald (pc := 77) dX8_workOutCheap_77 e20 ?_
        refine x_iconst (pc := 78) dX8_workOutCheap_78 (v := (-1)) rfl ?_
        refine x_icmp_eq (pc := 79) dX8_workOutCheap_79 (t := 93) rfl (fun c21 => ?_) (fun c21 => ?_)
        · rw [if_pos c21] at h
          refine x_aload_n (pc := 93) dX8_workOutCheap_93 rfl rfl hl0 ?_
          obtain ⟨v22, e23, h⟩ := ob h
          refine y_getR (pc := 94) dX8_workOutCheap_94 zf_X8_70 e23 ?_
          refine x_iload_n (pc := 97) dX8_workOutCheap_97 rfl rfl ?_
          refine x_iload (pc := 98) dX8_workOutCheap_98 rfl ?_
          obtain ⟨M24, e25, h⟩ := ob h
          refine y_iast (pc := 100) dX8_workOutCheap_100 e25 ?_
          refine x_iinc (pc := 101) dX8_workOutCheap_101 rfl rfl (by decide) rfl ?_
          refine x_goto (pc := 104) dX8_workOutCheap_104 (t := 50) rfl ?_
          refine ex_weak (Ls2 := [.ref l0, .int l1, .int l2, .int l3, .int (l4 + 1), .null]) ⟨Or.inr rfl, Or.inr rfl, Or.inr rfl, Or.inr rfl, Or.inr rfl, Or.inl rfl, trivial⟩ ?_
          exact ih _ _ _ _ _ _ hl0  _ h K
        · rw [if_neg c21] at h
          refine x_iload (pc := 82) dX8_workOutCheap_82 rfl ?_
          refine x_aload_n (pc := 84) dX8_workOutCheap_84 rfl rfl hl0 ?_
          obtain ⟨v26, e27, h⟩ := ob h
          refine y_getR (pc := 85) dX8_workOutCheap_85 zf_X8_70 e27 ?_
          refine x_iload_n (pc := 88) dX8_workOutCheap_88 rfl rfl ?_
          obtain ⟨v28, e29, h⟩ := ob h
          refine y_iald (pc := 89) dX8_workOutCheap_89 e29 ?_
          refine x_icmp_ge (pc := 90) dX8_workOutCheap_90 (t := 101) rfl (fun c30 => ?_) (fun c30 => ?_)
          · rw [if_pos c30] at h
            refine x_iinc (pc := 101) dX8_workOutCheap_101 rfl rfl (by decide) rfl ?_
            refine x_goto (pc := 104) dX8_workOutCheap_104 (t := 50) rfl ?_
            refine ex_weak (Ls2 := [.ref l0, .int l1, .int l2, .int l3, .int (l4 + 1), .null]) ⟨Or.inr rfl, Or.inr rfl, Or.inr rfl, Or.inr rfl, Or.inr rfl, Or.inl rfl, trivial⟩ ?_
            exact ih _ _ _ _ _ _ hl0  _ h K
          · rw [if_neg c30] at h
            refine x_aload_n (pc := 93) dX8_workOutCheap_93 rfl rfl hl0 ?_
            obtain ⟨v31, e32, h⟩ := ob h
            refine y_getR (pc := 94) dX8_workOutCheap_94 zf_X8_70 e32 ?_
            refine x_iload_n (pc := 97) dX8_workOutCheap_97 rfl rfl ?_
            refine x_iload (pc := 98) dX8_workOutCheap_98 rfl ?_
            obtain ⟨M33, e34, h⟩ := ob h
            refine y_iast (pc := 100) dX8_workOutCheap_100 e34 ?_
            refine x_iinc (pc := 101) dX8_workOutCheap_101 rfl rfl (by decide) rfl ?_
            refine x_goto (pc := 104) dX8_workOutCheap_104 (t := 50) rfl ?_
            refine ex_weak (Ls2 := [.ref l0, .int l1, .int l2, .int l3, .int (l4 + 1), .null]) ⟨Or.inr rfl, Or.inr rfl, Or.inr rfl, Or.inr rfl, Or.inr rfl, Or.inl rfl, trivial⟩ ?_
            exact ih _ _ _ _ _ _ hl0  _ h K
set_option maxRecDepth 100000 in
set_option maxHeartbeats 2000000 in
theorem LX_X8_workOutCheap_36 {G : zG} {d : Nat} : ∀ (n : Nat) (l0 : Nat) (l1 : Int32) (l2 : Int32) (l3 : Int32) (M : zM) (hl0 : l0 ≠ 0) (MX : zM) {res : Option Value × zM}, L_X8_workOutCheap_36 n l0 l1 l2 l3 M = some MX → Ex G (d + 3) yX8_workOutCheap cX8_workOutCheap 6 none 113 [.ref l0, .int l1, .int l2, .null, .null, .null] [] MX res → Ex G (d + 3) yX8_workOutCheap cX8_workOutCheap 6 none 36 [.ref l0, .int l1, .int l2, .int l3, .null, .null] [] M res := by
  intro n
  induction n with
  | zero =>
    intro l0 l1 l2 l3 M hl0 MX res h K
    simp [L_X8_workOutCheap_36] at h
  | succ n ih =>
    intro l0 l1 l2 l3 M hl0 MX res h K
    simp only [L_X8_workOutCheap_36] at h
    refine x_iload_n (pc := 36) dX8_workOutCheap_36 rfl rfl ?_
    refine x_aload_n (pc := 37) dX8_workOutCheap_37 rfl rfl hl0 ?_
    obtain ⟨v8, e9, h⟩ := ob h
    refine y_getR (pc := 38) dX8_workOutCheap_38 zf_X8_19 e9 ?_
    obtain ⟨v10, e11, h⟩ := ob h
    refine y_getI (pc := 41) dX8_workOutCheap_41 zf_X8_116 e11 (by decide) ?_
    refine x_icmp_ge (pc := 44) dX8_workOutCheap_44 (t := 113) rfl (fun c12 => ?_) (fun c12 => ?_)
    · rw [if_pos c12] at h
      obtain rfl := s1 h
      refine ex_weak (Ls2 := [.ref l0, .int l1, .int l2, .null, .null, .null]) ⟨Or.inr rfl, Or.inr rfl, Or.inr rfl, Or.inl rfl, Or.inl rfl, Or.inl rfl, trivial⟩ ?_
      exact K
    · rw [if_neg c12] at h
      refine x_iconst (pc := 47) dX8_workOutCheap_47 (v := 0) rfl ?_
      refine x_istore (pc := 48) dX8_workOutCheap_48 (by decide) rfl ?_
      obtain ⟨M14, e13, h⟩ := ob h
      refine ex_weak (Ls2 := [.ref l0, .int l1, .int l2, .int l3, .int 0, .null]) ⟨Or.inr rfl, Or.inr rfl, Or.inr rfl, Or.inr rfl, Or.inr rfl, Or.inl rfl, trivial⟩ ?_
      refine LX_X8_workOutCheap_50 zN _ _ _ _ _ _ hl0 _ e13 ?_
      refine x_iinc (pc := 107) dX8_workOutCheap_107 rfl rfl (by decide) rfl ?_
      refine x_goto (pc := 110) dX8_workOutCheap_110 (t := 36) rfl ?_
      refine ex_weak (Ls2 := [.ref l0, .int l1, .int l2, .int (l3 + 1), .null, .null]) ⟨Or.inr rfl, Or.inr rfl, Or.inr rfl, Or.inr rfl, Or.inl rfl, Or.inl rfl, trivial⟩ ?_
      exact ih _ _ _ _ _ hl0  _ h K
set_option maxRecDepth 100000 in
set_option maxHeartbeats 2000000 in
theorem LX_X8_workOutCheap_23 {G : zG} {d : Nat} : ∀ (n : Nat) (l0 : Nat) (l1 : Int32) (l2 : Int32) (M : zM) (hl0 : l0 ≠ 0) (MX : zM) {res : Option Value × zM}, L_X8_workOutCheap_23 n l0 l1 l2 M = some MX → Ex G (d + 3) yX8_workOutCheap cX8_workOutCheap 6 none 119 [.null, .null, .null, .null, .null, .null] [] MX res → Ex G (d + 3) yX8_workOutCheap cX8_workOutCheap 6 none 23 [.ref l0, .int l1, .int l2, .null, .null, .null] [] M res := by
  intro n
  induction n with
  | zero =>
    intro l0 l1 l2 M hl0 MX res h K
    simp [L_X8_workOutCheap_23] at h
  | succ n ih =>
    intro l0 l1 l2 M hl0 MX res h K
    simp only [L_X8_workOutCheap_23] at h
    refine x_iload_n (pc := 23) dX8_workOutCheap_23 rfl rfl ?_
    refine x_aload_n (pc := 24) dX8_workOutCheap_24 rfl rfl hl0 ?_
    obtain ⟨v3, e4, h⟩ := ob h
    refine y_getR (pc := 25) dX8_workOutCheap_25 zf_X8_19 e4 ?_
    obtain ⟨v5, e6, h⟩ := ob h
    refine y_getI (pc := 28) dX8_workOutCheap_28 zf_X8_116 e6 (by decide) ?_
    refine x_icmp_ge (pc := 31) dX8_workOutCheap_31 (t := 119) rfl (fun c7 => ?_) (fun c7 => ?_)
    · rw [if_pos c7] at h
      obtain rfl := s1 h
      refine ex_weak (Ls2 := [.null, .null, .null, .null, .null, .null]) ⟨Or.inl rfl, Or.inl rfl, Or.inl rfl, Or.inl rfl, Or.inl rfl, Or.inl rfl, trivial⟩ ?_
      exact K
    · rw [if_neg c7] at h
      refine x_iconst (pc := 34) dX8_workOutCheap_34 (v := 0) rfl ?_
      refine x_istore_n (pc := 35) dX8_workOutCheap_35 rfl (by decide) rfl ?_
      obtain ⟨M9, e8, h⟩ := ob h
      refine ex_weak (Ls2 := [.ref l0, .int l1, .int l2, .int 0, .null, .null]) ⟨Or.inr rfl, Or.inr rfl, Or.inr rfl, Or.inr rfl, Or.inl rfl, Or.inl rfl, trivial⟩ ?_
      refine LX_X8_workOutCheap_36 zN _ _ _ _ _ hl0 _ e8 ?_
      refine x_iinc (pc := 113) dX8_workOutCheap_113 rfl rfl (by decide) rfl ?_
      refine x_goto (pc := 116) dX8_workOutCheap_116 (t := 23) rfl ?_
      refine ex_weak (Ls2 := [.ref l0, .int l1, .int (l2 + 1), .null, .null, .null]) ⟨Or.inr rfl, Or.inr rfl, Or.inr rfl, Or.inl rfl, Or.inl rfl, Or.inl rfl, trivial⟩ ?_
      exact ih _ _ _ _ hl0  _ h K
set_option maxRecDepth 100000 in
set_option maxHeartbeats 2000000 in
theorem E_X8_workOutCheap {G : zG} {d : Nat} {l0 : Nat} {l1 : Int32} {M MR : zM} (h : f_X8_workOutCheap l0 l1 M = some MR) : Ex G (d + 3) yX8_workOutCheap cX8_workOutCheap 6 none 0 (zent0 [.ref l0, .int l1] 6) [] M (none, MR) := by
  unfold f_X8_workOutCheap at h
  obtain ⟨zz0, h⟩ := bt h
  have hl0 := bz zz0
  show Ex _ _ _ _ _ _ 0 [.ref l0, .int l1, .null, .null, .null, .null] [] _ _
  refine x_iconst (pc := 0) dX8_workOutCheap_0 (v := 0) rfl ?_
  refine x_istore_n (pc := 1) dX8_workOutCheap_1 rfl (by decide) rfl ?_
  obtain ⟨M2, e1, h⟩ := ob h
  refine ex_weak (Ls2 := [.ref l0, .int l1, .int 0, .null, .null, .null]) ⟨Or.inr rfl, Or.inr rfl, Or.inr rfl, Or.inl rfl, Or.inl rfl, Or.inl rfl, trivial⟩ ?_
  refine LX_X8_workOutCheap_2 zN _ _ _ _ hl0 _ e1 ?_
  refine x_iconst (pc := 21) dX8_workOutCheap_21 (v := 0) rfl ?_
  refine x_istore_n (pc := 22) dX8_workOutCheap_22 rfl (by decide) rfl ?_
  obtain ⟨M4, e3, h⟩ := ob h
  refine ex_weak (Ls2 := [.ref l0, .int l1, .int 0, .null, .null, .null]) ⟨Or.inr rfl, Or.inr rfl, Or.inr rfl, Or.inl rfl, Or.inl rfl, Or.inl rfl, trivial⟩ ?_
  refine LX_X8_workOutCheap_23 zN _ _ _ _ hl0 _ e3 ?_
  obtain rfl := s1 h
  exact x_vret (pc := 119) dX8_workOutCheap_119 rfl
def f_X8_cheapest (l0 : Nat) (l1 : Int32) (l2 : Int32) (l3 : Int32) (M : zM) : Option (Int32 × zM) := bif Nat.ble 1 l0 then (bif zac M l0 8 13 then ((f_X8_isPerson l0 l1 M).bind fun r1 => if r1 = 0 then (some ((-1000000001), M)) else (bif zac M l0 8 13 then ((f_X8_isWord l0 l2 M).bind fun r4 => if r4 = 0 then (some ((-1000000001), M)) else (if l3 < 0 then (some ((-1000000002), M)) else (if l3 ≤ 1 then (bif zac M l0 8 13 then ((f_X8_workOutCheap l0 l1 M).bind fun M9 => if l3 = 0 then ((oR M9 l0 8 13 10).bind fun v12 => (aI M9 v12 l2).bind fun v14 => some (v14, M9)) else (bif zac M9 l0 8 13 then ((f_X8_cheapestKind l0 l1 l2 M9).bind fun r16 => some (r16, M9)) else none)) else none) else (some ((-1000000002), M))))) else none)) else none) else none
theorem E_X8_cheapest {G : zG} {d : Nat} {l0 : Nat} {l1 : Int32} {l2 : Int32} {l3 : Int32} {M MR : zM} {r : Int32} (h : f_X8_cheapest l0 l1 l2 l3 M = some (r, MR)) : Ex G (d + 4) yX8_cheapest cX8_cheapest 4 (some .int) 0 (zent0 [.ref l0, .int l1, .int l2, .int l3] 4) [] M (some (.int r), MR) := by
  unfold f_X8_cheapest at h
  obtain ⟨zz0, h⟩ := bt h
  have hl0 := bz zz0
  show Ex _ _ _ _ _ _ 0 [.ref l0, .int l1, .int l2, .int l3] [] _ _
  refine x_aload_n (pc := 0) dX8_cheapest_0 rfl rfl hl0 ?_
  refine x_iload_n (pc := 1) dX8_cheapest_1 rfl rfl ?_
  obtain ⟨g21, h⟩ := bt h
  obtain ⟨r1, e2, h⟩ := ob h
  refine x_callV (av := [.int l1]) (st := []) (pc := 2) dX8_cheapest_2 (E_X8_isPerson (d := d + 3) e2) rfl (Nat.le_of_ble_eq_true rfl) zc_X8_isPerson rfl zm_X8_190 zi_X8_isPerson zs_X8_isPerson (zac_ok g21) (by decide) rfl rfl (zst_ok rfl (Nat.le_of_ble_eq_true rfl)) rfl ?_
  refine x_if_eq (pc := 5) dX8_cheapest_5 (t := 16) rfl (fun c3 => ?_) (fun c3 => ?_)
  · rw [if_pos c3] at h
    refine x_ldc (pc := 16) dX8_cheapest_16 zk_X8_163 ?_
    obtain ⟨rfl, rfl⟩ := s2 h
    exact y_retI (pc := 18) dX8_cheapest_18 rfl
  · rw [if_neg c3] at h
    refine x_aload_n (pc := 8) dX8_cheapest_8 rfl rfl hl0 ?_
    refine x_iload_n (pc := 9) dX8_cheapest_9 rfl rfl ?_
    obtain ⟨g20, h⟩ := bt h
    obtain ⟨r4, e5, h⟩ := ob h
    refine x_callV (av := [.int l2]) (st := []) (pc := 10) dX8_cheapest_10 (E_X8_isWord (d := d + 3) e5) rfl (Nat.le_of_ble_eq_true rfl) zc_X8_isWord rfl zm_X8_159 zi_X8_isWord zs_X8_isWord (zac_ok g20) (by decide) rfl rfl (zst_ok rfl (Nat.le_of_ble_eq_true rfl)) rfl ?_
    refine x_if_ne (pc := 13) dX8_cheapest_13 (t := 19) rfl (fun c6 => ?_) (fun c6 => ?_)
    · rw [if_neg c6] at h
      refine x_iload_n (pc := 19) dX8_cheapest_19 rfl rfl ?_
      refine x_if_lt (pc := 20) dX8_cheapest_20 (t := 28) rfl (fun c7 => ?_) (fun c7 => ?_)
      · rw [if_pos c7] at h
        refine x_ldc (pc := 28) dX8_cheapest_28 zk_X8_78 ?_
        obtain ⟨rfl, rfl⟩ := s2 h
        exact y_retI (pc := 30) dX8_cheapest_30 rfl
      · rw [if_neg c7] at h
        refine x_iload_n (pc := 23) dX8_cheapest_23 rfl rfl ?_
        refine x_iconst (pc := 24) dX8_cheapest_24 (v := 1) rfl ?_
        refine x_icmp_le (pc := 25) dX8_cheapest_25 (t := 31) rfl (fun c8 => ?_) (fun c8 => ?_)
        · rw [if_pos c8] at h
          refine x_aload_n (pc := 31) dX8_cheapest_31 rfl rfl hl0 ?_
          refine x_iload_n (pc := 32) dX8_cheapest_32 rfl rfl ?_
          obtain ⟨g19, h⟩ := bt h
          obtain ⟨M9, e10, h⟩ := ob h
          refine x_callV (av := [.int l1]) (st := []) (pc := 33) dX8_cheapest_33 (E_X8_workOutCheap (d := d) e10) rfl (Nat.le_of_ble_eq_true rfl) zc_X8_workOutCheap rfl zm_X8_258 zi_X8_workOutCheap zs_X8_workOutCheap (zac_ok g19) (by decide) rfl rfl (zst_ok rfl (Nat.le_of_ble_eq_true rfl)) rfl ?_
          refine x_iload_n (pc := 36) dX8_cheapest_36 rfl rfl ?_
          refine x_if_ne (pc := 37) dX8_cheapest_37 (t := 49) rfl (fun c11 => ?_) (fun c11 => ?_)
          · rw [if_neg c11] at h
            refine x_aload_n (pc := 49) dX8_cheapest_49 rfl rfl hl0 ?_
            refine x_iload_n (pc := 50) dX8_cheapest_50 rfl rfl ?_
            refine x_iload_n (pc := 51) dX8_cheapest_51 rfl rfl ?_
            obtain ⟨g18, h⟩ := bt h
            obtain ⟨r16, e17, h⟩ := ob h
            refine x_callV (av := [.int l1, .int l2]) (st := []) (pc := 52) dX8_cheapest_52 (E_X8_cheapestKind (d := d) e17) rfl (Nat.le_of_ble_eq_true rfl) zc_X8_cheapestKind rfl zm_X8_261 zi_X8_cheapestKind zs_X8_cheapestKind (zac_ok g18) (by decide) rfl rfl (zst_ok rfl (Nat.le_of_ble_eq_true rfl)) rfl ?_
            obtain ⟨rfl, rfl⟩ := s2 h
            exact y_retI (pc := 55) dX8_cheapest_55 rfl
          · rw [if_pos c11] at h
            refine x_aload_n (pc := 40) dX8_cheapest_40 rfl rfl hl0 ?_
            obtain ⟨v12, e13, h⟩ := ob h
            refine y_getR (pc := 41) dX8_cheapest_41 zf_X8_70 e13 ?_
            refine x_iload_n (pc := 44) dX8_cheapest_44 rfl rfl ?_
            obtain ⟨v14, e15, h⟩ := ob h
            refine y_iald (pc := 45) dX8_cheapest_45 e15 ?_
            refine x_goto (pc := 46) dX8_cheapest_46 (t := 55) rfl ?_
            obtain ⟨rfl, rfl⟩ := s2 h
            exact y_retI (pc := 55) dX8_cheapest_55 rfl
        · rw [if_neg c8] at h
          refine x_ldc (pc := 28) dX8_cheapest_28 zk_X8_78 ?_
          obtain ⟨rfl, rfl⟩ := s2 h
          exact y_retI (pc := 30) dX8_cheapest_30 rfl
    · rw [if_pos c6] at h
      refine x_ldc (pc := 16) dX8_cheapest_16 zk_X8_163 ?_
      obtain ⟨rfl, rfl⟩ := s2 h
      exact y_retI (pc := 18) dX8_cheapest_18 rfl
def L_X8_runsOut_37 : Nat → Nat → Int32 → Int32 → Int32 → zM → Option ((Int32 × zM) ⊕ (zM))
  | 0, _, _, _, _, _ => none
  | n + 1, l0, l1, l2, l3, M => if l2 ≤ l3 then (some (.inr M)) else ((oR M l0 8 13 4).bind fun v17 => (oR M v17 5 9 1).bind fun v19 => (aI M v19 l1).bind fun v21 => if v21 = 0 then (some (.inl (l3, M))) else ((oR M l0 8 13 4).bind fun v24 => (oR M l0 8 13 1).bind fun v26 => bif zac M v24 5 9 then ((f_X5_passDay v24 v26 M).bind fun M28 => L_X8_runsOut_37 n l0 l1 l2 (l3 + 1) M28) else none))
def f_X8_runsOut (l0 : Nat) (l1 : Int32) (M : zM) : Option (Int32 × zM) := bif Nat.ble 1 l0 then (bif zac M l0 8 13 then ((f_X8_isWord l0 l1 M).bind fun r1 => if r1 = 0 then (some ((-1000000001), M)) else ((oR M l0 8 13 4).bind fun v4 => (oR M l0 8 13 3).bind fun v6 => bif zac M v4 5 9 then ((f_X5_copy v4 v6 M).bind fun M8 => (oR M8 l0 8 13 1).bind fun v10 => (oI M8 v10 7 15 0).bind fun v12 => bif zac M8 l0 8 13 then ((f_X8_today l0 M8).bind fun r14 => bs (L_X8_runsOut_37 zN l0 l1 (v12 - r14) 0 M8) some (fun M17 => some ((-1), M17))) else none) else none)) else none) else none
theorem LX_X8_runsOut_37 {G : zG} {d : Nat} : ∀ (n : Nat) (l0 : Nat) (l1 : Int32) (l2 : Int32) (l3 : Int32) (M : zM) (hl0 : l0 ≠ 0) (e : (Int32 × zM) ⊕ (zM)) {res : Option Value × zM}, L_X8_runsOut_37 n l0 l1 l2 l3 M = some e → (∀ r, e = .inl r → res = (some (.int r.1), r.2)) → (∀ (MX : zM), e = .inr MX → Ex G (d + 6) yX8_runsOut cX8_runsOut 4 (some .int) 73 [.null, .null, .null, .null] [] MX res) → Ex G (d + 6) yX8_runsOut cX8_runsOut 4 (some .int) 37 [.ref l0, .int l1, .int l2, .int l3] [] M res := by
  intro n
  induction n with
  | zero =>
    intro l0 l1 l2 l3 M hl0 e res h K1 K2
    simp [L_X8_runsOut_37] at h
  | succ n ih =>
    intro l0 l1 l2 l3 M hl0 e res h K1 K2
    simp only [L_X8_runsOut_37] at h
    refine x_iload_n (pc := 37) dX8_runsOut_37 rfl rfl ?_
    refine x_iload_n (pc := 38) dX8_runsOut_38 rfl rfl ?_
    refine x_icmp_ge (pc := 39) dX8_runsOut_39 (t := 73) rfl (fun c16 => ?_) (fun c16 => ?_)
    · rw [if_pos c16] at h
      obtain rfl := s1 h
      refine ex_weak (Ls2 := [.null, .null, .null, .null]) ⟨Or.inl rfl, Or.inl rfl, Or.inl rfl, Or.inl rfl, trivial⟩ ?_
      exact K2 _ rfl
    · rw [if_neg c16] at h
      refine x_aload_n (pc := 42) dX8_runsOut_42 rfl rfl hl0 ?_
      obtain ⟨v17, e18, h⟩ := ob h
      refine y_getR (pc := 43) dX8_runsOut_43 zf_X8_33 e18 ?_
      obtain ⟨v19, e20, h⟩ := ob h
      refine y_getR (pc := 46) dX8_runsOut_46 zf_X8_173 e20 ?_
      refine x_iload_n (pc := 49) dX8_runsOut_49 rfl rfl ?_
      obtain ⟨v21, e22, h⟩ := ob h
      refine y_iald (pc := 50) dX8_runsOut_50 e22 ?_
      refine x_if_ne (pc := 51) dX8_runsOut_51 (t := 56) rfl (fun c23 => ?_) (fun c23 => ?_)
      · rw [if_neg c23] at h
        refine x_aload_n (pc := 56) dX8_runsOut_56 rfl rfl hl0 ?_
        obtain ⟨v24, e25, h⟩ := ob h
        refine y_getR (pc := 57) dX8_runsOut_57 zf_X8_33 e25 ?_
        refine x_aload_n (pc := 60) dX8_runsOut_60 rfl rfl hl0 ?_
        obtain ⟨v26, e27, h⟩ := ob h
        refine y_getR (pc := 61) dX8_runsOut_61 zf_X8_19 e27 ?_
        obtain ⟨g30, h⟩ := bt h
        obtain ⟨M28, e29, h⟩ := ob h
        refine x_callV (av := [.ref v26]) (st := []) (pc := 64) dX8_runsOut_64 (E_X5_passDay (d := d) e29) rfl (Nat.le_of_ble_eq_true rfl) zc_X5_passDay rfl zm_X8_222 zi_X5_passDay zs_X5_passDay (zac_ok g30) (by decide) rfl rfl (zst_ok rfl (Nat.le_of_ble_eq_true rfl)) rfl ?_
        refine x_iinc (pc := 67) dX8_runsOut_67 rfl rfl (by decide) rfl ?_
        refine x_goto (pc := 70) dX8_runsOut_70 (t := 37) rfl ?_
        refine ex_weak (Ls2 := [.ref l0, .int l1, .int l2, .int (l3 + 1)]) ⟨Or.inr rfl, Or.inr rfl, Or.inr rfl, Or.inr rfl, trivial⟩ ?_
        exact ih _ _ _ _ _ hl0 _ h K1 K2
      · rw [if_pos c23] at h
        refine x_iload_n (pc := 54) dX8_runsOut_54 rfl rfl ?_
        obtain rfl := s1 h
        rw [K1 _ rfl]
        exact y_retI (pc := 55) dX8_runsOut_55 rfl
theorem E_X8_runsOut {G : zG} {d : Nat} {l0 : Nat} {l1 : Int32} {M MR : zM} {r : Int32} (h : f_X8_runsOut l0 l1 M = some (r, MR)) : Ex G (d + 6) yX8_runsOut cX8_runsOut 4 (some .int) 0 (zent0 [.ref l0, .int l1] 4) [] M (some (.int r), MR) := by
  unfold f_X8_runsOut at h
  obtain ⟨zz0, h⟩ := bt h
  have hl0 := bz zz0
  show Ex _ _ _ _ _ _ 0 [.ref l0, .int l1, .null, .null] [] _ _
  refine x_aload_n (pc := 0) dX8_runsOut_0 rfl rfl hl0 ?_
  refine x_iload_n (pc := 1) dX8_runsOut_1 rfl rfl ?_
  obtain ⟨g22, h⟩ := bt h
  obtain ⟨r1, e2, h⟩ := ob h
  refine x_callV (av := [.int l1]) (st := []) (pc := 2) dX8_runsOut_2 (E_X8_isWord (d := d + 5) e2) rfl (Nat.le_of_ble_eq_true rfl) zc_X8_isWord rfl zm_X8_159 zi_X8_isWord zs_X8_isWord (zac_ok g22) (by decide) rfl rfl (zst_ok rfl (Nat.le_of_ble_eq_true rfl)) rfl ?_
  refine x_if_ne (pc := 5) dX8_runsOut_5 (t := 11) rfl (fun c3 => ?_) (fun c3 => ?_)
  · rw [if_neg c3] at h
    refine x_aload_n (pc := 11) dX8_runsOut_11 rfl rfl hl0 ?_
    obtain ⟨v4, e5, h⟩ := ob h
    refine y_getR (pc := 12) dX8_runsOut_12 zf_X8_33 e5 ?_
    refine x_aload_n (pc := 15) dX8_runsOut_15 rfl rfl hl0 ?_
    obtain ⟨v6, e7, h⟩ := ob h
    refine y_getR (pc := 16) dX8_runsOut_16 zf_X8_29 e7 ?_
    obtain ⟨g21, h⟩ := bt h
    obtain ⟨M8, e9, h⟩ := ob h
    refine x_callV (av := [.ref v6]) (st := []) (pc := 19) dX8_runsOut_19 (E_X5_copy (d := d + 5) e9) rfl (Nat.le_of_ble_eq_true rfl) zc_X5_copy rfl zm_X8_264 zi_X5_copy zs_X5_copy (zac_ok g21) (by decide) rfl rfl (zst_ok rfl (Nat.le_of_ble_eq_true rfl)) rfl ?_
    refine x_aload_n (pc := 22) dX8_runsOut_22 rfl rfl hl0 ?_
    obtain ⟨v10, e11, h⟩ := ob h
    refine y_getR (pc := 23) dX8_runsOut_23 zf_X8_19 e11 ?_
    obtain ⟨v12, e13, h⟩ := ob h
    refine y_getI (pc := 26) dX8_runsOut_26 zf_X8_122 e13 (by decide) ?_
    refine x_aload_n (pc := 29) dX8_runsOut_29 rfl rfl hl0 ?_
    obtain ⟨g20, h⟩ := bt h
    obtain ⟨r14, e15, h⟩ := ob h
    refine x_callV (av := []) (st := [.int v12]) (pc := 30) dX8_runsOut_30 (E_X8_today (d := d + 4) e15) rfl (Nat.le_of_ble_eq_true rfl) zc_X8_today rfl zm_X8_135 zi_X8_today zs_X8_today (zac_ok g20) (by decide) rfl rfl (zst_ok rfl (Nat.le_of_ble_eq_true rfl)) rfl ?_
    refine x_isub (pc := 33) dX8_runsOut_33 ?_
    refine x_istore_n (pc := 34) dX8_runsOut_34 rfl (by decide) rfl ?_
    refine x_iconst (pc := 35) dX8_runsOut_35 (v := 0) rfl ?_
    refine x_istore_n (pc := 36) dX8_runsOut_36 rfl (by decide) rfl ?_
    refine ex_weak (Ls2 := [.ref l0, .int l1, .int (v12 - r14), .int 0]) ⟨Or.inr rfl, Or.inr rfl, Or.inr rfl, Or.inr rfl, trivial⟩ ?_
    rcases obs h with ⟨r18, e16, h⟩ | ⟨M17, e16, h⟩
    · cases h
      exact LX_X8_runsOut_37 zN _ _ _ _ _ hl0 _ e16 (fun r q => by cases q; rfl) (by intros; contradiction)
    · refine LX_X8_runsOut_37 zN _ _ _ _ _ hl0 _ e16 (fun r q => by cases q) ?_
      intro u19 q
      cases q
      refine x_iconst (pc := 73) dX8_runsOut_73 (v := (-1)) rfl ?_
      obtain ⟨rfl, rfl⟩ := s2 h
      exact y_retI (pc := 74) dX8_runsOut_74 rfl
  · rw [if_pos c3] at h
    refine x_ldc (pc := 8) dX8_runsOut_8 zk_X8_163 ?_
    obtain ⟨rfl, rfl⟩ := s2 h
    exact y_retI (pc := 10) dX8_runsOut_10 rfl
def L_X8_willBe_40 : Nat → Nat → Int32 → Int32 → zM → Option (zM)
  | 0, _, _, _, _ => none
  | n + 1, l0, l1, l2, M => if l1 ≤ l2 then (some M) else ((oR M l0 8 13 4).bind fun v15 => (oR M l0 8 13 1).bind fun v17 => bif zac M v15 5 9 then ((f_X5_passDay v15 v17 M).bind fun M19 => L_X8_willBe_40 n l0 l1 (l2 + 1) M19) else none)
def f_X8_willBe (l0 : Nat) (l1 : Int32) (M : zM) : Option (Int32 × zM) := bif Nat.ble 1 l0 then (if l1 < 1 then (some ((-1000000002), M)) else (if l1 ≤ 99 then ((oR M l0 8 13 1).bind fun v3 => (oI M v3 7 15 0).bind fun v5 => if v5 = 0 then (some ((-1000000003), M)) else ((oR M l0 8 13 4).bind fun v8 => (oR M l0 8 13 3).bind fun v10 => bif zac M v8 5 9 then ((f_X5_copy v8 v10 M).bind fun M12 => (L_X8_willBe_40 zN l0 l1 0 M12).bind fun M15 => (oR M15 l0 8 13 4).bind fun v16 => (oI M15 v16 5 9 5).bind fun v18 => (oR M15 l0 8 13 3).bind fun v20 => (oI M15 v20 5 9 5).bind fun v22 => some (v18 - v22, M15)) else none)) else (some ((-1000000002), M)))) else none
theorem LX_X8_willBe_40 {G : zG} {d : Nat} : ∀ (n : Nat) (l0 : Nat) (l1 : Int32) (l2 : Int32) (M : zM) (hl0 : l0 ≠ 0) (MX : zM) {res : Option Value × zM}, L_X8_willBe_40 n l0 l1 l2 M = some MX → Ex G (d + 6) yX8_willBe cX8_willBe 3 (some .int) 62 [.ref l0, .null, .null] [] MX res → Ex G (d + 6) yX8_willBe cX8_willBe 3 (some .int) 40 [.ref l0, .int l1, .int l2] [] M res := by
  intro n
  induction n with
  | zero =>
    intro l0 l1 l2 M hl0 MX res h K
    simp [L_X8_willBe_40] at h
  | succ n ih =>
    intro l0 l1 l2 M hl0 MX res h K
    simp only [L_X8_willBe_40] at h
    refine x_iload_n (pc := 40) dX8_willBe_40 rfl rfl ?_
    refine x_iload_n (pc := 41) dX8_willBe_41 rfl rfl ?_
    refine x_icmp_ge (pc := 42) dX8_willBe_42 (t := 62) rfl (fun c14 => ?_) (fun c14 => ?_)
    · rw [if_pos c14] at h
      obtain rfl := s1 h
      refine ex_weak (Ls2 := [.ref l0, .null, .null]) ⟨Or.inr rfl, Or.inl rfl, Or.inl rfl, trivial⟩ ?_
      exact K
    · rw [if_neg c14] at h
      refine x_aload_n (pc := 45) dX8_willBe_45 rfl rfl hl0 ?_
      obtain ⟨v15, e16, h⟩ := ob h
      refine y_getR (pc := 46) dX8_willBe_46 zf_X8_33 e16 ?_
      refine x_aload_n (pc := 49) dX8_willBe_49 rfl rfl hl0 ?_
      obtain ⟨v17, e18, h⟩ := ob h
      refine y_getR (pc := 50) dX8_willBe_50 zf_X8_19 e18 ?_
      obtain ⟨g21, h⟩ := bt h
      obtain ⟨M19, e20, h⟩ := ob h
      refine x_callV (av := [.ref v17]) (st := []) (pc := 53) dX8_willBe_53 (E_X5_passDay (d := d) e20) rfl (Nat.le_of_ble_eq_true rfl) zc_X5_passDay rfl zm_X8_222 zi_X5_passDay zs_X5_passDay (zac_ok g21) (by decide) rfl rfl (zst_ok rfl (Nat.le_of_ble_eq_true rfl)) rfl ?_
      refine x_iinc (pc := 56) dX8_willBe_56 rfl rfl (by decide) rfl ?_
      refine x_goto (pc := 59) dX8_willBe_59 (t := 40) rfl ?_
      refine ex_weak (Ls2 := [.ref l0, .int l1, .int (l2 + 1)]) ⟨Or.inr rfl, Or.inr rfl, Or.inr rfl, trivial⟩ ?_
      exact ih _ _ _ _ hl0  _ h K
theorem E_X8_willBe {G : zG} {d : Nat} {l0 : Nat} {l1 : Int32} {M MR : zM} {r : Int32} (h : f_X8_willBe l0 l1 M = some (r, MR)) : Ex G (d + 6) yX8_willBe cX8_willBe 3 (some .int) 0 (zent0 [.ref l0, .int l1] 3) [] M (some (.int r), MR) := by
  unfold f_X8_willBe at h
  obtain ⟨zz0, h⟩ := bt h
  have hl0 := bz zz0
  show Ex _ _ _ _ _ _ 0 [.ref l0, .int l1, .null] [] _ _
  refine x_iload_n (pc := 0) dX8_willBe_0 rfl rfl ?_
  refine x_iconst (pc := 1) dX8_willBe_1 (v := 1) rfl ?_
  refine x_icmp_lt (pc := 2) dX8_willBe_2 (t := 11) rfl (fun c1 => ?_) (fun c1 => ?_)
  · rw [if_pos c1] at h
    refine x_ldc (pc := 11) dX8_willBe_11 zk_X8_78 ?_
    obtain ⟨rfl, rfl⟩ := s2 h
    exact y_retI (pc := 13) dX8_willBe_13 rfl
  · rw [if_neg c1] at h
    refine x_iload_n (pc := 5) dX8_willBe_5 rfl rfl ?_
    refine x_bipush (pc := 6) dX8_willBe_6 (v := 99) (by decide) ?_
    refine x_icmp_le (pc := 8) dX8_willBe_8 (t := 14) rfl (fun c2 => ?_) (fun c2 => ?_)
    · rw [if_pos c2] at h
      refine x_aload_n (pc := 14) dX8_willBe_14 rfl rfl hl0 ?_
      obtain ⟨v3, e4, h⟩ := ob h
      refine y_getR (pc := 15) dX8_willBe_15 zf_X8_19 e4 ?_
      obtain ⟨v5, e6, h⟩ := ob h
      refine y_getI (pc := 18) dX8_willBe_18 zf_X8_122 e6 (by decide) ?_
      refine x_if_ne (pc := 21) dX8_willBe_21 (t := 27) rfl (fun c7 => ?_) (fun c7 => ?_)
      · rw [if_neg c7] at h
        refine x_aload_n (pc := 27) dX8_willBe_27 rfl rfl hl0 ?_
        obtain ⟨v8, e9, h⟩ := ob h
        refine y_getR (pc := 28) dX8_willBe_28 zf_X8_33 e9 ?_
        refine x_aload_n (pc := 31) dX8_willBe_31 rfl rfl hl0 ?_
        obtain ⟨v10, e11, h⟩ := ob h
        refine y_getR (pc := 32) dX8_willBe_32 zf_X8_29 e11 ?_
        obtain ⟨g24, h⟩ := bt h
        obtain ⟨M12, e13, h⟩ := ob h
        refine x_callV (av := [.ref v10]) (st := []) (pc := 35) dX8_willBe_35 (E_X5_copy (d := d + 5) e13) rfl (Nat.le_of_ble_eq_true rfl) zc_X5_copy rfl zm_X8_264 zi_X5_copy zs_X5_copy (zac_ok g24) (by decide) rfl rfl (zst_ok rfl (Nat.le_of_ble_eq_true rfl)) rfl ?_
        refine x_iconst (pc := 38) dX8_willBe_38 (v := 0) rfl ?_
        refine x_istore_n (pc := 39) dX8_willBe_39 rfl (by decide) rfl ?_
        obtain ⟨M15, e14, h⟩ := ob h
        refine ex_weak (Ls2 := [.ref l0, .int l1, .int 0]) ⟨Or.inr rfl, Or.inr rfl, Or.inr rfl, trivial⟩ ?_
        refine LX_X8_willBe_40 zN _ _ _ _ hl0 _ e14 ?_
        refine x_aload_n (pc := 62) dX8_willBe_62 rfl rfl hl0 ?_
        obtain ⟨v16, e17, h⟩ := ob h
        refine y_getR (pc := 63) dX8_willBe_63 zf_X8_33 e17 ?_
        obtain ⟨v18, e19, h⟩ := ob h
        refine y_getI (pc := 66) dX8_willBe_66 zf_X8_139 e19 (by decide) ?_
        refine x_aload_n (pc := 69) dX8_willBe_69 rfl rfl hl0 ?_
        obtain ⟨v20, e21, h⟩ := ob h
        refine y_getR (pc := 70) dX8_willBe_70 zf_X8_29 e21 ?_
        obtain ⟨v22, e23, h⟩ := ob h
        refine y_getI (pc := 73) dX8_willBe_73 zf_X8_139 e23 (by decide) ?_
        refine x_isub (pc := 76) dX8_willBe_76 ?_
        obtain ⟨rfl, rfl⟩ := s2 h
        exact y_retI (pc := 77) dX8_willBe_77 rfl
      · rw [if_pos c7] at h
        refine x_ldc (pc := 24) dX8_willBe_24 zk_X8_228 ?_
        obtain ⟨rfl, rfl⟩ := s2 h
        exact y_retI (pc := 26) dX8_willBe_26 rfl
    · rw [if_neg c2] at h
      refine x_ldc (pc := 11) dX8_willBe_11 zk_X8_78 ?_
      obtain ⟨rfl, rfl⟩ := s2 h
      exact y_retI (pc := 13) dX8_willBe_13 rfl
def f_X8_plan (l0 : Nat) (l1 : Int32) (M : zM) : Option (Int32 × zM) := bif Nat.ble 1 l0 then (if l1 < (-2) then (some ((-1000000001), M)) else ((oR M l0 8 13 1).bind fun v2 => (oI M v2 7 15 4).bind fun v4 => if l1 < v4 then ((oR M l0 8 13 7).bind fun v7 => (oR M l0 8 13 1).bind fun v9 => (oR M l0 8 13 3).bind fun v11 => bif zac M v7 4 10 then ((f_X4_workOut v7 v9 v11 M).bind fun M13 => if l1 = (-2) then ((oR M13 l0 8 13 7).bind fun v16 => (oI M13 v16 4 10 9).bind fun v18 => some (v18, M13)) else (if l1 = (-1) then ((oR M13 l0 8 13 7).bind fun v21 => (oI M13 v21 4 10 8).bind fun v23 => some (v23, M13)) else ((oR M13 l0 8 13 7).bind fun v25 => bif zac M13 v25 4 10 then ((f_X4_howMet v25 l1 M13).bind fun r27 => some (r27, M13)) else none))) else none) else (some ((-1000000001), M)))) else none
theorem E_X8_plan {G : zG} {d : Nat} {l0 : Nat} {l1 : Int32} {M MR : zM} {r : Int32} (h : f_X8_plan l0 l1 M = some (r, MR)) : Ex G (d + 23) yX8_plan cX8_plan 2 (some .int) 0 (zent0 [.ref l0, .int l1] 2) [] M (some (.int r), MR) := by
  unfold f_X8_plan at h
  obtain ⟨zz0, h⟩ := bt h
  have hl0 := bz zz0
  show Ex _ _ _ _ _ _ 0 [.ref l0, .int l1] [] _ _
  refine x_iload_n (pc := 0) dX8_plan_0 rfl rfl ?_
  refine x_bipush (pc := 1) dX8_plan_1 (v := (-2)) (by decide) ?_
  refine x_icmp_lt (pc := 3) dX8_plan_3 (t := 17) rfl (fun c1 => ?_) (fun c1 => ?_)
  · rw [if_pos c1] at h
    refine x_ldc (pc := 17) dX8_plan_17 zk_X8_163 ?_
    obtain ⟨rfl, rfl⟩ := s2 h
    exact y_retI (pc := 19) dX8_plan_19 rfl
  · rw [if_neg c1] at h
    refine x_iload_n (pc := 6) dX8_plan_6 rfl rfl ?_
    refine x_aload_n (pc := 7) dX8_plan_7 rfl rfl hl0 ?_
    obtain ⟨v2, e3, h⟩ := ob h
    refine y_getR (pc := 8) dX8_plan_8 zf_X8_19 e3 ?_
    obtain ⟨v4, e5, h⟩ := ob h
    refine y_getI (pc := 11) dX8_plan_11 zf_X8_131 e5 (by decide) ?_
    refine x_icmp_lt (pc := 14) dX8_plan_14 (t := 20) rfl (fun c6 => ?_) (fun c6 => ?_)
    · rw [if_pos c6] at h
      refine x_aload_n (pc := 20) dX8_plan_20 rfl rfl hl0 ?_
      obtain ⟨v7, e8, h⟩ := ob h
      refine y_getR (pc := 21) dX8_plan_21 zf_X8_52 e8 ?_
      refine x_aload_n (pc := 24) dX8_plan_24 rfl rfl hl0 ?_
      obtain ⟨v9, e10, h⟩ := ob h
      refine y_getR (pc := 25) dX8_plan_25 zf_X8_19 e10 ?_
      refine x_aload_n (pc := 28) dX8_plan_28 rfl rfl hl0 ?_
      obtain ⟨v11, e12, h⟩ := ob h
      refine y_getR (pc := 29) dX8_plan_29 zf_X8_29 e12 ?_
      obtain ⟨g30, h⟩ := bt h
      obtain ⟨M13, e14, h⟩ := ob h
      refine x_callV (av := [.ref v9, .ref v11]) (st := []) (pc := 32) dX8_plan_32 (E_X4_workOut (d := d) e14) rfl (Nat.le_of_ble_eq_true rfl) zc_X4_workOut rfl zm_X8_267 zi_X4_workOut zs_X4_workOut (zac_ok g30) (by decide) rfl rfl (zst_ok rfl (Nat.le_of_ble_eq_true rfl)) rfl ?_
      refine x_iload_n (pc := 35) dX8_plan_35 rfl rfl ?_
      refine x_bipush (pc := 36) dX8_plan_36 (v := (-2)) (by decide) ?_
      refine x_icmp_ne (pc := 38) dX8_plan_38 (t := 49) rfl (fun c15 => ?_) (fun c15 => ?_)
      · rw [if_neg c15] at h
        refine x_iload_n (pc := 49) dX8_plan_49 rfl rfl ?_
        refine x_iconst (pc := 50) dX8_plan_50 (v := (-1)) rfl ?_
        refine x_icmp_ne (pc := 51) dX8_plan_51 (t := 64) rfl (fun c20 => ?_) (fun c20 => ?_)
        · rw [if_neg c20] at h
          refine x_aload_n (pc := 64) dX8_plan_64 rfl rfl hl0 ?_
          obtain ⟨v25, e26, h⟩ := ob h
          refine y_getR (pc := 65) dX8_plan_65 zf_X8_52 e26 ?_
          refine x_iload_n (pc := 68) dX8_plan_68 rfl rfl ?_
          obtain ⟨g29, h⟩ := bt h
          obtain ⟨r27, e28, h⟩ := ob h
          refine x_callV (av := [.int l1]) (st := []) (pc := 69) dX8_plan_69 (E_X4_howMet (d := d + 22) e28) rfl (Nat.le_of_ble_eq_true rfl) zc_X4_howMet rfl zm_X8_277 zi_X4_howMet zs_X4_howMet (zac_ok g29) (by decide) rfl rfl (zst_ok rfl (Nat.le_of_ble_eq_true rfl)) rfl ?_
          obtain ⟨rfl, rfl⟩ := s2 h
          exact y_retI (pc := 72) dX8_plan_72 rfl
        · rw [if_pos c20] at h
          refine x_aload_n (pc := 54) dX8_plan_54 rfl rfl hl0 ?_
          obtain ⟨v21, e22, h⟩ := ob h
          refine y_getR (pc := 55) dX8_plan_55 zf_X8_52 e22 ?_
          obtain ⟨v23, e24, h⟩ := ob h
          refine y_getI (pc := 58) dX8_plan_58 zf_X8_274 e24 (by decide) ?_
          refine x_goto (pc := 61) dX8_plan_61 (t := 72) rfl ?_
          obtain ⟨rfl, rfl⟩ := s2 h
          exact y_retI (pc := 72) dX8_plan_72 rfl
      · rw [if_pos c15] at h
        refine x_aload_n (pc := 41) dX8_plan_41 rfl rfl hl0 ?_
        obtain ⟨v16, e17, h⟩ := ob h
        refine y_getR (pc := 42) dX8_plan_42 zf_X8_52 e17 ?_
        obtain ⟨v18, e19, h⟩ := ob h
        refine y_getI (pc := 45) dX8_plan_45 zf_X8_271 e19 (by decide) ?_
        obtain ⟨rfl, rfl⟩ := s2 h
        exact y_retI (pc := 48) dX8_plan_48 rfl
    · rw [if_neg c6] at h
      refine x_ldc (pc := 17) dX8_plan_17 zk_X8_163 ?_
      obtain ⟨rfl, rfl⟩ := s2 h
      exact y_retI (pc := 19) dX8_plan_19 rfl
def f_X8_isToComeOf (l0 : Nat) (l1 : Int32) (l2 : Int32) (M : zM) : Option (Int32) := bif Nat.ble 1 l0 then ((oR M l0 8 13 1).bind fun v1 => (oR M v1 7 15 12).bind fun v3 => (aI M v3 l1).bind fun v5 => if v5 = l2 then ((oR M l0 8 13 1).bind fun v8 => bif zac M l0 8 13 then ((f_X8_today l0 M).bind fun r10 => bif zac M v8 7 15 then ((f_X7_isToCome v8 l1 r10 M).bind fun r12 => if r12 = 0 then (some 0) else (some 1)) else none) else none) else (some 0)) else none
theorem E_X8_isToComeOf {G : zG} {d : Nat} {l0 : Nat} {l1 : Int32} {l2 : Int32} {M : zM} {r : Int32} (h : f_X8_isToComeOf l0 l1 l2 M = some r) : Ex G (d + 2) yX8_isToComeOf cX8_isToComeOf 3 (some .boolean) 0 (zent0 [.ref l0, .int l1, .int l2] 3) [] M (some (.int r), M) := by
  unfold f_X8_isToComeOf at h
  obtain ⟨zz0, h⟩ := bt h
  have hl0 := bz zz0
  show Ex _ _ _ _ _ _ 0 [.ref l0, .int l1, .int l2] [] _ _
  refine x_aload_n (pc := 0) dX8_isToComeOf_0 rfl rfl hl0 ?_
  obtain ⟨v1, e2, h⟩ := ob h
  refine y_getR (pc := 1) dX8_isToComeOf_1 zf_X8_19 e2 ?_
  obtain ⟨v3, e4, h⟩ := ob h
  refine y_getR (pc := 4) dX8_isToComeOf_4 zf_X8_202 e4 ?_
  refine x_iload_n (pc := 7) dX8_isToComeOf_7 rfl rfl ?_
  obtain ⟨v5, e6, h⟩ := ob h
  refine y_iald (pc := 8) dX8_isToComeOf_8 e6 ?_
  refine x_iload_n (pc := 9) dX8_isToComeOf_9 rfl rfl ?_
  refine x_icmp_ne (pc := 10) dX8_isToComeOf_10 (t := 32) rfl (fun c7 => ?_) (fun c7 => ?_)
  · rw [if_neg c7] at h
    refine x_iconst (pc := 32) dX8_isToComeOf_32 (v := 0) rfl ?_
    obtain rfl := s1 h
    exact x_ret (pc := 33) dX8_isToComeOf_33 (ty := .boolean) rfl rfl
  · rw [if_pos c7] at h
    refine x_aload_n (pc := 13) dX8_isToComeOf_13 rfl rfl hl0 ?_
    obtain ⟨v8, e9, h⟩ := ob h
    refine y_getR (pc := 14) dX8_isToComeOf_14 zf_X8_19 e9 ?_
    refine x_iload_n (pc := 17) dX8_isToComeOf_17 rfl rfl ?_
    refine x_aload_n (pc := 18) dX8_isToComeOf_18 rfl rfl hl0 ?_
    obtain ⟨g16, h⟩ := bt h
    obtain ⟨r10, e11, h⟩ := ob h
    refine x_callV (av := []) (st := [.int l1, .ref v8]) (pc := 19) dX8_isToComeOf_19 (E_X8_today (d := d) e11) rfl (Nat.le_of_ble_eq_true rfl) zc_X8_today rfl zm_X8_135 zi_X8_today zs_X8_today (zac_ok g16) (by decide) rfl rfl (zst_ok rfl (Nat.le_of_ble_eq_true rfl)) rfl ?_
    obtain ⟨g15, h⟩ := bt h
    obtain ⟨r12, e13, h⟩ := ob h
    refine x_callV (av := [.int l1, .int r10]) (st := []) (pc := 22) dX8_isToComeOf_22 (E_X7_isToCome (d := d + 1) e13) rfl (Nat.le_of_ble_eq_true rfl) zc_X7_isToCome rfl zm_X8_211 zi_X7_isToCome zs_X7_isToCome (zac_ok g15) (by decide) rfl rfl (zst_ok rfl (Nat.le_of_ble_eq_true rfl)) rfl ?_
    refine x_if_eq (pc := 25) dX8_isToComeOf_25 (t := 32) rfl (fun c14 => ?_) (fun c14 => ?_)
    · rw [if_pos c14] at h
      refine x_iconst (pc := 32) dX8_isToComeOf_32 (v := 0) rfl ?_
      obtain rfl := s1 h
      exact x_ret (pc := 33) dX8_isToComeOf_33 (ty := .boolean) rfl rfl
    · rw [if_neg c14] at h
      refine x_iconst (pc := 28) dX8_isToComeOf_28 (v := 1) rfl ?_
      refine x_goto (pc := 29) dX8_isToComeOf_29 (t := 33) rfl ?_
      obtain rfl := s1 h
      exact x_ret (pc := 33) dX8_isToComeOf_33 (ty := .boolean) rfl rfl
def L_X8_rankByWorth_16 : Nat → Nat → Int32 → Int32 → Int32 → Int32 → Int32 → zM → Option (Int32)
  | 0, _, _, _, _, _, _, _ => none
  | n + 1, l0, l1, l2, l3, l4, l5, M => (oR M l0 8 13 1).bind fun v7 => (oI M v7 7 15 4).bind fun v9 => if v9 ≤ l5 then (some l4) else ((oR M l0 8 13 1).bind fun v12 => (oR M v12 7 15 14).bind fun v14 => (aI M v14 l5).bind fun v16 => bif zac M l0 8 13 then ((f_X8_isToComeOf l0 l5 l2 M).bind fun r18 => if r18 = 0 then (L_X8_rankByWorth_16 n l0 l1 l2 l3 l4 (l5 + 1) M) else (if l3 < v16 then (L_X8_rankByWorth_16 n l0 l1 l2 l3 (l4 + 1) (l5 + 1) M) else (if v16 = l3 then (if l1 ≤ l5 then (L_X8_rankByWorth_16 n l0 l1 l2 l3 l4 (l5 + 1) M) else (L_X8_rankByWorth_16 n l0 l1 l2 l3 (l4 + 1) (l5 + 1) M)) else (L_X8_rankByWorth_16 n l0 l1 l2 l3 l4 (l5 + 1) M)))) else none)
def f_X8_rankByWorth (l0 : Nat) (l1 : Int32) (l2 : Int32) (M : zM) : Option (Int32) := bif Nat.ble 1 l0 then ((oR M l0 8 13 1).bind fun v1 => (oR M v1 7 15 14).bind fun v3 => (aI M v3 l1).bind fun v5 => (L_X8_rankByWorth_16 zN l0 l1 l2 v5 0 0 M).bind fun v8 => some v8) else none
theorem LX_X8_rankByWorth_16 {G : zG} {d : Nat} : ∀ (n : Nat) (l0 : Nat) (l1 : Int32) (l2 : Int32) (l3 : Int32) (l4 : Int32) (l5 : Int32) (M : zM) (hl0 : l0 ≠ 0) (o4 : Int32) {res : Option Value × zM}, L_X8_rankByWorth_16 n l0 l1 l2 l3 l4 l5 M = some o4 → Ex G (d + 3) yX8_rankByWorth cX8_rankByWorth 7 (some .int) 77 [.null, .null, .null, .null, .int o4, .null, .null] [] M res → Ex G (d + 3) yX8_rankByWorth cX8_rankByWorth 7 (some .int) 16 [.ref l0, .int l1, .int l2, .int l3, .int l4, .int l5, .null] [] M res := by
  intro n
  induction n with
  | zero =>
    intro l0 l1 l2 l3 l4 l5 M hl0 o4 res h K
    simp [L_X8_rankByWorth_16] at h
  | succ n ih =>
    intro l0 l1 l2 l3 l4 l5 M hl0 o4 res h K
    simp only [L_X8_rankByWorth_16] at h
    refine x_iload (pc := 16) dX8_rankByWorth_16 rfl ?_
    refine x_aload_n (pc := 18) dX8_rankByWorth_18 rfl rfl hl0 ?_
    obtain ⟨v7, e8, h⟩ := ob h
    refine y_getR (pc := 19) dX8_rankByWorth_19 zf_X8_19 e8 ?_
    obtain ⟨v9, e10, h⟩ := ob h
    refine y_getI (pc := 22) dX8_rankByWorth_22 zf_X8_131 e10 (by decide) ?_
    refine x_icmp_ge (pc := 25) dX8_rankByWorth_25 (t := 77) rfl (fun c11 => ?_) (fun c11 => ?_)
    · rw [if_pos c11] at h
      obtain rfl := s1 h
      refine ex_weak (Ls2 := [.null, .null, .null, .null, .int l4, .null, .null]) ⟨Or.inl rfl, Or.inl rfl, Or.inl rfl, Or.inl rfl, Or.inr rfl, Or.inl rfl, Or.inl rfl, trivial⟩ ?_
      exact K
    · rw [if_neg c11] at h
      refine x_aload_n (pc := 28) dX8_rankByWorth_28 rfl rfl hl0 ?_
      obtain ⟨v12, e13, h⟩ := ob h
      refine y_getR (pc := 29) dX8_rankByWorth_29 zf_X8_19 e13 ?_
      obtain ⟨v14, e15, h⟩ := ob h
      refine y_getR (pc := 32) dX8_rankByWorth_32 zf_X8_208 e15 ?_
      refine x_iload (pc := 35) dX8_rankByWorth_35 rfl ?_
      obtain ⟨v16, e17, h⟩ := ob h
      refine y_iald (pc := 37) dX8_rankByWorth_37 e17 ?_
      refine x_istore (pc := 38) dX8_rankByWorth_38 (by decide) rfl ?_
      refine x_aload_n (pc := 40) dX8_rankByWorth_40 rfl rfl hl0 ?_
      refine x_iload (pc := 41) dX8_rankByWorth_41 rfl ?_
      refine x_iload_n (pc := 43) dX8_rankByWorth_43 rfl rfl ?_
      obtain ⟨g24, h⟩ := bt h
      obtain ⟨r18, e19, h⟩ := ob h
      refine x_callV (av := [.int l5, .int l2]) (st := []) (pc := 44) dX8_rankByWorth_44 (E_X8_isToComeOf (d := d) e19) rfl (Nat.le_of_ble_eq_true rfl) zc_X8_isToComeOf rfl zm_X8_283 zi_X8_isToComeOf zs_X8_isToComeOf (zac_ok g24) (by decide) rfl rfl (zst_ok rfl (Nat.le_of_ble_eq_true rfl)) rfl ?_
      refine x_if_eq (pc := 47) dX8_rankByWorth_47 (t := 71) rfl (fun c20 => ?_) (fun c20 => ?_)
      · rw [if_pos c20] at h
        refine x_iinc (pc := 71) dX8_rankByWorth_71 rfl rfl (by decide) rfl ?_
        refine x_goto (pc := 74) dX8_rankByWorth_74 (t := 16) rfl ?_
        refine ex_weak (Ls2 := [.ref l0, .int l1, .int l2, .int l3, .int l4, .int (l5 + 1), .null]) ⟨Or.inr rfl, Or.inr rfl, Or.inr rfl, Or.inr rfl, Or.inr rfl, Or.inr rfl, Or.inl rfl, trivial⟩ ?_
        exact ih _ _ _ _ _ _ _ hl0 _ h K
      · rw [if_neg c20] at h
        refine x_iload (pc := 50) dX8_rankByWorth_50 rfl ?_
        refine x_iload_n (pc := 52) dX8_rankByWorth_52 rfl rfl ?_
        refine x_icmp_gt (pc := 53) dX8_rankByWorth_53 (t := 68) rfl (fun c21 => ?_) (fun c21 => ?_)
        · rw [if_pos c21] at h
          refine x_iinc (pc := 68) dX8_rankByWorth_68 rfl rfl (by decide) rfl ?_
          refine x_iinc (pc := 71) dX8_rankByWorth_71 rfl rfl (by decide) rfl ?_
          refine x_goto (pc := 74) dX8_rankByWorth_74 (t := 16) rfl ?_
          refine ex_weak (Ls2 := [.ref l0, .int l1, .int l2, .int l3, .int (l4 + 1), .int (l5 + 1), .null]) ⟨Or.inr rfl, Or.inr rfl, Or.inr rfl, Or.inr rfl, Or.inr rfl, Or.inr rfl, Or.inl rfl, trivial⟩ ?_
          exact ih _ _ _ _ _ _ _ hl0 _ h K
        · rw [if_neg c21] at h
          refine x_iload (pc := 56) dX8_rankByWorth_56 rfl ?_
          refine x_iload_n (pc := 58) dX8_rankByWorth_58 rfl rfl ?_
          refine x_icmp_ne (pc := 59) dX8_rankByWorth_59 (t := 71) rfl (fun c22 => ?_) (fun c22 => ?_)
          · rw [if_neg c22] at h
            refine x_iinc (pc := 71) dX8_rankByWorth_71 rfl rfl (by decide) rfl ?_
            refine x_goto (pc := 74) dX8_rankByWorth_74 (t := 16) rfl ?_
            refine ex_weak (Ls2 := [.ref l0, .int l1, .int l2, .int l3, .int l4, .int (l5 + 1), .null]) ⟨Or.inr rfl, Or.inr rfl, Or.inr rfl, Or.inr rfl, Or.inr rfl, Or.inr rfl, Or.inl rfl, trivial⟩ ?_
            exact ih _ _ _ _ _ _ _ hl0 _ h K
          · rw [if_pos c22] at h
            refine x_iload (pc := 62) dX8_rankByWorth_62 rfl ?_
            refine x_iload_n (pc := 64) dX8_rankByWorth_64 rfl rfl ?_
            refine x_icmp_ge (pc := 65) dX8_rankByWorth_65 (t := 71) rfl (fun c23 => ?_) (fun c23 => ?_)
            · rw [if_pos c23] at h
              refine x_iinc (pc := 71) dX8_rankByWorth_71 rfl rfl (by decide) rfl ?_
              refine x_goto (pc := 74) dX8_rankByWorth_74 (t := 16) rfl ?_
              refine ex_weak (Ls2 := [.ref l0, .int l1, .int l2, .int l3, .int l4, .int (l5 + 1), .null]) ⟨Or.inr rfl, Or.inr rfl, Or.inr rfl, Or.inr rfl, Or.inr rfl, Or.inr rfl, Or.inl rfl, trivial⟩ ?_
              exact ih _ _ _ _ _ _ _ hl0 _ h K
            · rw [if_neg c23] at h
              refine x_iinc (pc := 68) dX8_rankByWorth_68 rfl rfl (by decide) rfl ?_
              refine x_iinc (pc := 71) dX8_rankByWorth_71 rfl rfl (by decide) rfl ?_
              refine x_goto (pc := 74) dX8_rankByWorth_74 (t := 16) rfl ?_
              refine ex_weak (Ls2 := [.ref l0, .int l1, .int l2, .int l3, .int (l4 + 1), .int (l5 + 1), .null]) ⟨Or.inr rfl, Or.inr rfl, Or.inr rfl, Or.inr rfl, Or.inr rfl, Or.inr rfl, Or.inl rfl, trivial⟩ ?_
              exact ih _ _ _ _ _ _ _ hl0 _ h K
theorem E_X8_rankByWorth {G : zG} {d : Nat} {l0 : Nat} {l1 : Int32} {l2 : Int32} {M : zM} {r : Int32} (h : f_X8_rankByWorth l0 l1 l2 M = some r) : Ex G (d + 3) yX8_rankByWorth cX8_rankByWorth 7 (some .int) 0 (zent0 [.ref l0, .int l1, .int l2] 7) [] M (some (.int r), M) := by
  unfold f_X8_rankByWorth at h
  obtain ⟨zz0, h⟩ := bt h
  have hl0 := bz zz0
  show Ex _ _ _ _ _ _ 0 [.ref l0, .int l1, .int l2, .null, .null, .null, .null] [] _ _
  refine x_aload_n (pc := 0) dX8_rankByWorth_0 rfl rfl hl0 ?_
  obtain ⟨v1, e2, h⟩ := ob h
  refine y_getR (pc := 1) dX8_rankByWorth_1 zf_X8_19 e2 ?_
  obtain ⟨v3, e4, h⟩ := ob h
  refine y_getR (pc := 4) dX8_rankByWorth_4 zf_X8_208 e4 ?_
  refine x_iload_n (pc := 7) dX8_rankByWorth_7 rfl rfl ?_
  obtain ⟨v5, e6, h⟩ := ob h
  refine y_iald (pc := 8) dX8_rankByWorth_8 e6 ?_
  refine x_istore_n (pc := 9) dX8_rankByWorth_9 rfl (by decide) rfl ?_
  refine x_iconst (pc := 10) dX8_rankByWorth_10 (v := 0) rfl ?_
  refine x_istore (pc := 11) dX8_rankByWorth_11 (by decide) rfl ?_
  refine x_iconst (pc := 13) dX8_rankByWorth_13 (v := 0) rfl ?_
  refine x_istore (pc := 14) dX8_rankByWorth_14 (by decide) rfl ?_
  obtain ⟨v8, e7, h⟩ := ob h
  refine ex_weak (Ls2 := [.ref l0, .int l1, .int l2, .int v5, .int 0, .int 0, .null]) ⟨Or.inr rfl, Or.inr rfl, Or.inr rfl, Or.inr rfl, Or.inr rfl, Or.inr rfl, Or.inl rfl, trivial⟩ ?_
  refine LX_X8_rankByWorth_16 zN _ _ _ _ _ _ _ hl0 _ e7 ?_
  refine x_iload (pc := 77) dX8_rankByWorth_77 rfl ?_
  obtain rfl := s1 h
  exact y_retI (pc := 79) dX8_rankByWorth_79 rfl
def L_X8_price_22 : Nat → Nat → Int32 → Int32 → Int32 → zM → Option ((Int32) ⊕ (Unit))
  | 0, _, _, _, _, _ => none
  | n + 1, l0, l1, l2, l3, M => (oR M l0 8 13 1).bind fun v8 => (oI M v8 7 15 4).bind fun v10 => if v10 ≤ l3 then (some (.inr ())) else (bif zac M l0 8 13 then ((f_X8_isToComeOf l0 l3 l1 M).bind fun r13 => if r13 = 0 then (L_X8_price_22 n l0 l1 l2 (l3 + 1) M) else (bif zac M l0 8 13 then ((f_X8_rankByWorth l0 l3 l1 M).bind fun r16 => if r16 = l2 then ((oR M l0 8 13 1).bind fun v19 => (oR M v19 7 15 14).bind fun v21 => (aI M v21 l3).bind fun v23 => some (.inl v23)) else (L_X8_price_22 n l0 l1 l2 (l3 + 1) M)) else none)) else none)
def f_X8_price (l0 : Nat) (l1 : Int32) (M : zM) : Option (Int32) := bif Nat.ble 1 l0 then (bif zac M l0 8 13 then ((f_X8_isWord l0 l1 M).bind fun r1 => if r1 = 0 then (some (-1000000001)) else ((oR M l0 8 13 3).bind fun v4 => bif zac M v4 5 9 then ((f_X5_supply v4 l1 M).bind fun r6 => bs (L_X8_price_22 zN l0 l1 r6 0 M) some (fun _ => some 0)) else none)) else none) else none
theorem LX_X8_price_22 {G : zG} {d : Nat} : ∀ (n : Nat) (l0 : Nat) (l1 : Int32) (l2 : Int32) (l3 : Int32) (M : zM) (hl0 : l0 ≠ 0) (e : (Int32) ⊕ (Unit)) {res : Option Value × zM}, L_X8_price_22 n l0 l1 l2 l3 M = some e → (∀ r, e = .inl r → res = (some (.int r), M)) → (e = .inr () → Ex G (d + 4) yX8_price cX8_price 4 (some .int) 68 [.null, .null, .null, .null] [] M res) → Ex G (d + 4) yX8_price cX8_price 4 (some .int) 22 [.ref l0, .int l1, .int l2, .int l3] [] M res := by
  intro n
  induction n with
  | zero =>
    intro l0 l1 l2 l3 M hl0 e res h K1 K2
    simp [L_X8_price_22] at h
  | succ n ih =>
    intro l0 l1 l2 l3 M hl0 e res h K1 K2
    simp only [L_X8_price_22] at h
    refine x_iload_n (pc := 22) dX8_price_22 rfl rfl ?_
    refine x_aload_n (pc := 23) dX8_price_23 rfl rfl hl0 ?_
    obtain ⟨v8, e9, h⟩ := ob h
    refine y_getR (pc := 24) dX8_price_24 zf_X8_19 e9 ?_
    obtain ⟨v10, e11, h⟩ := ob h
    refine y_getI (pc := 27) dX8_price_27 zf_X8_131 e11 (by decide) ?_
    refine x_icmp_ge (pc := 30) dX8_price_30 (t := 68) rfl (fun c12 => ?_) (fun c12 => ?_)
    · rw [if_pos c12] at h
      obtain rfl := s1 h
      refine ex_weak (Ls2 := [.null, .null, .null, .null]) ⟨Or.inl rfl, Or.inl rfl, Or.inl rfl, Or.inl rfl, trivial⟩ ?_
      exact K2  rfl
    · rw [if_neg c12] at h
      refine x_aload_n (pc := 33) dX8_price_33 rfl rfl hl0 ?_
      refine x_iload_n (pc := 34) dX8_price_34 rfl rfl ?_
      refine x_iload_n (pc := 35) dX8_price_35 rfl rfl ?_
      obtain ⟨g26, h⟩ := bt h
      obtain ⟨r13, e14, h⟩ := ob h
      refine x_callV (av := [.int l3, .int l1]) (st := []) (pc := 36) dX8_price_36 (E_X8_isToComeOf (d := d + 1) e14) rfl (Nat.le_of_ble_eq_true rfl) zc_X8_isToComeOf rfl zm_X8_283 zi_X8_isToComeOf zs_X8_isToComeOf (zac_ok g26) (by decide) rfl rfl (zst_ok rfl (Nat.le_of_ble_eq_true rfl)) rfl ?_
      refine x_if_eq (pc := 39) dX8_price_39 (t := 62) rfl (fun c15 => ?_) (fun c15 => ?_)
      · rw [if_pos c15] at h
        refine x_iinc (pc := 62) dX8_price_62 rfl rfl (by decide) rfl ?_
        refine x_goto (pc := 65) dX8_price_65 (t := 22) rfl ?_
        refine ex_weak (Ls2 := [.ref l0, .int l1, .int l2, .int (l3 + 1)]) ⟨Or.inr rfl, Or.inr rfl, Or.inr rfl, Or.inr rfl, trivial⟩ ?_
        exact ih _ _ _ _ _ hl0 _ h K1 K2
      · rw [if_neg c15] at h
        refine x_aload_n (pc := 42) dX8_price_42 rfl rfl hl0 ?_
        refine x_iload_n (pc := 43) dX8_price_43 rfl rfl ?_
        refine x_iload_n (pc := 44) dX8_price_44 rfl rfl ?_
        obtain ⟨g25, h⟩ := bt h
        obtain ⟨r16, e17, h⟩ := ob h
        refine x_callV (av := [.int l3, .int l1]) (st := []) (pc := 45) dX8_price_45 (E_X8_rankByWorth (d := d) e17) rfl (Nat.le_of_ble_eq_true rfl) zc_X8_rankByWorth rfl zm_X8_286 zi_X8_rankByWorth zs_X8_rankByWorth (zac_ok g25) (by decide) rfl rfl (zst_ok rfl (Nat.le_of_ble_eq_true rfl)) rfl ?_
        refine x_iload_n (pc := 48) dX8_price_48 rfl rfl ?_
        refine x_icmp_ne (pc := 49) dX8_price_49 (t := 62) rfl (fun c18 => ?_) (fun c18 => ?_)
        · rw [if_neg c18] at h
          refine x_iinc (pc := 62) dX8_price_62 rfl rfl (by decide) rfl ?_
          refine x_goto (pc := 65) dX8_price_65 (t := 22) rfl ?_
          refine ex_weak (Ls2 := [.ref l0, .int l1, .int l2, .int (l3 + 1)]) ⟨Or.inr rfl, Or.inr rfl, Or.inr rfl, Or.inr rfl, trivial⟩ ?_
          exact ih _ _ _ _ _ hl0 _ h K1 K2
        · rw [if_pos c18] at h
          refine x_aload_n (pc := 52) dX8_price_52 rfl rfl hl0 ?_
          obtain ⟨v19, e20, h⟩ := ob h
          refine y_getR (pc := 53) dX8_price_53 zf_X8_19 e20 ?_
          obtain ⟨v21, e22, h⟩ := ob h
          refine y_getR (pc := 56) dX8_price_56 zf_X8_208 e22 ?_
          refine x_iload_n (pc := 59) dX8_price_59 rfl rfl ?_
          obtain ⟨v23, e24, h⟩ := ob h
          refine y_iald (pc := 60) dX8_price_60 e24 ?_
          obtain rfl := s1 h
          rw [K1 _ rfl]
          exact y_retI (pc := 61) dX8_price_61 rfl
theorem E_X8_price {G : zG} {d : Nat} {l0 : Nat} {l1 : Int32} {M : zM} {r : Int32} (h : f_X8_price l0 l1 M = some r) : Ex G (d + 4) yX8_price cX8_price 4 (some .int) 0 (zent0 [.ref l0, .int l1] 4) [] M (some (.int r), M) := by
  unfold f_X8_price at h
  obtain ⟨zz0, h⟩ := bt h
  have hl0 := bz zz0
  show Ex _ _ _ _ _ _ 0 [.ref l0, .int l1, .null, .null] [] _ _
  refine x_aload_n (pc := 0) dX8_price_0 rfl rfl hl0 ?_
  refine x_iload_n (pc := 1) dX8_price_1 rfl rfl ?_
  obtain ⟨g11, h⟩ := bt h
  obtain ⟨r1, e2, h⟩ := ob h
  refine x_callV (av := [.int l1]) (st := []) (pc := 2) dX8_price_2 (E_X8_isWord (d := d + 3) e2) rfl (Nat.le_of_ble_eq_true rfl) zc_X8_isWord rfl zm_X8_159 zi_X8_isWord zs_X8_isWord (zac_ok g11) (by decide) rfl rfl (zst_ok rfl (Nat.le_of_ble_eq_true rfl)) rfl ?_
  refine x_if_ne (pc := 5) dX8_price_5 (t := 11) rfl (fun c3 => ?_) (fun c3 => ?_)
  · rw [if_neg c3] at h
    refine x_aload_n (pc := 11) dX8_price_11 rfl rfl hl0 ?_
    obtain ⟨v4, e5, h⟩ := ob h
    refine y_getR (pc := 12) dX8_price_12 zf_X8_29 e5 ?_
    refine x_iload_n (pc := 15) dX8_price_15 rfl rfl ?_
    obtain ⟨g10, h⟩ := bt h
    obtain ⟨r6, e7, h⟩ := ob h
    refine x_callV (av := [.int l1]) (st := []) (pc := 16) dX8_price_16 (E_X5_supply (d := d + 1) e7) rfl (Nat.le_of_ble_eq_true rfl) zc_X5_supply rfl zm_X8_280 zi_X5_supply zs_X5_supply (zac_ok g10) (by decide) rfl rfl (zst_ok rfl (Nat.le_of_ble_eq_true rfl)) rfl ?_
    refine x_istore_n (pc := 19) dX8_price_19 rfl (by decide) rfl ?_
    refine x_iconst (pc := 20) dX8_price_20 (v := 0) rfl ?_
    refine x_istore_n (pc := 21) dX8_price_21 rfl (by decide) rfl ?_
    refine ex_weak (Ls2 := [.ref l0, .int l1, .int r6, .int 0]) ⟨Or.inr rfl, Or.inr rfl, Or.inr rfl, Or.inr rfl, trivial⟩ ?_
    rcases obs h with ⟨r9, e8, h⟩ | ⟨_, e8, h⟩
    · cases h
      exact LX_X8_price_22 zN _ _ _ _ _ hl0 _ e8 (fun r q => by cases q; rfl) (by intros; contradiction)
    · refine LX_X8_price_22 zN _ _ _ _ _ hl0 _ e8 (fun r q => by cases q) ?_
      intro q
      cases q
      refine x_iconst (pc := 68) dX8_price_68 (v := 0) rfl ?_
      obtain rfl := s1 h
      exact y_retI (pc := 69) dX8_price_69 rfl
  · rw [if_pos c3] at h
    refine x_ldc (pc := 8) dX8_price_8 zk_X8_163 ?_
    obtain rfl := s1 h
    exact y_retI (pc := 10) dX8_price_10 rfl
def L_X8_needsToCome_5 : Nat → Nat → Int32 → Int32 → Int32 → Int32 → zM → Option (Int32)
  | 0, _, _, _, _, _, _ => none
  | n + 1, l0, l1, l2, l3, l4, M => (oR M l0 8 13 1).bind fun v1 => (oI M v1 7 15 4).bind fun v3 => if v3 ≤ l4 then (some l3) else ((oR M l0 8 13 1).bind fun v6 => (oR M v6 7 15 11).bind fun v8 => (aI M v8 l4).bind fun v10 => if v10 = l1 then (bif zac M l0 8 13 then ((f_X8_isToComeOf l0 l4 l2 M).bind fun r13 => if r13 = 0 then (L_X8_needsToCome_5 n l0 l1 l2 l3 (l4 + 1) M) else (L_X8_needsToCome_5 n l0 l1 l2 (l3 + 1) (l4 + 1) M)) else none) else (L_X8_needsToCome_5 n l0 l1 l2 l3 (l4 + 1) M))
def f_X8_needsToCome (l0 : Nat) (l1 : Int32) (l2 : Int32) (M : zM) : Option (Int32) := bif Nat.ble 1 l0 then ((L_X8_needsToCome_5 zN l0 l1 l2 0 0 M).bind fun v2 => some v2) else none
theorem LX_X8_needsToCome_5 {G : zG} {d : Nat} : ∀ (n : Nat) (l0 : Nat) (l1 : Int32) (l2 : Int32) (l3 : Int32) (l4 : Int32) (M : zM) (hl0 : l0 ≠ 0) (o3 : Int32) {res : Option Value × zM}, L_X8_needsToCome_5 n l0 l1 l2 l3 l4 M = some o3 → Ex G (d + 3) yX8_needsToCome cX8_needsToCome 5 (some .int) 50 [.null, .null, .null, .int o3, .null] [] M res → Ex G (d + 3) yX8_needsToCome cX8_needsToCome 5 (some .int) 5 [.ref l0, .int l1, .int l2, .int l3, .int l4] [] M res := by
  intro n
  induction n with
  | zero =>
    intro l0 l1 l2 l3 l4 M hl0 o3 res h K
    simp [L_X8_needsToCome_5] at h
  | succ n ih =>
    intro l0 l1 l2 l3 l4 M hl0 o3 res h K
    simp only [L_X8_needsToCome_5] at h
    refine x_iload (pc := 5) dX8_needsToCome_5 rfl ?_
    refine x_aload_n (pc := 7) dX8_needsToCome_7 rfl rfl hl0 ?_
    obtain ⟨v1, e2, h⟩ := ob h
    refine y_getR (pc := 8) dX8_needsToCome_8 zf_X8_19 e2 ?_
    obtain ⟨v3, e4, h⟩ := ob h
    refine y_getI (pc := 11) dX8_needsToCome_11 zf_X8_131 e4 (by decide) ?_
    refine x_icmp_ge (pc := 14) dX8_needsToCome_14 (t := 50) rfl (fun c5 => ?_) (fun c5 => ?_)
    · rw [if_pos c5] at h
      obtain rfl := s1 h
      refine ex_weak (Ls2 := [.null, .null, .null, .int l3, .null]) ⟨Or.inl rfl, Or.inl rfl, Or.inl rfl, Or.inr rfl, Or.inl rfl, trivial⟩ ?_
      exact K
    · rw [if_neg c5] at h
      refine x_aload_n (pc := 17) dX8_needsToCome_17 rfl rfl hl0 ?_
      obtain ⟨v6, e7, h⟩ := ob h
      refine y_getR (pc := 18) dX8_needsToCome_18 zf_X8_19 e7 ?_
      obtain ⟨v8, e9, h⟩ := ob h
      refine y_getR (pc := 21) dX8_needsToCome_21 zf_X8_199 e9 ?_
      refine x_iload (pc := 24) dX8_needsToCome_24 rfl ?_
      obtain ⟨v10, e11, h⟩ := ob h
      refine y_iald (pc := 26) dX8_needsToCome_26 e11 ?_
      refine x_iload_n (pc := 27) dX8_needsToCome_27 rfl rfl ?_
      refine x_icmp_ne (pc := 28) dX8_needsToCome_28 (t := 44) rfl (fun c12 => ?_) (fun c12 => ?_)
      · rw [if_neg c12] at h
        refine x_iinc (pc := 44) dX8_needsToCome_44 rfl rfl (by decide) rfl ?_
        refine x_goto (pc := 47) dX8_needsToCome_47 (t := 5) rfl ?_
        refine ex_weak (Ls2 := [.ref l0, .int l1, .int l2, .int l3, .int (l4 + 1)]) ⟨Or.inr rfl, Or.inr rfl, Or.inr rfl, Or.inr rfl, Or.inr rfl, trivial⟩ ?_
        exact ih _ _ _ _ _ _ hl0 _ h K
      · rw [if_pos c12] at h
        refine x_aload_n (pc := 31) dX8_needsToCome_31 rfl rfl hl0 ?_
        refine x_iload (pc := 32) dX8_needsToCome_32 rfl ?_
        refine x_iload_n (pc := 34) dX8_needsToCome_34 rfl rfl ?_
        obtain ⟨g16, h⟩ := bt h
        obtain ⟨r13, e14, h⟩ := ob h
        refine x_callV (av := [.int l4, .int l2]) (st := []) (pc := 35) dX8_needsToCome_35 (E_X8_isToComeOf (d := d) e14) rfl (Nat.le_of_ble_eq_true rfl) zc_X8_isToComeOf rfl zm_X8_283 zi_X8_isToComeOf zs_X8_isToComeOf (zac_ok g16) (by decide) rfl rfl (zst_ok rfl (Nat.le_of_ble_eq_true rfl)) rfl ?_
        refine x_if_eq (pc := 38) dX8_needsToCome_38 (t := 44) rfl (fun c15 => ?_) (fun c15 => ?_)
        · rw [if_pos c15] at h
          refine x_iinc (pc := 44) dX8_needsToCome_44 rfl rfl (by decide) rfl ?_
          refine x_goto (pc := 47) dX8_needsToCome_47 (t := 5) rfl ?_
          refine ex_weak (Ls2 := [.ref l0, .int l1, .int l2, .int l3, .int (l4 + 1)]) ⟨Or.inr rfl, Or.inr rfl, Or.inr rfl, Or.inr rfl, Or.inr rfl, trivial⟩ ?_
          exact ih _ _ _ _ _ _ hl0 _ h K
        · rw [if_neg c15] at h
          refine x_iinc (pc := 41) dX8_needsToCome_41 rfl rfl (by decide) rfl ?_
          refine x_iinc (pc := 44) dX8_needsToCome_44 rfl rfl (by decide) rfl ?_
          refine x_goto (pc := 47) dX8_needsToCome_47 (t := 5) rfl ?_
          refine ex_weak (Ls2 := [.ref l0, .int l1, .int l2, .int (l3 + 1), .int (l4 + 1)]) ⟨Or.inr rfl, Or.inr rfl, Or.inr rfl, Or.inr rfl, Or.inr rfl, trivial⟩ ?_
          exact ih _ _ _ _ _ _ hl0 _ h K
theorem E_X8_needsToCome {G : zG} {d : Nat} {l0 : Nat} {l1 : Int32} {l2 : Int32} {M : zM} {r : Int32} (h : f_X8_needsToCome l0 l1 l2 M = some r) : Ex G (d + 3) yX8_needsToCome cX8_needsToCome 5 (some .int) 0 (zent0 [.ref l0, .int l1, .int l2] 5) [] M (some (.int r), M) := by
  unfold f_X8_needsToCome at h
  obtain ⟨zz0, h⟩ := bt h
  have hl0 := bz zz0
  show Ex _ _ _ _ _ _ 0 [.ref l0, .int l1, .int l2, .null, .null] [] _ _
  refine x_iconst (pc := 0) dX8_needsToCome_0 (v := 0) rfl ?_
  refine x_istore_n (pc := 1) dX8_needsToCome_1 rfl (by decide) rfl ?_
  refine x_iconst (pc := 2) dX8_needsToCome_2 (v := 0) rfl ?_
  refine x_istore (pc := 3) dX8_needsToCome_3 (by decide) rfl ?_
  obtain ⟨v2, e1, h⟩ := ob h
  refine ex_weak (Ls2 := [.ref l0, .int l1, .int l2, .int 0, .int 0]) ⟨Or.inr rfl, Or.inr rfl, Or.inr rfl, Or.inr rfl, Or.inr rfl, trivial⟩ ?_
  refine LX_X8_needsToCome_5 zN _ _ _ _ _ _ hl0 _ e1 ?_
  refine x_iload_n (pc := 50) dX8_needsToCome_50 rfl rfl ?_
  obtain rfl := s1 h
  exact y_retI (pc := 51) dX8_needsToCome_51 rfl
def f_X8_wouldSell (l0 : Nat) (l1 : Int32) (l2 : Int32) (l3 : Int32) (M : zM) : Option (Int32) := bif Nat.ble 1 l0 then ((oR M l0 8 13 3).bind fun v1 => (oR M v1 5 9 1).bind fun v3 => (aI M v3 l3).bind fun v5 => if v5 = 0 then ((oR M l0 8 13 3).bind fun v8 => bif zac M v8 5 9 then ((f_X5_hoardedBy v8 l1 l3 M).bind fun r10 => if r10 ≤ 0 then (some 0) else (bif zac M l0 8 13 then ((f_X8_needsToCome l0 l1 l3 M).bind fun r13 => if r13 = 0 then ((oR M l0 8 13 3).bind fun v16 => bif zac M v16 5 9 then ((f_X5_hoardedBy v16 l2 l3 M).bind fun r18 => if r18 = 0 then (bif zac M l0 8 13 then ((f_X8_needsToCome l0 l2 l3 M).bind fun r21 => if r21 ≤ 0 then (some 0) else (some 1)) else none) else (some 0)) else none) else (some 0)) else none)) else none) else (some 0)) else none
theorem E_X8_wouldSell {G : zG} {d : Nat} {l0 : Nat} {l1 : Int32} {l2 : Int32} {l3 : Int32} {M : zM} {r : Int32} (h : f_X8_wouldSell l0 l1 l2 l3 M = some r) : Ex G (d + 4) yX8_wouldSell cX8_wouldSell 4 (some .boolean) 0 (zent0 [.ref l0, .int l1, .int l2, .int l3] 4) [] M (some (.int r), M) := by
  unfold f_X8_wouldSell at h
  obtain ⟨zz0, h⟩ := bt h
  have hl0 := bz zz0
  show Ex _ _ _ _ _ _ 0 [.ref l0, .int l1, .int l2, .int l3] [] _ _
  refine x_aload_n (pc := 0) dX8_wouldSell_0 rfl rfl hl0 ?_
  obtain ⟨v1, e2, h⟩ := ob h
  refine y_getR (pc := 1) dX8_wouldSell_1 zf_X8_29 e2 ?_
  obtain ⟨v3, e4, h⟩ := ob h
  refine y_getR (pc := 4) dX8_wouldSell_4 zf_X8_173 e4 ?_
  refine x_iload_n (pc := 7) dX8_wouldSell_7 rfl rfl ?_
  obtain ⟨v5, e6, h⟩ := ob h
  refine y_iald (pc := 8) dX8_wouldSell_8 e6 ?_
  refine x_if_ne (pc := 9) dX8_wouldSell_9 (t := 58) rfl (fun c7 => ?_) (fun c7 => ?_)
  · rw [if_neg c7] at h
    refine x_iconst (pc := 58) dX8_wouldSell_58 (v := 0) rfl ?_
    obtain rfl := s1 h
    exact x_ret (pc := 59) dX8_wouldSell_59 (ty := .boolean) rfl rfl
  · rw [if_pos c7] at h
    refine x_aload_n (pc := 12) dX8_wouldSell_12 rfl rfl hl0 ?_
    obtain ⟨v8, e9, h⟩ := ob h
    refine y_getR (pc := 13) dX8_wouldSell_13 zf_X8_29 e9 ?_
    refine x_iload_n (pc := 16) dX8_wouldSell_16 rfl rfl ?_
    refine x_iload_n (pc := 17) dX8_wouldSell_17 rfl rfl ?_
    obtain ⟨g27, h⟩ := bt h
    obtain ⟨r10, e11, h⟩ := ob h
    refine x_callV (av := [.int l1, .int l3]) (st := []) (pc := 18) dX8_wouldSell_18 (E_X5_hoardedBy (d := d + 3) e11) rfl (Nat.le_of_ble_eq_true rfl) zc_X5_hoardedBy rfl zm_X8_193 zi_X5_hoardedBy zs_X5_hoardedBy (zac_ok g27) (by decide) rfl rfl (zst_ok rfl (Nat.le_of_ble_eq_true rfl)) rfl ?_
    refine x_if_le (pc := 21) dX8_wouldSell_21 (t := 58) rfl (fun c12 => ?_) (fun c12 => ?_)
    · rw [if_pos c12] at h
      refine x_iconst (pc := 58) dX8_wouldSell_58 (v := 0) rfl ?_
      obtain rfl := s1 h
      exact x_ret (pc := 59) dX8_wouldSell_59 (ty := .boolean) rfl rfl
    · rw [if_neg c12] at h
      refine x_aload_n (pc := 24) dX8_wouldSell_24 rfl rfl hl0 ?_
      refine x_iload_n (pc := 25) dX8_wouldSell_25 rfl rfl ?_
      refine x_iload_n (pc := 26) dX8_wouldSell_26 rfl rfl ?_
      obtain ⟨g26, h⟩ := bt h
      obtain ⟨r13, e14, h⟩ := ob h
      refine x_callV (av := [.int l1, .int l3]) (st := []) (pc := 27) dX8_wouldSell_27 (E_X8_needsToCome (d := d) e14) rfl (Nat.le_of_ble_eq_true rfl) zc_X8_needsToCome rfl zm_X8_293 zi_X8_needsToCome zs_X8_needsToCome (zac_ok g26) (by decide) rfl rfl (zst_ok rfl (Nat.le_of_ble_eq_true rfl)) rfl ?_
      refine x_if_ne (pc := 30) dX8_wouldSell_30 (t := 58) rfl (fun c15 => ?_) (fun c15 => ?_)
      · rw [if_neg c15] at h
        refine x_iconst (pc := 58) dX8_wouldSell_58 (v := 0) rfl ?_
        obtain rfl := s1 h
        exact x_ret (pc := 59) dX8_wouldSell_59 (ty := .boolean) rfl rfl
      · rw [if_pos c15] at h
        refine x_aload_n (pc := 33) dX8_wouldSell_33 rfl rfl hl0 ?_
        obtain ⟨v16, e17, h⟩ := ob h
        refine y_getR (pc := 34) dX8_wouldSell_34 zf_X8_29 e17 ?_
        refine x_iload_n (pc := 37) dX8_wouldSell_37 rfl rfl ?_
        refine x_iload_n (pc := 38) dX8_wouldSell_38 rfl rfl ?_
        obtain ⟨g25, h⟩ := bt h
        obtain ⟨r18, e19, h⟩ := ob h
        refine x_callV (av := [.int l2, .int l3]) (st := []) (pc := 39) dX8_wouldSell_39 (E_X5_hoardedBy (d := d + 3) e19) rfl (Nat.le_of_ble_eq_true rfl) zc_X5_hoardedBy rfl zm_X8_193 zi_X5_hoardedBy zs_X5_hoardedBy (zac_ok g25) (by decide) rfl rfl (zst_ok rfl (Nat.le_of_ble_eq_true rfl)) rfl ?_
        refine x_if_ne (pc := 42) dX8_wouldSell_42 (t := 58) rfl (fun c20 => ?_) (fun c20 => ?_)
        · rw [if_neg c20] at h
          refine x_iconst (pc := 58) dX8_wouldSell_58 (v := 0) rfl ?_
          obtain rfl := s1 h
          exact x_ret (pc := 59) dX8_wouldSell_59 (ty := .boolean) rfl rfl
        · rw [if_pos c20] at h
          refine x_aload_n (pc := 45) dX8_wouldSell_45 rfl rfl hl0 ?_
          refine x_iload_n (pc := 46) dX8_wouldSell_46 rfl rfl ?_
          refine x_iload_n (pc := 47) dX8_wouldSell_47 rfl rfl ?_
          obtain ⟨g24, h⟩ := bt h
          obtain ⟨r21, e22, h⟩ := ob h
          refine x_callV (av := [.int l2, .int l3]) (st := []) (pc := 48) dX8_wouldSell_48 (E_X8_needsToCome (d := d) e22) rfl (Nat.le_of_ble_eq_true rfl) zc_X8_needsToCome rfl zm_X8_293 zi_X8_needsToCome zs_X8_needsToCome (zac_ok g24) (by decide) rfl rfl (zst_ok rfl (Nat.le_of_ble_eq_true rfl)) rfl ?_
          refine x_if_le (pc := 51) dX8_wouldSell_51 (t := 58) rfl (fun c23 => ?_) (fun c23 => ?_)
          · rw [if_pos c23] at h
            refine x_iconst (pc := 58) dX8_wouldSell_58 (v := 0) rfl ?_
            obtain rfl := s1 h
            exact x_ret (pc := 59) dX8_wouldSell_59 (ty := .boolean) rfl rfl
          · rw [if_neg c23] at h
            refine x_iconst (pc := 54) dX8_wouldSell_54 (v := 1) rfl ?_
            refine x_goto (pc := 55) dX8_wouldSell_55 (t := 59) rfl ?_
            obtain rfl := s1 h
            exact x_ret (pc := 59) dX8_wouldSell_59 (ty := .boolean) rfl rfl
def L_X8_sells_31 : Nat → Nat → Int32 → Int32 → Int32 → Int32 → Int32 → zM → Option ((Int32) ⊕ (Int32))
  | 0, _, _, _, _, _, _, _ => none
  | n + 1, l0, l1, l2, l3, l4, l5, M => (oR M l0 8 13 1).bind fun v9 => (oI M v9 7 15 3).bind fun v11 => if v11 ≤ l5 then (some (.inr l3)) else (bif zac M l0 8 13 then ((f_X8_wouldSell l0 l4 l5 l1 M).bind fun r14 => if r14 = 0 then (L_X8_sells_31 n l0 l1 l2 l3 l4 (l5 + 1) M) else (if l3 = l2 then (some (.inl ((10 * l4) + l5))) else (L_X8_sells_31 n l0 l1 l2 (l3 + 1) l4 (l5 + 1) M))) else none)
def L_X8_sells_16 : Nat → Nat → Int32 → Int32 → Int32 → Int32 → zM → Option ((Int32) ⊕ (Int32))
  | 0, _, _, _, _, _, _ => none
  | n + 1, l0, l1, l2, l3, l4, M => (oR M l0 8 13 1).bind fun v4 => (oI M v4 7 15 3).bind fun v6 => if v6 ≤ l4 then (some (.inr l3)) else (bs (L_X8_sells_31 zN l0 l1 l2 l3 l4 0 M) (fun r => some (.inl r)) (fun v10 => L_X8_sells_16 n l0 l1 l2 v10 (l4 + 1) M))
def f_X8_sells (l0 : Nat) (l1 : Int32) (l2 : Int32) (M : zM) : Option (Int32) := bif Nat.ble 1 l0 then (bif zac M l0 8 13 then ((f_X8_isWord l0 l1 M).bind fun r1 => if r1 = 0 then (some (-1000000001)) else (bs (L_X8_sells_16 zN l0 l1 l2 0 0 M) some (fun v5 => if l2 = (-1) then (some v5) else (some (-1))))) else none) else none
theorem LX_X8_sells_31 {G : zG} {d : Nat} : ∀ (n : Nat) (l0 : Nat) (l1 : Int32) (l2 : Int32) (l3 : Int32) (l4 : Int32) (l5 : Int32) (M : zM) (hl0 : l0 ≠ 0) (e : (Int32) ⊕ (Int32)) {res : Option Value × zM}, L_X8_sells_31 n l0 l1 l2 l3 l4 l5 M = some e → (∀ r, e = .inl r → res = (some (.int r), M)) → (∀ (o3 : Int32), e = .inr o3 → Ex G (d + 5) yX8_sells cX8_sells 6 (some .int) 78 [.ref l0, .int l1, .int l2, .int o3, .int l4, .null] [] M res) → Ex G (d + 5) yX8_sells cX8_sells 6 (some .int) 31 [.ref l0, .int l1, .int l2, .int l3, .int l4, .int l5] [] M res := by
  intro n
  induction n with
  | zero =>
    intro l0 l1 l2 l3 l4 l5 M hl0 e res h K1 K2
    simp [L_X8_sells_31] at h
  | succ n ih =>
    intro l0 l1 l2 l3 l4 l5 M hl0 e res h K1 K2
    simp only [L_X8_sells_31] at h
    refine x_iload (pc := 31) dX8_sells_31 rfl ?_
    refine x_aload_n (pc := 33) dX8_sells_33 rfl rfl hl0 ?_
    obtain ⟨v9, e10, h⟩ := ob h
    refine y_getR (pc := 34) dX8_sells_34 zf_X8_19 e10 ?_
    obtain ⟨v11, e12, h⟩ := ob h
    refine y_getI (pc := 37) dX8_sells_37 zf_X8_128 e12 (by decide) ?_
    refine x_icmp_ge (pc := 40) dX8_sells_40 (t := 78) rfl (fun c13 => ?_) (fun c13 => ?_)
    · rw [if_pos c13] at h
      obtain rfl := s1 h
      refine ex_weak (Ls2 := [.ref l0, .int l1, .int l2, .int l3, .int l4, .null]) ⟨Or.inr rfl, Or.inr rfl, Or.inr rfl, Or.inr rfl, Or.inr rfl, Or.inl rfl, trivial⟩ ?_
      exact K2 _ rfl
    · rw [if_neg c13] at h
      refine x_aload_n (pc := 43) dX8_sells_43 rfl rfl hl0 ?_
      refine x_iload (pc := 44) dX8_sells_44 rfl ?_
      refine x_iload (pc := 46) dX8_sells_46 rfl ?_
      refine x_iload_n (pc := 48) dX8_sells_48 rfl rfl ?_
      obtain ⟨g18, h⟩ := bt h
      obtain ⟨r14, e15, h⟩ := ob h
      refine x_callV (av := [.int l4, .int l5, .int l1]) (st := []) (pc := 49) dX8_sells_49 (E_X8_wouldSell (d := d) e15) rfl (Nat.le_of_ble_eq_true rfl) zc_X8_wouldSell rfl zm_X8_289 zi_X8_wouldSell zs_X8_wouldSell (zac_ok g18) (by decide) rfl rfl (zst_ok rfl (Nat.le_of_ble_eq_true rfl)) rfl ?_
      refine x_if_eq (pc := 52) dX8_sells_52 (t := 72) rfl (fun c16 => ?_) (fun c16 => ?_)
      · rw [if_pos c16] at h
        refine x_iinc (pc := 72) dX8_sells_72 rfl rfl (by decide) rfl ?_
        refine x_goto (pc := 75) dX8_sells_75 (t := 31) rfl ?_
        refine ex_weak (Ls2 := [.ref l0, .int l1, .int l2, .int l3, .int l4, .int (l5 + 1)]) ⟨Or.inr rfl, Or.inr rfl, Or.inr rfl, Or.inr rfl, Or.inr rfl, Or.inr rfl, trivial⟩ ?_
        exact ih _ _ _ _ _ _ _ hl0 _ h K1 K2
      · rw [if_neg c16] at h
        refine x_iload_n (pc := 55) dX8_sells_55 rfl rfl ?_
        refine x_iload_n (pc := 56) dX8_sells_56 rfl rfl ?_
        refine x_icmp_ne (pc := 57) dX8_sells_57 (t := 69) rfl (fun c17 => ?_) (fun c17 => ?_)
        · rw [if_neg c17] at h
          refine x_iinc (pc := 69) dX8_sells_69 rfl rfl (by decide) rfl ?_
          refine x_iinc (pc := 72) dX8_sells_72 rfl rfl (by decide) rfl ?_
          refine x_goto (pc := 75) dX8_sells_75 (t := 31) rfl ?_
          refine ex_weak (Ls2 := [.ref l0, .int l1, .int l2, .int (l3 + 1), .int l4, .int (l5 + 1)]) ⟨Or.inr rfl, Or.inr rfl, Or.inr rfl, Or.inr rfl, Or.inr rfl, Or.inr rfl, trivial⟩ ?_
          exact ih _ _ _ _ _ _ _ hl0 _ h K1 K2
        · rw [if_pos c17] at h
          refine x_bipush (pc := 60) dX8_sells_60 (v := 10) (by decide) ?_
          refine x_iload (pc := 62) dX8_sells_62 rfl ?_
          refine x_imul (pc := 64) dX8_sells_64 ?_
          refine x_iload (pc := 65) dX8_sells_65 rfl ?_
          refine x_iadd (pc := 67) dX8_sells_67 ?_
          obtain rfl := s1 h
          rw [K1 _ rfl]
          exact y_retI (pc := 68) dX8_sells_68 rfl
theorem LX_X8_sells_16 {G : zG} {d : Nat} : ∀ (n : Nat) (l0 : Nat) (l1 : Int32) (l2 : Int32) (l3 : Int32) (l4 : Int32) (M : zM) (hl0 : l0 ≠ 0) (e : (Int32) ⊕ (Int32)) {res : Option Value × zM}, L_X8_sells_16 n l0 l1 l2 l3 l4 M = some e → (∀ r, e = .inl r → res = (some (.int r), M)) → (∀ (o3 : Int32), e = .inr o3 → Ex G (d + 5) yX8_sells cX8_sells 6 (some .int) 84 [.null, .null, .int l2, .int o3, .null, .null] [] M res) → Ex G (d + 5) yX8_sells cX8_sells 6 (some .int) 16 [.ref l0, .int l1, .int l2, .int l3, .int l4, .null] [] M res := by
  intro n
  induction n with
  | zero =>
    intro l0 l1 l2 l3 l4 M hl0 e res h K1 K2
    simp [L_X8_sells_16] at h
  | succ n ih =>
    intro l0 l1 l2 l3 l4 M hl0 e res h K1 K2
    simp only [L_X8_sells_16] at h
    refine x_iload (pc := 16) dX8_sells_16 rfl ?_
    refine x_aload_n (pc := 18) dX8_sells_18 rfl rfl hl0 ?_
    obtain ⟨v4, e5, h⟩ := ob h
    refine y_getR (pc := 19) dX8_sells_19 zf_X8_19 e5 ?_
    obtain ⟨v6, e7, h⟩ := ob h
    refine y_getI (pc := 22) dX8_sells_22 zf_X8_128 e7 (by decide) ?_
    refine x_icmp_ge (pc := 25) dX8_sells_25 (t := 84) rfl (fun c8 => ?_) (fun c8 => ?_)
    · rw [if_pos c8] at h
      obtain rfl := s1 h
      refine ex_weak (Ls2 := [.null, .null, .int l2, .int l3, .null, .null]) ⟨Or.inl rfl, Or.inl rfl, Or.inr rfl, Or.inr rfl, Or.inl rfl, Or.inl rfl, trivial⟩ ?_
      exact K2 _ rfl
    · rw [if_neg c8] at h
      refine x_iconst (pc := 28) dX8_sells_28 (v := 0) rfl ?_
      refine x_istore (pc := 29) dX8_sells_29 (by decide) rfl ?_
      refine ex_weak (Ls2 := [.ref l0, .int l1, .int l2, .int l3, .int l4, .int 0]) ⟨Or.inr rfl, Or.inr rfl, Or.inr rfl, Or.inr rfl, Or.inr rfl, Or.inr rfl, trivial⟩ ?_
      rcases obs h with ⟨r11, e9, h⟩ | ⟨v10, e9, h⟩
      · cases h
        exact LX_X8_sells_31 zN _ _ _ _ _ _ _ hl0 _ e9 (fun r q => by cases q; exact K1 _ rfl) (by intros; contradiction)
      · refine LX_X8_sells_31 zN _ _ _ _ _ _ _ hl0 _ e9 (fun r q => by cases q) ?_
        intro u12 q
        cases q
        refine x_iinc (pc := 78) dX8_sells_78 rfl rfl (by decide) rfl ?_
        refine x_goto (pc := 81) dX8_sells_81 (t := 16) rfl ?_
        refine ex_weak (Ls2 := [.ref l0, .int l1, .int l2, .int v10, .int (l4 + 1), .null]) ⟨Or.inr rfl, Or.inr rfl, Or.inr rfl, Or.inr rfl, Or.inr rfl, Or.inl rfl, trivial⟩ ?_
        exact ih _ _ _ _ _ _ hl0 _ h K1 K2
theorem E_X8_sells {G : zG} {d : Nat} {l0 : Nat} {l1 : Int32} {l2 : Int32} {M : zM} {r : Int32} (h : f_X8_sells l0 l1 l2 M = some r) : Ex G (d + 5) yX8_sells cX8_sells 6 (some .int) 0 (zent0 [.ref l0, .int l1, .int l2] 6) [] M (some (.int r), M) := by
  unfold f_X8_sells at h
  obtain ⟨zz0, h⟩ := bt h
  have hl0 := bz zz0
  show Ex _ _ _ _ _ _ 0 [.ref l0, .int l1, .int l2, .null, .null, .null] [] _ _
  refine x_aload_n (pc := 0) dX8_sells_0 rfl rfl hl0 ?_
  refine x_iload_n (pc := 1) dX8_sells_1 rfl rfl ?_
  obtain ⟨g9, h⟩ := bt h
  obtain ⟨r1, e2, h⟩ := ob h
  refine x_callV (av := [.int l1]) (st := []) (pc := 2) dX8_sells_2 (E_X8_isWord (d := d + 4) e2) rfl (Nat.le_of_ble_eq_true rfl) zc_X8_isWord rfl zm_X8_159 zi_X8_isWord zs_X8_isWord (zac_ok g9) (by decide) rfl rfl (zst_ok rfl (Nat.le_of_ble_eq_true rfl)) rfl ?_
  refine x_if_ne (pc := 5) dX8_sells_5 (t := 11) rfl (fun c3 => ?_) (fun c3 => ?_)
  · rw [if_neg c3] at h
    refine x_iconst (pc := 11) dX8_sells_11 (v := 0) rfl ?_
    refine x_istore_n (pc := 12) dX8_sells_12 rfl (by decide) rfl ?_
    refine x_iconst (pc := 13) dX8_sells_13 (v := 0) rfl ?_
    refine x_istore (pc := 14) dX8_sells_14 (by decide) rfl ?_
    refine ex_weak (Ls2 := [.ref l0, .int l1, .int l2, .int 0, .int 0, .null]) ⟨Or.inr rfl, Or.inr rfl, Or.inr rfl, Or.inr rfl, Or.inr rfl, Or.inl rfl, trivial⟩ ?_
    rcases obs h with ⟨r7, e4, h⟩ | ⟨v5, e4, h⟩
    · cases h
      exact LX_X8_sells_16 zN _ _ _ _ _ _ hl0 _ e4 (fun r q => by cases q; rfl) (by intros; contradiction)
    · refine LX_X8_sells_16 zN _ _ _ _ _ _ hl0 _ e4 (fun r q => by cases q) ?_
      intro u8 q
      cases q
      refine x_iload_n (pc := 84) dX8_sells_84 rfl rfl ?_
      refine x_iconst (pc := 85) dX8_sells_85 (v := (-1)) rfl ?_
      refine x_icmp_ne (pc := 86) dX8_sells_86 (t := 93) rfl (fun c6 => ?_) (fun c6 => ?_)
      · rw [if_neg c6] at h
        refine x_iconst (pc := 93) dX8_sells_93 (v := (-1)) rfl ?_
        obtain rfl := s1 h
        exact y_retI (pc := 94) dX8_sells_94 rfl
      · rw [if_pos c6] at h
        refine x_iload_n (pc := 89) dX8_sells_89 rfl rfl ?_
        refine x_goto (pc := 90) dX8_sells_90 (t := 94) rfl ?_
        obtain rfl := s1 h
        exact y_retI (pc := 94) dX8_sells_94 rfl
  · rw [if_pos c3] at h
    refine x_ldc (pc := 8) dX8_sells_8 zk_X8_163 ?_
    obtain rfl := s1 h
    exact y_retI (pc := 10) dX8_sells_10 rfl
def L_X8_share_80 : Nat → Nat → Int32 → Int32 → Int32 → Int32 → Int32 → Int32 → Int32 → zM → Option (Int32)
  | 0, _, _, _, _, _, _, _, _, _ => none
  | n + 1, l0, l1, l2, l3, l4, l5, l6, l7, M => (oR M l0 8 13 1).bind fun v38 => (oI M v38 7 15 3).bind fun v40 => if v40 ≤ l7 then (some l6) else (bif zac M l0 8 13 then ((f_X8_needsToCome l0 l7 l2 M).bind fun r43 => if l5 < r43 then (L_X8_share_80 n l0 l1 l2 l3 l4 l5 (l6 + 1) (l7 + 1) M) else (if r43 = l5 then (if l1 ≤ l7 then (L_X8_share_80 n l0 l1 l2 l3 l4 l5 l6 (l7 + 1) M) else (L_X8_share_80 n l0 l1 l2 l3 l4 l5 (l6 + 1) (l7 + 1) M)) else (L_X8_share_80 n l0 l1 l2 l3 l4 l5 l6 (l7 + 1) M))) else none)
def f_X8_share (l0 : Nat) (l1 : Int32) (l2 : Int32) (M : zM) : Option (Int32) := bif Nat.ble 1 l0 then (bif zac M l0 8 13 then ((f_X8_isPerson l0 l1 M).bind fun r1 => if r1 = 0 then (some (-1000000001)) else (bif zac M l0 8 13 then ((f_X8_isWord l0 l2 M).bind fun r4 => if r4 = 0 then (some (-1000000001)) else ((oR M l0 8 13 1).bind fun v7 => (oI M v7 7 15 3).bind fun v9 => if v9 = 0 then (some (-1000000001)) else ((oR M l0 8 13 3).bind fun v12 => (oR M v12 5 9 1).bind fun v14 => (aI M v14 l2).bind fun v16 => (oR M l0 8 13 1).bind fun v18 => (oI M v18 7 15 3).bind fun v20 => (dv v16 v20).bind fun v22 => (oR M l0 8 13 3).bind fun v24 => (oR M v24 5 9 1).bind fun v26 => (aI M v26 l2).bind fun v28 => (oR M l0 8 13 1).bind fun v30 => (oI M v30 7 15 3).bind fun v32 => (rm v28 v32).bind fun v34 => bif zac M l0 8 13 then ((f_X8_needsToCome l0 l1 l2 M).bind fun r36 => (L_X8_share_80 zN l0 l1 l2 v22 v34 r36 0 0 M).bind fun v39 => if v34 ≤ v39 then (some v22) else (some (v22 + 1))) else none))) else none)) else none) else none
set_option maxRecDepth 100000 in
set_option maxHeartbeats 2000000 in
theorem LX_X8_share_80 {G : zG} {d : Nat} : ∀ (n : Nat) (l0 : Nat) (l1 : Int32) (l2 : Int32) (l3 : Int32) (l4 : Int32) (l5 : Int32) (l6 : Int32) (l7 : Int32) (M : zM) (hl0 : l0 ≠ 0) (o6 : Int32) {res : Option Value × zM}, L_X8_share_80 n l0 l1 l2 l3 l4 l5 l6 l7 M = some o6 → Ex G (d + 4) yX8_share cX8_share 9 (some .int) 130 [.null, .null, .null, .int l3, .int l4, .null, .int o6, .null, .null] [] M res → Ex G (d + 4) yX8_share cX8_share 9 (some .int) 80 [.ref l0, .int l1, .int l2, .int l3, .int l4, .int l5, .int l6, .int l7, .null] [] M res := by
  intro n
  induction n with
  | zero =>
    intro l0 l1 l2 l3 l4 l5 l6 l7 M hl0 o6 res h K
    simp [L_X8_share_80] at h
  | succ n ih =>
    intro l0 l1 l2 l3 l4 l5 l6 l7 M hl0 o6 res h K
    simp only [L_X8_share_80] at h
    refine x_iload (pc := 80) dX8_share_80 rfl ?_
    refine x_aload_n (pc := 82) dX8_share_82 rfl rfl hl0 ?_
    obtain ⟨v38, e39, h⟩ := ob h
    refine y_getR (pc := 83) dX8_share_83 zf_X8_19 e39 ?_
    obtain ⟨v40, e41, h⟩ := ob h
    refine y_getI (pc := 86) dX8_share_86 zf_X8_128 e41 (by decide) ?_
    refine x_icmp_ge (pc := 89) dX8_share_89 (t := 130) rfl (fun c42 => ?_) (fun c42 => ?_)
    · rw [if_pos c42] at h
      obtain rfl := s1 h
      refine ex_weak (Ls2 := [.null, .null, .null, .int l3, .int l4, .null, .int l6, .null, .null]) ⟨Or.inl rfl, Or.inl rfl, Or.inl rfl, Or.inr rfl, Or.inr rfl, Or.inl rfl, Or.inr rfl, Or.inl rfl, Or.inl rfl, trivial⟩ ?_
      exact K
    · rw [if_neg c42] at h
      refine x_aload_n (pc := 92) dX8_share_92 rfl rfl hl0 ?_
      refine x_iload (pc := 93) dX8_share_93 rfl ?_
      refine x_iload_n (pc := 95) dX8_share_95 rfl rfl ?_
      obtain ⟨g48, h⟩ := bt h
      obtain ⟨r43, e44, h⟩ := ob h
      refine x_callV (av := [.int l7, .int l2]) (st := []) (pc := 96) dX8_share_96 (E_X8_needsToCome (d := d) e44) rfl (Nat.le_of_ble_eq_true rfl) zc_X8_needsToCome rfl zm_X8_293 zi_X8_needsToCome zs_X8_needsToCome (zac_ok g48) (by decide) rfl rfl (zst_ok rfl (Nat.le_of_ble_eq_true rfl)) rfl ?_
      refine x_istore (pc := 99) dX8_share_99 (by decide) rfl ?_
      refine x_iload (pc := 101) dX8_share_101 rfl ?_
      refine x_iload (pc := 103) dX8_share_103 rfl ?_
      refine x_icmp_gt (pc := 105) dX8_share_105 (t := 121) rfl (fun c45 => ?_) (fun c45 => ?_)
      · rw [if_pos c45] at h
        refine x_iinc (pc := 121) dX8_share_121 rfl rfl (by decide) rfl ?_
        refine x_iinc (pc := 124) dX8_share_124 rfl rfl (by decide) rfl ?_
        refine x_goto (pc := 127) dX8_share_127 (t := 80) rfl ?_
        refine ex_weak (Ls2 := [.ref l0, .int l1, .int l2, .int l3, .int l4, .int l5, .int (l6 + 1), .int (l7 + 1), .null]) ⟨Or.inr rfl, Or.inr rfl, Or.inr rfl, Or.inr rfl, Or.inr rfl, Or.inr rfl, Or.inr rfl, Or.inr rfl, Or.inl rfl, trivial⟩ ?_
        exact ih _ _ _ _ _ _ _ _ _ hl0 _ h K
      · rw [if_neg c45] at h
        refine x_iload (pc := 108) dX8_share_108 rfl ?_
        refine x_iload (pc := 110) dX8_share_110 rfl ?_
        refine x_icmp_ne (pc := 112) dX8_share_112 (t := 124) rfl (fun c46 => ?_) (fun c46 => ?_)
        · rw [if_neg c46] at h
          refine x_iinc (pc := 124) dX8_share_124 rfl rfl (by decide) rfl ?_
          refine x_goto (pc := 127) dX8_share_127 (t := 80) rfl ?_
          refine ex_weak (Ls2 := [.ref l0, .int l1, .int l2, .int l3, .int l4, .int l5, .int l6, .int (l7 + 1), .null]) ⟨Or.inr rfl, Or.inr rfl, Or.inr rfl, Or.inr rfl, Or.inr rfl, Or.inr rfl, Or.inr rfl, Or.inr rfl, Or.inl rfl, trivial⟩ ?_
          exact ih _ _ _ _ _ _ _ _ _ hl0 _ h K
        · rw [if_pos c46] at h
          refine x_iload (pc := 115) dX8_share_115 rfl ?_
          refine x_iload_n (pc := 117) dX8_share_117 rfl rfl ?_
          refine x_icmp_ge (pc := 118) dX8_share_118 (t := 124) rfl (fun c47 => ?_) (fun c47 => ?_)
          · rw [if_pos c47] at h
            refine x_iinc (pc := 124) dX8_share_124 rfl rfl (by decide) rfl ?_
            refine x_goto (pc := 127) dX8_share_127 (t := 80) rfl ?_
            refine ex_weak (Ls2 := [.ref l0, .int l1, .int l2, .int l3, .int l4, .int l5, .int l6, .int (l7 + 1), .null]) ⟨Or.inr rfl, Or.inr rfl, Or.inr rfl, Or.inr rfl, Or.inr rfl, Or.inr rfl, Or.inr rfl, Or.inr rfl, Or.inl rfl, trivial⟩ ?_
            exact ih _ _ _ _ _ _ _ _ _ hl0 _ h K
          · rw [if_neg c47] at h
            refine x_iinc (pc := 121) dX8_share_121 rfl rfl (by decide) rfl ?_
            refine x_iinc (pc := 124) dX8_share_124 rfl rfl (by decide) rfl ?_
            refine x_goto (pc := 127) dX8_share_127 (t := 80) rfl ?_
            refine ex_weak (Ls2 := [.ref l0, .int l1, .int l2, .int l3, .int l4, .int l5, .int (l6 + 1), .int (l7 + 1), .null]) ⟨Or.inr rfl, Or.inr rfl, Or.inr rfl, Or.inr rfl, Or.inr rfl, Or.inr rfl, Or.inr rfl, Or.inr rfl, Or.inl rfl, trivial⟩ ?_
            exact ih _ _ _ _ _ _ _ _ _ hl0 _ h K
set_option maxRecDepth 100000 in
set_option maxHeartbeats 2000000 in
theorem E_X8_share {G : zG} {d : Nat} {l0 : Nat} {l1 : Int32} {l2 : Int32} {M : zM} {r : Int32} (h : f_X8_share l0 l1 l2 M = some r) : Ex G (d + 4) yX8_share cX8_share 9 (some .int) 0 (zent0 [.ref l0, .int l1, .int l2] 9) [] M (some (.int r), M) := by
  unfold f_X8_share at h
  obtain ⟨zz0, h⟩ := bt h
  have hl0 := bz zz0
  show Ex _ _ _ _ _ _ 0 [.ref l0, .int l1, .int l2, .null, .null, .null, .null, .null, .null] [] _ _
  refine x_aload_n (pc := 0) dX8_share_0 rfl rfl hl0 ?_
  refine x_iload_n (pc := 1) dX8_share_1 rfl rfl ?_
  obtain ⟨g43, h⟩ := bt h
  obtain ⟨r1, e2, h⟩ := ob h
  refine x_callV (av := [.int l1]) (st := []) (pc := 2) dX8_share_2 (E_X8_isPerson (d := d + 3) e2) rfl (Nat.le_of_ble_eq_true rfl) zc_X8_isPerson rfl zm_X8_190 zi_X8_isPerson zs_X8_isPerson (zac_ok g43) (by decide) rfl rfl (zst_ok rfl (Nat.le_of_ble_eq_true rfl)) rfl ?_
  refine x_if_eq (pc := 5) dX8_share_5 (t := 26) rfl (fun c3 => ?_) (fun c3 => ?_)
  · rw [if_pos c3] at h
    refine x_ldc (pc := 26) dX8_share_26 zk_X8_163 ?_
    obtain rfl := s1 h
    exact y_retI (pc := 28) dX8_share_28 rfl
  · rw [if_neg c3] at h
    refine x_aload_n (pc := 8) dX8_share_8 rfl rfl hl0 ?_
    refine x_iload_n (pc := 9) dX8_share_9 rfl rfl ?_
    obtain ⟨g42, h⟩ := bt h
    obtain ⟨r4, e5, h⟩ := ob h
    refine x_callV (av := [.int l2]) (st := []) (pc := 10) dX8_share_10 (E_X8_isWord (d := d + 3) e5) rfl (Nat.le_of_ble_eq_true rfl) zc_X8_isWord rfl zm_X8_159 zi_X8_isWord zs_X8_isWord (zac_ok g42) (by decide) rfl rfl (zst_ok rfl (Nat.le_of_ble_eq_true rfl)) rfl ?_
    refine x_if_eq (pc := 13) dX8_share_13 (t := 26) rfl (fun c6 => ?_) (fun c6 => ?_)
    · rw [if_pos c6] at h
      refine x_ldc (pc := 26) dX8_share_26 zk_X8_163 ?_
      obtain rfl := s1 h
      exact y_retI (pc := 28) dX8_share_28 rfl
    · rw [if_neg c6] at h
      refine x_aload_n (pc := 16) dX8_share_16 rfl rfl hl0 ?_
      obtain ⟨v7, e8, h⟩ := ob h
      refine y_getR (pc := 17) dX8_share_17 zf_X8_19 e8 ?_
      obtain ⟨v9, e10, h⟩ := ob h
      refine y_getI (pc := 20) dX8_share_20 zf_X8_128 e10 (by decide) ?_
      refine x_if_ne (pc := 23) dX8_share_23 (t := 29) rfl (fun c11 => ?_) (fun c11 => ?_)
      · rw [if_neg c11] at h
        refine x_aload_n (pc := 29) dX8_share_29 rfl rfl hl0 ?_
        obtain ⟨v12, e13, h⟩ := ob h
        refine y_getR (pc := 30) dX8_share_30 zf_X8_29 e13 ?_
        obtain ⟨v14, e15, h⟩ := ob h
        refine y_getR (pc := 33) dX8_share_33 zf_X8_173 e15 ?_
        refine x_iload_n (pc := 36) dX8_share_36 rfl rfl ?_
        obtain ⟨v16, e17, h⟩ := ob h
        refine y_iald (pc := 37) dX8_share_37 e17 ?_
        refine x_aload_n (pc := 38) dX8_share_38 rfl rfl hl0 ?_
        obtain ⟨v18, e19, h⟩ := ob h
        refine y_getR (pc := 39) dX8_share_39 zf_X8_19 e19 ?_
        obtain ⟨v20, e21, h⟩ := ob h
        refine y_getI (pc := 42) dX8_share_42 zf_X8_128 e21 (by decide) ?_
        obtain ⟨v22, e23, h⟩ := ob h
        refine y_idiv (pc := 45) dX8_share_45 e23 ?_
        refine x_istore_n (pc := 46) dX8_share_46 rfl (by decide) rfl ?_
        refine x_aload_n (pc := 47) dX8_share_47 rfl rfl hl0 ?_
        obtain ⟨v24, e25, h⟩ := ob h
        refine y_getR (pc := 48) dX8_share_48 zf_X8_29 e25 ?_
        obtain ⟨v26, e27, h⟩ := ob h
        refine y_getR (pc := 51) dX8_share_51 zf_X8_173 e27 ?_
        refine x_iload_n (pc := 54) dX8_share_54 rfl rfl ?_
        obtain ⟨v28, e29, h⟩ := ob h
        refine y_iald (pc := 55) dX8_share_55 e29 ?_
        refine x_aload_n (pc := 56) dX8_share_56 rfl rfl hl0 ?_
        obtain ⟨v30, e31, h⟩ := ob h
        refine y_getR (pc := 57) dX8_share_57 zf_X8_19 e31 ?_
        obtain ⟨v32, e33, h⟩ := ob h
        refine y_getI (pc := 60) dX8_share_60 zf_X8_128 e33 (by decide) ?_
        obtain ⟨v34, e35, h⟩ := ob h
        refine y_irem (pc := 63) dX8_share_63 e35 ?_
        refine x_istore (pc := 64) dX8_share_64 (by decide) rfl ?_
        refine x_aload_n (pc := 66) dX8_share_66 rfl rfl hl0 ?_
        refine x_iload_n (pc := 67) dX8_share_67 rfl rfl ?_
        refine x_iload_n (pc := 68) dX8_share_68 rfl rfl ?_
        obtain ⟨g41, h⟩ := bt h
        obtain ⟨r36, e37, h⟩ := ob h
        refine x_callV (av := [.int l1, .int l2]) (st := []) (pc := 69) dX8_share_69 (E_X8_needsToCome (d := d) e37) rfl (Nat.le_of_ble_eq_true rfl) zc_X8_needsToCome rfl zm_X8_293 zi_X8_needsToCome zs_X8_needsToCome (zac_ok g41) (by decide) rfl rfl (zst_ok rfl (Nat.le_of_ble_eq_true rfl)) rfl ?_
        refine x_istore (pc := 72) dX8_share_72 (by decide) rfl ?_
        refine x_iconst (pc := 74) dX8_share_74 (v := 0) rfl ?_
        refine x_istore (pc := 75) dX8_share_75 (by decide) rfl ?_
        refine x_iconst (pc := 77) dX8_share_77 (v := 0) rfl ?_
        refine x_istore (pc := 78) dX8_share_78 (by decide) rfl ?_
        obtain ⟨v39, e38, h⟩ := ob h
        refine ex_weak (Ls2 := [.ref l0, .int l1, .int l2, .int v22, .int v34, .int r36, .int 0, .int 0, .null]) ⟨Or.inr rfl, Or.inr rfl, Or.inr rfl, Or.inr rfl, Or.inr rfl, Or.inr rfl, Or.inr rfl, Or.inr rfl, Or.inl rfl, trivial⟩ ?_
        refine LX_X8_share_80 zN _ _ _ _ _ _ _ _ _ hl0 _ e38 ?_
        refine x_iload (pc := 130) dX8_share_130 rfl ?_
        refine x_iload (pc := 132) dX8_share_132 rfl ?_
        refine x_icmp_ge (pc := 134) dX8_share_134 (t := 143) rfl (fun c40 => ?_) (fun c40 => ?_)
        · rw [if_pos c40] at h
          refine x_iload_n (pc := 143) dX8_share_143 rfl rfl ?_
          obtain rfl := s1 h
          exact y_retI (pc := 144) dX8_share_144 rfl
        · rw [if_neg c40] at h
          refine x_iload_n (pc := 137) dX8_share_137 rfl rfl ?_
          refine x_iconst (pc := 138) dX8_share_138 (v := 1) rfl ?_
          refine x_iadd (pc := 139) dX8_share_139 ?_
          refine x_goto (pc := 140) dX8_share_140 (t := 144) rfl ?_
          obtain rfl := s1 h
          exact y_retI (pc := 144) dX8_share_144 rfl
      · rw [if_pos c11] at h
        refine x_ldc (pc := 26) dX8_share_26 zk_X8_163 ?_
        obtain rfl := s1 h
        exact y_retI (pc := 28) dX8_share_28 rfl
def L_X8_more_15 : Nat → Nat → Int32 → Int32 → Int32 → zM → Option (Int32)
  | 0, _, _, _, _, _ => none
  | n + 1, l0, l1, l2, l3, M => (oR M l0 8 13 1).bind fun v4 => (oI M v4 7 15 3).bind fun v6 => if v6 ≤ l3 then (some l2) else (bif zac M l0 8 13 then ((f_X8_needsToCome l0 l3 l1 M).bind fun r9 => (oR M l0 8 13 3).bind fun v11 => bif zac M v11 5 9 then ((f_X5_hoardedBy v11 l3 l1 M).bind fun r13 => L_X8_more_15 n l0 l1 (l2 + (if 0 < r9 - r13 then r9 - r13 else 0)) (l3 + 1) M) else none) else none)
def f_X8_more (l0 : Nat) (l1 : Int32) (M : zM) : Option (Int32) := bif Nat.ble 1 l0 then (bif zac M l0 8 13 then ((f_X8_isWord l0 l1 M).bind fun r1 => if r1 = 0 then (some (-1000000001)) else ((L_X8_more_15 zN l0 l1 0 0 M).bind fun v5 => (oR M l0 8 13 3).bind fun v6 => (oR M v6 5 9 1).bind fun v8 => (aI M v8 l1).bind fun v10 => some (if 0 < v5 - v10 then v5 - v10 else 0))) else none) else none
theorem LX_X8_more_15 {G : zG} {d : Nat} : ∀ (n : Nat) (l0 : Nat) (l1 : Int32) (l2 : Int32) (l3 : Int32) (M : zM) (hl0 : l0 ≠ 0) (o2 : Int32) {res : Option Value × zM}, L_X8_more_15 n l0 l1 l2 l3 M = some o2 → Ex G (d + 4) yX8_more cX8_more 4 (some .int) 55 [.ref l0, .int l1, .int o2, .null] [] M res → Ex G (d + 4) yX8_more cX8_more 4 (some .int) 15 [.ref l0, .int l1, .int l2, .int l3] [] M res := by
  intro n
  induction n with
  | zero =>
    intro l0 l1 l2 l3 M hl0 o2 res h K
    simp [L_X8_more_15] at h
  | succ n ih =>
    intro l0 l1 l2 l3 M hl0 o2 res h K
    simp only [L_X8_more_15] at h
    refine x_iload_n (pc := 15) dX8_more_15 rfl rfl ?_
    refine x_aload_n (pc := 16) dX8_more_16 rfl rfl hl0 ?_
    obtain ⟨v4, e5, h⟩ := ob h
    refine y_getR (pc := 17) dX8_more_17 zf_X8_19 e5 ?_
    obtain ⟨v6, e7, h⟩ := ob h
    refine y_getI (pc := 20) dX8_more_20 zf_X8_128 e7 (by decide) ?_
    refine x_icmp_ge (pc := 23) dX8_more_23 (t := 55) rfl (fun c8 => ?_) (fun c8 => ?_)
    · rw [if_pos c8] at h
      obtain rfl := s1 h
      refine ex_weak (Ls2 := [.ref l0, .int l1, .int l2, .null]) ⟨Or.inr rfl, Or.inr rfl, Or.inr rfl, Or.inl rfl, trivial⟩ ?_
      exact K
    · rw [if_neg c8] at h
      refine x_iload_n (pc := 26) dX8_more_26 rfl rfl ?_
      refine x_iconst (pc := 27) dX8_more_27 (v := 0) rfl ?_
      refine x_aload_n (pc := 28) dX8_more_28 rfl rfl hl0 ?_
      refine x_iload_n (pc := 29) dX8_more_29 rfl rfl ?_
      refine x_iload_n (pc := 30) dX8_more_30 rfl rfl ?_
      obtain ⟨g16, h⟩ := bt h
      obtain ⟨r9, e10, h⟩ := ob h
      refine x_callV (av := [.int l3, .int l1]) (st := [.int 0, .int l2]) (pc := 31) dX8_more_31 (E_X8_needsToCome (d := d) e10) rfl (Nat.le_of_ble_eq_true rfl) zc_X8_needsToCome rfl zm_X8_293 zi_X8_needsToCome zs_X8_needsToCome (zac_ok g16) (by decide) rfl rfl (zst_ok rfl (Nat.le_of_ble_eq_true rfl)) rfl ?_
      refine x_aload_n (pc := 34) dX8_more_34 rfl rfl hl0 ?_
      obtain ⟨v11, e12, h⟩ := ob h
      refine y_getR (pc := 35) dX8_more_35 zf_X8_29 e12 ?_
      refine x_iload_n (pc := 38) dX8_more_38 rfl rfl ?_
      refine x_iload_n (pc := 39) dX8_more_39 rfl rfl ?_
      obtain ⟨g15, h⟩ := bt h
      obtain ⟨r13, e14, h⟩ := ob h
      refine x_callV (av := [.int l3, .int l1]) (st := [.int r9, .int 0, .int l2]) (pc := 40) dX8_more_40 (E_X5_hoardedBy (d := d + 3) e14) rfl (Nat.le_of_ble_eq_true rfl) zc_X5_hoardedBy rfl zm_X8_193 zi_X5_hoardedBy zs_X5_hoardedBy (zac_ok g15) (by decide) rfl rfl (zst_ok rfl (Nat.le_of_ble_eq_true rfl)) rfl ?_
      refine x_isub (pc := 43) dX8_more_43 ?_
      refine y_mmax (pc := 44) dX8_more_44 zm_X8_296 zs_J9_max_7cf53 rfl (Nat.le_of_ble_eq_true rfl) ?_
      refine x_iadd (pc := 47) dX8_more_47 ?_
      refine x_istore_n (pc := 48) dX8_more_48 rfl (by decide) rfl ?_
      refine x_iinc (pc := 49) dX8_more_49 rfl rfl (by decide) rfl ?_
      refine x_goto (pc := 52) dX8_more_52 (t := 15) rfl ?_
      refine ex_weak (Ls2 := [.ref l0, .int l1, .int (l2 + (if 0 < r9 - r13 then r9 - r13 else 0)), .int (l3 + 1)]) ⟨Or.inr rfl, Or.inr rfl, Or.inr rfl, Or.inr rfl, trivial⟩ ?_
      exact ih _ _ _ _ _ hl0 _ h K
theorem E_X8_more {G : zG} {d : Nat} {l0 : Nat} {l1 : Int32} {M : zM} {r : Int32} (h : f_X8_more l0 l1 M = some r) : Ex G (d + 4) yX8_more cX8_more 4 (some .int) 0 (zent0 [.ref l0, .int l1] 4) [] M (some (.int r), M) := by
  unfold f_X8_more at h
  obtain ⟨zz0, h⟩ := bt h
  have hl0 := bz zz0
  show Ex _ _ _ _ _ _ 0 [.ref l0, .int l1, .null, .null] [] _ _
  refine x_aload_n (pc := 0) dX8_more_0 rfl rfl hl0 ?_
  refine x_iload_n (pc := 1) dX8_more_1 rfl rfl ?_
  obtain ⟨g12, h⟩ := bt h
  obtain ⟨r1, e2, h⟩ := ob h
  refine x_callV (av := [.int l1]) (st := []) (pc := 2) dX8_more_2 (E_X8_isWord (d := d + 3) e2) rfl (Nat.le_of_ble_eq_true rfl) zc_X8_isWord rfl zm_X8_159 zi_X8_isWord zs_X8_isWord (zac_ok g12) (by decide) rfl rfl (zst_ok rfl (Nat.le_of_ble_eq_true rfl)) rfl ?_
  refine x_if_ne (pc := 5) dX8_more_5 (t := 11) rfl (fun c3 => ?_) (fun c3 => ?_)
  · rw [if_neg c3] at h
    refine x_iconst (pc := 11) dX8_more_11 (v := 0) rfl ?_
    refine x_istore_n (pc := 12) dX8_more_12 rfl (by decide) rfl ?_
    refine x_iconst (pc := 13) dX8_more_13 (v := 0) rfl ?_
    refine x_istore_n (pc := 14) dX8_more_14 rfl (by decide) rfl ?_
    obtain ⟨v5, e4, h⟩ := ob h
    refine ex_weak (Ls2 := [.ref l0, .int l1, .int 0, .int 0]) ⟨Or.inr rfl, Or.inr rfl, Or.inr rfl, Or.inr rfl, trivial⟩ ?_
    refine LX_X8_more_15 zN _ _ _ _ _ hl0 _ e4 ?_
    refine x_iconst (pc := 55) dX8_more_55 (v := 0) rfl ?_
    refine x_iload_n (pc := 56) dX8_more_56 rfl rfl ?_
    refine x_aload_n (pc := 57) dX8_more_57 rfl rfl hl0 ?_
    obtain ⟨v6, e7, h⟩ := ob h
    refine y_getR (pc := 58) dX8_more_58 zf_X8_29 e7 ?_
    obtain ⟨v8, e9, h⟩ := ob h
    refine y_getR (pc := 61) dX8_more_61 zf_X8_173 e9 ?_
    refine x_iload_n (pc := 64) dX8_more_64 rfl rfl ?_
    obtain ⟨v10, e11, h⟩ := ob h
    refine y_iald (pc := 65) dX8_more_65 e11 ?_
    refine x_isub (pc := 66) dX8_more_66 ?_
    refine y_mmax (pc := 67) dX8_more_67 zm_X8_296 zs_J9_max_7cf53 rfl (Nat.le_of_ble_eq_true rfl) ?_
    obtain rfl := s1 h
    exact y_retI (pc := 70) dX8_more_70 rfl
  · rw [if_pos c3] at h
    refine x_ldc (pc := 8) dX8_more_8 zk_X8_163 ?_
    obtain rfl := s1 h
    exact y_retI (pc := 10) dX8_more_10 rfl
def L_X8_oneNightMore_4 : Nat → Int32 → Int32 → Int32 → Int32 → zM → Option (Int32)
  | 0, _, _, _, _, _ => none
  | n + 1, l0, l1, l2, l3, M => if 6 < l3 then (some l2) else (L_X8_oneNightMore_4 n l0 l1 (l2 + (if (1000 * l3) + l1 < l0 then l0 else (1000 * l3) + l1)) (l3 + 1) M)
def f_X8_oneNightMore (l0 : Int32) (l1 : Int32) (M : zM) : Option (Int32) := (L_X8_oneNightMore_4 zN l0 l1 0 1 M).bind fun v2 => (dv v2 6).bind fun v3 => some v3
theorem LX_X8_oneNightMore_4 {G : zG} {d : Nat} : ∀ (n : Nat) (l0 : Int32) (l1 : Int32) (l2 : Int32) (l3 : Int32) (M : zM)  (o2 : Int32) {res : Option Value × zM}, L_X8_oneNightMore_4 n l0 l1 l2 l3 M = some o2 → Ex G d yX8_oneNightMore cX8_oneNightMore 4 (some .int) 30 [.null, .null, .int o2, .null] [] M res → Ex G d yX8_oneNightMore cX8_oneNightMore 4 (some .int) 4 [.int l0, .int l1, .int l2, .int l3] [] M res := by
  intro n
  induction n with
  | zero =>
    intro l0 l1 l2 l3 M o2 res h K
    simp [L_X8_oneNightMore_4] at h
  | succ n ih =>
    intro l0 l1 l2 l3 M o2 res h K
    simp only [L_X8_oneNightMore_4] at h
    refine x_iload_n (pc := 4) dX8_oneNightMore_4 rfl rfl ?_
    refine x_bipush (pc := 5) dX8_oneNightMore_5 (v := 6) (by decide) ?_
    refine x_icmp_gt (pc := 7) dX8_oneNightMore_7 (t := 30) rfl (fun c1 => ?_) (fun c1 => ?_)
    · rw [if_pos c1] at h
      obtain rfl := s1 h
      refine ex_weak (Ls2 := [.null, .null, .int l2, .null]) ⟨Or.inl rfl, Or.inl rfl, Or.inr rfl, Or.inl rfl, trivial⟩ ?_
      exact K
    · rw [if_neg c1] at h
      refine x_iload_n (pc := 10) dX8_oneNightMore_10 rfl rfl ?_
      refine x_sipush (pc := 11) dX8_oneNightMore_11 (v := 1000) (by decide) ?_
      refine x_iload_n (pc := 14) dX8_oneNightMore_14 rfl rfl ?_
      refine x_imul (pc := 15) dX8_oneNightMore_15 ?_
      refine x_iload_n (pc := 16) dX8_oneNightMore_16 rfl rfl ?_
      refine x_iadd (pc := 17) dX8_oneNightMore_17 ?_
      refine x_iload_n (pc := 18) dX8_oneNightMore_18 rfl rfl ?_
      refine y_mmax (pc := 19) dX8_oneNightMore_19 zm_X8_296 zs_J9_max_7cf53 rfl (Nat.le_of_ble_eq_true rfl) ?_
      refine x_iadd (pc := 22) dX8_oneNightMore_22 ?_
      refine x_istore_n (pc := 23) dX8_oneNightMore_23 rfl (by decide) rfl ?_
      refine x_iinc (pc := 24) dX8_oneNightMore_24 rfl rfl (by decide) rfl ?_
      refine x_goto (pc := 27) dX8_oneNightMore_27 (t := 4) rfl ?_
      refine ex_weak (Ls2 := [.int l0, .int l1, .int (l2 + (if (1000 * l3) + l1 < l0 then l0 else (1000 * l3) + l1)), .int (l3 + 1)]) ⟨Or.inr rfl, Or.inr rfl, Or.inr rfl, Or.inr rfl, trivial⟩ ?_
      exact ih _ _ _ _ _ _ h K
theorem E_X8_oneNightMore {G : zG} {d : Nat} {l0 : Int32} {l1 : Int32} {M : zM} {r : Int32} (h : f_X8_oneNightMore l0 l1 M = some r) : Ex G d yX8_oneNightMore cX8_oneNightMore 4 (some .int) 0 (zent0 [.int l0, .int l1] 4) [] M (some (.int r), M) := by
  unfold f_X8_oneNightMore at h
  show Ex _ _ _ _ _ _ 0 [.int l0, .int l1, .null, .null] [] _ _
  refine x_iconst (pc := 0) dX8_oneNightMore_0 (v := 0) rfl ?_
  refine x_istore_n (pc := 1) dX8_oneNightMore_1 rfl (by decide) rfl ?_
  refine x_iconst (pc := 2) dX8_oneNightMore_2 (v := 1) rfl ?_
  refine x_istore_n (pc := 3) dX8_oneNightMore_3 rfl (by decide) rfl ?_
  obtain ⟨v2, e1, h⟩ := ob h
  refine ex_weak (Ls2 := [.int l0, .int l1, .int 0, .int 1]) ⟨Or.inr rfl, Or.inr rfl, Or.inr rfl, Or.inr rfl, trivial⟩ ?_
  refine LX_X8_oneNightMore_4 zN _ _ _ _ _ _ e1 ?_
  refine x_iload_n (pc := 30) dX8_oneNightMore_30 rfl rfl ?_
  refine x_bipush (pc := 31) dX8_oneNightMore_31 (v := 6) (by decide) ?_
  obtain ⟨v3, e4, h⟩ := ob h
  refine y_idiv (pc := 33) dX8_oneNightMore_33 e4 ?_
  obtain rfl := s1 h
  exact y_retI (pc := 34) dX8_oneNightMore_34 rfl
def L_X8_fire_25 : Nat → Nat → Int32 → Int32 → Int32 → zM → Option (zM)
  | 0, _, _, _, _, _ => none
  | n + 1, l0, l1, l2, l3, M => if l1 < l3 then (some M) else ((oR M l0 8 13 11).bind fun v6 => (sI M v6 l3 0).bind fun M8 => L_X8_fire_25 n l0 l1 l2 (l3 + 1) M8)
def L_X8_fire_53 : Nat → Nat → Int32 → Int32 → Int32 → Int32 → zM → Option (zM)
  | 0, _, _, _, _, _, _ => none
  | n + 1, l0, l1, l2, l3, l4, M => if l4 ≤ 0 then (some M) else ((oR M l0 8 13 11).bind fun v9 => (oR M l0 8 13 11).bind fun v11 => (aI M v11 l4).bind fun v13 => (oR M l0 8 13 11).bind fun v15 => (aI M v15 (l4 - 1)).bind fun v17 => (f_X8_oneNightMore v13 v17 M).bind fun r19 => (sI M v9 l4 r19).bind fun M21 => L_X8_fire_53 n l0 l1 l2 l3 (l4 + (-1)) M21)
def L_X8_fire_45 : Nat → Nat → Int32 → Int32 → Int32 → zM → Option (zM)
  | 0, _, _, _, _, _ => none
  | n + 1, l0, l1, l2, l3, M => if l2 ≤ l3 then (some M) else ((L_X8_fire_53 zN l0 l1 l2 l3 l1 M).bind fun M9 => L_X8_fire_45 n l0 l1 l2 (l3 + 1) M9)
def f_X8_fire (l0 : Nat) (l1 : Int32) (l2 : Int32) (M : zM) : Option (Int32 × zM) := bif Nat.ble 1 l0 then (if l1 < 0 then (some ((-1000000002), M)) else (if 9 < l1 then (some ((-1000000002), M)) else (if l2 < 0 then (some ((-1000000002), M)) else (if l2 ≤ 20 then ((L_X8_fire_25 zN l0 l1 l2 0 M).bind fun M6 => (L_X8_fire_45 zN l0 l1 l2 0 M6).bind fun M8 => (oR M8 l0 8 13 11).bind fun v9 => (aI M8 v9 l1).bind fun v11 => some (v11, M8)) else (some ((-1000000002), M)))))) else none
theorem LX_X8_fire_25 {G : zG} {d : Nat} : ∀ (n : Nat) (l0 : Nat) (l1 : Int32) (l2 : Int32) (l3 : Int32) (M : zM) (hl0 : l0 ≠ 0) (MX : zM) {res : Option Value × zM}, L_X8_fire_25 n l0 l1 l2 l3 M = some MX → Ex G (d + 1) yX8_fire cX8_fire 5 (some .int) 43 [.ref l0, .int l1, .int l2, .null, .null] [] MX res → Ex G (d + 1) yX8_fire cX8_fire 5 (some .int) 25 [.ref l0, .int l1, .int l2, .int l3, .null] [] M res := by
  intro n
  induction n with
  | zero =>
    intro l0 l1 l2 l3 M hl0 MX res h K
    simp [L_X8_fire_25] at h
  | succ n ih =>
    intro l0 l1 l2 l3 M hl0 MX res h K
    simp only [L_X8_fire_25] at h
    refine x_iload_n (pc := 25) dX8_fire_25 rfl rfl ?_
    refine x_iload_n (pc := 26) dX8_fire_26 rfl rfl ?_
    refine x_icmp_gt (pc := 27) dX8_fire_27 (t := 43) rfl (fun c5 => ?_) (fun c5 => ?_)
    · rw [if_pos c5] at h
      obtain rfl := s1 h
      refine ex_weak (Ls2 := [.ref l0, .int l1, .int l2, .null, .null]) ⟨Or.inr rfl, Or.inr rfl, Or.inr rfl, Or.inl rfl, Or.inl rfl, trivial⟩ ?_
      exact K
    · rw [if_neg c5] at h
      refine x_aload_n (pc := 30) dX8_fire_30 rfl rfl hl0 ?_
      obtain ⟨v6, e7, h⟩ := ob h
      refine y_getR (pc := 31) dX8_fire_31 zf_X8_74 e7 ?_
      refine x_iload_n (pc := 34) dX8_fire_34 rfl rfl ?_
      refine x_iconst (pc := 35) dX8_fire_35 (v := 0) rfl ?_
      obtain ⟨M8, e9, h⟩ := ob h
      refine y_iast (pc := 36) dX8_fire_36 e9 ?_
      refine x_iinc (pc := 37) dX8_fire_37 rfl rfl (by decide) rfl ?_
      refine x_goto (pc := 40) dX8_fire_40 (t := 25) rfl ?_
      refine ex_weak (Ls2 := [.ref l0, .int l1, .int l2, .int (l3 + 1), .null]) ⟨Or.inr rfl, Or.inr rfl, Or.inr rfl, Or.inr rfl, Or.inl rfl, trivial⟩ ?_
      exact ih _ _ _ _ _ hl0  _ h K
theorem LX_X8_fire_53 {G : zG} {d : Nat} : ∀ (n : Nat) (l0 : Nat) (l1 : Int32) (l2 : Int32) (l3 : Int32) (l4 : Int32) (M : zM) (hl0 : l0 ≠ 0) (MX : zM) {res : Option Value × zM}, L_X8_fire_53 n l0 l1 l2 l3 l4 M = some MX → Ex G (d + 1) yX8_fire cX8_fire 5 (some .int) 90 [.ref l0, .int l1, .int l2, .int l3, .null] [] MX res → Ex G (d + 1) yX8_fire cX8_fire 5 (some .int) 53 [.ref l0, .int l1, .int l2, .int l3, .int l4] [] M res := by
  intro n
  induction n with
  | zero =>
    intro l0 l1 l2 l3 l4 M hl0 MX res h K
    simp [L_X8_fire_53] at h
  | succ n ih =>
    intro l0 l1 l2 l3 l4 M hl0 MX res h K
    simp only [L_X8_fire_53] at h
    refine x_iload (pc := 53) dX8_fire_53 rfl ?_
    refine x_if_le (pc := 55) dX8_fire_55 (t := 90) rfl (fun c8 => ?_) (fun c8 => ?_)
    · rw [if_pos c8] at h
      obtain rfl := s1 h
      refine ex_weak (Ls2 := [.ref l0, .int l1, .int l2, .int l3, .null]) ⟨Or.inr rfl, Or.inr rfl, Or.inr rfl, Or.inr rfl, Or.inl rfl, trivial⟩ ?_
      exact K
    · rw [if_neg c8] at h
      refine x_aload_n (pc := 58) dX8_fire_58 rfl rfl hl0 ?_
      obtain ⟨v9, e10, h⟩ := ob h
      refine y_getR (pc := 59) dX8_fire_59 zf_X8_74 e10 ?_
      refine x_iload (pc := 62) dX8_fire_62 rfl ?_
      refine x_aload_n (pc := 64) dX8_fire_64 rfl rfl hl0 ?_
      obtain ⟨v11, e12, h⟩ := ob h
      refine y_getR (pc := 65) dX8_fire_65 zf_X8_74 e12 ?_
      refine x_iload (pc := 68) dX8_fire_68 rfl ?_
      obtain ⟨v13, e14, h⟩ := ob h
      refine y_iald (pc := 70) dX8_fire_70 e14 ?_
      refine x_aload_n (pc := 71) dX8_fire_71 rfl rfl hl0 ?_
      obtain ⟨v15, e16, h⟩ := ob h
      refine y_getR (pc := 72) dX8_fire_72 zf_X8_74 e16 ?_
      refine x_iload (pc := 75) dX8_fire_75 rfl ?_
      refine x_iconst (pc := 77) dX8_fire_77 (v := 1) rfl ?_
      refine x_isub (pc := 78) dX8_fire_78 ?_
      obtain ⟨v17, e18, h⟩ := ob h
      refine y_iald (pc := 79) dX8_fire_79 e18 ?_
      obtain ⟨r19, e20, h⟩ := ob h
      refine x_callS (av := [.int v13, .int v17]) (st := [.int l4, .ref v9]) (pc := 80) dX8_fire_80 (E_X8_oneNightMore (d := d) e20) rfl (Nat.le_of_ble_eq_true rfl) zc_X8_oneNightMore rfl zm_X8_301 zs_X8_oneNightMore rfl (zst_ok rfl (Nat.le_of_ble_eq_true rfl)) rfl ?_
      obtain ⟨M21, e22, h⟩ := ob h
      refine y_iast (pc := 83) dX8_fire_83 e22 ?_
      refine x_iinc (pc := 84) dX8_fire_84 rfl rfl (by decide) rfl ?_
      refine x_goto (pc := 87) dX8_fire_87 (t := 53) rfl ?_
      refine ex_weak (Ls2 := [.ref l0, .int l1, .int l2, .int l3, .int (l4 + (-1))]) ⟨Or.inr rfl, Or.inr rfl, Or.inr rfl, Or.inr rfl, Or.inr rfl, trivial⟩ ?_
      exact ih _ _ _ _ _ _ hl0  _ h K
theorem LX_X8_fire_45 {G : zG} {d : Nat} : ∀ (n : Nat) (l0 : Nat) (l1 : Int32) (l2 : Int32) (l3 : Int32) (M : zM) (hl0 : l0 ≠ 0) (MX : zM) {res : Option Value × zM}, L_X8_fire_45 n l0 l1 l2 l3 M = some MX → Ex G (d + 1) yX8_fire cX8_fire 5 (some .int) 96 [.ref l0, .int l1, .null, .null, .null] [] MX res → Ex G (d + 1) yX8_fire cX8_fire 5 (some .int) 45 [.ref l0, .int l1, .int l2, .int l3, .null] [] M res := by
  intro n
  induction n with
  | zero =>
    intro l0 l1 l2 l3 M hl0 MX res h K
    simp [L_X8_fire_45] at h
  | succ n ih =>
    intro l0 l1 l2 l3 M hl0 MX res h K
    simp only [L_X8_fire_45] at h
    refine x_iload_n (pc := 45) dX8_fire_45 rfl rfl ?_
    refine x_iload_n (pc := 46) dX8_fire_46 rfl rfl ?_
    refine x_icmp_ge (pc := 47) dX8_fire_47 (t := 96) rfl (fun c7 => ?_) (fun c7 => ?_)
    · rw [if_pos c7] at h
      obtain rfl := s1 h
      refine ex_weak (Ls2 := [.ref l0, .int l1, .null, .null, .null]) ⟨Or.inr rfl, Or.inr rfl, Or.inl rfl, Or.inl rfl, Or.inl rfl, trivial⟩ ?_
      exact K
    · rw [if_neg c7] at h
      refine x_iload_n (pc := 50) dX8_fire_50 rfl rfl ?_
      refine x_istore (pc := 51) dX8_fire_51 (by decide) rfl ?_
      obtain ⟨M9, e8, h⟩ := ob h
      refine ex_weak (Ls2 := [.ref l0, .int l1, .int l2, .int l3, .int l1]) ⟨Or.inr rfl, Or.inr rfl, Or.inr rfl, Or.inr rfl, Or.inr rfl, trivial⟩ ?_
      refine LX_X8_fire_53 zN _ _ _ _ _ _ hl0 _ e8 ?_
      refine x_iinc (pc := 90) dX8_fire_90 rfl rfl (by decide) rfl ?_
      refine x_goto (pc := 93) dX8_fire_93 (t := 45) rfl ?_
      refine ex_weak (Ls2 := [.ref l0, .int l1, .int l2, .int (l3 + 1), .null]) ⟨Or.inr rfl, Or.inr rfl, Or.inr rfl, Or.inr rfl, Or.inl rfl, trivial⟩ ?_
      exact ih _ _ _ _ _ hl0  _ h K
theorem E_X8_fire {G : zG} {d : Nat} {l0 : Nat} {l1 : Int32} {l2 : Int32} {M MR : zM} {r : Int32} (h : f_X8_fire l0 l1 l2 M = some (r, MR)) : Ex G (d + 1) yX8_fire cX8_fire 5 (some .int) 0 (zent0 [.ref l0, .int l1, .int l2] 5) [] M (some (.int r), MR) := by
  unfold f_X8_fire at h
  obtain ⟨zz0, h⟩ := bt h
  have hl0 := bz zz0
  show Ex _ _ _ _ _ _ 0 [.ref l0, .int l1, .int l2, .null, .null] [] _ _
  refine x_iload_n (pc := 0) dX8_fire_0 rfl rfl ?_
  refine x_if_lt (pc := 1) dX8_fire_1 (t := 20) rfl (fun c1 => ?_) (fun c1 => ?_)
  · rw [if_pos c1] at h
    refine x_ldc (pc := 20) dX8_fire_20 zk_X8_78 ?_
    obtain ⟨rfl, rfl⟩ := s2 h
    exact y_retI (pc := 22) dX8_fire_22 rfl
  · rw [if_neg c1] at h
    refine x_iload_n (pc := 4) dX8_fire_4 rfl rfl ?_
    refine x_bipush (pc := 5) dX8_fire_5 (v := 9) (by decide) ?_
    refine x_icmp_gt (pc := 7) dX8_fire_7 (t := 20) rfl (fun c2 => ?_) (fun c2 => ?_)
    · rw [if_pos c2] at h
      refine x_ldc (pc := 20) dX8_fire_20 zk_X8_78 ?_
      obtain ⟨rfl, rfl⟩ := s2 h
      exact y_retI (pc := 22) dX8_fire_22 rfl
    · rw [if_neg c2] at h
      refine x_iload_n (pc := 10) dX8_fire_10 rfl rfl ?_
      refine x_if_lt (pc := 11) dX8_fire_11 (t := 20) rfl (fun c3 => ?_) (fun c3 => ?_)
      · rw [if_pos c3] at h
        refine x_ldc (pc := 20) dX8_fire_20 zk_X8_78 ?_
        obtain ⟨rfl, rfl⟩ := s2 h
        exact y_retI (pc := 22) dX8_fire_22 rfl
      · rw [if_neg c3] at h
        refine x_iload_n (pc := 14) dX8_fire_14 rfl rfl ?_
        refine x_bipush (pc := 15) dX8_fire_15 (v := 20) (by decide) ?_
        refine x_icmp_le (pc := 17) dX8_fire_17 (t := 23) rfl (fun c4 => ?_) (fun c4 => ?_)
        · rw [if_pos c4] at h
          refine x_iconst (pc := 23) dX8_fire_23 (v := 0) rfl ?_
          refine x_istore_n (pc := 24) dX8_fire_24 rfl (by decide) rfl ?_
          obtain ⟨M6, e5, h⟩ := ob h
          refine ex_weak (Ls2 := [.ref l0, .int l1, .int l2, .int 0, .null]) ⟨Or.inr rfl, Or.inr rfl, Or.inr rfl, Or.inr rfl, Or.inl rfl, trivial⟩ ?_
          refine LX_X8_fire_25 zN _ _ _ _ _ hl0 _ e5 ?_
          refine x_iconst (pc := 43) dX8_fire_43 (v := 0) rfl ?_
          refine x_istore_n (pc := 44) dX8_fire_44 rfl (by decide) rfl ?_
          obtain ⟨M8, e7, h⟩ := ob h
          refine ex_weak (Ls2 := [.ref l0, .int l1, .int l2, .int 0, .null]) ⟨Or.inr rfl, Or.inr rfl, Or.inr rfl, Or.inr rfl, Or.inl rfl, trivial⟩ ?_
          refine LX_X8_fire_45 zN _ _ _ _ _ hl0 _ e7 ?_
          refine x_aload_n (pc := 96) dX8_fire_96 rfl rfl hl0 ?_
          obtain ⟨v9, e10, h⟩ := ob h
          refine y_getR (pc := 97) dX8_fire_97 zf_X8_74 e10 ?_
          refine x_iload_n (pc := 100) dX8_fire_100 rfl rfl ?_
          obtain ⟨v11, e12, h⟩ := ob h
          refine y_iald (pc := 101) dX8_fire_101 e12 ?_
          obtain ⟨rfl, rfl⟩ := s2 h
          exact y_retI (pc := 102) dX8_fire_102 rfl
        · rw [if_neg c4] at h
          refine x_ldc (pc := 20) dX8_fire_20 zk_X8_78 ?_
          obtain ⟨rfl, rfl⟩ := s2 h
          exact y_retI (pc := 22) dX8_fire_22 rfl
def L_X8_rhymes_20 : Nat → Nat → Int32 → Int32 → Int32 → Int32 → zM → Option ((Int32) ⊕ (Int32))
  | 0, _, _, _, _, _, _ => none
  | n + 1, l0, l1, l2, l3, l4, M => (oR M l0 8 13 1).bind fun v6 => (oI M v6 7 15 1).bind fun v8 => if v8 ≤ l4 then (some (.inr l2)) else ((oR M l0 8 13 1).bind fun v11 => (oR M v11 7 15 9).bind fun v13 => (aI M v13 l3).bind fun v15 => (oR M l0 8 13 1).bind fun v17 => (oR M v17 7 15 9).bind fun v19 => (aI M v19 l4).bind fun v21 => if v15 = v21 then ((oR M l0 8 13 3).bind fun v24 => (oR M v24 5 9 1).bind fun v26 => (aI M v26 l3).bind fun v28 => if v28 ≤ 0 then (L_X8_rhymes_20 n l0 l1 l2 l3 (l4 + 1) M) else ((oR M l0 8 13 3).bind fun v31 => (oR M v31 5 9 1).bind fun v33 => (aI M v33 l4).bind fun v35 => if v35 ≤ 0 then (L_X8_rhymes_20 n l0 l1 l2 l3 (l4 + 1) M) else (if l2 = l1 then (some (.inl ((10 * l3) + l4))) else (L_X8_rhymes_20 n l0 l1 (l2 + 1) l3 (l4 + 1) M)))) else (L_X8_rhymes_20 n l0 l1 l2 l3 (l4 + 1) M))
def L_X8_rhymes_4 : Nat → Nat → Int32 → Int32 → Int32 → zM → Option ((Int32) ⊕ (Int32))
  | 0, _, _, _, _, _ => none
  | n + 1, l0, l1, l2, l3, M => (oR M l0 8 13 1).bind fun v1 => (oI M v1 7 15 1).bind fun v3 => if v3 ≤ l3 then (some (.inr l2)) else (bs (L_X8_rhymes_20 zN l0 l1 l2 l3 (l3 + 1) M) (fun r => some (.inl r)) (fun v7 => L_X8_rhymes_4 n l0 l1 v7 (l3 + 1) M))
def f_X8_rhymes (l0 : Nat) (l1 : Int32) (M : zM) : Option (Int32) := bif Nat.ble 1 l0 then (bs (L_X8_rhymes_4 zN l0 l1 0 0 M) some (fun v2 => if l1 = (-1) then (some v2) else (some (-1)))) else none
set_option maxRecDepth 100000 in
set_option maxHeartbeats 2000000 in
theorem LX_X8_rhymes_20 {G : zG} {d : Nat} : ∀ (n : Nat) (l0 : Nat) (l1 : Int32) (l2 : Int32) (l3 : Int32) (l4 : Int32) (M : zM) (hl0 : l0 ≠ 0) (e : (Int32) ⊕ (Int32)) {res : Option Value × zM}, L_X8_rhymes_20 n l0 l1 l2 l3 l4 M = some e → (∀ r, e = .inl r → res = (some (.int r), M)) → (∀ (o2 : Int32), e = .inr o2 → Ex G d yX8_rhymes cX8_rhymes 5 (some .int) 101 [.ref l0, .int l1, .int o2, .int l3, .null] [] M res) → Ex G d yX8_rhymes cX8_rhymes 5 (some .int) 20 [.ref l0, .int l1, .int l2, .int l3, .int l4] [] M res := by
  intro n
  induction n with
  | zero =>
    intro l0 l1 l2 l3 l4 M hl0 e res h K1 K2
    simp [L_X8_rhymes_20] at h
  | succ n ih =>
    intro l0 l1 l2 l3 l4 M hl0 e res h K1 K2
    simp only [L_X8_rhymes_20] at h
    refine x_iload (pc := 20) dX8_rhymes_20 rfl ?_
    refine x_aload_n (pc := 22) dX8_rhymes_22 rfl rfl hl0 ?_
    obtain ⟨v6, e7, h⟩ := ob h
    refine y_getR (pc := 23) dX8_rhymes_23 zf_X8_19 e7 ?_
    obtain ⟨v8, e9, h⟩ := ob h
    refine y_getI (pc := 26) dX8_rhymes_26 zf_X8_116 e9 (by decide) ?_
    refine x_icmp_ge (pc := 29) dX8_rhymes_29 (t := 101) rfl (fun c10 => ?_) (fun c10 => ?_)
    · rw [if_pos c10] at h
      obtain rfl := s1 h
      refine ex_weak (Ls2 := [.ref l0, .int l1, .int l2, .int l3, .null]) ⟨Or.inr rfl, Or.inr rfl, Or.inr rfl, Or.inr rfl, Or.inl rfl, trivial⟩ ?_
      exact K2 _ rfl
    · rw [if_neg c10] at h
      refine x_aload_n (pc := 32) dX8_rhymes_32 rfl rfl hl0 ?_
      obtain ⟨v11, e12, h⟩ := ob h
      refine y_getR (pc := 33) dX8_rhymes_33 zf_X8_19 e12 ?_
      obtain ⟨v13, e14, h⟩ := ob h
      refine y_getR (pc := 36) dX8_rhymes_36 zf_X8_170 e14 ?_
      refine x_iload_n (pc := 39) dX8_rhymes_39 rfl rfl ?_
      obtain ⟨v15, e16, h⟩ := ob h
      refine y_iald (pc := 40) dX8_rhymes_40 e16 ?_
      refine x_aload_n (pc := 41) dX8_rhymes_41 rfl rfl hl0 ?_
      obtain ⟨v17, e18, h⟩ := ob h
      refine y_getR (pc := 42) dX8_rhymes_42 zf_X8_19 e18 ?_
      obtain ⟨v19, e20, h⟩ := ob h
      refine y_getR (pc := 45) dX8_rhymes_45 zf_X8_170 e20 ?_
      refine x_iload (pc := 48) dX8_rhymes_48 rfl ?_
      obtain ⟨v21, e22, h⟩ := ob h
      refine y_iald (pc := 50) dX8_rhymes_50 e22 ?_
      refine x_icmp_ne (pc := 51) dX8_rhymes_51 (t := 95) rfl (fun c23 => ?_) (fun c23 => ?_)
      · rw [if_neg c23] at h
        refine x_iinc (pc := 95) dX8_rhymes_95 rfl rfl (by decide) rfl ?_
        refine x_goto (pc := 98) dX8_rhymes_98 (t := 20) rfl ?_
        refine ex_weak (Ls2 := [.ref l0, .int l1, .int l2, .int l3, .int (l4 + 1)]) ⟨Or.inr rfl, Or.inr rfl, Or.inr rfl, Or.inr rfl, Or.inr rfl, trivial⟩ ?_
        exact ih _ _ _ _ _ _ hl0 _ h K1 K2
      · rw [if_pos c23] at h
        refine x_aload_n (pc := 54) dX8_rhymes_54 rfl rfl hl0 ?_
        obtain ⟨v24, e25, h⟩ := ob h
        refine y_getR (pc := 55) dX8_rhymes_55 zf_X8_29 e25 ?_
        obtain ⟨v26, e27, h⟩ := ob h
        refine y_getR (pc := 58) dX8_rhymes_58 zf_X8_173 e27 ?_
        refine x_iload_n (pc := 61) dX8_rhymes_61 rfl rfl ?_
        obtain ⟨v28, e29, h⟩ := ob h
        refine y_iald (pc := 62) dX8_rhymes_62 e29 ?_
        refine x_if_le (pc := 63) dX8_rhymes_63 (t := 95) rfl (fun c30 => ?_) (fun c30 => ?_)
        · rw [if_pos c30] at h
          refine x_iinc (pc := 95) dX8_rhymes_95 rfl rfl (by decide) rfl ?_
          refine x_goto (pc := 98) dX8_rhymes_98 (t := 20) rfl ?_
          refine ex_weak (Ls2 := [.ref l0, .int l1, .int l2, .int l3, .int (l4 + 1)]) ⟨Or.inr rfl, Or.inr rfl, Or.inr rfl, Or.inr rfl, Or.inr rfl, trivial⟩ ?_
          exact ih _ _ _ _ _ _ hl0 _ h K1 K2
        · rw [if_neg c30] at h
          refine x_aload_n (pc := 66) dX8_rhymes_66 rfl rfl hl0 ?_
          obtain ⟨v31, e32, h⟩ := ob h
          refine y_getR (pc := 67) dX8_rhymes_67 zf_X8_29 e32 ?_
          obtain ⟨v33, e34, h⟩ := ob h
          refine y_getR (pc := 70) dX8_rhymes_70 zf_X8_173 e34 ?_
          refine x_iload (pc := 73) dX8_rhymes_73 rfl ?_
          obtain ⟨v35, e36, h⟩ := ob h
          refine y_iald (pc := 75) dX8_rhymes_75 e36 ?_
          refine x_if_le (pc := 76) dX8_rhymes_76 (t := 95) rfl (fun c37 => ?_) (fun c37 => ?_)
          · rw [if_pos c37] at h
            refine x_iinc (pc := 95) dX8_rhymes_95 rfl rfl (by decide) rfl ?_
            refine x_goto (pc := 98) dX8_rhymes_98 (t := 20) rfl ?_
            refine ex_weak (Ls2 := [.ref l0, .int l1, .int l2, .int l3, .int (l4 + 1)]) ⟨Or.inr rfl, Or.inr rfl, Or.inr rfl, Or.inr rfl, Or.inr rfl, trivial⟩ ?_
            exact ih _ _ _ _ _ _ hl0 _ h K1 K2
          · rw [if_neg c37] at h
            refine x_iload_n (pc := 79) dX8_rhymes_79 rfl rfl ?_
            refine x_iload_n (pc := 80) dX8_rhymes_80 rfl rfl ?_
            refine x_icmp_ne (pc := 81) dX8_rhymes_81 (t := 92) rfl (fun c38 => ?_) (fun c38 => ?_)
            · rw [if_neg c38] at h
              refine x_iinc (pc := 92) dX8_rhymes_92 rfl rfl (by decide) rfl ?_
              refine x_iinc (pc := 95) dX8_rhymes_95 rfl rfl (by decide) rfl ?_
              refine x_goto (pc := 98) dX8_rhymes_98 (t := 20) rfl ?_
              refine ex_weak (Ls2 := [.ref l0, .int l1, .int (l2 + 1), .int l3, .int (l4 + 1)]) ⟨Or.inr rfl, Or.inr rfl, Or.inr rfl, Or.inr rfl, Or.inr rfl, trivial⟩ ?_
              exact ih _ _ _ _ _ _ hl0 _ h K1 K2
            · rw [if_pos c38] at h
              refine x_bipush (pc := 84) dX8_rhymes_84 (v := 10) (by decide) ?_
              refine x_iload_n (pc := 86) dX8_rhymes_86 rfl rfl ?_
              refine x_imul (pc := 87) dX8_rhymes_87 ?_
              refine x_iload (pc := 88) dX8_rhymes_88 rfl ?_
              refine x_iadd (pc := 90) dX8_rhymes_90 ?_
              obtain rfl := s1 h
              rw [K1 _ rfl]
              exact y_retI (pc := 91) dX8_rhymes_91 rfl
set_option maxRecDepth 100000 in
set_option maxHeartbeats 2000000 in
theorem LX_X8_rhymes_4 {G : zG} {d : Nat} : ∀ (n : Nat) (l0 : Nat) (l1 : Int32) (l2 : Int32) (l3 : Int32) (M : zM) (hl0 : l0 ≠ 0) (e : (Int32) ⊕ (Int32)) {res : Option Value × zM}, L_X8_rhymes_4 n l0 l1 l2 l3 M = some e → (∀ r, e = .inl r → res = (some (.int r), M)) → (∀ (o2 : Int32), e = .inr o2 → Ex G d yX8_rhymes cX8_rhymes 5 (some .int) 107 [.null, .int l1, .int o2, .null, .null] [] M res) → Ex G d yX8_rhymes cX8_rhymes 5 (some .int) 4 [.ref l0, .int l1, .int l2, .int l3, .null] [] M res := by
  intro n
  induction n with
  | zero =>
    intro l0 l1 l2 l3 M hl0 e res h K1 K2
    simp [L_X8_rhymes_4] at h
  | succ n ih =>
    intro l0 l1 l2 l3 M hl0 e res h K1 K2
    simp only [L_X8_rhymes_4] at h
    refine x_iload_n (pc := 4) dX8_rhymes_4 rfl rfl ?_
    refine x_aload_n (pc := 5) dX8_rhymes_5 rfl rfl hl0 ?_
    obtain ⟨v1, e2, h⟩ := ob h
    refine y_getR (pc := 6) dX8_rhymes_6 zf_X8_19 e2 ?_
    obtain ⟨v3, e4, h⟩ := ob h
    refine y_getI (pc := 9) dX8_rhymes_9 zf_X8_116 e4 (by decide) ?_
    refine x_icmp_ge (pc := 12) dX8_rhymes_12 (t := 107) rfl (fun c5 => ?_) (fun c5 => ?_)
    · rw [if_pos c5] at h
      obtain rfl := s1 h
      refine ex_weak (Ls2 := [.null, .int l1, .int l2, .null, .null]) ⟨Or.inl rfl, Or.inr rfl, Or.inr rfl, Or.inl rfl, Or.inl rfl, trivial⟩ ?_
      exact K2 _ rfl
    · rw [if_neg c5] at h
      refine x_iload_n (pc := 15) dX8_rhymes_15 rfl rfl ?_
      refine x_iconst (pc := 16) dX8_rhymes_16 (v := 1) rfl ?_
      refine x_iadd (pc := 17) dX8_rhymes_17 ?_
      refine x_istore (pc := 18) dX8_rhymes_18 (by decide) rfl ?_
      refine ex_weak (Ls2 := [.ref l0, .int l1, .int l2, .int l3, .int (l3 + 1)]) ⟨Or.inr rfl, Or.inr rfl, Or.inr rfl, Or.inr rfl, Or.inr rfl, trivial⟩ ?_
      rcases obs h with ⟨r8, e6, h⟩ | ⟨v7, e6, h⟩
      · cases h
        exact LX_X8_rhymes_20 zN _ _ _ _ _ _ hl0 _ e6 (fun r q => by cases q; exact K1 _ rfl) (by intros; contradiction)
      · refine LX_X8_rhymes_20 zN _ _ _ _ _ _ hl0 _ e6 (fun r q => by cases q) ?_
        intro u9 q
        cases q
        refine x_iinc (pc := 101) dX8_rhymes_101 rfl rfl (by decide) rfl ?_
        refine x_goto (pc := 104) dX8_rhymes_104 (t := 4) rfl ?_
        refine ex_weak (Ls2 := [.ref l0, .int l1, .int v7, .int (l3 + 1), .null]) ⟨Or.inr rfl, Or.inr rfl, Or.inr rfl, Or.inr rfl, Or.inl rfl, trivial⟩ ?_
        exact ih _ _ _ _ _ hl0 _ h K1 K2
set_option maxRecDepth 100000 in
set_option maxHeartbeats 2000000 in
theorem E_X8_rhymes {G : zG} {d : Nat} {l0 : Nat} {l1 : Int32} {M : zM} {r : Int32} (h : f_X8_rhymes l0 l1 M = some r) : Ex G d yX8_rhymes cX8_rhymes 5 (some .int) 0 (zent0 [.ref l0, .int l1] 5) [] M (some (.int r), M) := by
  unfold f_X8_rhymes at h
  obtain ⟨zz0, h⟩ := bt h
  have hl0 := bz zz0
  show Ex _ _ _ _ _ _ 0 [.ref l0, .int l1, .null, .null, .null] [] _ _
  refine x_iconst (pc := 0) dX8_rhymes_0 (v := 0) rfl ?_
  refine x_istore_n (pc := 1) dX8_rhymes_1 rfl (by decide) rfl ?_
  refine x_iconst (pc := 2) dX8_rhymes_2 (v := 0) rfl ?_
  refine x_istore_n (pc := 3) dX8_rhymes_3 rfl (by decide) rfl ?_
  refine ex_weak (Ls2 := [.ref l0, .int l1, .int 0, .int 0, .null]) ⟨Or.inr rfl, Or.inr rfl, Or.inr rfl, Or.inr rfl, Or.inl rfl, trivial⟩ ?_
  rcases obs h with ⟨r4, e1, h⟩ | ⟨v2, e1, h⟩
  · cases h
    exact LX_X8_rhymes_4 zN _ _ _ _ _ hl0 _ e1 (fun r q => by cases q; rfl) (by intros; contradiction)
  · refine LX_X8_rhymes_4 zN _ _ _ _ _ hl0 _ e1 (fun r q => by cases q) ?_
    intro u5 q
    cases q
    refine x_iload_n (pc := 107) dX8_rhymes_107 rfl rfl ?_
    refine x_iconst (pc := 108) dX8_rhymes_108 (v := (-1)) rfl ?_
    refine x_icmp_ne (pc := 109) dX8_rhymes_109 (t := 116) rfl (fun c3 => ?_) (fun c3 => ?_)
    · rw [if_neg c3] at h
      refine x_iconst (pc := 116) dX8_rhymes_116 (v := (-1)) rfl ?_
      obtain rfl := s1 h
      exact y_retI (pc := 117) dX8_rhymes_117 rfl
    · rw [if_pos c3] at h
      refine x_iload_n (pc := 112) dX8_rhymes_112 rfl rfl ?_
      refine x_goto (pc := 113) dX8_rhymes_113 (t := 117) rfl ?_
      obtain rfl := s1 h
      exact y_retI (pc := 117) dX8_rhymes_117 rfl
def L_X8_silent_30 : Nat → Int32 → Int32 → Int64 → Int32 → zM → Option (Int64)
  | 0, _, _, _, _, _ => none
  | n + 1, l1, l2, l3, l5, M => if l1 ≤ l5 then (some l3) else ((ldv (l3 * (Int32.toInt64 l2)) 100).bind fun v6 => L_X8_silent_30 n l1 l2 v6 (l5 + 1) M)
def f_X8_silent (l0 : Nat) (l1 : Int32) (l2 : Int32) (M : zM) : Option (Int32) := bif Nat.ble 1 l0 then (if l1 < 0 then (some (-1000000002)) else (if 60 < l1 then (some (-1000000002)) else (if l2 < 0 then (some (-1000000002)) else (if l2 ≤ 100 then ((L_X8_silent_30 zN l1 l2 1000000000 0 M).bind fun v6 => some (Int64.toInt32 v6)) else (some (-1000000002)))))) else none
theorem LX_X8_silent_30 {G : zG} {d : Nat} : ∀ (n : Nat) (l1 : Int32) (l2 : Int32) (l3 : Int64) (l5 : Int32) (M : zM)  (o3 : Int64) {res : Option Value × zM}, L_X8_silent_30 n l1 l2 l3 l5 M = some o3 → Ex G d yX8_silent cX8_silent 6 (some .int) 51 [.null, .null, .null, .long o3, .null, .null] [] M res → Ex G d yX8_silent cX8_silent 6 (some .int) 30 [.null, .int l1, .int l2, .long l3, .null, .int l5] [] M res := by
  intro n
  induction n with
  | zero =>
    intro l1 l2 l3 l5 M o3 res h K
    simp [L_X8_silent_30] at h
  | succ n ih =>
    intro l1 l2 l3 l5 M o3 res h K
    simp only [L_X8_silent_30] at h
    refine x_iload (pc := 30) dX8_silent_30 rfl ?_
    refine x_iload_n (pc := 32) dX8_silent_32 rfl rfl ?_
    refine x_icmp_ge (pc := 33) dX8_silent_33 (t := 51) rfl (fun c5 => ?_) (fun c5 => ?_)
    · rw [if_pos c5] at h
      obtain rfl := s1 h
      refine ex_weak (Ls2 := [.null, .null, .null, .long l3, .null, .null]) ⟨Or.inl rfl, Or.inl rfl, Or.inl rfl, Or.inr rfl, Or.inl rfl, Or.inl rfl, trivial⟩ ?_
      exact K
    · rw [if_neg c5] at h
      refine x_lload_n (pc := 36) dX8_silent_36 rfl rfl ?_
      refine x_iload_n (pc := 37) dX8_silent_37 rfl rfl ?_
      refine x_i2l (pc := 38) dX8_silent_38 ?_
      refine x_lmul (pc := 39) dX8_silent_39 ?_
      refine x_ldc2 (pc := 40) dX8_silent_40 zk_X8_306 ?_
      obtain ⟨v6, e7, h⟩ := ob h
      refine y_ldiv (pc := 43) dX8_silent_43 e7 ?_
      refine x_lstore_n (pc := 44) dX8_silent_44 rfl (by decide) rfl ?_
      refine x_iinc (pc := 45) dX8_silent_45 rfl rfl (by decide) rfl ?_
      refine x_goto (pc := 48) dX8_silent_48 (t := 30) rfl ?_
      refine ex_weak (Ls2 := [.null, .int l1, .int l2, .long v6, .null, .int (l5 + 1)]) ⟨Or.inl rfl, Or.inr rfl, Or.inr rfl, Or.inr rfl, Or.inl rfl, Or.inr rfl, trivial⟩ ?_
      exact ih _ _ _ _ _ _ h K
theorem E_X8_silent {G : zG} {d : Nat} {l0 : Nat} {l1 : Int32} {l2 : Int32} {M : zM} {r : Int32} (h : f_X8_silent l0 l1 l2 M = some r) : Ex G d yX8_silent cX8_silent 6 (some .int) 0 (zent0 [.ref l0, .int l1, .int l2] 6) [] M (some (.int r), M) := by
  unfold f_X8_silent at h
  obtain ⟨zz0, h⟩ := bt h
  have hl0 := bz zz0
  show Ex _ _ _ _ _ _ 0 [.ref l0, .int l1, .int l2, .null, .null, .null] [] _ _
  refine x_iload_n (pc := 0) dX8_silent_0 rfl rfl ?_
  refine x_if_lt (pc := 1) dX8_silent_1 (t := 20) rfl (fun c1 => ?_) (fun c1 => ?_)
  · rw [if_pos c1] at h
    refine x_ldc (pc := 20) dX8_silent_20 zk_X8_78 ?_
    obtain rfl := s1 h
    exact y_retI (pc := 22) dX8_silent_22 rfl
  · rw [if_neg c1] at h
    refine x_iload_n (pc := 4) dX8_silent_4 rfl rfl ?_
    refine x_bipush (pc := 5) dX8_silent_5 (v := 60) (by decide) ?_
    refine x_icmp_gt (pc := 7) dX8_silent_7 (t := 20) rfl (fun c2 => ?_) (fun c2 => ?_)
    · rw [if_pos c2] at h
      refine x_ldc (pc := 20) dX8_silent_20 zk_X8_78 ?_
      obtain rfl := s1 h
      exact y_retI (pc := 22) dX8_silent_22 rfl
    · rw [if_neg c2] at h
      refine x_iload_n (pc := 10) dX8_silent_10 rfl rfl ?_
      refine x_if_lt (pc := 11) dX8_silent_11 (t := 20) rfl (fun c3 => ?_) (fun c3 => ?_)
      · rw [if_pos c3] at h
        refine x_ldc (pc := 20) dX8_silent_20 zk_X8_78 ?_
        obtain rfl := s1 h
        exact y_retI (pc := 22) dX8_silent_22 rfl
      · rw [if_neg c3] at h
        refine x_iload_n (pc := 14) dX8_silent_14 rfl rfl ?_
        refine x_bipush (pc := 15) dX8_silent_15 (v := 100) (by decide) ?_
        refine x_icmp_le (pc := 17) dX8_silent_17 (t := 23) rfl (fun c4 => ?_) (fun c4 => ?_)
        · rw [if_pos c4] at h
          refine x_ldc2 (pc := 23) dX8_silent_23 zk_X8_304 ?_
          refine x_lstore_n (pc := 26) dX8_silent_26 rfl (by decide) rfl ?_
          refine x_iconst (pc := 27) dX8_silent_27 (v := 0) rfl ?_
          refine x_istore (pc := 28) dX8_silent_28 (by decide) rfl ?_
          obtain ⟨v6, e5, h⟩ := ob h
          refine ex_weak (Ls2 := [.null, .int l1, .int l2, .long 1000000000, .null, .int 0]) ⟨Or.inl rfl, Or.inr rfl, Or.inr rfl, Or.inr rfl, Or.inl rfl, Or.inr rfl, trivial⟩ ?_
          refine LX_X8_silent_30 zN _ _ _ _ _ _ e5 ?_
          refine x_lload_n (pc := 51) dX8_silent_51 rfl rfl ?_
          refine x_l2i (pc := 52) dX8_silent_52 ?_
          obtain rfl := s1 h
          exact y_retI (pc := 53) dX8_silent_53 rfl
        · rw [if_neg c4] at h
          refine x_ldc (pc := 20) dX8_silent_20 zk_X8_78 ?_
          obtain rfl := s1 h
          exact y_retI (pc := 22) dX8_silent_22 rfl
def f_X8_knot (l0 : Nat) (l1 : Int32) (l2 : Int32) (l3 : Int32) (M : zM) : Option (Int32 × zM) := bif Nat.ble 1 l0 then (bif zac M l0 8 13 then ((f_X8_isWord l0 l1 M).bind fun r1 => if r1 = 0 then (some ((-1000000001), M)) else (if l2 < 0 then (some ((-1000000002), M)) else (if l2 < 99 then ((oR M l0 8 13 8).bind fun v6 => (oI M v6 2 4 3).bind fun v8 => if v8 < 6 then ((oR M l0 8 13 8).bind fun v11 => bif zac M v11 2 4 then ((f_X2_tie v11 l1 l2 l3 M).bind fun M13 => (oR M13 l0 8 13 8).bind fun v15 => (oI M13 v15 2 4 3).bind fun v17 => some (v17, M13)) else none) else (some ((-1000000004), M))) else (some ((-1000000002), M))))) else none) else none
theorem E_X8_knot {G : zG} {d : Nat} {l0 : Nat} {l1 : Int32} {l2 : Int32} {l3 : Int32} {M MR : zM} {r : Int32} (h : f_X8_knot l0 l1 l2 l3 M = some (r, MR)) : Ex G (d + 1) yX8_knot cX8_knot 4 (some .int) 0 (zent0 [.ref l0, .int l1, .int l2, .int l3] 4) [] M (some (.int r), MR) := by
  unfold f_X8_knot at h
  obtain ⟨zz0, h⟩ := bt h
  have hl0 := bz zz0
  show Ex _ _ _ _ _ _ 0 [.ref l0, .int l1, .int l2, .int l3] [] _ _
  refine x_aload_n (pc := 0) dX8_knot_0 rfl rfl hl0 ?_
  refine x_iload_n (pc := 1) dX8_knot_1 rfl rfl ?_
  obtain ⟨g20, h⟩ := bt h
  obtain ⟨r1, e2, h⟩ := ob h
  refine x_callV (av := [.int l1]) (st := []) (pc := 2) dX8_knot_2 (E_X8_isWord (d := d) e2) rfl (Nat.le_of_ble_eq_true rfl) zc_X8_isWord rfl zm_X8_159 zi_X8_isWord zs_X8_isWord (zac_ok g20) (by decide) rfl rfl (zst_ok rfl (Nat.le_of_ble_eq_true rfl)) rfl ?_
  refine x_if_ne (pc := 5) dX8_knot_5 (t := 11) rfl (fun c3 => ?_) (fun c3 => ?_)
  · rw [if_neg c3] at h
    refine x_iload_n (pc := 11) dX8_knot_11 rfl rfl ?_
    refine x_if_lt (pc := 12) dX8_knot_12 (t := 21) rfl (fun c4 => ?_) (fun c4 => ?_)
    · rw [if_pos c4] at h
      refine x_ldc (pc := 21) dX8_knot_21 zk_X8_78 ?_
      obtain ⟨rfl, rfl⟩ := s2 h
      exact y_retI (pc := 23) dX8_knot_23 rfl
    · rw [if_neg c4] at h
      refine x_iload_n (pc := 15) dX8_knot_15 rfl rfl ?_
      refine x_bipush (pc := 16) dX8_knot_16 (v := 99) (by decide) ?_
      refine x_icmp_lt (pc := 18) dX8_knot_18 (t := 24) rfl (fun c5 => ?_) (fun c5 => ?_)
      · rw [if_pos c5] at h
        refine x_aload_n (pc := 24) dX8_knot_24 rfl rfl hl0 ?_
        obtain ⟨v6, e7, h⟩ := ob h
        refine y_getR (pc := 25) dX8_knot_25 zf_X8_59 e7 ?_
        obtain ⟨v8, e9, h⟩ := ob h
        refine y_getI (pc := 28) dX8_knot_28 zf_X8_154 e9 (by decide) ?_
        refine x_bipush (pc := 31) dX8_knot_31 (v := 6) (by decide) ?_
        refine x_icmp_lt (pc := 33) dX8_knot_33 (t := 39) rfl (fun c10 => ?_) (fun c10 => ?_)
        · rw [if_pos c10] at h
          refine x_aload_n (pc := 39) dX8_knot_39 rfl rfl hl0 ?_
          obtain ⟨v11, e12, h⟩ := ob h
          refine y_getR (pc := 40) dX8_knot_40 zf_X8_59 e12 ?_
          refine x_iload_n (pc := 43) dX8_knot_43 rfl rfl ?_
          refine x_iload_n (pc := 44) dX8_knot_44 rfl rfl ?_
          refine x_iload_n (pc := 45) dX8_knot_45 rfl rfl ?_
          obtain ⟨g19, h⟩ := bt h
          obtain ⟨M13, e14, h⟩ := ob h
          refine x_callV (av := [.int l1, .int l2, .int l3]) (st := []) (pc := 46) dX8_knot_46 (E_X2_tie (d := d) e14) rfl (Nat.le_of_ble_eq_true rfl) zc_X2_tie rfl zm_X8_308 zi_X2_tie zs_X2_tie (zac_ok g19) (by decide) rfl rfl (zst_ok rfl (Nat.le_of_ble_eq_true rfl)) rfl ?_
          refine x_aload_n (pc := 49) dX8_knot_49 rfl rfl hl0 ?_
          obtain ⟨v15, e16, h⟩ := ob h
          refine y_getR (pc := 50) dX8_knot_50 zf_X8_59 e16 ?_
          obtain ⟨v17, e18, h⟩ := ob h
          refine y_getI (pc := 53) dX8_knot_53 zf_X8_154 e18 (by decide) ?_
          obtain ⟨rfl, rfl⟩ := s2 h
          exact y_retI (pc := 56) dX8_knot_56 rfl
        · rw [if_neg c10] at h
          refine x_ldc (pc := 36) dX8_knot_36 zk_X8_83 ?_
          obtain ⟨rfl, rfl⟩ := s2 h
          exact y_retI (pc := 38) dX8_knot_38 rfl
      · rw [if_neg c5] at h
        refine x_ldc (pc := 21) dX8_knot_21 zk_X8_78 ?_
        obtain ⟨rfl, rfl⟩ := s2 h
        exact y_retI (pc := 23) dX8_knot_23 rfl
  · rw [if_pos c3] at h
    refine x_ldc (pc := 8) dX8_knot_8 zk_X8_163 ?_
    obtain ⟨rfl, rfl⟩ := s2 h
    exact y_retI (pc := 10) dX8_knot_10 rfl
def f_X8_who (l0 : Nat) (M : zM) : Option (Int32) := bif Nat.ble 1 l0 then ((oR M l0 8 13 8).bind fun v1 => (oR M l0 8 13 1).bind fun v3 => bif zac M v1 2 4 then ((f_X2_fitting v1 v3 M).bind fun r5 => some r5) else none) else none
theorem E_X8_who {G : zG} {d : Nat} {l0 : Nat} {M : zM} {r : Int32} (h : f_X8_who l0 M = some r) : Ex G (d + 3) yX8_who cX8_who 1 (some .int) 0 (zent0 [.ref l0] 1) [] M (some (.int r), M) := by
  unfold f_X8_who at h
  obtain ⟨zz0, h⟩ := bt h
  have hl0 := bz zz0
  show Ex _ _ _ _ _ _ 0 [.ref l0] [] _ _
  refine x_aload_n (pc := 0) dX8_who_0 rfl rfl hl0 ?_
  obtain ⟨v1, e2, h⟩ := ob h
  refine y_getR (pc := 1) dX8_who_1 zf_X8_59 e2 ?_
  refine x_aload_n (pc := 4) dX8_who_4 rfl rfl hl0 ?_
  obtain ⟨v3, e4, h⟩ := ob h
  refine y_getR (pc := 5) dX8_who_5 zf_X8_19 e4 ?_
  obtain ⟨g7, h⟩ := bt h
  obtain ⟨r5, e6, h⟩ := ob h
  refine x_callV (av := [.ref v3]) (st := []) (pc := 8) dX8_who_8 (E_X2_fitting (d := d) e6) rfl (Nat.le_of_ble_eq_true rfl) zc_X2_fitting rfl zm_X8_312 zi_X2_fitting zs_X2_fitting (zac_ok g7) (by decide) rfl rfl (zst_ok rfl (Nat.le_of_ble_eq_true rfl)) rfl ?_
  obtain rfl := s1 h
  exact y_retI (pc := 11) dX8_who_11 rfl
def L_X8_greatestPart_9 : Nat → Nat → Int32 → Int32 → Int32 → Int32 → Int32 → Int32 → zM → Option (Int32 × Int32)
  | 0, _, _, _, _, _, _, _, _ => none
  | n + 1, l0, l1, l2, l3, l4, l5, l6, M => (oR M l0 8 13 1).bind fun v1 => (oI M v1 7 15 3).bind fun v3 => if v3 ≤ l6 then (some (l4, l5)) else (if (l1 >>> (l6 &&& 31)) &&& 1 = 0 then (L_X8_greatestPart_9 n l0 l1 l2 l3 l4 l5 (l6 + 1) M) else ((oR M l0 8 13 1).bind fun v7 => bif zac M v7 7 15 then ((f_X7_wouldHaveSaid v7 l6 l2 l3 M).bind fun r9 => if r9 = 0 then (L_X8_greatestPart_9 n l0 l1 l2 l3 l4 (l5 + 1) (l6 + 1) M) else (L_X8_greatestPart_9 n l0 l1 l2 l3 (l4 + 1) l5 (l6 + 1) M)) else none))
def f_X8_greatestPart (l0 : Nat) (l1 : Int32) (l2 : Int32) (l3 : Int32) (M : zM) : Option (Int32) := bif Nat.ble 1 l0 then (b2 (L_X8_greatestPart_9 zN l0 l1 l2 l3 0 0 0 M) fun v2 v3 => some (if v2 < v3 then v3 else v2)) else none
theorem LX_X8_greatestPart_9 {G : zG} {d : Nat} : ∀ (n : Nat) (l0 : Nat) (l1 : Int32) (l2 : Int32) (l3 : Int32) (l4 : Int32) (l5 : Int32) (l6 : Int32) (M : zM) (hl0 : l0 ≠ 0) (o4 : Int32) (o5 : Int32) {res : Option Value × zM}, L_X8_greatestPart_9 n l0 l1 l2 l3 l4 l5 l6 M = some (o4, o5) → Ex G (d + 1) yX8_greatestPart cX8_greatestPart 7 (some .int) 62 [.null, .null, .null, .null, .int o4, .int o5, .null] [] M res → Ex G (d + 1) yX8_greatestPart cX8_greatestPart 7 (some .int) 9 [.ref l0, .int l1, .int l2, .int l3, .int l4, .int l5, .int l6] [] M res := by
  intro n
  induction n with
  | zero =>
    intro l0 l1 l2 l3 l4 l5 l6 M hl0 o4 o5 res h K
    simp [L_X8_greatestPart_9] at h
  | succ n ih =>
    intro l0 l1 l2 l3 l4 l5 l6 M hl0 o4 o5 res h K
    simp only [L_X8_greatestPart_9] at h
    refine x_iload (pc := 9) dX8_greatestPart_9 rfl ?_
    refine x_aload_n (pc := 11) dX8_greatestPart_11 rfl rfl hl0 ?_
    obtain ⟨v1, e2, h⟩ := ob h
    refine y_getR (pc := 12) dX8_greatestPart_12 zf_X8_19 e2 ?_
    obtain ⟨v3, e4, h⟩ := ob h
    refine y_getI (pc := 15) dX8_greatestPart_15 zf_X8_128 e4 (by decide) ?_
    refine x_icmp_ge (pc := 18) dX8_greatestPart_18 (t := 62) rfl (fun c5 => ?_) (fun c5 => ?_)
    · rw [if_pos c5] at h
      obtain ⟨rfl, rfl⟩ := s2 h
      refine ex_weak (Ls2 := [.null, .null, .null, .null, .int l4, .int l5, .null]) ⟨Or.inl rfl, Or.inl rfl, Or.inl rfl, Or.inl rfl, Or.inr rfl, Or.inr rfl, Or.inl rfl, trivial⟩ ?_
      exact K
    · rw [if_neg c5] at h
      refine x_iload_n (pc := 21) dX8_greatestPart_21 rfl rfl ?_
      refine x_iload (pc := 22) dX8_greatestPart_22 rfl ?_
      refine x_ishr (pc := 24) dX8_greatestPart_24 ?_
      refine x_iconst (pc := 25) dX8_greatestPart_25 (v := 1) rfl ?_
      refine x_iand (pc := 26) dX8_greatestPart_26 ?_
      refine x_if_ne (pc := 27) dX8_greatestPart_27 (t := 33) rfl (fun c6 => ?_) (fun c6 => ?_)
      · rw [if_neg c6] at h
        refine x_aload_n (pc := 33) dX8_greatestPart_33 rfl rfl hl0 ?_
        obtain ⟨v7, e8, h⟩ := ob h
        refine y_getR (pc := 34) dX8_greatestPart_34 zf_X8_19 e8 ?_
        refine x_iload (pc := 37) dX8_greatestPart_37 rfl ?_
        refine x_iload_n (pc := 39) dX8_greatestPart_39 rfl rfl ?_
        refine x_iload_n (pc := 40) dX8_greatestPart_40 rfl rfl ?_
        obtain ⟨g12, h⟩ := bt h
        obtain ⟨r9, e10, h⟩ := ob h
        refine x_callV (av := [.int l6, .int l2, .int l3]) (st := []) (pc := 41) dX8_greatestPart_41 (E_X7_wouldHaveSaid (d := d) e10) rfl (Nat.le_of_ble_eq_true rfl) zc_X7_wouldHaveSaid rfl zm_X8_358 zi_X7_wouldHaveSaid zs_X7_wouldHaveSaid (zac_ok g12) (by decide) rfl rfl (zst_ok rfl (Nat.le_of_ble_eq_true rfl)) rfl ?_
        refine x_if_eq (pc := 44) dX8_greatestPart_44 (t := 53) rfl (fun c11 => ?_) (fun c11 => ?_)
        · rw [if_pos c11] at h
          refine x_iinc (pc := 53) dX8_greatestPart_53 rfl rfl (by decide) rfl ?_
          refine x_iinc (pc := 56) dX8_greatestPart_56 rfl rfl (by decide) rfl ?_
          refine x_goto (pc := 59) dX8_greatestPart_59 (t := 9) rfl ?_
          refine ex_weak (Ls2 := [.ref l0, .int l1, .int l2, .int l3, .int l4, .int (l5 + 1), .int (l6 + 1)]) ⟨Or.inr rfl, Or.inr rfl, Or.inr rfl, Or.inr rfl, Or.inr rfl, Or.inr rfl, Or.inr rfl, trivial⟩ ?_
          exact ih _ _ _ _ _ _ _ _ hl0 _ _ h K
        · rw [if_neg c11] at h
          refine x_iinc (pc := 47) dX8_greatestPart_47 rfl rfl (by decide) rfl ?_
          refine x_goto (pc := 50) dX8_greatestPart_50 (t := 56) rfl ?_
          refine x_iinc (pc := 56) dX8_greatestPart_56 rfl rfl (by decide) rfl ?_
          refine x_goto (pc := 59) dX8_greatestPart_59 (t := 9) rfl ?_
          refine ex_weak (Ls2 := [.ref l0, .int l1, .int l2, .int l3, .int (l4 + 1), .int l5, .int (l6 + 1)]) ⟨Or.inr rfl, Or.inr rfl, Or.inr rfl, Or.inr rfl, Or.inr rfl, Or.inr rfl, Or.inr rfl, trivial⟩ ?_
          exact ih _ _ _ _ _ _ _ _ hl0 _ _ h K
      · rw [if_pos c6] at h
        refine x_goto (pc := 30) dX8_greatestPart_30 (t := 56) rfl ?_
        refine x_iinc (pc := 56) dX8_greatestPart_56 rfl rfl (by decide) rfl ?_
        refine x_goto (pc := 59) dX8_greatestPart_59 (t := 9) rfl ?_
        refine ex_weak (Ls2 := [.ref l0, .int l1, .int l2, .int l3, .int l4, .int l5, .int (l6 + 1)]) ⟨Or.inr rfl, Or.inr rfl, Or.inr rfl, Or.inr rfl, Or.inr rfl, Or.inr rfl, Or.inr rfl, trivial⟩ ?_
        exact ih _ _ _ _ _ _ _ _ hl0 _ _ h K
theorem E_X8_greatestPart {G : zG} {d : Nat} {l0 : Nat} {l1 : Int32} {l2 : Int32} {l3 : Int32} {M : zM} {r : Int32} (h : f_X8_greatestPart l0 l1 l2 l3 M = some r) : Ex G (d + 1) yX8_greatestPart cX8_greatestPart 7 (some .int) 0 (zent0 [.ref l0, .int l1, .int l2, .int l3] 7) [] M (some (.int r), M) := by
  unfold f_X8_greatestPart at h
  obtain ⟨zz0, h⟩ := bt h
  have hl0 := bz zz0
  show Ex _ _ _ _ _ _ 0 [.ref l0, .int l1, .int l2, .int l3, .null, .null, .null] [] _ _
  refine x_iconst (pc := 0) dX8_greatestPart_0 (v := 0) rfl ?_
  refine x_istore (pc := 1) dX8_greatestPart_1 (by decide) rfl ?_
  refine x_iconst (pc := 3) dX8_greatestPart_3 (v := 0) rfl ?_
  refine x_istore (pc := 4) dX8_greatestPart_4 (by decide) rfl ?_
  refine x_iconst (pc := 6) dX8_greatestPart_6 (v := 0) rfl ?_
  refine x_istore (pc := 7) dX8_greatestPart_7 (by decide) rfl ?_
  obtain ⟨v2, v3, e1, h⟩ := ob2 h
  refine ex_weak (Ls2 := [.ref l0, .int l1, .int l2, .int l3, .int 0, .int 0, .int 0]) ⟨Or.inr rfl, Or.inr rfl, Or.inr rfl, Or.inr rfl, Or.inr rfl, Or.inr rfl, Or.inr rfl, trivial⟩ ?_
  refine LX_X8_greatestPart_9 zN _ _ _ _ _ _ _ _ hl0 _ _ e1 ?_
  refine x_iload (pc := 62) dX8_greatestPart_62 rfl ?_
  refine x_iload (pc := 64) dX8_greatestPart_64 rfl ?_
  refine y_mmax (pc := 66) dX8_greatestPart_66 zm_X8_296 zs_J9_max_7cf53 rfl (Nat.le_of_ble_eq_true rfl) ?_
  obtain rfl := s1 h
  exact y_retI (pc := 69) dX8_greatestPart_69 rfl
def L_X8_ask_37 : Nat → Nat → Int32 → Int32 → Int32 → Int32 → Int32 → zM → Option (Int32 × Int32)
  | 0, _, _, _, _, _, _, _ => none
  | n + 1, l0, l1, l2, l3, l4, l5, M => (oR M l0 8 13 1).bind fun v14 => (oI M v14 7 15 0).bind fun v16 => if v16 ≤ l5 then (some (l2, l3)) else (bif zac M l0 8 13 then ((f_X8_greatestPart l0 l1 l4 l5 M).bind fun r19 => if l2 ≤ r19 then (L_X8_ask_37 n l0 l1 l2 l3 l4 (l5 + 1) M) else (L_X8_ask_37 n l0 l1 r19 ((100 * l4) + l5) l4 (l5 + 1) M)) else none)
def L_X8_ask_22 : Nat → Nat → Int32 → Int32 → Int32 → Int32 → zM → Option (Int32)
  | 0, _, _, _, _, _, _ => none
  | n + 1, l0, l1, l2, l3, l4, M => (oR M l0 8 13 1).bind fun v9 => (oI M v9 7 15 1).bind fun v11 => if v11 ≤ l4 then (some l3) else (b2 (L_X8_ask_37 zN l0 l1 l2 l3 l4 0 M) fun v15 v16 => L_X8_ask_22 n l0 l1 v15 v16 (l4 + 1) M)
def f_X8_ask (l0 : Nat) (M : zM) : Option (Int32) := bif Nat.ble 1 l0 then ((oR M l0 8 13 8).bind fun v1 => (oR M l0 8 13 1).bind fun v3 => bif zac M v1 2 4 then ((f_X2_fitting v1 v3 M).bind fun r5 => (f_J6_bitCount_0f7a4 r5 M).bind fun r7 => (L_X8_ask_22 zN l0 r5 r7 (-1) 0 M).bind fun v10 => some v10) else none) else none
theorem LX_X8_ask_37 {G : zG} {d : Nat} : ∀ (n : Nat) (l0 : Nat) (l1 : Int32) (l2 : Int32) (l3 : Int32) (l4 : Int32) (l5 : Int32) (M : zM) (hl0 : l0 ≠ 0) (o2 : Int32) (o3 : Int32) {res : Option Value × zM}, L_X8_ask_37 n l0 l1 l2 l3 l4 l5 M = some (o2, o3) → Ex G (d + 3) yX8_ask cX8_ask 7 (some .int) 84 [.ref l0, .int l1, .int o2, .int o3, .int l4, .null, .null] [] M res → Ex G (d + 3) yX8_ask cX8_ask 7 (some .int) 37 [.ref l0, .int l1, .int l2, .int l3, .int l4, .int l5, .null] [] M res := by
  intro n
  induction n with
  | zero =>
    intro l0 l1 l2 l3 l4 l5 M hl0 o2 o3 res h K
    simp [L_X8_ask_37] at h
  | succ n ih =>
    intro l0 l1 l2 l3 l4 l5 M hl0 o2 o3 res h K
    simp only [L_X8_ask_37] at h
    refine x_iload (pc := 37) dX8_ask_37 rfl ?_
    refine x_aload_n (pc := 39) dX8_ask_39 rfl rfl hl0 ?_
    obtain ⟨v14, e15, h⟩ := ob h
    refine y_getR (pc := 40) dX8_ask_40 zf_X8_19 e15 ?_
    obtain ⟨v16, e17, h⟩ := ob h
    refine y_getI (pc := 43) dX8_ask_43 zf_X8_122 e17 (by decide) ?_
    refine x_icmp_ge (pc := 46) dX8_ask_46 (t := 84) rfl (fun c18 => ?_) (fun c18 => ?_)
    · rw [if_pos c18] at h
      obtain ⟨rfl, rfl⟩ := s2 h
      refine ex_weak (Ls2 := [.ref l0, .int l1, .int l2, .int l3, .int l4, .null, .null]) ⟨Or.inr rfl, Or.inr rfl, Or.inr rfl, Or.inr rfl, Or.inr rfl, Or.inl rfl, Or.inl rfl, trivial⟩ ?_
      exact K
    · rw [if_neg c18] at h
      refine x_aload_n (pc := 49) dX8_ask_49 rfl rfl hl0 ?_
      refine x_iload_n (pc := 50) dX8_ask_50 rfl rfl ?_
      refine x_iload (pc := 51) dX8_ask_51 rfl ?_
      refine x_iload (pc := 53) dX8_ask_53 rfl ?_
      obtain ⟨g22, h⟩ := bt h
      obtain ⟨r19, e20, h⟩ := ob h
      refine x_callV (av := [.int l1, .int l4, .int l5]) (st := []) (pc := 55) dX8_ask_55 (E_X8_greatestPart (d := d + 1) e20) rfl (Nat.le_of_ble_eq_true rfl) zc_X8_greatestPart rfl zm_X8_321 zi_X8_greatestPart zs_X8_greatestPart (zac_ok g22) (by decide) rfl rfl (zst_ok rfl (Nat.le_of_ble_eq_true rfl)) rfl ?_
      refine x_istore (pc := 58) dX8_ask_58 (by decide) rfl ?_
      refine x_iload (pc := 60) dX8_ask_60 rfl ?_
      refine x_iload_n (pc := 62) dX8_ask_62 rfl rfl ?_
      refine x_icmp_ge (pc := 63) dX8_ask_63 (t := 78) rfl (fun c21 => ?_) (fun c21 => ?_)
      · rw [if_pos c21] at h
        refine x_iinc (pc := 78) dX8_ask_78 rfl rfl (by decide) rfl ?_
        refine x_goto (pc := 81) dX8_ask_81 (t := 37) rfl ?_
        refine ex_weak (Ls2 := [.ref l0, .int l1, .int l2, .int l3, .int l4, .int (l5 + 1), .null]) ⟨Or.inr rfl, Or.inr rfl, Or.inr rfl, Or.inr rfl, Or.inr rfl, Or.inr rfl, Or.inl rfl, trivial⟩ ?_
        exact ih _ _ _ _ _ _ _ hl0 _ _ h K
      · rw [if_neg c21] at h
        refine x_iload (pc := 66) dX8_ask_66 rfl ?_
        refine x_istore_n (pc := 68) dX8_ask_68 rfl (by decide) rfl ?_
        refine x_bipush (pc := 69) dX8_ask_69 (v := 100) (by decide) ?_
        refine x_iload (pc := 71) dX8_ask_71 rfl ?_
        refine x_imul (pc := 73) dX8_ask_73 ?_
        refine x_iload (pc := 74) dX8_ask_74 rfl ?_
        refine x_iadd (pc := 76) dX8_ask_76 ?_
        refine x_istore_n (pc := 77) dX8_ask_77 rfl (by decide) rfl ?_
        refine x_iinc (pc := 78) dX8_ask_78 rfl rfl (by decide) rfl ?_
        refine x_goto (pc := 81) dX8_ask_81 (t := 37) rfl ?_
        refine ex_weak (Ls2 := [.ref l0, .int l1, .int r19, .int ((100 * l4) + l5), .int l4, .int (l5 + 1), .null]) ⟨Or.inr rfl, Or.inr rfl, Or.inr rfl, Or.inr rfl, Or.inr rfl, Or.inr rfl, Or.inl rfl, trivial⟩ ?_
        exact ih _ _ _ _ _ _ _ hl0 _ _ h K
theorem LX_X8_ask_22 {G : zG} {d : Nat} : ∀ (n : Nat) (l0 : Nat) (l1 : Int32) (l2 : Int32) (l3 : Int32) (l4 : Int32) (M : zM) (hl0 : l0 ≠ 0) (o3 : Int32) {res : Option Value × zM}, L_X8_ask_22 n l0 l1 l2 l3 l4 M = some o3 → Ex G (d + 3) yX8_ask cX8_ask 7 (some .int) 90 [.null, .null, .null, .int o3, .null, .null, .null] [] M res → Ex G (d + 3) yX8_ask cX8_ask 7 (some .int) 22 [.ref l0, .int l1, .int l2, .int l3, .int l4, .null, .null] [] M res := by
  intro n
  induction n with
  | zero =>
    intro l0 l1 l2 l3 l4 M hl0 o3 res h K
    simp [L_X8_ask_22] at h
  | succ n ih =>
    intro l0 l1 l2 l3 l4 M hl0 o3 res h K
    simp only [L_X8_ask_22] at h
    refine x_iload (pc := 22) dX8_ask_22 rfl ?_
    refine x_aload_n (pc := 24) dX8_ask_24 rfl rfl hl0 ?_
    obtain ⟨v9, e10, h⟩ := ob h
    refine y_getR (pc := 25) dX8_ask_25 zf_X8_19 e10 ?_
    obtain ⟨v11, e12, h⟩ := ob h
    refine y_getI (pc := 28) dX8_ask_28 zf_X8_116 e12 (by decide) ?_
    refine x_icmp_ge (pc := 31) dX8_ask_31 (t := 90) rfl (fun c13 => ?_) (fun c13 => ?_)
    · rw [if_pos c13] at h
      obtain rfl := s1 h
      refine ex_weak (Ls2 := [.null, .null, .null, .int l3, .null, .null, .null]) ⟨Or.inl rfl, Or.inl rfl, Or.inl rfl, Or.inr rfl, Or.inl rfl, Or.inl rfl, Or.inl rfl, trivial⟩ ?_
      exact K
    · rw [if_neg c13] at h
      refine x_iconst (pc := 34) dX8_ask_34 (v := 0) rfl ?_
      refine x_istore (pc := 35) dX8_ask_35 (by decide) rfl ?_
      obtain ⟨v15, v16, e14, h⟩ := ob2 h
      refine ex_weak (Ls2 := [.ref l0, .int l1, .int l2, .int l3, .int l4, .int 0, .null]) ⟨Or.inr rfl, Or.inr rfl, Or.inr rfl, Or.inr rfl, Or.inr rfl, Or.inr rfl, Or.inl rfl, trivial⟩ ?_
      refine LX_X8_ask_37 zN _ _ _ _ _ _ _ hl0 _ _ e14 ?_
      refine x_iinc (pc := 84) dX8_ask_84 rfl rfl (by decide) rfl ?_
      refine x_goto (pc := 87) dX8_ask_87 (t := 22) rfl ?_
      refine ex_weak (Ls2 := [.ref l0, .int l1, .int v15, .int v16, .int (l4 + 1), .null, .null]) ⟨Or.inr rfl, Or.inr rfl, Or.inr rfl, Or.inr rfl, Or.inr rfl, Or.inl rfl, Or.inl rfl, trivial⟩ ?_
      exact ih _ _ _ _ _ _ hl0 _ h K
theorem E_X8_ask {G : zG} {d : Nat} {l0 : Nat} {M : zM} {r : Int32} (h : f_X8_ask l0 M = some r) : Ex G (d + 3) yX8_ask cX8_ask 7 (some .int) 0 (zent0 [.ref l0] 7) [] M (some (.int r), M) := by
  unfold f_X8_ask at h
  obtain ⟨zz0, h⟩ := bt h
  have hl0 := bz zz0
  show Ex _ _ _ _ _ _ 0 [.ref l0, .null, .null, .null, .null, .null, .null] [] _ _
  refine x_aload_n (pc := 0) dX8_ask_0 rfl rfl hl0 ?_
  obtain ⟨v1, e2, h⟩ := ob h
  refine y_getR (pc := 1) dX8_ask_1 zf_X8_59 e2 ?_
  refine x_aload_n (pc := 4) dX8_ask_4 rfl rfl hl0 ?_
  obtain ⟨v3, e4, h⟩ := ob h
  refine y_getR (pc := 5) dX8_ask_5 zf_X8_19 e4 ?_
  obtain ⟨g11, h⟩ := bt h
  obtain ⟨r5, e6, h⟩ := ob h
  refine x_callV (av := [.ref v3]) (st := []) (pc := 8) dX8_ask_8 (E_X2_fitting (d := d) e6) rfl (Nat.le_of_ble_eq_true rfl) zc_X2_fitting rfl zm_X8_312 zi_X2_fitting zs_X2_fitting (zac_ok g11) (by decide) rfl rfl (zst_ok rfl (Nat.le_of_ble_eq_true rfl)) rfl ?_
  refine x_istore_n (pc := 11) dX8_ask_11 rfl (by decide) rfl ?_
  refine x_iload_n (pc := 12) dX8_ask_12 rfl rfl ?_
  obtain ⟨r7, e8, h⟩ := ob h
  refine x_callS (av := [.int r5]) (st := []) (pc := 13) dX8_ask_13 (E_J6_bitCount_0f7a4 (d := d + 2) e8) rfl (Nat.le_of_ble_eq_true rfl) zc_J6_bitCount_0f7a4 rfl zm_X8_316 zs_J6_bitCount_0f7a4 rfl (zst_ok rfl (Nat.le_of_ble_eq_true rfl)) rfl ?_
  refine x_istore_n (pc := 16) dX8_ask_16 rfl (by decide) rfl ?_
  refine x_iconst (pc := 17) dX8_ask_17 (v := (-1)) rfl ?_
  refine x_istore_n (pc := 18) dX8_ask_18 rfl (by decide) rfl ?_
  refine x_iconst (pc := 19) dX8_ask_19 (v := 0) rfl ?_
  refine x_istore (pc := 20) dX8_ask_20 (by decide) rfl ?_
  obtain ⟨v10, e9, h⟩ := ob h
  refine ex_weak (Ls2 := [.ref l0, .int r5, .int r7, .int (-1), .int 0, .null, .null]) ⟨Or.inr rfl, Or.inr rfl, Or.inr rfl, Or.inr rfl, Or.inr rfl, Or.inl rfl, Or.inl rfl, trivial⟩ ?_
  refine LX_X8_ask_22 zN _ _ _ _ _ _ hl0 _ e9 ?_
  refine x_iload_n (pc := 90) dX8_ask_90 rfl rfl ?_
  obtain rfl := s1 h
  exact y_retI (pc := 91) dX8_ask_91 rfl
def f_X8_write (l0 : Nat) (l1 : Int32) (l2 : Int32) (M : zM) : Option (Int32 × zM) := bif Nat.ble 1 l0 then (bif zac M l0 8 13 then ((f_X8_isWord l0 l1 M).bind fun r1 => if r1 = 0 then (some ((-1000000001), M)) else (if l2 < 0 then (some ((-1000000002), M)) else (if l2 ≤ 99 then ((oR M l0 8 13 9).bind fun v6 => (oI M v6 0 3 2).bind fun v8 => if v8 < 15 then ((oR M l0 8 13 9).bind fun v11 => bif zac M v11 0 3 then ((f_X0_enter v11 l1 l2 M).bind fun M13 => (oR M13 l0 8 13 9).bind fun v15 => (oI M13 v15 0 3 2).bind fun v17 => some (v17, M13)) else none) else (some ((-1000000004), M))) else (some ((-1000000002), M))))) else none) else none
theorem E_X8_write {G : zG} {d : Nat} {l0 : Nat} {l1 : Int32} {l2 : Int32} {M MR : zM} {r : Int32} (h : f_X8_write l0 l1 l2 M = some (r, MR)) : Ex G (d + 1) yX8_write cX8_write 3 (some .int) 0 (zent0 [.ref l0, .int l1, .int l2] 3) [] M (some (.int r), MR) := by
  unfold f_X8_write at h
  obtain ⟨zz0, h⟩ := bt h
  have hl0 := bz zz0
  show Ex _ _ _ _ _ _ 0 [.ref l0, .int l1, .int l2] [] _ _
  refine x_aload_n (pc := 0) dX8_write_0 rfl rfl hl0 ?_
  refine x_iload_n (pc := 1) dX8_write_1 rfl rfl ?_
  obtain ⟨g20, h⟩ := bt h
  obtain ⟨r1, e2, h⟩ := ob h
  refine x_callV (av := [.int l1]) (st := []) (pc := 2) dX8_write_2 (E_X8_isWord (d := d) e2) rfl (Nat.le_of_ble_eq_true rfl) zc_X8_isWord rfl zm_X8_159 zi_X8_isWord zs_X8_isWord (zac_ok g20) (by decide) rfl rfl (zst_ok rfl (Nat.le_of_ble_eq_true rfl)) rfl ?_
  refine x_if_ne (pc := 5) dX8_write_5 (t := 11) rfl (fun c3 => ?_) (fun c3 => ?_)
  · rw [if_neg c3] at h
    refine x_iload_n (pc := 11) dX8_write_11 rfl rfl ?_
    refine x_if_lt (pc := 12) dX8_write_12 (t := 21) rfl (fun c4 => ?_) (fun c4 => ?_)
    · rw [if_pos c4] at h
      refine x_ldc (pc := 21) dX8_write_21 zk_X8_78 ?_
      obtain ⟨rfl, rfl⟩ := s2 h
      exact y_retI (pc := 23) dX8_write_23 rfl
    · rw [if_neg c4] at h
      refine x_iload_n (pc := 15) dX8_write_15 rfl rfl ?_
      refine x_bipush (pc := 16) dX8_write_16 (v := 99) (by decide) ?_
      refine x_icmp_le (pc := 18) dX8_write_18 (t := 24) rfl (fun c5 => ?_) (fun c5 => ?_)
      · rw [if_pos c5] at h
        refine x_aload_n (pc := 24) dX8_write_24 rfl rfl hl0 ?_
        obtain ⟨v6, e7, h⟩ := ob h
        refine y_getR (pc := 25) dX8_write_25 zf_X8_66 e7 ?_
        obtain ⟨v8, e9, h⟩ := ob h
        refine y_getI (pc := 28) dX8_write_28 zf_X8_157 e9 (by decide) ?_
        refine x_bipush (pc := 31) dX8_write_31 (v := 15) (by decide) ?_
        refine x_icmp_lt (pc := 33) dX8_write_33 (t := 39) rfl (fun c10 => ?_) (fun c10 => ?_)
        · rw [if_pos c10] at h
          refine x_aload_n (pc := 39) dX8_write_39 rfl rfl hl0 ?_
          obtain ⟨v11, e12, h⟩ := ob h
          refine y_getR (pc := 40) dX8_write_40 zf_X8_66 e12 ?_
          refine x_iload_n (pc := 43) dX8_write_43 rfl rfl ?_
          refine x_iload_n (pc := 44) dX8_write_44 rfl rfl ?_
          obtain ⟨g19, h⟩ := bt h
          obtain ⟨M13, e14, h⟩ := ob h
          refine x_callV (av := [.int l1, .int l2]) (st := []) (pc := 45) dX8_write_45 (E_X0_enter (d := d) e14) rfl (Nat.le_of_ble_eq_true rfl) zc_X0_enter rfl zm_X8_325 zi_X0_enter zs_X0_enter (zac_ok g19) (by decide) rfl rfl (zst_ok rfl (Nat.le_of_ble_eq_true rfl)) rfl ?_
          refine x_aload_n (pc := 48) dX8_write_48 rfl rfl hl0 ?_
          obtain ⟨v15, e16, h⟩ := ob h
          refine y_getR (pc := 49) dX8_write_49 zf_X8_66 e16 ?_
          obtain ⟨v17, e18, h⟩ := ob h
          refine y_getI (pc := 52) dX8_write_52 zf_X8_157 e18 (by decide) ?_
          obtain ⟨rfl, rfl⟩ := s2 h
          exact y_retI (pc := 55) dX8_write_55 rfl
        · rw [if_neg c10] at h
          refine x_ldc (pc := 36) dX8_write_36 zk_X8_83 ?_
          obtain ⟨rfl, rfl⟩ := s2 h
          exact y_retI (pc := 38) dX8_write_38 rfl
      · rw [if_neg c5] at h
        refine x_ldc (pc := 21) dX8_write_21 zk_X8_78 ?_
        obtain ⟨rfl, rfl⟩ := s2 h
        exact y_retI (pc := 23) dX8_write_23 rfl
  · rw [if_pos c3] at h
    refine x_ldc (pc := 8) dX8_write_8 zk_X8_163 ?_
    obtain ⟨rfl, rfl⟩ := s2 h
    exact y_retI (pc := 10) dX8_write_10 rfl
def f_X8_tear (l0 : Nat) (M : zM) : Option (Int32 × zM) := bif Nat.ble 1 l0 then ((oR M l0 8 13 8).bind fun v1 => (oI M v1 2 4 3).bind fun v3 => (oR M l0 8 13 9).bind fun v5 => (oI M v5 0 3 2).bind fun v7 => (oR M l0 8 13 8).bind fun v9 => bif zac M v9 2 4 then ((f_X2_clear v9 M).bind fun M11 => (oR M11 l0 8 13 9).bind fun v13 => bif zac M11 v13 0 3 then ((f_X0_clear v13 M11).bind fun M15 => some (v3 + v7, M15)) else none) else none) else none
theorem E_X8_tear {G : zG} {d : Nat} {l0 : Nat} {M MR : zM} {r : Int32} (h : f_X8_tear l0 M = some (r, MR)) : Ex G (d + 1) yX8_tear cX8_tear 2 (some .int) 0 (zent0 [.ref l0] 2) [] M (some (.int r), MR) := by
  unfold f_X8_tear at h
  obtain ⟨zz0, h⟩ := bt h
  have hl0 := bz zz0
  show Ex _ _ _ _ _ _ 0 [.ref l0, .null] [] _ _
  refine x_aload_n (pc := 0) dX8_tear_0 rfl rfl hl0 ?_
  obtain ⟨v1, e2, h⟩ := ob h
  refine y_getR (pc := 1) dX8_tear_1 zf_X8_59 e2 ?_
  obtain ⟨v3, e4, h⟩ := ob h
  refine y_getI (pc := 4) dX8_tear_4 zf_X8_154 e4 (by decide) ?_
  refine x_aload_n (pc := 7) dX8_tear_7 rfl rfl hl0 ?_
  obtain ⟨v5, e6, h⟩ := ob h
  refine y_getR (pc := 8) dX8_tear_8 zf_X8_66 e6 ?_
  obtain ⟨v7, e8, h⟩ := ob h
  refine y_getI (pc := 11) dX8_tear_11 zf_X8_157 e8 (by decide) ?_
  refine x_iadd (pc := 14) dX8_tear_14 ?_
  refine x_istore_n (pc := 15) dX8_tear_15 rfl (by decide) rfl ?_
  refine x_aload_n (pc := 16) dX8_tear_16 rfl rfl hl0 ?_
  obtain ⟨v9, e10, h⟩ := ob h
  refine y_getR (pc := 17) dX8_tear_17 zf_X8_59 e10 ?_
  obtain ⟨g18, h⟩ := bt h
  obtain ⟨M11, e12, h⟩ := ob h
  refine x_callV (av := []) (st := []) (pc := 20) dX8_tear_20 (E_X2_clear (d := d) e12) rfl (Nat.le_of_ble_eq_true rfl) zc_X2_clear rfl zm_X8_108 zi_X2_clear zs_X2_clear (zac_ok g18) (by decide) rfl rfl (zst_ok rfl (Nat.le_of_ble_eq_true rfl)) rfl ?_
  refine x_aload_n (pc := 23) dX8_tear_23 rfl rfl hl0 ?_
  obtain ⟨v13, e14, h⟩ := ob h
  refine y_getR (pc := 24) dX8_tear_24 zf_X8_66 e14 ?_
  obtain ⟨g17, h⟩ := bt h
  obtain ⟨M15, e16, h⟩ := ob h
  refine x_callV (av := []) (st := []) (pc := 27) dX8_tear_27 (E_X0_clear (d := d) e16) rfl (Nat.le_of_ble_eq_true rfl) zc_X0_clear rfl zm_X8_111 zi_X0_clear zs_X0_clear (zac_ok g17) (by decide) rfl rfl (zst_ok rfl (Nat.le_of_ble_eq_true rfl)) rfl ?_
  refine x_iload_n (pc := 30) dX8_tear_30 rfl rfl ?_
  obtain ⟨rfl, rfl⟩ := s2 h
  exact y_retI (pc := 31) dX8_tear_31 rfl
def f_X8_judge (l0 : Nat) (M : zM) : Option (Int32) := bif Nat.ble 1 l0 then ((oR M l0 8 13 9).bind fun v1 => (oR M l0 8 13 3).bind fun v3 => bif zac M v1 0 3 then ((f_X0_firstWrong v1 v3 M).bind fun r5 => some r5) else none) else none
theorem E_X8_judge {G : zG} {d : Nat} {l0 : Nat} {M : zM} {r : Int32} (h : f_X8_judge l0 M = some r) : Ex G (d + 1) yX8_judge cX8_judge 1 (some .int) 0 (zent0 [.ref l0] 1) [] M (some (.int r), M) := by
  unfold f_X8_judge at h
  obtain ⟨zz0, h⟩ := bt h
  have hl0 := bz zz0
  show Ex _ _ _ _ _ _ 0 [.ref l0] [] _ _
  refine x_aload_n (pc := 0) dX8_judge_0 rfl rfl hl0 ?_
  obtain ⟨v1, e2, h⟩ := ob h
  refine y_getR (pc := 1) dX8_judge_1 zf_X8_66 e2 ?_
  refine x_aload_n (pc := 4) dX8_judge_4 rfl rfl hl0 ?_
  obtain ⟨v3, e4, h⟩ := ob h
  refine y_getR (pc := 5) dX8_judge_5 zf_X8_29 e4 ?_
  obtain ⟨g7, h⟩ := bt h
  obtain ⟨r5, e6, h⟩ := ob h
  refine x_callV (av := [.ref v3]) (st := []) (pc := 8) dX8_judge_8 (E_X0_firstWrong (d := d) e6) rfl (Nat.le_of_ble_eq_true rfl) zc_X0_firstWrong rfl zm_X8_328 zi_X0_firstWrong zs_X0_firstWrong (zac_ok g7) (by decide) rfl rfl (zst_ok rfl (Nat.le_of_ble_eq_true rfl)) rfl ?_
  obtain rfl := s1 h
  exact y_retI (pc := 11) dX8_judge_11 rfl
def f_X8_seed (l0 : Nat) (l1 : Int32) (M : zM) : Option (Int32 × zM) := bif Nat.ble 1 l0 then (if 0 ≤ l1 then ((oI M l0 8 13 12).bind fun v2 => (pI M l0 8 13 12 l1).bind fun M4 => some (v2, M4)) else (some ((-1000000002), M))) else none
theorem E_X8_seed {G : zG} {d : Nat} {l0 : Nat} {l1 : Int32} {M MR : zM} {r : Int32} (h : f_X8_seed l0 l1 M = some (r, MR)) : Ex G d yX8_seed cX8_seed 3 (some .int) 0 (zent0 [.ref l0, .int l1] 3) [] M (some (.int r), MR) := by
  unfold f_X8_seed at h
  obtain ⟨zz0, h⟩ := bt h
  have hl0 := bz zz0
  show Ex _ _ _ _ _ _ 0 [.ref l0, .int l1, .null] [] _ _
  refine x_iload_n (pc := 0) dX8_seed_0 rfl rfl ?_
  refine x_if_ge (pc := 1) dX8_seed_1 (t := 7) rfl (fun c1 => ?_) (fun c1 => ?_)
  · rw [if_pos c1] at h
    refine x_aload_n (pc := 7) dX8_seed_7 rfl rfl hl0 ?_
    obtain ⟨v2, e3, h⟩ := ob h
    refine y_getI (pc := 8) dX8_seed_8 zf_X8_332 e3 (by decide) ?_
    refine x_istore_n (pc := 11) dX8_seed_11 rfl (by decide) rfl ?_
    refine x_aload_n (pc := 12) dX8_seed_12 rfl rfl hl0 ?_
    refine x_iload_n (pc := 13) dX8_seed_13 rfl rfl ?_
    obtain ⟨M4, e5, h⟩ := ob h
    refine y_putI (pc := 14) dX8_seed_14 zf_X8_332 e5 ?_
    refine x_iload_n (pc := 17) dX8_seed_17 rfl rfl ?_
    obtain ⟨rfl, rfl⟩ := s2 h
    exact y_retI (pc := 18) dX8_seed_18 rfl
  · rw [if_neg c1] at h
    refine x_ldc (pc := 4) dX8_seed_4 zk_X8_78 ?_
    obtain ⟨rfl, rfl⟩ := s2 h
    exact y_retI (pc := 6) dX8_seed_6 rfl
def f_X8_keep (l0 : Nat) (l1 : Int32) (M : zM) : Option (Int32 × zM) := bif Nat.ble 1 l0 then (if l1 < 0 then (some ((-1000000001), M)) else (if l1 < 2 then ((oR M l0 8 13 6).bind fun v3 => (aQ M v3 12 l1).bind fun v5 => bif Nat.ble 1 v5 then ((oR M v5 1 3 0).bind fun v8 => (oR M l0 8 13 3).bind fun v10 => bif zac M v8 5 9 then ((f_X5_copy v8 v10 M).bind fun M12 => (oI M12 l0 8 13 12).bind fun v14 => (pI M12 v5 1 3 1 v14).bind fun M16 => (pZ M16 v5 1 3 2 1).bind fun M18 => (oR M18 l0 8 13 5).bind fun v20 => bif zac M18 v20 3 3 then ((f_X3_forget v20 M18).bind fun M22 => some (1, M22)) else none) else none) else none) else (some ((-1000000001), M)))) else none
theorem E_X8_keep {G : zG} {d : Nat} {l0 : Nat} {l1 : Int32} {M MR : zM} {r : Int32} (h : f_X8_keep l0 l1 M = some (r, MR)) : Ex G (d + 1) yX8_keep cX8_keep 3 (some .int) 0 (zent0 [.ref l0, .int l1] 3) [] M (some (.int r), MR) := by
  unfold f_X8_keep at h
  obtain ⟨zz0, h⟩ := bt h
  have hl0 := bz zz0
  show Ex _ _ _ _ _ _ 0 [.ref l0, .int l1, .null] [] _ _
  refine x_iload_n (pc := 0) dX8_keep_0 rfl rfl ?_
  refine x_if_lt (pc := 1) dX8_keep_1 (t := 9) rfl (fun c1 => ?_) (fun c1 => ?_)
  · rw [if_pos c1] at h
    refine x_ldc (pc := 9) dX8_keep_9 zk_X8_163 ?_
    obtain ⟨rfl, rfl⟩ := s2 h
    exact y_retI (pc := 11) dX8_keep_11 rfl
  · rw [if_neg c1] at h
    refine x_iload_n (pc := 4) dX8_keep_4 rfl rfl ?_
    refine x_iconst (pc := 5) dX8_keep_5 (v := 2) rfl ?_
    refine x_icmp_lt (pc := 6) dX8_keep_6 (t := 12) rfl (fun c2 => ?_) (fun c2 => ?_)
    · rw [if_pos c2] at h
      refine x_aload_n (pc := 12) dX8_keep_12 rfl rfl hl0 ?_
      obtain ⟨v3, e4, h⟩ := ob h
      refine y_getR (pc := 13) dX8_keep_13 zf_X8_45 e4 ?_
      refine x_iload_n (pc := 16) dX8_keep_16 rfl rfl ?_
      obtain ⟨v5, e6, h⟩ := ob h
      refine y_aaldM (pc := 17) dX8_keep_17 e6 ?_
      obtain ⟨z7, h⟩ := bt h
      refine x_astore_n (pc := 18) dX8_keep_18 rfl (by decide) rfl (bz z7) ?_
      refine x_aload_n (pc := 19) dX8_keep_19 rfl rfl (bz z7) ?_
      obtain ⟨v8, e9, h⟩ := ob h
      refine y_getR (pc := 20) dX8_keep_20 zf_X8_335 e9 ?_
      refine x_aload_n (pc := 23) dX8_keep_23 rfl rfl hl0 ?_
      obtain ⟨v10, e11, h⟩ := ob h
      refine y_getR (pc := 24) dX8_keep_24 zf_X8_29 e11 ?_
      obtain ⟨g25, h⟩ := bt h
      obtain ⟨M12, e13, h⟩ := ob h
      refine x_callV (av := [.ref v10]) (st := []) (pc := 27) dX8_keep_27 (E_X5_copy (d := d) e13) rfl (Nat.le_of_ble_eq_true rfl) zc_X5_copy rfl zm_X8_264 zi_X5_copy zs_X5_copy (zac_ok g25) (by decide) rfl rfl (zst_ok rfl (Nat.le_of_ble_eq_true rfl)) rfl ?_
      refine x_aload_n (pc := 30) dX8_keep_30 rfl rfl (bz z7) ?_
      refine x_aload_n (pc := 31) dX8_keep_31 rfl rfl hl0 ?_
      obtain ⟨v14, e15, h⟩ := ob h
      refine y_getI (pc := 32) dX8_keep_32 zf_X8_332 e15 (by decide) ?_
      obtain ⟨M16, e17, h⟩ := ob h
      refine y_putI (pc := 35) dX8_keep_35 zf_X8_338 e17 ?_
      refine x_aload_n (pc := 38) dX8_keep_38 rfl rfl (bz z7) ?_
      refine x_iconst (pc := 39) dX8_keep_39 (v := 1) rfl ?_
      obtain ⟨M18, e19, h⟩ := ob h
      refine y_putZ (pc := 40) dX8_keep_40 zf_X8_112 e19 ?_
      refine x_aload_n (pc := 43) dX8_keep_43 rfl rfl hl0 ?_
      obtain ⟨v20, e21, h⟩ := ob h
      refine y_getR (pc := 44) dX8_keep_44 zf_X8_39 e21 ?_
      obtain ⟨g24, h⟩ := bt h
      obtain ⟨M22, e23, h⟩ := ob h
      refine x_callV (av := []) (st := []) (pc := 47) dX8_keep_47 (E_X3_forget (d := d) e23) rfl (Nat.le_of_ble_eq_true rfl) zc_X3_forget rfl zm_X8_105 zi_X3_forget zs_X3_forget (zac_ok g24) (by decide) rfl rfl (zst_ok rfl (Nat.le_of_ble_eq_true rfl)) rfl ?_
      refine x_iconst (pc := 50) dX8_keep_50 (v := 1) rfl ?_
      obtain ⟨rfl, rfl⟩ := s2 h
      exact y_retI (pc := 51) dX8_keep_51 rfl
    · rw [if_neg c2] at h
      refine x_ldc (pc := 9) dX8_keep_9 zk_X8_163 ?_
      obtain ⟨rfl, rfl⟩ := s2 h
      exact y_retI (pc := 11) dX8_keep_11 rfl
def f_X8_goBack (l0 : Nat) (l1 : Int32) (M : zM) : Option (Int32 × zM) := bif Nat.ble 1 l0 then (if l1 < 0 then (some ((-1000000001), M)) else (if l1 < 2 then ((oR M l0 8 13 6).bind fun v3 => (aQ M v3 12 l1).bind fun v5 => bif Nat.ble 1 v5 then ((oI M v5 1 3 2).bind fun v8 => if v8 = 0 then (some ((-1000000003), M)) else ((oR M l0 8 13 3).bind fun v11 => (oR M v5 1 3 0).bind fun v13 => bif zac M v11 5 9 then ((f_X5_copy v11 v13 M).bind fun M15 => (oI M15 v5 1 3 1).bind fun v17 => (pI M15 l0 8 13 12 v17).bind fun M19 => (oR M19 l0 8 13 5).bind fun v21 => bif zac M19 v21 3 3 then ((f_X3_forget v21 M19).bind fun M23 => some (1, M23)) else none) else none)) else none) else (some ((-1000000001), M)))) else none
theorem E_X8_goBack {G : zG} {d : Nat} {l0 : Nat} {l1 : Int32} {M MR : zM} {r : Int32} (h : f_X8_goBack l0 l1 M = some (r, MR)) : Ex G (d + 1) yX8_goBack cX8_goBack 3 (some .int) 0 (zent0 [.ref l0, .int l1] 3) [] M (some (.int r), MR) := by
  unfold f_X8_goBack at h
  obtain ⟨zz0, h⟩ := bt h
  have hl0 := bz zz0
  show Ex _ _ _ _ _ _ 0 [.ref l0, .int l1, .null] [] _ _
  refine x_iload_n (pc := 0) dX8_goBack_0 rfl rfl ?_
  refine x_if_lt (pc := 1) dX8_goBack_1 (t := 9) rfl (fun c1 => ?_) (fun c1 => ?_)
  · rw [if_pos c1] at h
    refine x_ldc (pc := 9) dX8_goBack_9 zk_X8_163 ?_
    obtain ⟨rfl, rfl⟩ := s2 h
    exact y_retI (pc := 11) dX8_goBack_11 rfl
  · rw [if_neg c1] at h
    refine x_iload_n (pc := 4) dX8_goBack_4 rfl rfl ?_
    refine x_iconst (pc := 5) dX8_goBack_5 (v := 2) rfl ?_
    refine x_icmp_lt (pc := 6) dX8_goBack_6 (t := 12) rfl (fun c2 => ?_) (fun c2 => ?_)
    · rw [if_pos c2] at h
      refine x_aload_n (pc := 12) dX8_goBack_12 rfl rfl hl0 ?_
      obtain ⟨v3, e4, h⟩ := ob h
      refine y_getR (pc := 13) dX8_goBack_13 zf_X8_45 e4 ?_
      refine x_iload_n (pc := 16) dX8_goBack_16 rfl rfl ?_
      obtain ⟨v5, e6, h⟩ := ob h
      refine y_aaldM (pc := 17) dX8_goBack_17 e6 ?_
      obtain ⟨z7, h⟩ := bt h
      refine x_astore_n (pc := 18) dX8_goBack_18 rfl (by decide) rfl (bz z7) ?_
      refine x_aload_n (pc := 19) dX8_goBack_19 rfl rfl (bz z7) ?_
      obtain ⟨v8, e9, h⟩ := ob h
      refine y_getI (pc := 20) dX8_goBack_20 zf_X8_112 e9 (by decide) ?_
      refine x_if_ne (pc := 23) dX8_goBack_23 (t := 29) rfl (fun c10 => ?_) (fun c10 => ?_)
      · rw [if_neg c10] at h
        refine x_aload_n (pc := 29) dX8_goBack_29 rfl rfl hl0 ?_
        obtain ⟨v11, e12, h⟩ := ob h
        refine y_getR (pc := 30) dX8_goBack_30 zf_X8_29 e12 ?_
        refine x_aload_n (pc := 33) dX8_goBack_33 rfl rfl (bz z7) ?_
        obtain ⟨v13, e14, h⟩ := ob h
        refine y_getR (pc := 34) dX8_goBack_34 zf_X8_335 e14 ?_
        obtain ⟨g26, h⟩ := bt h
        obtain ⟨M15, e16, h⟩ := ob h
        refine x_callV (av := [.ref v13]) (st := []) (pc := 37) dX8_goBack_37 (E_X5_copy (d := d) e16) rfl (Nat.le_of_ble_eq_true rfl) zc_X5_copy rfl zm_X8_264 zi_X5_copy zs_X5_copy (zac_ok g26) (by decide) rfl rfl (zst_ok rfl (Nat.le_of_ble_eq_true rfl)) rfl ?_
        refine x_aload_n (pc := 40) dX8_goBack_40 rfl rfl hl0 ?_
        refine x_aload_n (pc := 41) dX8_goBack_41 rfl rfl (bz z7) ?_
        obtain ⟨v17, e18, h⟩ := ob h
        refine y_getI (pc := 42) dX8_goBack_42 zf_X8_338 e18 (by decide) ?_
        obtain ⟨M19, e20, h⟩ := ob h
        refine y_putI (pc := 45) dX8_goBack_45 zf_X8_332 e20 ?_
        refine x_aload_n (pc := 48) dX8_goBack_48 rfl rfl hl0 ?_
        obtain ⟨v21, e22, h⟩ := ob h
        refine y_getR (pc := 49) dX8_goBack_49 zf_X8_39 e22 ?_
        obtain ⟨g25, h⟩ := bt h
        obtain ⟨M23, e24, h⟩ := ob h
        refine x_callV (av := []) (st := []) (pc := 52) dX8_goBack_52 (E_X3_forget (d := d) e24) rfl (Nat.le_of_ble_eq_true rfl) zc_X3_forget rfl zm_X8_105 zi_X3_forget zs_X3_forget (zac_ok g25) (by decide) rfl rfl (zst_ok rfl (Nat.le_of_ble_eq_true rfl)) rfl ?_
        refine x_iconst (pc := 55) dX8_goBack_55 (v := 1) rfl ?_
        obtain ⟨rfl, rfl⟩ := s2 h
        exact y_retI (pc := 56) dX8_goBack_56 rfl
      · rw [if_pos c10] at h
        refine x_ldc (pc := 26) dX8_goBack_26 zk_X8_228 ?_
        obtain ⟨rfl, rfl⟩ := s2 h
        exact y_retI (pc := 28) dX8_goBack_28 rfl
    · rw [if_neg c2] at h
      refine x_ldc (pc := 9) dX8_goBack_9 zk_X8_163 ?_
      obtain ⟨rfl, rfl⟩ := s2 h
      exact y_retI (pc := 11) dX8_goBack_11 rfl
