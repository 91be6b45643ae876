section EX4
variable {G : zG} {d : Nat} {y : MethodName} {b : ByteArray} {nL : Nat} {ret : Option FieldType} {pc : Nat} {Ls st : List Value} {M : zM} {res : Option Value × zM}
theorem zlI_own {M : zM} {i n : Nat} (h : zAc M i 10 n) (hm : M.1 < 1000) : zlI M i = n := by
  obtain ⟨h1, h2, h3⟩ := h
  unfold zlI
  rw [if_neg (by omega), if_pos ⟨h1, h2, by rw [h3]⟩, h3]
theorem zwl_putA {G : zG} {M : zM} {i n k : Nat} {x : Int32} (ha : zAc M i 10 n) : (zwl G M).set (i - 1) (zad G i, .inl (G.2.2.1.1, n, .inl (upd (mI M i) k x))) = zwl G (wI M i (upd (mI M i) k x)) := by
  obtain ⟨h1, h2, hs⟩ := ha
  rw [← zwl_set (M := M) (M' := wI M i (upd (mI M i) k x)) rfl h1 h2 (fun j hj => zfv_oI hj), zent_i hs]
  rw [show mI (wI M i (upd (mI M i) k x)) i = upd (mI M i) k x from by show va_up _ _ _ _ = _; rw [va_up, if_pos rfl]]
theorem zwl_putAf {G : zG} {M : zM} {i n : Nat} {f : Nat → Int32} (ha : zAc M i 10 n) : (zwl G M).set (i - 1) (zad G i, .inl (G.2.2.1.1, n, .inl f)) = zwl G (wI M i f) := by
  obtain ⟨h1, h2, hs⟩ := ha
  rw [← zwl_set (M := M) (M' := wI M i f) rfl h1 h2 (fun j hj => zfv_oI hj), zent_i hs]
  rw [show mI (wI M i f) i = f from by show va_up _ _ _ _ = _; rw [va_up, if_pos rfl]]
theorem zwl_putZ {G : zG} {M : zM} {i n k : Nat} {x : Int32} (ha : zAc M i 11 n) : (zwl G M).set (i - 1) (zad G i, .inl (G.2.2.1.2.1, n, .inl (upd (mI M i) k x))) = zwl G (wI M i (upd (mI M i) k x)) := by
  obtain ⟨h1, h2, hs⟩ := ha
  rw [← zwl_set (M := M) (M' := wI M i (upd (mI M i) k x)) rfl h1 h2 (fun j hj => zfv_oI hj), zent_z hs]
  rw [show mI (wI M i (upd (mI M i) k x)) i = upd (mI M i) k x from by show va_up _ _ _ _ = _; rw [va_up, if_pos rfl]]
theorem zS_of {T0 S0 : Nat} {p : Program} {R : Room} {s : State} {m : MethodId} {args : Array Value} {meth : Method} {c : Code} (hC : zCx G d y b nL ret p R s m args meth c T0 S0) : zKS G s s.heap := hC.2.2.2.2.2.2.2.2.1
theorem x_iald {i : Nat} {j : Int32} (hd : decode b pc = .ok (.iaload, 1)) (hin : vp_in j (zlI M i)) (kk : Ex G d y b nL ret (pc + 1) Ls (.int (mI M i j.toNatClampNeg) :: st) M res) : Ex G d y b nL ret pc Ls (.int j :: .ref i :: st) M res := by
  refine x_rd (st2 := .int (mI M i j.toNatClampNeg) :: st) (fun hC hw hS hz w => ?_) kk
  have hlt : j.toNatClampNeg < zlI M i := Nat.not_le.mp fun q => hin (Or.inr q)
  have hst := hw.2.1
  by_cases hi : 1000 ≤ i
  · have h0 : i ≠ 0 := by omega
    rw [List.map_cons, List.map_cons, rv_ref h0]
    by_cases e : i = 1002
    · subst e
      have hl : zlI M 1002 = G.2.2.2.2.1 := by unfold zlI; rw [if_pos (by omega), if_pos rfl]; exact hst.2.2.2.1
      rw [hl] at hin hlt
      refine va_ti hC.1 hC.2.1 (zS_of hC).2.2.2.2.2.1 hS hin (v := .int (mI M 1002 j.toNatClampNeg)) ?_ hd w
      rw [hst.2.2.1 _ hlt]
    · by_cases e2 : i = 1000 ∨ i = 1001
      · have hl : zlI M i = 5 := by unfold zlI; rw [if_pos hi, if_neg e, if_pos e2]
        rw [hl] at hin hlt
        rcases e2 with e2 | e2
        · subst e2
          refine va_ti hC.1 hC.2.1 (zS_of hC).2.2.2.1 hS hin (v := .int (mI M 1000 j.toNatClampNeg)) ?_ hd w
          rw [hst.1 _ hlt]
        · subst e2
          refine va_ti hC.1 hC.2.1 (zS_of hC).2.2.2.2.1 hS hin (v := .int (mI M 1001 j.toNatClampNeg)) ?_ hd w
          rw [hst.2.1 _ hlt]
      · exfalso
        have hl : zlI M i = 0 := by unfold zlI; rw [if_pos hi, if_neg e, if_neg e2]
        omega
  · by_cases hv : 1 ≤ i ∧ i ≤ M.1 ∧ (zsh i).1 = 10
    · have hl : zlI M i = (zsh i).2 := by unfold zlI; rw [if_neg hi, if_pos hv]
      have hs : zsh i = (10, (zsh i).2) := by rw [← hv.2.2]
      rw [hl] at hin
      rw [List.map_cons, List.map_cons, rv_ref (by omega)]
      have he := zwl_get (G := G) hv.1 hv.2.1
      rw [zent_i hs] at he
      exact va_iald hC.1 hC.2.1 (zS_of hC).1 hw.1 (i - 1) 0 he rfl hin hd w
    · exfalso
      have hl : zlI M i = 0 := by unfold zlI; rw [if_neg hi, if_neg hv]
      omega
theorem x_alen {i : Nat} (hd : decode b pc = .ok (.arraylength, 1)) (hv : zvI M i) (hm : M.1 < 1000) (kk : Ex G d y b nL ret (pc + 1) Ls (.int (nI (zlI M i)) :: st) M res) : Ex G d y b nL ret pc Ls (.ref i :: st) M res := by
  refine x_rd (st2 := .int (nI (zlI M i)) :: st) (fun hC hw hS hz w => ?_) kk
  have hst := hw.2.1
  rcases hv with hv | e | e | e
  · have hl : zlI M i = (zsh i).2 := by unfold zlI; rw [if_neg (by omega), if_pos hv]
    have hs : zsh i = (10, (zsh i).2) := by rw [← hv.2.2]
    rw [List.map_cons, rv_ref (by omega)]
    have he := zwl_get (G := G) hv.1 hv.2.1
    rw [zent_i hs] at he
    exact va_alen hC.1 hC.2.1 (zS_of hC).1 hw.1 (i - 1) 0 he rfl (v := nI (zlI M i)) (by rw [hl]; rfl) hd w
  · subst e
    rw [List.map_cons, rv_ref (by omega)]
    exact va_tlen hC.1 hC.2.1 (zS_of hC).2.2.2.1 hS (v := nI (zlI M 1000)) (by rfl) hd w
  · subst e
    rw [List.map_cons, rv_ref (by omega)]
    exact va_tlen hC.1 hC.2.1 (zS_of hC).2.2.2.2.1 hS (v := nI (zlI M 1001)) (by rfl) hd w
  · subst e
    have hl : zlI M 1002 = G.2.2.2.2.1 := by unfold zlI; rw [if_pos (by omega), if_pos rfl]; exact hst.2.2.2.1
    rw [List.map_cons, rv_ref (by omega)]
    exact va_tlen hC.1 hC.2.1 (zS_of hC).2.2.2.2.2.1 hS (v := nI (zlI M 1002)) (by rw [hl]; rfl) hd w
theorem x_zald {i n : Nat} {j : Int32} (hd : decode b pc = .ok (.baload, 1)) (ha : zAc M i 11 n) (hin : vp_in j n) (kk : Ex G d y b nL ret (pc + 1) Ls (.int (mI M i j.toNatClampNeg) :: st) M res) : Ex G d y b nL ret pc Ls (.int j :: .ref i :: st) M res := by
  refine x_rd (st2 := .int (mI M i j.toNatClampNeg) :: st) (fun hC hw hS hz w => ?_) kk
  rw [List.map_cons, List.map_cons, rv_ref (by have := ha.1; omega)]
  have he := zwl_get (G := G) ha.1 ha.2.1
  rw [zent_z ha.2.2] at he
  exact va_zald hC.1 hC.2.1 (zS_of hC).1 hw.1 (i - 1) 1 he rfl hin hd w
theorem x_aaldM {i n : Nat} {j : Int32} (hd : decode b pc = .ok (.aaload, 1)) (ha : zAc M i 12 n) (hin : vp_in j n) (kk : Ex G d y b nL ret (pc + 1) Ls (.ref (mR M i j.toNatClampNeg) :: st) M res) : Ex G d y b nL ret pc Ls (.int j :: .ref i :: st) M res := by
  refine x_rd (st2 := .ref (mR M i j.toNatClampNeg) :: st) (fun hC hw hS hz w => ?_) kk
  rw [List.map_cons, List.map_cons, rv_ref (r := i) (by have := ha.1; omega)]
  have he := zwl_get (G := G) ha.1 ha.2.1
  rw [zent_m ha.2.2] at he
  exact va_aldq hC.1 hC.2.1 (zS_of hC).1 hw.1 (i - 1) 2 he rfl hin hd w
theorem x_aaldS {i n : Nat} {j : Int32} (hd : decode b pc = .ok (.aaload, 1)) (ha : zAc M i 13 n) (hin : vp_in j n) (kk : Ex G d y b nL ret (pc + 1) Ls (.ref (mR M i j.toNatClampNeg) :: st) M res) : Ex G d y b nL ret pc Ls (.int j :: .ref i :: st) M res := by
  refine x_rd (st2 := .ref (mR M i j.toNatClampNeg) :: st) (fun hC hw hS hz w => ?_) kk
  rw [List.map_cons, List.map_cons, rv_ref (r := i) (by have := ha.1; omega)]
  have he := zwl_get (G := G) ha.1 ha.2.1
  rw [zent_s ha.2.2] at he
  exact va_aldq hC.1 hC.2.1 (zS_of hC).1 hw.1 (i - 1) 3 he rfl hin hd w
theorem x_iast {i n : Nat} {j x : Int32} (hd : decode b pc = .ok (.iastore, 1)) (ha : zAc M i 10 n) (hin : vp_in j n) (kk : Ex G d y b nL ret (pc + 1) Ls st (wI M i (upd (mI M i) j.toNatClampNeg x)) res) : Ex G d y b nL ret pc Ls (.int x :: .int j :: .ref i :: st) M res := by
  refine x_wr (M2 := wI M i (upd (mI M i) j.toNatClampNeg x)) rfl rfl (fun H' hw => hw.2.1.wI (by have := ha.2.1; have := hw.2.2; omega)) (fun hC hw hS hz w => ?_) kk
  rw [List.map_cons, List.map_cons, List.map_cons, rv_ref (by have := ha.1; omega)]
  have he := zwl_get (G := G) ha.1 ha.2.1
  rw [zent_i ha.2.2] at he
  refine va_iast hC.1 hC.2.1 (zS_of hC).1 hw.1 hw.ad0 hS (i - 1) 0 he rfl hin hd (fun H1 locs1 hP hD hS1 => ?_)
  rw [zwl_putA ha] at hP
  exact w H1 locs1 hP hS1
theorem x_zast {i n : Nat} {j x : Int32} (hd : decode b pc = .ok (.bastore, 1)) (ha : zAc M i 11 n) (hin : vp_in j n) (hx : x = 0 ∨ x = 1) (kk : Ex G d y b nL ret (pc + 1) Ls st (wI M i (upd (mI M i) j.toNatClampNeg x)) res) : Ex G d y b nL ret pc Ls (.int x :: .int j :: .ref i :: st) M res := by
  refine x_wr (M2 := wI M i (upd (mI M i) j.toNatClampNeg x)) rfl rfl (fun H' hw => hw.2.1.wI (by have := ha.2.1; have := hw.2.2; omega)) (fun hC hw hS hz w => ?_) kk
  rw [List.map_cons, List.map_cons, List.map_cons, rv_ref (by have := ha.1; omega)]
  have he := zwl_get (G := G) ha.1 ha.2.1
  rw [zent_z ha.2.2] at he
  refine va_zast hC.1 hC.2.1 (zS_of hC).1 hw.1 hw.ad0 hS (i - 1) 1 he rfl hin hd (fun H1 locs1 hP hD hS1 => ?_)
  have hn : vp_nar .boolean x = x := by rcases hx with h | h <;> (subst h; rfl)
  rw [hn, zwl_putZ ha] at hP
  exact w H1 locs1 hP hS1
theorem zwl_putQm {G : zG} {M : zM} {i n k r : Nat} (ha : zAc M i 12 n) (hr : r ≠ 0) : (zwl G M).set (i - 1) (zad G i, .inl (G.2.2.1.2.2.1, n, .inr (.inr (.inr (.inr (va_up (fun j => zo G (mR M i j)) k (some (zad G r)))))))) = zwl G (wR M i (va_up (mR M i) k r)) := by
  obtain ⟨h1, h2, hs⟩ := ha
  rw [← zwl_set (M := M) (M' := wR M i (va_up (mR M i) k r)) rfl h1 h2 (fun j hj => zfv_oR hj), zent_m hs]
  have e : va_up (fun j => zo G (mR M i j)) k (some (zad G r)) = fun j => zo G (mR (wR M i (va_up (mR M i) k r)) i j) := by
    funext j
    show _ = zo G (va_up (mR M) i (va_up (mR M i) k r) i j)
    by_cases hj : j = k
    · subst hj; simp [va_up, zo, hr]
    · simp [va_up, hj]
  rw [e]
theorem zwl_putQs {G : zG} {M : zM} {i n k r : Nat} (ha : zAc M i 13 n) (hr : r ≠ 0) : (zwl G M).set (i - 1) (zad G i, .inl (G.2.2.1.2.2.2, n, .inr (.inr (.inr (.inr (va_up (fun j => zo G (mR M i j)) k (some (zad G r)))))))) = zwl G (wR M i (va_up (mR M i) k r)) := by
  obtain ⟨h1, h2, hs⟩ := ha
  rw [← zwl_set (M := M) (M' := wR M i (va_up (mR M i) k r)) rfl h1 h2 (fun j hj => zfv_oR hj), zent_s hs]
  have e : va_up (fun j => zo G (mR M i j)) k (some (zad G r)) = fun j => zo G (mR (wR M i (va_up (mR M i) k r)) i j) := by
    funext j
    show _ = zo G (va_up (mR M) i (va_up (mR M i) k r) i j)
    by_cases hj : j = k
    · subst hj; simp [va_up, zo, hr]
    · simp [va_up, hj]
  rw [e]
theorem x_aastM {i n r : Nat} {j : Int32} (hd : decode b pc = .ok (.aastore, 1)) (ha : zAc M i 12 n) (hv : zAc M r 1 3) (hin : vp_in j n) (kk : Ex G d y b nL ret (pc + 1) Ls st (wR M i (va_up (mR M i) j.toNatClampNeg r)) res) : Ex G d y b nL ret pc Ls (.ref r :: .int j :: .ref i :: st) M res := by
  have hr : r ≠ 0 := by have := hv.1; omega
  refine x_wr (M2 := wR M i (va_up (mR M i) j.toNatClampNeg r)) rfl rfl (fun H' hw => hw.2.1.wR (by have := ha.2.1; have := hw.2.2; omega)) (fun hC hw hS hz w => ?_) kk
  rw [List.map_cons, List.map_cons, List.map_cons, rv_ref (r := i) (by have := ha.1; omega), rv_ref hr]
  have he := zwl_get (G := G) ha.1 ha.2.1
  rw [zent_m ha.2.2] at he
  have he2 := zwl_get (G := G) hv.1 hv.2.1
  rw [zent_o hv.2.2 (by omega)] at he2
  refine va_astq hC.1 hC.2.1 (zS_of hC).1 hw.1 hw.ad0 hS (i - 1) 2 (r - 1) 1 (r := (RX1, TX1, 3)) he rfl he2 rfl hin hd (fun H1 locs1 hP hD hS1 => ?_)
  rw [zwl_putQm ha hr] at hP
  exact w H1 locs1 hP hS1
theorem x_aastS {i n r : Nat} {j : Int32} (hd : decode b pc = .ok (.aastore, 1)) (ha : zAc M i 13 n) (hv : zAc M r 5 9) (hin : vp_in j n) (kk : Ex G d y b nL ret (pc + 1) Ls st (wR M i (va_up (mR M i) j.toNatClampNeg r)) res) : Ex G d y b nL ret pc Ls (.ref r :: .int j :: .ref i :: st) M res := by
  have hr : r ≠ 0 := by have := hv.1; omega
  refine x_wr (M2 := wR M i (va_up (mR M i) j.toNatClampNeg r)) rfl rfl (fun H' hw => hw.2.1.wR (by have := ha.2.1; have := hw.2.2; omega)) (fun hC hw hS hz w => ?_) kk
  rw [List.map_cons, List.map_cons, List.map_cons, rv_ref (r := i) (by have := ha.1; omega), rv_ref hr]
  have he := zwl_get (G := G) ha.1 ha.2.1
  rw [zent_s ha.2.2] at he
  have he2 := zwl_get (G := G) hv.1 hv.2.1
  rw [zent_o hv.2.2 (by omega)] at he2
  refine va_astq hC.1 hC.2.1 (zS_of hC).1 hw.1 hw.ad0 hS (i - 1) 3 (r - 1) 5 (r := (RX5, TX5, 9)) he rfl he2 rfl hin hd (fun H1 locs1 hP hD hS1 => ?_)
  rw [zwl_putQs ha hr] at hP
  exact w H1 locs1 hP hS1
theorem x_gets {idx i : Nat} {n : String} (hd : decode b pc = .ok (.getstatic idx, 3)) (hy : y.cls = RX4) (hi : (idx = 44 ∧ i = 1000) ∨ (idx = 51 ∧ i = 1001)) (kk : Ex G d y b nL ret (pc + 3) Ls (.ref i :: st) M res) : Ex G d y b nL ret pc Ls st M res := by
  refine x_rd (st2 := .ref i :: st) (fun hC hw hS hz w => ?_) kk
  rcases hi with ⟨rfl, rfl⟩ | ⟨rfl, rfl⟩
  · rw [List.map_cons, rv_ref (by omega)] at w
    exact va_getsN hC.1 hC.2.1 (zS_of hC).2.1 hS hC.2.2.2.1 (va_Nw.use rfl (by rw [hy]; exact (zS_of hC).2.2.2.2.2.2.2.1)) (fun _ h => h) hd w
  · rw [List.map_cons, rv_ref (by omega)] at w
    exact va_getsN hC.1 hC.2.1 (zS_of hC).2.2.1 hS hC.2.2.2.1 (va_Nw.use rfl (by rw [hy]; exact (zS_of hC).2.2.2.2.2.2.2.2.1)) (fun _ h => h) hd w
theorem x_copy {idx i0 i1 n0 n1 : Nat} {sp dp n : Int32} (hd : decode b pc = .ok (.invokestatic idx, 3)) (hlink : Cond.methodLink y.cls idx arraycopyName ∈ zW) (hnat : Cond.native arraycopyName ∈ zW) (hstat : Cond.static arraycopyName ∈ zW) (hini : Cond.initialized "java/lang/System" ∈ zW) (h0 : zAc M i0 10 n0) (h1 : zAc M i1 10 n1)
    (c1 : ¬ sp < 0) (c2 : ¬ dp < 0) (c3 : ¬ n < 0) (c4 : sp.toNatClampNeg + n.toNatClampNeg ≤ n0) (c5 : dp.toNatClampNeg + n.toNatClampNeg ≤ n1) (kk : Ex G d y b nL ret (pc + 3) Ls [] (wI M i1 (va_cpy (mI M i0) (mI M i1) sp.toNatClampNeg dp.toNatClampNeg n.toNatClampNeg)) res) : Ex G d y b nL ret pc Ls [.int n, .int dp, .ref i1, .int sp, .ref i0] M res := by
  refine x_wr (M2 := wI M i1 (va_cpy (mI M i0) (mI M i1) sp.toNatClampNeg dp.toNatClampNeg n.toNatClampNeg)) rfl rfl (fun H' hw => hw.2.1.wI (by have := h1.2.1; have := hw.2.2; omega)) (fun hC hw hS hz w => ?_) kk
  simp only [List.map_cons, List.map_nil]
  rw [rv_ref (r := i0) (by have := h0.1; omega), rv_ref (r := i1) (by have := h1.1; omega)]
  have he0 := zwl_get (G := G) h0.1 h0.2.1
  rw [zent_i h0.2.2] at he0
  have he1 := zwl_get (G := G) h1.1 h1.2.1
  rw [zent_i h1.2.2] at he1
  have hR := hC.2.2.2.2.2.2.2.2.2.2
  have hts := hC.2.2.2.2.1
  refine va_copyi hC.1 hC.2.1 (hC.2.2.1.trans hz.symm) hC.2.2.2.1 (hts _ hlink) (hts _ hnat) (hts _ hstat) (hts _ hini) (zS_of hC).1 hw.1 hw.ad0 hS (i0 - 1) (i1 - 1) 0 0 (ty := .int) he0 he1 rfl rfl rfl c1 c2 c3 c4 c5 (fun _ _ => rfl) (by omega) (Nat.le_trans (by decide : _ ≤ 64) (Nat.le_trans (by omega) hR.2)) hd (fun H1 locs1 hP hD hS1 => ?_)
  rw [zwl_putAf h1] at hP
  exact w H1 locs1 hP hS1
theorem x_oinit {idx i : Nat} (hd : decode b pc = .ok (.invokespecial idx, 3)) (hl : Cond.methodLink y.cls idx Lib.objectInit ∈ zW) (h2 : Cond.instanceMethod Lib.objectInit ∈ zW) (h3 : Cond.code Lib.objectInit ⟨#[0xb1]⟩ 1 none ∈ zW) (hi : i ≠ 0) (hst : (st.map fun v => (rv G v).category).sum ≤ 8) (kk : Ex G d y b nL ret (pc + 3) Ls st M res) : Ex G d y b nL ret pc Ls (.ref i :: st) M res := by
  refine x_rd (st2 := st) (fun hC hw hS hz w => ?_) kk
  rw [List.map_cons, rv_ref hi]
  have hts := hC.2.2.2.2.1
  have hR := hC.2.2.2.2.2.2.2.2.2.2
  refine W.objInit hC.1 hC.2.1 hC.2.2.2.1 (hts _ hl) (hts _ h2) (hts _ h3) rfl (by show _ = _; rw [hC.2.2.1]; exact hz) rfl hd (by omega) ?_ w
  have e : ((st.map (rv G)).map fun v => v.category).sum ≤ 8 := by rw [List.map_map]; exact hst
  show 2 * 0 + _ + 12 ≤ _
  omega
end EX4
