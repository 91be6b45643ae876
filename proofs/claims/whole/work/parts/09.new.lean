section EX6
variable {G : zG} {d : Nat} {y : MethodName} {b : ByteArray} {nL : Nat} {ret : Option FieldType} {pc : Nat} {Ls st : List Value} {M : zM} {res : Option Value × zM}
theorem zent_wN {G : zG} {M : zM} {n j : Nat} (h : j ≤ M.1) : zent G (wN M n) j = zent G M j := zent_cong (by show va_up (mI M) (M.1 + 1) _ j = _; rw [va_up, if_neg (by omega)]) (by show va_up (mR M) (M.1 + 1) _ j = _; rw [va_up, if_neg (by omega)])
theorem mI_wN {M : zM} {n : Nat} : mI (wN M n) (M.1 + 1) = fun _ => 0 := by show va_up (mI M) (M.1 + 1) _ _ = _; rw [va_up, if_pos rfl]
theorem mR_wN {M : zM} {n : Nat} : mR (wN M n) (M.1 + 1) = fun _ => 0 := by show va_up (mR M) (M.1 + 1) _ _ = _; rw [va_up, if_pos rfl]
/-- a step that makes a cell -/
theorem x_mk {pc2 N : Nat} {st0 : List Value} (hm : M.1 + 1 < 1000) (h : ∀ {p : Program} {l : Launch} {e : Env} {R : Room} {s : State} {m : MethodId} {args : Array Value} {below : List Frame} {meth : Method} {c : Code} {H : Heap} {locs : List Loc} {cells slots : Nat} {Q : State → Prop} {ls : Array Slot} {T0 S0 : Nat},
    zCx G d y b nL ret p R s m args meth c T0 S0 → zWd G M H → va_S (zA G) s.heap H locs → cells + 1 ≤ R.cells → slots + N ≤ R.slots →
    (∀ (q : Nat) (e0 : va_E) (H1 : Heap), va_P G.2.1 vwCl (zwl G M ++ [(q, e0)]) H1 → va_D (zA G) (zwl G M ++ [(q, e0)]) → va_S (zA G) s.heap H1 locs → (q = zad G (M.1 + 1) → e0 = zent G (wN M N) (M.1 + 1)) → W p l e R s m args below meth c H1 locs (cells + 1) (slots + N) Q (F0 m pc2 ls (.ref q :: st.map (rv G)))) → W p l e R s m args below meth c H locs cells slots Q (F0 m pc ls (st0.map (rv G))))
    (k : Ex G d y b nL ret pc2 Ls (.ref (M.1 + 1) :: st) (wN M N) res) : Ex G d y b nL ret pc Ls st0 M res := by
  have hb := k.1
  have hb1 : M.1 + 1 ≤ res.2.1 := hb.1
  have hb2 : M.2.1 + N ≤ res.2.2.1 := hb.2
  refine ⟨⟨by omega, by omega⟩, ?_⟩
  intro p l e R s m args below meth c H locs cells slots Q ls T0 S0 hC hw hS hl h1 h2 h3 h4 K
  refine h hC hw hS (by omega) (by omega) (fun q e0 H1 hP hD hS1 he => ?_)
  intro T hT X
  have hu : T.heap.size ≤ s.heap.size + (cells + 1) := X.same.2.2.1
  have hlen : (zwl G M).length = M.1 := by simp [zwl]
  have hq1 : q < H1.size := (hP M.1 (q, e0) (by rw [List.getElem?_append_right (by omega), hlen, Nat.sub_self]; rfl)).lt
  have hs0 := hC.2.2.2.2.2.2.2.2.2.1
  have hq : q = zad G (M.1 + 1) := zfresh hD (by rw [hT] at hu; omega) hm
  have he2 := he hq
  subst hq; subst he2
  rw [zwl_push (fun j hj => zent_wN hj)] at hP
  have := k.2 p l e R s m args below meth c H1 locs (cells + 1) (slots + N) Q ls T0 S0 hC ⟨hP, hw.2.1.wN hm, hm⟩ hS1 hl (by show T0 + (cells + 1) = M.1 + 1; omega) (by show S0 + (slots + N) = M.2.1 + N; omega) h3 h4 K
  rw [List.map_cons, rv_ref (by omega)] at this
  exact this T hT X
def zNk (own : String) (idx ci n : Nat) : Prop := ∃ (C : String) (T : u_T) (ty : Nat → FieldType), vwCl[ci]? = some (C, T, n) ∧ (∀ w ∈ u_ws C T n, w ∈ zW) ∧ (∀ k, k < n → parseFieldDescriptor (T k).2.2.1 = some (ty k)) ∧ ci < 10 ∧ Cond.classLink own idx C ∈ zW ∧ Cond.instantiable C n ∈ zW ∧ Cond.initialized C ∈ zW ∧ ∀ k, k < n → defaultValue (ty k) = if zisr ci k then .null else .int 0
theorem x_new {idx ci N : Nat} (hd : decode b pc = .ok (.new idx, 3)) (hf : zNk y.cls idx ci N) (hs : zsh (M.1 + 1) = (ci, N)) (hm : M.1 + 1 < 1000) (k : Ex G d y b nL ret (pc + 3) Ls (.ref (M.1 + 1) :: st) (wN M N) res) : Ex G d y b nL ret pc Ls st M res := by
  obtain ⟨C, T, ty, f1, f2, f3, f4, f5, f6, f7, f8⟩ := hf
  refine x_mk hm (fun hC hw hS hc hsl w => ?_) k
  have hts := hC.2.2.2.2.1
  refine va_new hC.1 hC.2.1 (fun w h => hts w h) f2 ty f3 hC.2.2.2.1 (hts _ f5) (hts _ f6) (hts _ f7) (zS_of hC).1 hw.1 hw.ad0 hS (fun q hq => by
    have hs0 := hC.2.2.2.2.2.2.2.2.2.1
    show G.1 ≤ q; omega) f1 (fs := (List.range N).map (zfv G (wN M N) (M.1 + 1))) (fun j hj => ?_) hc hsl hd (fun q H1 hP hD hS1 => w q _ H1 hP hD hS1 (fun _ => (zent_o hs f4).symm))
  rw [f8 j hj]
  unfold vp_V
  rw [List.getD_eq_getElem?_getD, List.getElem?_map, List.getElem?_range hj, Option.map_some, Option.getD_some]
  unfold zfv
  rw [hs, mI_wN, mR_wN]
  rfl
theorem zcA {U : State} {cA : ClassId} {ty : FieldType} {G : zG} (hK : va_K G.2.1 vwCl (zty G ++ [(cA, ty)]) U) (i : Nat) {cB : ClassId} (hi : (zty G)[i]? = some (cB, ty)) : cA = cB := by
  have h1 := (hK.2 4 (cA, ty) rfl).2
  have h2 := (hK.2 i (cB, ty) (by rw [List.getElem?_append_left (List.getElem?_eq_some_iff.mp hi).1]; exact hi)).2
  cases ty with
  | object C =>
    obtain ⟨_, _, _, _, _, e1⟩ := h1
    obtain ⟨_, _, _, _, _, e2⟩ := h2
    exact Option.some.inj (e1.symm.trans e2)
  | _ => exact Option.some.inj (Eq.trans (Eq.symm h1) h2)
theorem x_newa {n : Int32} {N : Nat} (hd : decode b pc = .ok (.newarray .int, 2)) (hf : Cond.arrayClass .int ∈ zW) (hs : zsh (M.1 + 1) = (10, N)) (hm : M.1 + 1 < 1000) (hn : ¬ n < 0) (hN : n.toNatClampNeg = N) (hb : N * 4 ≤ 536870912) (k : Ex G d y b nL ret (pc + 2) Ls (.ref (M.1 + 1) :: st) (wN M N) res) : Ex G d y b nL ret pc Ls (.int n :: st) M res := by
  refine x_mk hm (fun hC hw hS hc hsl w => ?_) k
  have hts := hC.2.2.2.2.1
  refine va_newa hC.1 hC.2.1 (atype := .int) (ty := .int) (hts _ hf) rfl (zS_of hC).1 hw.1 hw.ad0 hS (fun q hq => by
    have hs0 := hC.2.2.2.2.2.2.2.2.2.1
    show G.1 ≤ q; omega) (a0 := (N, .inl (mI (wN M N) (M.1 + 1)))) (fun cA => by rw [mI_wN]; rfl) hn hN hb hc hsl hd (fun q cA H1 hK hP hD hS1 => w q _ H1 hP hD hS1 (fun _ => ?_))
  rw [zent_i hs, zcA hK 0 rfl]
theorem x_newz {n : Int32} {N : Nat} (hd : decode b pc = .ok (.newarray .boolean, 2)) (hf : Cond.arrayClass .boolean ∈ zW) (hs : zsh (M.1 + 1) = (11, N)) (hm : M.1 + 1 < 1000) (hn : ¬ n < 0) (hN : n.toNatClampNeg = N) (hb : N * 1 ≤ 536870912) (k : Ex G d y b nL ret (pc + 2) Ls (.ref (M.1 + 1) :: st) (wN M N) res) : Ex G d y b nL ret pc Ls (.int n :: st) M res := by
  refine x_mk hm (fun hC hw hS hc hsl w => ?_) k
  have hts := hC.2.2.2.2.1
  refine va_newa hC.1 hC.2.1 (atype := .boolean) (ty := .boolean) (hts _ hf) rfl (zS_of hC).1 hw.1 hw.ad0 hS (fun q hq => by
    have hs0 := hC.2.2.2.2.2.2.2.2.2.1
    show G.1 ≤ q; omega) (a0 := (N, .inl (mI (wN M N) (M.1 + 1)))) (fun cA => by rw [mI_wN]; rfl) hn hN hb hc hsl hd (fun q cA H1 hK hP hD hS1 => w q _ H1 hP hD hS1 (fun _ => ?_))
  rw [zent_z hs, zcA hK 1 rfl]
theorem x_newqM {idx N : Nat} {n : Int32} (hd : decode b pc = .ok (.anewarray idx, 3)) (hf : Cond.classLink y.cls idx "WordRation$Image" ∈ zW) (hs : zsh (M.1 + 1) = (12, N)) (hm : M.1 + 1 < 1000) (hn : ¬ n < 0) (hN : n.toNatClampNeg = N) (hb : N * 4 ≤ 536870912) (k : Ex G d y b nL ret (pc + 3) Ls (.ref (M.1 + 1) :: st) (wN M N) res) : Ex G d y b nL ret pc Ls (.int n :: st) M res := by
  refine x_mk hm (fun hC hw hS hc hsl w => ?_) k
  have hts := hC.2.2.2.2.1
  refine va_newq hC.1 hC.2.1 (C := "WordRation$Image") hC.2.2.2.1 (hts _ hf) (zS_of hC).2.2.2.2.2.2.2.2.2.1 (zS_of hC).1 hw.1 hw.ad0 hS (fun q hq => by
    have hs0 := hC.2.2.2.2.2.2.2.2.2.1
    show G.1 ≤ q; omega) hn hN hb hc hsl hd (fun q cA H1 hK hP hD hS1 => w q _ H1 hP hD hS1 (fun _ => ?_))
  rw [zent_m hs, zcA hK 2 rfl, mR_wN]
  rfl
theorem x_newqS {idx N : Nat} {n : Int32} (hd : decode b pc = .ok (.anewarray idx, 3)) (hf : Cond.classLink y.cls idx "WordRation$State" ∈ zW) (hs : zsh (M.1 + 1) = (13, N)) (hm : M.1 + 1 < 1000) (hn : ¬ n < 0) (hN : n.toNatClampNeg = N) (hb : N * 4 ≤ 536870912) (k : Ex G d y b nL ret (pc + 3) Ls (.ref (M.1 + 1) :: st) (wN M N) res) : Ex G d y b nL ret pc Ls (.int n :: st) M res := by
  refine x_mk hm (fun hC hw hS hc hsl w => ?_) k
  have hts := hC.2.2.2.2.1
  refine va_newq hC.1 hC.2.1 (C := "WordRation$State") hC.2.2.2.1 (hts _ hf) (zS_of hC).2.2.2.2.2.2.2.2.2.2 (zS_of hC).1 hw.1 hw.ad0 hS (fun q hq => by
    have hs0 := hC.2.2.2.2.2.2.2.2.2.1
    show G.1 ≤ q; omega) hn hN hb hc hsl hd (fun q cA H1 hK hP hD hS1 => w q _ H1 hP hD hS1 (fun _ => ?_))
  rw [zent_s hs, zcA hK 3 rfl, mR_wN]
  rfl
end EX6
