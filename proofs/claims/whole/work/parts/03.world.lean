/-! THE WORLD AS NUMBERED CELLS: memory, shapes, what the heap holds of it -/
def zSH : List (Nat × Nat) := [(99, 0), (8, 13), (6, 6), (10, 240), (7, 15), (10, 8), (10, 8), (10, 8), (10, 16), (10, 8), (10, 8), (10, 8), (10, 8), (7, 15), (10, 8), (10, 8), (10, 8), (10, 16), (10, 8), (10, 8), (10, 8), (10, 8), (5, 9), (10, 8), (10, 8), (10, 8), (10, 40), (5, 9), (10, 8), (10, 8), (10, 8), (10, 40), (3, 3), (13, 16), (5, 9), (10, 8), (10, 8), (10, 8), (10, 40), (5, 9), (10, 8), (10, 8), (10, 8), (10, 40), (5, 9), (10, 8), (10, 8), (10, 8), (10, 40), (5, 9), (10, 8), (10, 8), (10, 8), (10, 40), (5, 9), (10, 8), (10, 8), (10, 8), (10, 40), (5, 9), (10, 8), (10, 8), (10, 8), (10, 40), (5, 9), (10, 8), (10, 8), (10, 8), (10, 40), (5, 9), (10, 8), (10, 8), (10, 8), (10, 40), (5, 9), (10, 8), (10, 8), (10, 8), (10, 40), (5, 9), (10, 8), (10, 8), (10, 8), (10, 40), (5, 9), (10, 8), (10, 8), (10, 8), (10, 40), (5, 9), (10, 8), (10, 8), (10, 8), (10, 40), (5, 9), (10, 8), (10, 8), (10, 8), (10, 40), (5, 9), (10, 8), (10, 8), (10, 8), (10, 40), (5, 9), (10, 8), (10, 8), (10, 8), (10, 40), (5, 9), (10, 8), (10, 8), (10, 8), (10, 40), (12, 2), (4, 10), (10, 8), (10, 8), (10, 8), (10, 40), (10, 9), (10, 8), (10, 8), (2, 4), (10, 6), (10, 6), (11, 6), (0, 3), (10, 15), (10, 15), (10, 8), (10, 10), (1, 3), (5, 9), (10, 8), (10, 8), (10, 8), (10, 40), (1, 3), (5, 9), (10, 8), (10, 8), (10, 8), (10, 40), (9, 58), (10, 69), (10, 69), (10, 1104), (10, 8), (10, 8), (10, 16), (11, 8), (11, 5), (10, 32), (10, 240), (10, 8), (10, 8), (10, 8), (10, 16), (11, 8), (11, 5), (10, 32), (10, 8), (10, 8), (10, 9), (10, 9), (10, 8), (10, 8), (10, 8), (10, 10), (10, 10), (10, 6), (10, 6), (11, 6), (10, 15), (10, 15), (11, 2), (10, 138), (10, 2)]
def zRF : List (List Bool) := [[true, true, false], [true, false, false], [true, true, true, false], [true, false, false], [true, true, true, true, true, true, true, false, false, false], [true, true, true, true, false, false, false, false, false], [true, false, false, false, false, false], [false, false, false, false, false, false, false, true, true, true, true, true, true, true, true], [true, true, true, true, true, true, true, true, true, true, true, true, false], [true, true, true, false, false, false, false, false, false, true, true, true, true, true, true, true, false, false, false, false, false, false, false, false, false, false, true, true, true, true, true, true, true, false, true, false, true, true, true, true, true, false, false, true, false, false, true, true, false, true, true, true, false, true, true, true, true, true]]
def zsh (i : Nat) : Nat × Nat := zSH.getD i (99, 0)
def zisr (ci k : Nat) : Bool := (zRF.getD ci []).getD k false
/-- memory: how many cells, their slots, the numbers in them, the references (0: null) -/
abbrev zM : Type := Nat × Nat × (Nat → Nat → Int32) × (Nat → Nat → Nat)
def mI (M : zM) : Nat → Nat → Int32 := M.2.2.1
def mR (M : zM) : Nat → Nat → Nat := M.2.2.2
def wI (M : zM) (a : Nat) (f : Nat → Int32) : zM := (M.1, M.2.1, va_up (mI M) a f, mR M)
def wR (M : zM) (a : Nat) (f : Nat → Nat) : zM := (M.1, M.2.1, mI M, va_up (mR M) a f)
def wN (M : zM) (n : Nat) : zM := (M.1 + 1, M.2.1 + n, va_up (mI M) (M.1 + 1) (fun _ => 0), va_up (mR M) (M.1 + 1) (fun _ => 0))
/-- what is fixed: the floor, the classes, the array classes, the static tables' cells, the script -/
abbrev zG : Type := Nat × va_G × (ClassId × ClassId × ClassId × ClassId) × (Nat × Nat × Nat) × Nat × (Nat → Int32)
def zA (G : zG) : Nat → Prop := fun q => G.1 ≤ q
def zad (G : zG) (i : Nat) : Nat := if i < 1000 then G.1 + (i - 1) else if i = 1000 then G.2.2.2.1.1 else if i = 1001 then G.2.2.2.1.2.1 else G.2.2.2.1.2.2
def zo (G : zG) (r : Nat) : Option Nat := if r = 0 then none else some (zad G r)
def rv (G : zG) : Value → Value
  | .ref r => va_rf (zo G r)
  | v => v
def zfv (G : zG) (M : zM) (i k : Nat) : Value := if zisr (zsh i).1 k then va_rf (zo G (mR M i k)) else .int (mI M i k)
def zent (G : zG) (M : zM) (i : Nat) : va_E :=
  if (zsh i).1 = 10 then .inl (G.2.2.1.1, (zsh i).2, .inl (mI M i))
  else if (zsh i).1 = 11 then .inl (G.2.2.1.2.1, (zsh i).2, .inl (mI M i))
  else if (zsh i).1 = 12 then .inl (G.2.2.1.2.2.1, (zsh i).2, .inr (.inr (.inr (.inr (fun j => zo G (mR M i j))))))
  else if (zsh i).1 = 13 then .inl (G.2.2.1.2.2.2, (zsh i).2, .inr (.inr (.inr (.inr (fun j => zo G (mR M i j))))))
  else .inr ((zsh i).1, (List.range (zsh i).2).map (zfv G M i))
def zwl (G : zG) (M : zM) : va_W := (List.range M.1).map (fun j => (zad G (j + 1), zent G M (j + 1)))
def zty (G : zG) : List (ClassId × FieldType) := [(G.2.2.1.1, .int), (G.2.2.1.2.1, .boolean), (G.2.2.1.2.2.1, .object "WordRation$Image"), (G.2.2.1.2.2.2, .object "WordRation$State")]
def zEag (j : Nat) : Int32 := [4, 1, 2, 3, 0].getD j 0
def zRis (j : Nat) : Int32 := [0, 1, 2, 3, 4].getD j 0
def zNM : List (String × Nat × MethodName × String) := [(RX8, 18, yX7_init, RX8), (RX8, 28, yX5_init, RX8), (RX8, 51, yX4_init, RX8), (RX8, 58, yX2_init, RX8), (RX8, 65, yX0_init, RX8), (RX8, 77, yX1_init, RX8), (RX8, 9, yX6_init, RX8), (RX1, 9, yX5_init, RX8), (RX3, 17, yX5_init, RX8)]
def zKS (G : zG) (U : State) (H : Heap) : Prop :=
  va_K G.2.1 vwCl (zty G) U ∧ va_Z RX8 "EAGER" "[I" (.ref (zad G 1000)) (zA G) U H ∧ va_Z RX8 "RISING" "[I" (.ref (zad G 1001)) (zA G) U H ∧
  va_T .int (zad G 1000) 5 (fun j => .int (zEag j)) (zA G) U H ∧ va_T .int (zad G 1001) 5 (fun j => .int (zRis j)) (zA G) U H ∧ va_T .int (zad G 1002) G.2.2.2.2.1 (fun j => .int (G.2.2.2.2.2 j)) (zA G) U H ∧
  (∀ q ∈ zNM, va_Nw (.methodLinkNest q.1 q.2.1 q.2.2.1 q.2.2.2) U) ∧ va_Nw (.fieldLinkNest RX4 44 RX8 "EAGER" "[I" RX8) U ∧ va_Nw (.fieldLinkNest RX4 51 RX8 "RISING" "[I" RX8) U ∧
  va_AO "WordRation$Image" U ∧ va_AO "WordRation$State" U
theorem zKS.moved {G : zG} {s U : State} {H1 : Heap} (hW : s.WarmedH U.vm) (hk : ∀ a : Nat, a < s.heap.size → ¬ zA G a → H1[a]? = s.heap[a]?) (h : zKS G s s.heap) : zKS G U H1 := by
  obtain ⟨h1, h2, h3, h4, h5, h6, h7, h8, h9, h10, h11⟩ := h
  exact ⟨va_K.moved hW.alike h1, (va_Z.moved hW.alike h2).kept hk, (va_Z.moved hW.alike h3).kept hk, (va_T.moved hW.alike h4).kept hk, (va_T.moved hW.alike h5).kept hk, (va_T.moved hW.alike h6).kept hk,
    fun q hq => va_Nw.warmM hW (h7 q hq), va_Nw.warmF hW h8, va_Nw.warmF hW h9, va_AO.moved hW.alike h10, va_AO.moved hW.alike h11⟩
theorem zKS.calling {G : zG} {U : State} {g : JFrame} {mk : MethodId} {a : Array Value} (h : zKS G U U.heap) : zKS G (U.calling g mk a) (U.calling g mk a).heap := by
  obtain ⟨h1, h2, h3, h4, h5, h6, h7, h8, h9, h10, h11⟩ := h
  exact ⟨va_K.moved (u := U) (U := U.calling g mk a) (Vm.Alike.refl U.vm) h1, va_Z.moved (u := U) (U := U.calling g mk a) (Vm.Alike.refl U.vm) h2, va_Z.moved (u := U) (U := U.calling g mk a) (Vm.Alike.refl U.vm) h3,
    va_T.moved (u := U) (U := U.calling g mk a) (Vm.Alike.refl U.vm) h4, va_T.moved (u := U) (U := U.calling g mk a) (Vm.Alike.refl U.vm) h5, va_T.moved (u := U) (U := U.calling g mk a) (Vm.Alike.refl U.vm) h6,
    fun q hq => va_Nw.same rfl (u := U) (U := U.calling g mk a) rfl (h7 q hq), va_Nw.same rfl (u := U) (U := U.calling g mk a) rfl h8, va_Nw.same rfl (u := U) (U := U.calling g mk a) rfl h9, va_AO.moved (u := U) (U := U.calling g mk a) (Vm.Alike.refl U.vm) h10, va_AO.moved (u := U) (U := U.calling g mk a) (Vm.Alike.refl U.vm) h11⟩
def zSt (G : zG) (M : zM) : Prop := (∀ j, j < 5 → mI M 1000 j = zEag j) ∧ (∀ j, j < 5 → mI M 1001 j = zRis j) ∧ (∀ j, j < G.2.2.2.2.1 → mI M 1002 j = G.2.2.2.2.2 j) ∧ mR M 1002 0 = G.2.2.2.2.1 ∧ G.2.2.2.2.1 < 1000
def zWd (G : zG) (M : zM) (H : Heap) : Prop := va_P G.2.1 vwCl (zwl G M) H ∧ zSt G M ∧ M.1 < 1000
theorem zad_lo {G : zG} {i : Nat} (h : i < 1000) : zad G i = G.1 + (i - 1) := by simp [zad, h]
theorem zwl_get {G : zG} {M : zM} {i : Nat} (h1 : 1 ≤ i) (h2 : i ≤ M.1) : (zwl G M)[i - 1]? = some (zad G i, zent G M i) := by
  unfold zwl
  rw [List.getElem?_map, List.getElem?_range (by omega)]
  simp only [Option.map_some]
  rw [show i - 1 + 1 = i by omega]
theorem zwl_inv {G : zG} {M : zM} {k : Nat} {q : Nat × va_E} (h : (zwl G M)[k]? = some q) : k < M.1 ∧ q = (zad G (k + 1), zent G M (k + 1)) := by
  unfold zwl at h
  rw [List.getElem?_map] at h
  by_cases hk : k < M.1
  · rw [List.getElem?_range hk] at h
    simp only [Option.map_some] at h
    exact ⟨hk, (Option.some.inj h).symm⟩
  · have hn : (List.range M.1)[k]? = none := by
      rw [List.getElem?_eq_none]
      simp; omega
    rw [hn] at h
    cases h
theorem zwl_D {G : zG} {M : zM} (h : M.1 < 1000) : va_D (zA G) (zwl G M) := by
  refine ⟨fun i j p q hp hq e => ?_, fun k q hq => ?_⟩
  · obtain ⟨h1, rfl⟩ := zwl_inv hp
    obtain ⟨h2, rfl⟩ := zwl_inv hq
    simp only [] at e
    rw [zad_lo (by omega), zad_lo (by omega)] at e
    omega
  · obtain ⟨h1, rfl⟩ := zwl_inv hq
    simp only []
    rw [zad_lo (by omega)]
    exact Nat.le_add_right _ _
theorem zwl_set {G : zG} {M M' : zM} {i : Nat} (h0 : M'.1 = M.1) (h1 : 1 ≤ i) (h2 : i ≤ M.1) (ho : ∀ j, j ≠ i → zent G M' j = zent G M j) : (zwl G M).set (i - 1) (zad G i, zent G M' i) = zwl G M' := by
  apply List.ext_getElem?
  intro k
  by_cases hk : k = i - 1
  · subst hk
    have hl : i - 1 < (zwl G M).length := by simp [zwl]; omega
    rw [List.getElem?_set_self hl, zwl_get h1 (by omega)]
  · rw [List.getElem?_set_ne (Ne.symm hk)]
    unfold zwl
    rw [List.getElem?_map, List.getElem?_map, h0]
    by_cases hk2 : k < M.1
    · rw [List.getElem?_range hk2]
      simp only [Option.map_some]
      rw [ho (k + 1) (by omega)]
    · have hn : (List.range M.1)[k]? = none := by
        rw [List.getElem?_eq_none]; simp; omega
      rw [hn]
      rfl
theorem zwl_push {G : zG} {M : zM} {n : Nat} (ho : ∀ j, j ≤ M.1 → zent G (wN M n) j = zent G M j) : zwl G M ++ [(zad G (M.1 + 1), zent G (wN M n) (M.1 + 1))] = zwl G (wN M n) := by
  unfold zwl
  show _ = (List.range (M.1 + 1)).map _
  rw [List.range_succ, List.map_append]
  congr 1
  apply List.map_congr_left
  intro j hj
  have := List.mem_range.mp hj
  rw [ho (j + 1) (by omega)]
theorem zent_cong {G : zG} {M M' : zM} {j : Nat} (h1 : mI M' j = mI M j) (h2 : mR M' j = mR M j) : zent G M' j = zent G M j := by
  unfold zent
  rw [h1, h2]
  have : zfv G M' j = zfv G M j := by funext k; unfold zfv; rw [h1, h2]
  rw [this]
theorem mI_wI (M : zM) (a : Nat) (f : Nat → Int32) : mI (wI M a f) = va_up (mI M) a f := rfl
theorem mR_wI (M : zM) (a : Nat) (f : Nat → Int32) : mR (wI M a f) = mR M := rfl
