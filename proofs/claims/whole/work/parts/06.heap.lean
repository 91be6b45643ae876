/-! rules that read and write cells -/
/-- a field's place: its class, its number, how many fields, 0 int 1 boolean 2 reference, final -/
def zFk (own : String) (idx ci k n q : Nat) (fin : Bool) : Prop := ∃ (C : String) (T : u_T) (ty : Nat → FieldType), vwCl[ci]? = some (C, T, n) ∧ (∀ w ∈ u_ws C T n, w ∈ zW) ∧ (∀ k, k < n → parseFieldDescriptor (T k).2.2.1 = some (ty k)) ∧ (∀ a, a < n → ∀ b, b < n → a ≠ b → (T a).2.1 ≠ (T b).2.1) ∧ k < n ∧ ci < 10 ∧
  Cond.fieldLink own idx (T k).1 (T k).2.1 (T k).2.2.1 ∈ zW ∧ (T k).2.2.2 = fin ∧ zisr ci k = decide (q = 2) ∧ (q = 0 → ty k = .int) ∧ (q = 1 → ty k = .boolean) ∧ (q = 2 → ∀ a : Nat, narrow (ty k) (.ref a) = .ref a ∧ fits (ty k) (.ref a) = true) ∧ (T k).1 = C
def zAc (M : zM) (i ci n : Nat) : Prop := 1 ≤ i ∧ i ≤ M.1 ∧ zsh i = (ci, n)
def zvI (M : zM) (i : Nat) : Prop := (1 ≤ i ∧ i ≤ M.1 ∧ (zsh i).1 = 10) ∨ i = 1000 ∨ i = 1001 ∨ i = 1002
def zlI (M : zM) (i : Nat) : Nat := if 1000 ≤ i then (if i = 1002 then mR M 1002 0 else if i = 1000 ∨ i = 1001 then 5 else 0) else if 1 ≤ i ∧ i ≤ M.1 ∧ (zsh i).1 = 10 then (zsh i).2 else 0
theorem zent_o {G : zG} {M : zM} {i ci n : Nat} (h : zsh i = (ci, n)) (hc : ci < 10) : zent G M i = .inr (ci, (List.range n).map (zfv G M i)) := by
  unfold zent
  rw [h]
  rw [if_neg (by show ¬ ci = 10; omega), if_neg (by show ¬ ci = 11; omega), if_neg (by show ¬ ci = 12; omega), if_neg (by show ¬ ci = 13; omega)]
theorem zent_i {G : zG} {M : zM} {i n : Nat} (h : zsh i = (10, n)) : zent G M i = .inl (G.2.2.1.1, n, .inl (mI M i)) := by unfold zent; rw [h]; rfl
theorem zent_z {G : zG} {M : zM} {i n : Nat} (h : zsh i = (11, n)) : zent G M i = .inl (G.2.2.1.2.1, n, .inl (mI M i)) := by unfold zent; rw [h]; rfl
theorem zent_m {G : zG} {M : zM} {i n : Nat} (h : zsh i = (12, n)) : zent G M i = .inl (G.2.2.1.2.2.1, n, .inr (.inr (.inr (.inr (fun j => zo G (mR M i j)))))) := by unfold zent; rw [h]; rfl
theorem zent_s {G : zG} {M : zM} {i n : Nat} (h : zsh i = (13, n)) : zent G M i = .inl (G.2.2.1.2.2.2, n, .inr (.inr (.inr (.inr (fun j => zo G (mR M i j)))))) := by unfold zent; rw [h]; rfl
theorem zsh_lo : ∀ i, 1000 ≤ i → (zsh i) = (99, 0) := by
  intro i h
  unfold zsh
  rw [List.getD_eq_getElem?_getD, List.getElem?_eq_none]
  · rfl
  · have : zSH.length = 179 := by decide +kernel
    omega
theorem zWd.ad0 {G : zG} {M : zM} {H : Heap} (h : zWd G M H) : va_D (zA G) (zwl G M) := zwl_D h.2.2
theorem rv_fv {G : zG} {M : zM} {i k ci n : Nat} (hs : zsh i = (ci, n)) (hr : zisr ci k = true) : zfv G M i k = rv G (.ref (mR M i k)) := by unfold zfv; rw [hs]; simp [hr, rv]
theorem rv_fi {G : zG} {M : zM} {i k ci n : Nat} (hs : zsh i = (ci, n)) (hr : zisr ci k = false) : zfv G M i k = .int (mI M i k) := by unfold zfv; rw [hs]; simp [hr]
theorem zSt.wI {G : zG} {M : zM} {a : Nat} {f : Nat → Int32} (h : zSt G M) (ha : a < 1000) : zSt G (wI M a f) := by
  obtain ⟨h1, h2, h3, h4, h5⟩ := h
  refine ⟨fun j hj => ?_, fun j hj => ?_, fun j hj => ?_, h4, h5⟩
  · rw [← h1 j hj]; show va_up (mI M) a f 1000 j = _; rw [va_up, if_neg (by omega)]
  · rw [← h2 j hj]; show va_up (mI M) a f 1001 j = _; rw [va_up, if_neg (by omega)]
  · rw [← h3 j hj]; show va_up (mI M) a f 1002 j = _; rw [va_up, if_neg (by omega)]
theorem zSt.wR {G : zG} {M : zM} {a : Nat} {f : Nat → Nat} (h : zSt G M) (ha : a < 1000) : zSt G (wR M a f) := by
  obtain ⟨h1, h2, h3, h4, h5⟩ := h
  refine ⟨h1, h2, h3, ?_, h5⟩
  rw [← h4]; show va_up (mR M) a f 1002 0 = _; rw [va_up, if_neg (by omega)]
theorem zSt.wN {G : zG} {M : zM} {n : Nat} (h : zSt G M) (ha : M.1 + 1 < 1000) : zSt G (wN M n) := by
  obtain ⟨h1, h2, h3, h4, h5⟩ := h
  refine ⟨fun j hj => ?_, fun j hj => ?_, fun j hj => ?_, ?_, h5⟩
  · rw [← h1 j hj]; show va_up (mI M) (M.1 + 1) _ 1000 j = _; rw [va_up, if_neg (by omega)]
  · rw [← h2 j hj]; show va_up (mI M) (M.1 + 1) _ 1001 j = _; rw [va_up, if_neg (by omega)]
  · rw [← h3 j hj]; show va_up (mI M) (M.1 + 1) _ 1002 j = _; rw [va_up, if_neg (by omega)]
  · rw [← h4]; show va_up (mR M) (M.1 + 1) _ 1002 0 = _; rw [va_up, if_neg (by omega)]
theorem zfv_oI {G : zG} {M : zM} {a j : Nat} {f : Nat → Int32} (h : j ≠ a) : zent G (wI M a f) j = zent G M j := zent_cong (by show va_up (mI M) a f j = _; rw [va_up, if_neg h]) rfl
theorem zfv_oR {G : zG} {M : zM} {a j : Nat} {f : Nat → Nat} (h : j ≠ a) : zent G (wR M a f) j = zent G M j := zent_cong rfl (by show va_up (mR M) a f j = _; rw [va_up, if_neg h])
theorem range_set {α : Type} {n k : Nat} {f g : Nat → α} (ho : ∀ j, j ≠ k → g j = f j) : ((List.range n).map f).set k (g k) = (List.range n).map g := by
  apply List.ext_getElem?
  intro j
  by_cases hj : j = k
  · subst hj
    by_cases hl : j < n
    · rw [List.getElem?_set_self (by simpa using hl)]
      simp [hl]
    · have e1 : (((List.range n).map f).set j (g j))[j]? = none := by rw [List.getElem?_eq_none]; simp; omega
      have e2 : ((List.range n).map g)[j]? = none := by rw [List.getElem?_eq_none]; simp; omega
      rw [e1, e2]
  · rw [List.getElem?_set_ne (Ne.symm hj), List.getElem?_map, List.getElem?_map]
    by_cases hl : j < n
    · simp [List.getElem?_range hl, ho j hj]
    · have e1 : (List.range n)[j]? = none := by rw [List.getElem?_eq_none]; simp; omega
      rw [e1]; rfl
theorem zwl_putI {G : zG} {M : zM} {i ci n k : Nat} {x : Int32} (ha : zAc M i ci n) (hc : ci < 10) (hr : zisr ci k = false) : (zwl G M).set (i - 1) (zad G i, .inr (ci, ((List.range n).map (zfv G M i)).set k (.int x))) = zwl G (wI M i (upd (mI M i) k x)) := by
  obtain ⟨h1, h2, hs⟩ := ha
  rw [← zwl_set (M := M) (M' := wI M i (upd (mI M i) k x)) rfl h1 h2 (fun j hj => zfv_oI hj), zent_o hs hc]
  have e : (.int x : Value) = zfv G (wI M i (upd (mI M i) k x)) i k := by
    rw [rv_fi hs hr]; show _ = Value.int (va_up (mI M) i (upd (mI M i) k x) i k); rw [va_up, if_pos rfl, upd, if_pos rfl]
  rw [e, range_set]
  intro j hj
  unfold zfv
  rw [hs]
  show (if zisr ci j = true then _ else Value.int (va_up (mI M) i (upd (mI M i) k x) i j)) = _
  rw [va_up, if_pos rfl, upd, if_neg hj]
  rfl
theorem zwl_putR {G : zG} {M : zM} {i ci n k r : Nat} (ha : zAc M i ci n) (hc : ci < 10) (hr : zisr ci k = true) : (zwl G M).set (i - 1) (zad G i, .inr (ci, ((List.range n).map (zfv G M i)).set k (rv G (.ref r)))) = zwl G (wR M i (va_up (mR M i) k r)) := by
  obtain ⟨h1, h2, hs⟩ := ha
  rw [← zwl_set (M := M) (M' := wR M i (va_up (mR M i) k r)) rfl h1 h2 (fun j hj => zfv_oR hj), zent_o hs hc]
  have e : rv G (.ref r) = zfv G (wR M i (va_up (mR M i) k r)) i k := by
    rw [rv_fv hs hr]; show _ = rv G (.ref (va_up (mR M) i (va_up (mR M i) k r) i k)); rw [va_up, if_pos rfl, va_up, if_pos rfl]
  rw [e, range_set]
  intro j hj
  unfold zfv
  rw [hs]
  show (if zisr ci j = true then va_rf (zo G (va_up (mR M) i (va_up (mR M i) k r) i j)) else _) = _
  rw [va_up, if_pos rfl, va_up, if_neg hj]
  rfl
section EX3
variable {G : zG} {d : Nat} {y : MethodName} {b : ByteArray} {nL : Nat} {ret : Option FieldType} {pc : Nat} {Ls st : List Value} {M : zM} {res : Option Value × zM}
/-- a step that reads cells -/
theorem x_rd {pc2 : Nat} {st2 : List Value} (h : ∀ {p : Program} {l : Launch} {e : Env} {R : Room} {s : State} {m : MethodId} {args : Array Value} {below : List Frame} {meth : Method} {c : Code} {H : Heap} {locs : List Loc} {cells slots : Nat} {Q : State → Prop} {ls : Array Slot} {T0 S0 : Nat},
    zCx G d y b nL ret p R s m args meth c T0 S0 → zWd G M H → va_S (zA G) s.heap H locs → ls.size = nL → W p l e R s m args below meth c H locs cells slots Q (F0 m pc2 ls (st2.map (rv G))) → W p l e R s m args below meth c H locs cells slots Q (F0 m pc ls (st.map (rv G))))
    (k : Ex G d y b nL ret pc2 Ls st2 M res) : Ex G d y b nL ret pc Ls st M res := by
  refine ⟨k.1, ?_⟩
  intro p l e R s m args below meth c H locs cells slots Q ls T0 S0 hC hw hS hl h1 h2 h3 h4 K
  exact h hC hw hS hl.1 (k.2 p l e R s m args below meth c H locs cells slots Q ls T0 S0 hC hw hS hl h1 h2 h3 h4 K)
/-- a step that writes cells -/
theorem x_wr {pc2 : Nat} {st2 : List Value} {M2 : zM} (e1 : M2.1 = M.1) (e2 : M2.2.1 = M.2.1) (hst : ∀ H', zWd G M H' → zSt G M2) (h : ∀ {p : Program} {l : Launch} {e : Env} {R : Room} {s : State} {m : MethodId} {args : Array Value} {below : List Frame} {meth : Method} {c : Code} {H : Heap} {locs : List Loc} {cells slots : Nat} {Q : State → Prop} {ls : Array Slot} {T0 S0 : Nat},
    zCx G d y b nL ret p R s m args meth c T0 S0 → zWd G M H → va_S (zA G) s.heap H locs → ls.size = nL → (∀ (H1 : Heap) (locs1 : List Loc), va_P G.2.1 vwCl (zwl G M2) H1 → va_S (zA G) s.heap H1 locs1 → W p l e R s m args below meth c H1 locs1 cells slots Q (F0 m pc2 ls (st2.map (rv G)))) → W p l e R s m args below meth c H locs cells slots Q (F0 m pc ls (st.map (rv G))))
    (k : Ex G d y b nL ret pc2 Ls st2 M2 res) : Ex G d y b nL ret pc Ls st M res := by
  refine ⟨by rw [← e1, ← e2]; exact k.1, ?_⟩
  intro p l e R s m args below meth c H locs cells slots Q ls T0 S0 hC hw hS hl h1 h2 h3 h4 K
  exact h hC hw hS hl.1 (fun H1 locs1 hP hS1 => k.2 p l e R s m args below meth c H1 locs1 cells slots Q ls T0 S0 hC ⟨hP, hst H hw, by rw [e1]; exact hw.2.2⟩ hS1 hl (by rw [e1]; exact h1) (by rw [e2]; exact h2) h3 h4 K)
theorem x_getI {idx ci k n q i : Nat} {fin : Bool} (hd : decode b pc = .ok (.getfield idx, 3)) (hf : zFk y.cls idx ci k n q fin) (ha : zAc M i ci n) (hq : q ≠ 2) (kk : Ex G d y b nL ret (pc + 3) Ls (.int (mI M i k) :: st) M res) : Ex G d y b nL ret pc Ls (.ref i :: st) M res := by
  obtain ⟨C, T, ty, f1, f2, f3, f4, f5, f6, f7, f8, f9, f10, f11, f12, f13⟩ := hf
  refine x_rd (st2 := .int (mI M i k) :: st) (fun hC hw hS hz w => ?_) kk
  obtain ⟨h1, h2, hs⟩ := ha
  rw [List.map_cons, rv_ref (by omega)]
  have he := zwl_get (G := G) h1 h2
  rw [zent_o hs f6] at he
  exact va_get hC.1 hC.2.1 (fun w h => hC.2.2.2.2.1 w h) f2 hC.2.2.2.1 hC.2.2.2.2.2.2.2.2.1.1 hw.1 (i - 1) he f1 k f5 (hC.2.2.2.2.1 _ f7) (fun _ h => h) (v := .int (mI M i k)) (by rw [List.getElem?_map, List.getElem?_range f5, Option.map_some, rv_fi hs (by rw [f9]; simp [hq])]) hd w
theorem x_getR {idx ci k n i : Nat} {fin : Bool} (hd : decode b pc = .ok (.getfield idx, 3)) (hf : zFk y.cls idx ci k n 2 fin) (ha : zAc M i ci n) (kk : Ex G d y b nL ret (pc + 3) Ls (.ref (mR M i k) :: st) M res) : Ex G d y b nL ret pc Ls (.ref i :: st) M res := by
  obtain ⟨C, T, ty, f1, f2, f3, f4, f5, f6, f7, f8, f9, f10, f11, f12, f13⟩ := hf
  refine x_rd (st2 := .ref (mR M i k) :: st) (fun hC hw hS hz w => ?_) kk
  obtain ⟨h1, h2, hs⟩ := ha
  rw [List.map_cons, rv_ref (by omega)]
  have he := zwl_get (G := G) h1 h2
  rw [zent_o hs f6] at he
  exact va_get hC.1 hC.2.1 (fun w h => hC.2.2.2.2.1 w h) f2 hC.2.2.2.1 hC.2.2.2.2.2.2.2.2.1.1 hw.1 (i - 1) he f1 k f5 (hC.2.2.2.2.1 _ f7) (fun _ h => h) (v := rv G (.ref (mR M i k))) (by rw [List.getElem?_map, List.getElem?_range f5, Option.map_some, rv_fv hs (by rw [f9]; rfl)]) hd w
theorem x_putI {idx ci k n i : Nat} {x : Int32} (hd : decode b pc = .ok (.putfield idx, 3)) (hf : zFk y.cls idx ci k n 0 false) (ha : zAc M i ci n) (kk : Ex G d y b nL ret (pc + 3) Ls st (wI M i (upd (mI M i) k x)) res) : Ex G d y b nL ret pc Ls (.int x :: .ref i :: st) M res := by
  obtain ⟨C, T, ty, f1, f2, f3, f4, f5, f6, f7, f8, f9, f10, f11, f12, f13⟩ := hf
  refine x_wr (M2 := wI M i (upd (mI M i) k x)) rfl rfl (fun H' hw => hw.2.1.wI (by have := ha.2.1; have := hw.2.2; omega)) (fun hC hw hS hz w => ?_) kk
  rw [List.map_cons, List.map_cons, rv_ref (by have := ha.1; omega)]
  have he := zwl_get (G := G) ha.1 ha.2.1
  rw [zent_o ha.2.2 f6] at he
  refine va_put hC.1 hC.2.1 (fun w h => hC.2.2.2.2.1 w h) f2 ty f3 f4 hC.2.2.2.1 hC.2.2.2.2.2.2.2.2.1.1 hw.1 hw.ad0 hS (i - 1) he f1 k f5 (hC.2.2.2.2.1 _ f7) (fun _ h => h) f8 (f3 k f5) (by rw [f10 rfl]; rfl) (by rw [f10 rfl]; rfl) (by simpa using f5) hd (fun H1 locs1 hP hD hS1 => ?_)
  rw [show rv G (.int x) = .int x from rfl, zwl_putI ha f6 (by rw [f9]; rfl)] at hP
  exact w H1 locs1 hP hS1
theorem x_putZ {idx ci k n i : Nat} {x : Int32} (hd : decode b pc = .ok (.putfield idx, 3)) (hf : zFk y.cls idx ci k n 1 false) (ha : zAc M i ci n) (hx : x = 0 ∨ x = 1) (kk : Ex G d y b nL ret (pc + 3) Ls st (wI M i (upd (mI M i) k x)) res) : Ex G d y b nL ret pc Ls (.int x :: .ref i :: st) M res := by
  obtain ⟨C, T, ty, f1, f2, f3, f4, f5, f6, f7, f8, f9, f10, f11, f12, f13⟩ := hf
  refine x_wr (M2 := wI M i (upd (mI M i) k x)) rfl rfl (fun H' hw => hw.2.1.wI (by have := ha.2.1; have := hw.2.2; omega)) (fun hC hw hS hz w => ?_) kk
  rw [List.map_cons, List.map_cons, rv_ref (by have := ha.1; omega)]
  have he := zwl_get (G := G) ha.1 ha.2.1
  rw [zent_o ha.2.2 f6] at he
  refine va_put hC.1 hC.2.1 (fun w h => hC.2.2.2.2.1 w h) f2 ty f3 f4 hC.2.2.2.1 hC.2.2.2.2.2.2.2.2.1.1 hw.1 hw.ad0 hS (i - 1) he f1 k f5 (hC.2.2.2.2.1 _ f7) (fun _ h => h) f8 (f3 k f5) (by rw [f11 rfl]; rcases hx with h | h <;> (subst h; rfl)) (by rw [f11 rfl]; rcases hx with h | h <;> (subst h; rfl)) (by simpa using f5) hd (fun H1 locs1 hP hD hS1 => ?_)
  rw [show rv G (.int x) = .int x from rfl, zwl_putI ha f6 (by rw [f9]; rfl)] at hP
  exact w H1 locs1 hP hS1
theorem x_putR {idx ci k n i r : Nat} (hd : decode b pc = .ok (.putfield idx, 3)) (hf : zFk y.cls idx ci k n 2 false) (ha : zAc M i ci n) (hr : r ≠ 0) (kk : Ex G d y b nL ret (pc + 3) Ls st (wR M i (va_up (mR M i) k r)) res) : Ex G d y b nL ret pc Ls (.ref r :: .ref i :: st) M res := by
  obtain ⟨C, T, ty, f1, f2, f3, f4, f5, f6, f7, f8, f9, f10, f11, f12, f13⟩ := hf
  refine x_wr (M2 := wR M i (va_up (mR M i) k r)) rfl rfl (fun H' hw => hw.2.1.wR (by have := ha.2.1; have := hw.2.2; omega)) (fun hC hw hS hz w => ?_) kk
  rw [List.map_cons, List.map_cons, rv_ref (r := i) (by have := ha.1; omega)]
  have he := zwl_get (G := G) ha.1 ha.2.1
  rw [zent_o ha.2.2 f6] at he
  refine va_put hC.1 hC.2.1 (fun w h => hC.2.2.2.2.1 w h) f2 ty f3 f4 hC.2.2.2.1 hC.2.2.2.2.2.2.2.2.1.1 hw.1 hw.ad0 hS (i - 1) he f1 k f5 (hC.2.2.2.2.1 _ f7) (fun _ h => h) f8 (f3 k f5) (by rw [rv_ref hr]; exact (f12 rfl _).1) (by rw [rv_ref hr]; exact (f12 rfl _).2) (by simpa using f5) hd (fun H1 locs1 hP hD hS1 => ?_)
  rw [zwl_putR ha f6 (by rw [f9]; rfl)] at hP
  exact w H1 locs1 hP hS1
theorem x_putF {idx ci k n i r : Nat} (hd : decode b pc = .ok (.putfield idx, 3)) (hf : zFk y.cls idx ci k n 2 true) (hy : y.name = "<init>") (hcl : ∀ (C : String) (T : u_T) (n : Nat), vwCl[ci]? = some (C, T, n) → C = y.cls) (ha : zAc M i ci n) (hr : r ≠ 0) (kk : Ex G d y b nL ret (pc + 3) Ls st (wR M i (va_up (mR M i) k r)) res) : Ex G d y b nL ret pc Ls (.ref r :: .ref i :: st) M res := by
  obtain ⟨C, T, ty, f1, f2, f3, f4, f5, f6, f7, f8, f9, f10, f11, f12, f13⟩ := hf
  refine x_wr (M2 := wR M i (va_up (mR M i) k r)) rfl rfl (fun H' hw => hw.2.1.wR (by have := ha.2.1; have := hw.2.2; omega)) (fun hC hw hS hz w => ?_) kk
  rw [List.map_cons, List.map_cons, rv_ref (r := i) (by have := ha.1; omega)]
  have he := zwl_get (G := G) ha.1 ha.2.1
  rw [zent_o ha.2.2 f6] at he
  refine va_putF hC.1 hC.2.1 (fun w h => hC.2.2.2.2.1 w h) f2 ty f3 f4 hC.2.2.2.1 hC.2.2.2.2.2.2.2.2.1.1 hw.1 hw.ad0 hS (i - 1) he f1 k f5 (hC.2.2.2.2.1 _ f7) (fun _ h => h) f8 (hC.2.2.2.2.2.2.2.1.trans hy) (by rw [f13]; exact hcl C T n f1) (f3 k f5) (by rw [rv_ref hr]; exact (f12 rfl _).1) (by rw [rv_ref hr]; exact (f12 rfl _).2) (by simpa using f5) hd (fun H1 locs1 hP hD hS1 => ?_)
  rw [zwl_putR ha f6 (by rw [f9]; rfl)] at hP
  exact w H1 locs1 hP hS1
end EX3
