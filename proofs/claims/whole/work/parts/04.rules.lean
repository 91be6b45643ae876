/-! THE JUDGEMENT Ex: from every state that holds this memory, these locals and this stack, the method comes to its return with that answer and that memory; and its rules, one an instruction -/
def zW : List Cond := lw_tbl.filter goodWord
theorem zin {w : Cond} (h : w ∈ lw_tbl) (hg : goodWord w = true) : w ∈ zW := List.mem_filter.mpr ⟨h, hg⟩
theorem zin_t {w : Cond} (i : Nat) (h : tables_1[i]? = some w) (hg : goodWord w = true) : w ∈ zW := zin (List.mem_append_right _ (List.mem_of_getElem? h)) hg
theorem zin_p {q : MethodName × Nat} (h : q ∈ lw_privs) (hg : goodWord (Cond.selects q.1.cls q.1 q.1) = true) : Cond.selects q.1.cls q.1 q.1 ∈ zW := zin (List.mem_append_left _ (List.mem_map.mpr ⟨q, h, rfl⟩)) hg
theorem zW_good : ∀ w ∈ zW, goodWord w = true := fun _ h => (List.mem_filter.mp h).2
theorem zW_tbl : ∀ w ∈ zW, w ∈ lw_tbl := fun _ h => (List.mem_filter.mp h).1
def zLR (G : zG) (ls : Array Slot) (nL : Nat) (Ls : List Value) : Prop := ls.size = nL ∧ lv_wf ls ∧ ∀ (k : Nat) (v : Value), Ls[k]? = some v → v ≠ .null → ls[k]? = some (.val (rv G v))
def zRet (b : ByteArray) (ret : Option FieldType) (pc : Nat) : Option Value → Prop
  | none => ret = none ∧ decode b pc = .ok (.return_, 1)
  | some w => ∃ (x : Int32) (ty : FieldType), w = .int x ∧ ret = some ty ∧ narrow ty (.int x) = .int x ∧ decode b pc = .ok (.ireturn, 1)
def zCx (G : zG) (d : Nat) (y : MethodName) (b : ByteArray) (nL : Nat) (ret : Option FieldType) (p : Program) (R : Room) (s : State) (m : MethodId) (args : Array Value) (meth : Method) (c : Code) (T0 S0 : Nat) : Prop :=
  p.tables.exec = Jvm.exec ∧ c.code = b ∧ c.maxLocals = nL ∧ s.vm.findClass y.cls = some m.cls ∧ (∀ w ∈ zW, w.before args s = true) ∧ meth.sig.returnType = ret ∧ meth.locks = false ∧ meth.name = y.name ∧ zKS G s s.heap ∧ s.heap.size = G.1 + T0 ∧ d + 1 ≤ R.frames ∧ 64 * (d + 1) ≤ R.locals
def Ex (G : zG) (d : Nat) (y : MethodName) (b : ByteArray) (nL : Nat) (ret : Option FieldType) (pc : Nat) (Ls st : List Value) (M : zM) (res : Option Value × zM) : Prop :=
  (M.1 ≤ res.2.1 ∧ M.2.1 ≤ res.2.2.1) ∧ ∀ (p : Program) (l : Launch) (e : Env) (R : Room) (s : State) (m : MethodId) (args : Array Value) (below : List Frame) (meth : Method) (c : Code) (H : Heap) (locs : List Loc) (cells slots : Nat) (Q : State → Prop) (ls : Array Slot) (T0 S0 : Nat),
    zCx G d y b nL ret p R s m args meth c T0 S0 → zWd G M H → va_S (zA G) s.heap H locs → zLR G ls nL Ls → T0 + cells = M.1 → S0 + slots = M.2.1 → res.2.1 ≤ T0 + R.cells → res.2.2.1 ≤ S0 + R.slots →
    (∀ (H' : Heap) (locs' : List Loc) (cells' slots' : Nat) (pcr : Nat) (lsr : Array Slot), zWd G res.2 H' → va_S (zA G) s.heap H' locs' → T0 + cells' = res.2.1 → S0 + slots' = res.2.2.1 → zRet b ret pcr res.1 →
      W p l e R s m args below meth c H' locs' cells' slots' Q (F0 m pcr lsr (res.1.toList.map (rv G)))) →
    W p l e R s m args below meth c H locs cells slots Q (F0 m pc ls (st.map (rv G)))
section EX
variable {G : zG} {d : Nat} {y : MethodName} {b : ByteArray} {nL : Nat} {ret : Option FieldType} {pc : Nat} {Ls st : List Value} {M : zM} {res : Option Value × zM}
theorem x_ret {x : Int32} {ty : FieldType} (hd : decode b pc = .ok (.ireturn, 1)) (hr : ret = some ty) (hn : narrow ty (.int x) = .int x) : Ex G d y b nL ret pc Ls [.int x] M (some (.int x), M) := by
  refine ⟨⟨Nat.le_refl _, Nat.le_refl _⟩, ?_⟩
  intro p l e R s m args below meth c H locs cells slots Q ls T0 S0 hC hw hS hl h1 h2 h3 h4 K
  exact K H locs cells slots pc ls hw hS h1 h2 ⟨x, ty, rfl, hr, hn, hd⟩
theorem x_vret (hd : decode b pc = .ok (.return_, 1)) (hr : ret = none) : Ex G d y b nL ret pc Ls [] M (none, M) := by
  refine ⟨⟨Nat.le_refl _, Nat.le_refl _⟩, ?_⟩
  intro p l e R s m args below meth c H locs cells slots Q ls T0 S0 hC hw hS hl h1 h2 h3 h4 K
  exact K H locs cells slots pc ls hw hS h1 h2 ⟨hr, hd⟩
/-- a step that changes neither heap nor locals -/
theorem x_pure {pc2 : Nat} {st2 : List Value} (h : ∀ {p : Program} {l : Launch} {e : Env} {R : Room} {s : State} {m : MethodId} {args : Array Value} {below : List Frame} {meth : Method} {c : Code} {H : Heap} {locs : List Loc} {cells slots : Nat} {Q : State → Prop} {ls : Array Slot} {T0 S0 : Nat},
    zCx G d y b nL ret p R s m args meth c T0 S0 → zLR G ls nL Ls → W p l e R s m args below meth c H locs cells slots Q (F0 m pc2 ls (st2.map (rv G))) → W p l e R s m args below meth c H locs cells slots Q (F0 m pc ls (st.map (rv G))))
    (k : Ex G d y b nL ret pc2 Ls st2 M res) : Ex G d y b nL ret pc Ls st M res := by
  refine ⟨k.1, ?_⟩
  intro p l e R s m args below meth c H locs cells slots Q ls T0 S0 hC hw hS hl h1 h2 h3 h4 K
  exact h hC hl (k.2 p l e R s m args below meth c H locs cells slots Q ls T0 S0 hC hw hS hl h1 h2 h3 h4 K)
theorem zLR.at {ls : Array Slot} {k : Nat} {v : Value} (h : zLR G ls nL Ls) (hk : Ls[k]? = some v) (hv : v ≠ .null) : ls[k]? = some (.val (rv G v)) := h.2.2 k v hk hv
theorem x_iconst {n : Int} {v : Int32} (hd : decode b pc = .ok (.iconst n, 1)) (hv : Int32.ofInt n = v) (k : Ex G d y b nL ret (pc + 1) Ls (.int v :: st) M res) : Ex G d y b nL ret pc Ls st M res := x_pure (fun C _ w => lv_iconst C.1 C.2.1 hd hv w) k
theorem x_bipush {n : Int} {v : Int32} (hd : decode b pc = .ok (.bipush n, 2)) (hv : (Int8.ofInt n).toInt32 = v) (k : Ex G d y b nL ret (pc + 2) Ls (.int v :: st) M res) : Ex G d y b nL ret pc Ls st M res := x_pure (fun C _ w => lv_bipush C.1 C.2.1 hd hv w) k
theorem x_sipush {n : Int} {v : Int32} (hd : decode b pc = .ok (.sipush n, 3)) (hv : (Int16.ofInt n).toInt32 = v) (k : Ex G d y b nL ret (pc + 3) Ls (.int v :: st) M res) : Ex G d y b nL ret pc Ls st M res := x_pure (fun C _ w => lv_sipush C.1 C.2.1 hd hv w) k
theorem x_lconst {n : Fin 2} {v : Int64} (hd : decode b pc = .ok (.lconst n, 1)) (hv : Int64.ofNat (n : Nat) = v) (k : Ex G d y b nL ret (pc + 1) Ls (.long v :: st) M res) : Ex G d y b nL ret pc Ls st M res := x_pure (fun C _ w => lv_lconst C.1 C.2.1 hd hv w) k
theorem x_ldc {i : Nat} {v : Int32} (hd : decode b pc = .ok (.ldc i, 2)) (hc : Cond.constant y.cls i v ∈ zW) (k : Ex G d y b nL ret (pc + 2) Ls (.int v :: st) M res) : Ex G d y b nL ret pc Ls st M res := x_pure (fun C _ w => lv_ldc C.1 C.2.1 C.2.2.2.1 (C.2.2.2.2.1 _ hc) hd w) k
theorem x_ldcw {i : Nat} {v : Int32} (hd : decode b pc = .ok (.ldc_w i, 3)) (hc : Cond.constant y.cls i v ∈ zW) (k : Ex G d y b nL ret (pc + 3) Ls (.int v :: st) M res) : Ex G d y b nL ret pc Ls st M res := x_pure (fun C _ w => lv_ldcw C.1 C.2.1 C.2.2.2.1 (C.2.2.2.2.1 _ hc) hd w) k
theorem x_ldc2 {i : Nat} {v : Int64} (hd : decode b pc = .ok (.ldc2_w i, 3)) (hc : Cond.constantLong y.cls i v ∈ zW) (k : Ex G d y b nL ret (pc + 3) Ls (.long v :: st) M res) : Ex G d y b nL ret pc Ls st M res := x_pure (fun C _ w => lv_ldc2 C.1 C.2.1 C.2.2.2.1 (C.2.2.2.2.1 _ hc) hd w) k
theorem x_iload_n {n : Fin 4} {i : Nat} {x : Int32} (hd : decode b pc = .ok (.iload_n n, 1)) (hi : (n : Nat) = i) (hl : Ls[i]? = some (.int x)) (k : Ex G d y b nL ret (pc + 1) Ls (.int x :: st) M res) : Ex G d y b nL ret pc Ls st M res := x_pure (fun C h w => lv_iload_n C.1 C.2.1 hd hi (h.at hl (fun q => by cases q)) w) k
theorem x_iload {i : Nat} {x : Int32} (hd : decode b pc = .ok (.iload i, 2)) (hl : Ls[i]? = some (.int x)) (k : Ex G d y b nL ret (pc + 2) Ls (.int x :: st) M res) : Ex G d y b nL ret pc Ls st M res := x_pure (fun C h w => lv_iload C.1 C.2.1 hd (h.at hl (fun q => by cases q)) w) k
theorem x_lload_n {n : Fin 4} {i : Nat} {x : Int64} (hd : decode b pc = .ok (.lload_n n, 1)) (hi : (n : Nat) = i) (hl : Ls[i]? = some (.long x)) (k : Ex G d y b nL ret (pc + 1) Ls (.long x :: st) M res) : Ex G d y b nL ret pc Ls st M res := x_pure (fun C h w => lv_lload_n C.1 C.2.1 hd hi (h.at hl (fun q => by cases q)) w) k
theorem x_lload {i : Nat} {x : Int64} (hd : decode b pc = .ok (.lload i, 2)) (hl : Ls[i]? = some (.long x)) (k : Ex G d y b nL ret (pc + 2) Ls (.long x :: st) M res) : Ex G d y b nL ret pc Ls st M res := x_pure (fun C h w => lv_lload C.1 C.2.1 hd (h.at hl (fun q => by cases q)) w) k
theorem rv_ref {r : Nat} (h : r ≠ 0) : rv G (.ref r) = .ref (zad G r) := by simp [rv, zo, h, va_rf]
theorem x_aload_n {n : Fin 4} {i r : Nat} (hd : decode b pc = .ok (.aload_n n, 1)) (hi : (n : Nat) = i) (hl : Ls[i]? = some (.ref r)) (hr : r ≠ 0) (k : Ex G d y b nL ret (pc + 1) Ls (.ref r :: st) M res) : Ex G d y b nL ret pc Ls st M res := by
  refine x_pure (st2 := .ref r :: st) (fun C h w => ?_) k
  have h2 := h.at hl (fun q => by cases q)
  rw [rv_ref hr] at h2
  rw [List.map_cons, rv_ref hr] at w
  exact lv_aload_n C.1 C.2.1 hd hi h2 w
theorem x_aload {i r : Nat} (hd : decode b pc = .ok (.aload i, 2)) (hl : Ls[i]? = some (.ref r)) (hr : r ≠ 0) (k : Ex G d y b nL ret (pc + 2) Ls (.ref r :: st) M res) : Ex G d y b nL ret pc Ls st M res := by
  refine x_pure (st2 := .ref r :: st) (fun C h w => ?_) k
  have h2 := h.at hl (fun q => by cases q)
  rw [rv_ref hr] at h2
  rw [List.map_cons, rv_ref hr] at w
  exact lv_aload C.1 C.2.1 hd h2 w
theorem x_iadd {x z : Int32} (hd : decode b pc = .ok (.iadd, 1)) (k : Ex G d y b nL ret (pc + 1) Ls (.int (x + z) :: st) M res) : Ex G d y b nL ret pc Ls (.int z :: .int x :: st) M res := x_pure (fun C _ w => lv_iadd C.1 C.2.1 hd w) k
theorem x_isub {x z : Int32} (hd : decode b pc = .ok (.isub, 1)) (k : Ex G d y b nL ret (pc + 1) Ls (.int (x - z) :: st) M res) : Ex G d y b nL ret pc Ls (.int z :: .int x :: st) M res := x_pure (fun C _ w => lv_isub C.1 C.2.1 hd w) k
theorem x_imul {x z : Int32} (hd : decode b pc = .ok (.imul, 1)) (k : Ex G d y b nL ret (pc + 1) Ls (.int (x * z) :: st) M res) : Ex G d y b nL ret pc Ls (.int z :: .int x :: st) M res := x_pure (fun C _ w => lv_imul C.1 C.2.1 hd w) k
theorem x_iand {x z : Int32} (hd : decode b pc = .ok (.iand, 1)) (k : Ex G d y b nL ret (pc + 1) Ls (.int (x &&& z) :: st) M res) : Ex G d y b nL ret pc Ls (.int z :: .int x :: st) M res := x_pure (fun C _ w => lv_iand C.1 C.2.1 hd w) k
theorem x_ior {x z : Int32} (hd : decode b pc = .ok (.ior, 1)) (k : Ex G d y b nL ret (pc + 1) Ls (.int (x ||| z) :: st) M res) : Ex G d y b nL ret pc Ls (.int z :: .int x :: st) M res := x_pure (fun C _ w => lv_ior C.1 C.2.1 hd w) k
theorem x_idiv {x z : Int32} (hd : decode b pc = .ok (.idiv, 1)) (hz : ¬ z = 0) (k : Ex G d y b nL ret (pc + 1) Ls (.int (x / z) :: st) M res) : Ex G d y b nL ret pc Ls (.int z :: .int x :: st) M res := x_pure (fun C _ w => lv_idiv C.1 C.2.1 hd hz w) k
theorem x_irem {x z : Int32} (hd : decode b pc = .ok (.irem, 1)) (hz : ¬ z = 0) (k : Ex G d y b nL ret (pc + 1) Ls (.int (x - x / z * z) :: st) M res) : Ex G d y b nL ret pc Ls (.int z :: .int x :: st) M res := x_pure (fun C _ w => lv_irem C.1 C.2.1 hd hz w) k
theorem x_goto {off : Int} {t : Nat} (hd : decode b pc = .ok (.goto off, 3)) (ht : (pc : Int) + off = (t : Int)) (k : Ex G d y b nL ret t Ls st M res) : Ex G d y b nL ret pc Ls st M res := x_pure (fun C _ w => lv_goto C.1 C.2.1 hd ht w) k
theorem x_dup {v : Value} (hd : decode b pc = .ok (.dup, 1)) (hv : (rv G v).category = 1) (k : Ex G d y b nL ret (pc + 1) Ls (v :: v :: st) M res) : Ex G d y b nL ret pc Ls (v :: st) M res := x_pure (fun C _ w => lv_dup C.1 C.2.1 hd hv w) k
end EX
