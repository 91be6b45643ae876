/-! a method's contract out of Ex; calls; new cells -/
def zent1 : List Value → List Value
  | [] => []
  | .long x :: vs => .long x :: .null :: zent1 vs
  | v :: vs => v :: zent1 vs
def zent0 (av : List Value) (n : Nat) : List Value := zent1 av ++ List.replicate (n - (zent1 av).length) .null
/-- plain values: numbers, longs, references -/
def zpl : Value → Bool
  | .int _ => true
  | .long _ => true
  | .ref _ => true
  | _ => false
theorem zent1_args {G : zG} : ∀ (av : List Value), av.all zpl = true → ∀ (i k : Nat) (v : Value), (zent1 av)[k]? = some v → v ≠ .null → (i + k, rv G v) ∈ lv_args i (av.map (rv G)) := by
  intro av
  induction av with
  | nil => intro _ i k v h; simp [zent1] at h
  | cons a av ih =>
    intro hp i k v h hv
    simp only [List.all_cons, Bool.and_eq_true] at hp
    cases a with
    | long x =>
      simp only [zent1] at h
      simp only [List.map_cons, rv, lv_args, Value.category, if_true]
      match k, h with
      | 0, h => cases h; exact List.mem_cons_self
      | 1, h => cases h; exact absurd rfl hv
      | k + 2, h =>
        refine List.mem_cons_of_mem _ ?_
        have := ih hp.2 (i + 2) k v (by simpa using h) hv
        rwa [show i + 2 + k = i + (k + 2) by omega] at this
    | int x =>
      simp only [zent1] at h
      simp only [List.map_cons, rv, lv_args, Value.category]
      match k, h with
      | 0, h => cases h; exact List.mem_cons_self
      | k + 1, h =>
        refine List.mem_cons_of_mem _ ?_
        have := ih hp.2 (i + 1) k v (by simpa using h) hv
        rwa [show i + 1 + k = i + (k + 1) by omega] at this
    | ref x =>
      simp only [zent1] at h
      have hc : (rv G (.ref x)).category = 1 := rv_cat (fun _ q => by cases q) (fun _ q => by cases q)
      simp only [List.map_cons, lv_args, hc]
      match k, h with
      | 0, h => cases h; exact List.mem_cons_self
      | k + 1, h =>
        refine List.mem_cons_of_mem _ ?_
        have := ih hp.2 (i + 1) k v (by simpa using h) hv
        rwa [show i + 1 + k = i + (k + 1) by omega] at this
    | _ => simp [zpl] at hp
theorem zent1_len {G : zG} : ∀ (av : List Value), av.all zpl = true → (lg_sl (av.map (rv G))).length = (zent1 av).length := by
  intro av
  induction av with
  | nil => intro _; rfl
  | cons a av ih =>
    intro hp
    simp only [List.all_cons, Bool.and_eq_true] at hp
    have := ih hp.2
    cases a with
    | long x =>
      simp only [lg_sl, List.map_cons, rv, List.flatMap_cons, Value.category, zent1, List.length_append, List.length_cons] at this ⊢
      simp only [if_true, List.length_cons, List.length_nil]
      omega
    | int x =>
      simp only [lg_sl, List.map_cons, rv, List.flatMap_cons, Value.category, zent1, List.length_append, List.length_cons] at this ⊢
      simp at this ⊢
      omega
    | ref x =>
      have hc : (rv G (.ref x)).category = 1 := rv_cat (fun _ q => by cases q) (fun _ q => by cases q)
      simp only [lg_sl, List.map_cons, List.flatMap_cons, hc, zent1, List.length_append, List.length_cons] at this ⊢
      simp at this ⊢
      omega
    | _ => simp [zpl] at hp
theorem zent_LR {G : zG} {av : List Value} {n : Nat} (hp : av.all zpl = true) (hn : (zent1 av).length ≤ n) : zLR G ((lg_sl (av.map (rv G)) ++ List.replicate (n - (lg_sl (av.map (rv G))).length) Slot.unset).toArray) n (zent0 av n) := by
  have h := lv_entry (av.map (rv G)) (n := n) (by rw [zent1_len av hp]; exact hn)
  refine ⟨h.1, h.2.1, fun k v hk hv => ?_⟩
  unfold zent0 at hk
  by_cases hl : k < (zent1 av).length
  · rw [List.getElem?_append_left hl] at hk
    have := zent1_args (G := G) av hp 0 k v hk hv
    rw [Nat.zero_add] at this
    exact h.2.2 _ this
  · rw [List.getElem?_append_right (by omega)] at hk
    have := List.eq_of_mem_replicate (List.mem_of_getElem? hk)
    exact absurd this hv
def zPc (G : zG) (av : List Value) (M : zM) : Array Value → State → Prop := fun v U => v = (av.map (rv G)).toArray ∧ zWd G M U.heap ∧ zKS G U U.heap ∧ U.heap.size = G.1 + M.1
def zQc (G : zG) (res : Option Value × zM) : Array Value → State → Outcome → State → Prop := fun _ st oc t => oc = .returned (res.1.map (rv G)) ∧ zWd G res.2 t.heap ∧ st.heap.size ≤ t.heap.size ∧ ∀ q : Nat, q < st.heap.size → ¬ zA G q → t.heap[q]? = st.heap[q]?
def zrm (d : Nat) (M : zM) (res : Option Value × zM) : Room := { frames := d + 1, cells := res.2.1 - M.1, slots := res.2.2.1 - M.2.1, locals := 64 * (d + 1) }
theorem zPc_blind {G : zG} {av : List Value} {M : zM} : FrameBlind (zPc G av M) := fun _ U g mk h => ⟨h.1, h.2.1, zKS.calling h.2.2.1, h.2.2.2⟩
theorem zmet {G : zG} {d : Nat} {y : MethodName} {b : ByteArray} {nL : Nat} {ret : Option FieldType} {av : List Value} {M : zM} {res : Option Value × zM} (l : Launch) (hy : plainName y.cls = true) (hp : av.all zpl = true) (hn : (zent1 av).length ≤ nL)
    (hx : Ex G d y b nL ret 0 (zent0 av nL) [] M res) : Met l y (.code y b nL ret :: zW) (zrm d M res) (zPc G av M) (zQc G res) (res.2.1 - M.1) (res.2.2.1 - M.2.1) (zA G) := by
  refine Met.ofW (cc := b) (maxL := nL) (ret := ret) hy rfl ?_
  intro p e s m args below meth c s₁ B hml hv
  obtain ⟨rfl, hw, hk, hsz⟩ := hv
  have hts := atoms_spec (ws := Cond.code y b nL ret :: zW) B.pre
  rw [lg_entry_eq]
  have hC : zCx G d y b nL ret p (headSpec (Cond.code y b nL ret :: zW) (zrm d M res)).room s m (av.map (rv G)).toArray meth c M.1 M.2.1 :=
    ⟨B.exec, B.bytes, hml, findClass_of_methodNamed B.named, fun w h => hts w (List.mem_cons_of_mem _ h), B.returns, B.notSynchronized, (name_of_methodNamed B.named B.method).1, hk, hsz, Nat.le_refl _, Nat.le_refl _⟩
  have hb := hx.1
  refine hx.2 p l e _ s m _ below meth c s.heap [] 0 0 _ _ M.1 M.2.1 hC hw va_S.rf (zent_LR hp hn) rfl rfl (by show _ ≤ M.1 + (res.2.1 - M.1); omega) (by show _ ≤ M.2.1 + (res.2.2.1 - M.2.1); omega) ?_
  intro H' locs' cells' slots' pcr lsr hw' hS' e1 e2 hr
  have c1 : cells' = res.2.1 - M.1 := by omega
  have c2 : slots' = res.2.2.1 - M.2.1 := by omega
  subst c1; subst c2
  have hlk : meth.locks = false := B.notSynchronized
  cases hres : res.1 with
  | none =>
    rw [hres] at hr
    exact W.vret B.exec B.bytes (B.returns.trans hr.1) (fun t ht hW => ⟨by rw [hres]; rfl, by rw [ht]; exact hw', by rw [ht]; exact hS'.1, fun q h1 h2 => by rw [ht]; exact hS'.2.1 q h1 h2⟩) hS'.2.2 hr.2 hlk
  | some w =>
    rw [hres] at hr
    obtain ⟨x, ty, rfl, h2, h3, h4⟩ := hr
    exact W.zret B.exec B.bytes (B.returns.trans h2) h3 (fun t ht hW => ⟨by rw [hres]; rfl, by rw [ht]; exact hw', by rw [ht]; exact hS'.1, fun q h1 h2 => by rw [ht]; exact hS'.2.1 q h1 h2⟩) hS'.2.2 h4 hlk
theorem zgood {ws : List Cond} (h : ∀ w ∈ ws, w ∈ zW) : GoodIn zW ws := fun w hw => ⟨h w hw, good_of_word (zW_good _ (h w hw))⟩
theorem zgoodc {y : MethodName} {b : ByteArray} {nL : Nat} {ret : Option FieldType} (h : Cond.code y b nL ret ∈ zW) : GoodIn zW (.code y b nL ret :: zW) := zgood (fun w hw => by rcases List.mem_cons.mp hw with rfl | q; exact h; exact q)
theorem zcall_W {G : zG} {p : Program} {l : Launch} {e : Env} {R : Room} {s : State} {m : MethodId} {args : Array Value} {below : List Frame} {meth : Method} {c : Code} {H : Heap} {locs : List Loc} {cells slots mc ms : Nat} {Q : State → Prop} {pc : Nat} {ls : Array Slot} {st0 rest : List Value} {a : Array Value} {res2 : Option Value × zM}
    (hr : va_Run p l e R s m args below meth c H locs cells slots mc ms (F0 m pc ls st0) rest (zQc G res2 a) (zA G)) (hS : va_S (zA G) s.heap H locs)
    (kk : ∀ (H1 : Heap) (locs1 : List Loc), zWd G res2.2 H1 → va_S (zA G) s.heap H1 locs1 → W p l e R s m args below meth c H1 locs1 (cells + mc) (slots + ms) Q (F0 m (pc + 3) ls ((res2.1.map (rv G)).toList ++ rest))) : W p l e R s m args below meth c H locs cells slots Q (F0 m pc ls st0) := by
  intro T hT X
  obtain ⟨v, st₀, t, T', L, h0, X', hL, e1, e2, ⟨hv, hw, hz, hk⟩, st⟩ := hr T hT X
  have hv2 : v = res2.1.map (rv G) := by cases hv; rfl
  subst hv2
  rw [h0] at hz hk
  obtain ⟨t2, a1, b1⟩ := kk T'.heap (locs ++ L) (by rw [e1]; exact hw)
    ⟨Nat.le_trans hS.1 (by rw [e1]; exact hz), fun q h1 h2 => by rw [e1, hk q (Nat.lt_of_lt_of_le h1 hS.1) h2]; exact hS.2.1 q h1 h2, fun q hq => by
      rcases List.mem_append.mp hq with h | h
      · exact hS.2.2 q h
      · exact hL q h⟩ T' rfl X'
  exact ⟨t2, st t2 a1, b1⟩
theorem zsize {G : zG} {M : zM} {p : Program} {l : Launch} {e : Env} {R : Room} {s : State} {m : MethodId} {args : Array Value} {below : List Frame} {meth : Method} {c : Code} {T : State} {locs : List Loc} {cells slots T0 : Nat} (hs : s.heap.size = G.1 + T0) (h1 : T0 + cells = M.1) (hw : zWd G M T.heap) (X : Stand p l e R s m args below meth c T locs cells slots) : T.heap.size = G.1 + M.1 := by
  have hu : T.heap.size ≤ s.heap.size + cells := X.same.2.2.1
  have hl : s.heap.size ≤ T.heap.size := X.same.2.1
  by_cases h0 : M.1 = 0
  · omega
  · have := (hw.1 _ _ (zwl_get (G := G) (M := M) (i := M.1) (by omega) (Nat.le_refl _))).lt
    simp only [] at this
    rw [zad_lo (by have := hw.2.2; omega)] at this
    omega
section EX5
variable {G : zG} {d : Nat} {y y2 : MethodName} {b b2 : ByteArray} {nL nL2 : Nat} {ret ret2 : Option FieldType} {pc : Nat} {Ls st st2 stk : List Value} {M : zM} {res res2 : Option Value × zM}
def zCal (y2 : MethodName) (b2 : ByteArray) (nL2 : Nat) (ret2 : Option FieldType) (n : Nat) : Prop := plainName y2.cls = true ∧ Cond.code y2 b2 nL2 ret2 ∈ zW ∧ Cond.initialized y2.cls ∈ zW ∧ (y2.cls ≠ "java/lang/invoke/MethodHandle" ∧ y2.cls ≠ "java/lang/invoke/VarHandle" ∧ (parseMethodDescriptor y2.desc).map (fun d => d.parameters.length) = some n) ∧ nL2 ≤ 45
theorem x_call {q : Nat} {stk : List Value} {As : List Value} (hx : Ex G d y2 b2 nL2 ret2 0 (zent0 As nL2) [] M res2) (hp : As.all zpl = true) (hn : (zent1 As).length ≤ nL2) (hc : zCal y2 b2 nL2 ret2 q)
    (hrun : ∀ {p : Program} {l : Launch} {e : Env} {R : Room} {s : State} {m : MethodId} {args : Array Value} {below : List Frame} {meth : Method} {c : Code} {H : Heap} {locs : List Loc} {cells slots : Nat} {ls : Array Slot} {T0 S0 : Nat}, zCx G (d + 1) y b nL ret p R s m args meth c T0 S0 → zWd G M H → ls.size = nL → H.size = G.1 + M.1 → Met l y2 (.code y2 b2 nL2 ret2 :: zW) (zrm d M res2) (zPc G As M) (zQc G res2) (res2.2.1 - M.1) (res2.2.2.1 - M.2.1) (zA G) → (∀ U : State, U.heap = H → s.WarmedH U.vm → zPc G As M (As.map (rv G)).toArray U) → cells + (res2.2.1 - M.1) ≤ R.cells ∧ slots + (res2.2.2.1 - M.2.1) ≤ R.slots →
      va_Run p l e R s m args below meth c H locs cells slots (res2.2.1 - M.1) (res2.2.2.1 - M.2.1) (F0 m pc ls (stk.map (rv G))) (st.map (rv G)) (zQc G res2 (As.map (rv G)).toArray) (zA G))
    (hst2 : st2 = res2.1.toList ++ st) (kk : Ex G (d + 1) y b nL ret (pc + 3) Ls st2 res2.2 res) : Ex G (d + 1) y b nL ret pc Ls stk M res := by
  have hb := hx.1
  have hb2 := kk.1
  refine ⟨⟨Nat.le_trans hb.1 hb2.1, Nat.le_trans hb.2 hb2.2⟩, ?_⟩
  intro p l e R s m args below meth c H locs cells slots Q ls T0 S0 hC hw hS hl h1 h2 h3 h4 K
  intro T hT X
  have hsz : H.size = G.1 + M.1 := by
    rw [← hT]
    exact zsize hC.2.2.2.2.2.2.2.2.2.1 h1 (by rw [hT]; exact hw) X
  refine zcall_W (hrun hC hw hl.1 hsz (zmet l hc.1 hp hn hx) (fun U hU hW => ⟨rfl, by rw [hU]; exact hw, ?_, by rw [hU]; exact hsz⟩) ⟨by omega, by omega⟩) hS (fun H1 locs1 hw1 hS1 => ?_) T hT X
  · rw [hU]
    exact (zS_of hC).moved hW (fun a h1 h2 => hS.2.1 a h1 h2)
  · have := kk.2 p l e R s m args below meth c H1 locs1 (cells + (res2.2.1 - M.1)) (slots + (res2.2.2.1 - M.2.1)) Q ls T0 S0 hC hw1 hS1 hl (by omega) (by omega) h3 h4 K
    rw [hst2, List.map_append] at this
    have e : (res2.1.map (rv G)).toList = res2.1.toList.map (rv G) := by cases res2.1 <;> rfl
    rw [e]
    exact this
theorem x_callV {idx n ci nn i : Nat} {T : u_T} {av : List Value} (hd : decode b pc = .ok (.invokevirtual idx, 3)) (hx : Ex G d y2 b2 nL2 ret2 0 (zent0 (.ref i :: av) nL2) [] M res2) (hp : av.all zpl = true) (hn : (zent1 (.ref i :: av)).length ≤ nL2) (hc : zCal y2 b2 nL2 ret2 n) (hna : av.length = n)
    (hlink : Cond.methodLink y.cls idx y2 ∈ zW) (hinst : Cond.instanceMethod y2 ∈ zW) (hsel : Cond.selects y2.cls y2 y2 ∈ zW) (hrec : zAc M i ci nn) (hci : ci < 10) (hcl : vwCl[ci]? = some (y2.cls, T, nn)) (hs : stk = av.reverse ++ .ref i :: st) (hst : (st.map fun v => (rv G v).category).sum ≤ 8)
    (hst2 : st2 = res2.1.toList ++ st) (kk : Ex G (d + 1) y b nL ret (pc + 3) Ls st2 res2.2 res) : Ex G (d + 1) y b nL ret pc Ls stk M res := by
  refine x_call hx (by simp [zpl, hp]) hn hc ?_ hst2 kk
  intro p l e R s m args below meth c H locs cells slots ls T0 S0 hC hw hls hsz hM hPc hroom
  have hts := hC.2.2.2.2.1
  have hR := hC.2.2.2.2.2.2.2.2.2.2
  have hi0 : i ≠ 0 := by have := hrec.1; omega
  have he := zwl_get (G := G) hrec.1 hrec.2.1
  rw [zent_o hrec.2.2 hci] at he
  have hsum : ((st.map (rv G)).map fun v => v.category).sum ≤ 8 := by rw [List.map_map]; exact hst
  have hl5 := hc.2.2.2.2
  have hrun := va_runV (g := F0 m pc ls (stk.map (rv G))) (b := zad G i) (As := av.map (rv G)) (rest := st.map (rv G)) (index := idx) (cells := cells) (slots := slots) (locs := locs) (below := below) (e := e) (meth := meth) (H := H)
    ⟨hC.1, hC.2.1, hC.2.2.1, hC.2.2.2.1, hts⟩ hM (cwV n hts (C := y2.cls) (zgood (fun w hw => by
      rcases List.mem_append.mp hw with h | h
      · simp only [List.mem_cons, List.not_mem_nil, or_false] at h
        rcases h with rfl | rfl | rfl | rfl
        · exact hlink
        · exact hinst
        · exact hsel
        · exact hc.2.2.1
      · rcases List.mem_cons.mp h with rfl | h
        · exact hc.2.1
        · exact h)) rfl rfl rfl ⟨rfl, hc.2.2.2.1⟩ ⟨by show d + 1 + 1 ≤ R.frames; omega, by show 8 + (nL2 + 11) + 64 * (d + 1) ≤ R.locals; omega⟩)
    ⟨zPc_blind, va_recv (zS_of hC).1 hw.1 hcl he, fun U hU hW => by have := hPc U hU hW; rw [List.map_cons, rv_ref hi0] at this; exact this⟩ rfl (by simpa using hna) hls (by show stk.map (rv G) = _; rw [hs, List.map_append, List.map_cons, rv_ref hi0, List.map_reverse]) (lv_room hsum) hd hroom
  rw [List.map_cons, rv_ref hi0]
  exact hrun
theorem x_callS {idx n : Nat} {av : List Value} (hd : decode b pc = .ok (.invokestatic idx, 3)) (hx : Ex G d y2 b2 nL2 ret2 0 (zent0 av nL2) [] M res2) (hp : av.all zpl = true) (hn : (zent1 av).length ≤ nL2) (hc : zCal y2 b2 nL2 ret2 n) (hna : av.length = n)
    (hlink : Cond.methodLink y.cls idx y2 ∈ zW) (hstat : Cond.static y2 ∈ zW) (hs : stk = av.reverse ++ st) (hst : (st.map fun v => (rv G v).category).sum ≤ 8)
    (hst2 : st2 = res2.1.toList ++ st) (kk : Ex G (d + 1) y b nL ret (pc + 3) Ls st2 res2.2 res) : Ex G (d + 1) y b nL ret pc Ls stk M res := by
  refine x_call hx hp hn hc ?_ hst2 kk
  intro p l e R s m args below meth c H locs cells slots ls T0 S0 hC hw hls hsz hM hPc hroom
  have hts := hC.2.2.2.2.1
  have hR := hC.2.2.2.2.2.2.2.2.2.2
  have hsum : ((st.map (rv G)).map fun v => v.category).sum ≤ 8 := by rw [List.map_map]; exact hst
  have hl5 := hc.2.2.2.2
  exact va_runS (g := F0 m pc ls (stk.map (rv G))) (As := av.map (rv G)) (rest := st.map (rv G)) (index := idx) (cells := cells) (slots := slots) (locs := locs) (below := below) (e := e) (meth := meth) (H := H)
    ⟨hC.1, hC.2.1, hC.2.2.1, hC.2.2.2.1, hts⟩ hM (va_cwS n hts (zgood (fun w hw => by
      rcases List.mem_append.mp hw with h | h
      · simp only [List.mem_cons, List.not_mem_nil, or_false] at h
        rcases h with rfl | rfl | rfl
        · exact hlink
        · exact hstat
        · exact hc.2.2.1
      · rcases List.mem_cons.mp h with rfl | h
        · exact hc.2.1
        · exact h)) rfl rfl rfl hc.2.2.2.1 ⟨by show d + 1 + 1 ≤ R.frames; omega, by show 8 + (nL2 + 11) + 64 * (d + 1) ≤ R.locals; omega⟩)
    ⟨zPc_blind, fun U hU hW => hPc U hU hW⟩ rfl (by simpa using hna) hls (by show stk.map (rv G) = _; rw [hs, List.map_append, List.map_reverse]) (lv_room hsum) hd hroom
theorem x_callI {idx n i : Nat} {av : List Value} (hd : decode b pc = .ok (.invokespecial idx, 3)) (hx : Ex G d y2 b2 nL2 none 0 (zent0 (.ref i :: av) nL2) [] M res2) (hp : av.all zpl = true) (hn : (zent1 (.ref i :: av)).length ≤ nL2) (hc : zCal y2 b2 nL2 none n) (hna : av.length = n)
    (hlink : Cond.methodLink y.cls idx y2 ∈ zW) (hinst : Cond.instanceMethod y2 ∈ zW) (hy : y2.name = "<init>") (hi0 : i ≠ 0) (hs : stk = av.reverse ++ .ref i :: st) (hst : (st.map fun v => (rv G v).category).sum ≤ 8)
    (hst2 : st2 = res2.1.toList ++ st) (kk : Ex G (d + 1) y b nL ret (pc + 3) Ls st2 res2.2 res) : Ex G (d + 1) y b nL ret pc Ls stk M res := by
  refine x_call hx (by simp [zpl, hp]) hn hc ?_ hst2 kk
  intro p l e R s m args below meth c H locs cells slots ls T0 S0 hC hw hls hsz hM hPc hroom
  have hts := hC.2.2.2.2.1
  have hR := hC.2.2.2.2.2.2.2.2.2.2
  have hsum : ((st.map (rv G)).map fun v => v.category).sum ≤ 8 := by rw [List.map_map]; exact hst
  have hl5 := hc.2.2.2.2
  have hrun := va_runI (g := F0 m pc ls (stk.map (rv G))) (b := zad G i) (As := av.map (rv G)) (rest := st.map (rv G)) (index := idx) (cells := cells) (slots := slots) (locs := locs) (below := below) (e := e) (meth := meth) (H := H)
    ⟨hC.1, hC.2.1, hC.2.2.1, hC.2.2.2.1, hts⟩ hM (cwI n hts (zgoodc hc.2.1) rfl rfl rfl (hts _ hc.2.2.1) (hts _ hlink) (hts _ hinst) hy hc.2.2.2.1 ⟨by show d + 1 + 1 ≤ R.frames; omega, by show 8 + (nL2 + 11) + 64 * (d + 1) ≤ R.locals; omega⟩)
    ⟨zPc_blind, fun U hU hW => by have := hPc U hU hW; rw [List.map_cons, rv_ref hi0] at this; exact this⟩ rfl (by simpa using hna) hls (by show stk.map (rv G) = _; rw [hs, List.map_append, List.map_cons, rv_ref hi0, List.map_reverse]) (lv_room hsum) hd hroom
  rw [List.map_cons, rv_ref hi0]
  exact hrun
theorem x_callN {idx n i : Nat} {av : List Value} {host : String} (hd : decode b pc = .ok (.invokespecial idx, 3)) (hx : Ex G d y2 b2 nL2 none 0 (zent0 (.ref i :: av) nL2) [] M res2) (hp : av.all zpl = true) (hn : (zent1 (.ref i :: av)).length ≤ nL2) (hc : zCal y2 b2 nL2 none n) (hna : av.length = n)
    (hlink : (y.cls, idx, y2, host) ∈ zNM) (hinst : Cond.instanceMethod y2 ∈ zW) (hy : y2.name = "<init>") (hi0 : i ≠ 0) (hs : stk = av.reverse ++ .ref i :: st) (hst : (st.map fun v => (rv G v).category).sum ≤ 8)
    (hst2 : st2 = res2.1.toList ++ st) (kk : Ex G (d + 1) y b nL ret (pc + 3) Ls st2 res2.2 res) : Ex G (d + 1) y b nL ret pc Ls stk M res := by
  refine x_call hx (by simp [zpl, hp]) hn hc ?_ hst2 kk
  intro p l e R s m args below meth c H locs cells slots ls T0 S0 hC hw hls hsz hM hPc hroom
  have hts := hC.2.2.2.2.1
  have hR := hC.2.2.2.2.2.2.2.2.2.2
  have hsum : ((st.map (rv G)).map fun v => v.category).sum ≤ 8 := by rw [List.map_map]; exact hst
  have hl5 := hc.2.2.2.2
  have hrun := va_runIN (g := F0 m pc ls (stk.map (rv G))) (b := zad G i) (As := av.map (rv G)) (rest := st.map (rv G)) (index := idx) (cells := cells) (slots := slots) (locs := locs) (below := below) (e := e) (meth := meth) (H := H)
    ⟨hC.1, hC.2.1, hC.2.2.1, hC.2.2.2.1, hts⟩ hM ⟨va_cnB n hts (zgoodc hc.2.1) rfl rfl rfl ((zS_of hC).2.2.2.2.2.2.1 _ hlink) (hts _ hc.2.2.1) hc.2.2.2.1 ⟨by show d + 1 + 1 ≤ R.frames; omega, by show 8 + (nL2 + 11) + 64 * (d + 1) ≤ R.locals; omega⟩, hy, hts _ hinst⟩
    ⟨zPc_blind, fun U hU hW => by have := hPc U hU hW; rw [List.map_cons, rv_ref hi0] at this; exact this⟩ rfl (by simpa using hna) hls (by show stk.map (rv G) = _; rw [hs, List.map_append, List.map_cons, rv_ref hi0, List.map_reverse]) (lv_room hsum) hd hroom
  rw [List.map_cons, rv_ref hi0]
  exact hrun
/-! new cells -/
theorem zfresh {q : Nat} {e : va_E} (hD : va_D (zA G) (zwl G M ++ [(q, e)])) (hlt : q < G.1 + M.1 + 1) (hm : M.1 + 1 < 1000) : q = zad G (M.1 + 1) := by
  have hlen : (zwl G M).length = M.1 := by simp [zwl]
  have hl : (zwl G M ++ [(q, e)])[M.1]? = some (q, e) := by rw [List.getElem?_append_right (by omega), hlen, Nat.sub_self]; rfl
  have hA : G.1 ≤ q := hD.2 _ _ hl
  rw [zad_lo hm]
  by_cases hq : q < G.1 + M.1
  · have h0 := zwl_get (G := G) (M := M) (i := q - G.1 + 1) (by omega) (by omega)
    rw [Nat.add_sub_cancel] at h0
    have h1 : (zwl G M ++ [(q, e)])[q - G.1]? = some (zad G (q - G.1 + 1), zent G M (q - G.1 + 1)) := by rw [List.getElem?_append_left (by omega)]; exact h0
    have := hD.1 _ _ _ _ h1 hl (by show zad G _ = q; rw [zad_lo (by omega)]; omega)
    omega
  · omega
end EX5
