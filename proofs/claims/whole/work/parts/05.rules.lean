section EX2
variable {G : zG} {d : Nat} {y : MethodName} {b : ByteArray} {nL : Nat} {ret : Option FieldType} {pc : Nat} {Ls st : List Value} {M : zM} {res : Option Value × zM}
theorem x_ineg {x : Int32} (hd : decode b pc = .ok (.ineg, 1)) (k : Ex G d y b nL ret (pc + 1) Ls (.int (-x) :: st) M res) : Ex G d y b nL ret pc Ls (.int x :: st) M res := x_pure (fun C _ w => lv_ineg C.1 C.2.1 hd w) k
theorem x_ishl {x z : Int32} (hd : decode b pc = .ok (.ishl, 1)) (k : Ex G d y b nL ret (pc + 1) Ls (.int (x <<< (z &&& 31)) :: st) M res) : Ex G d y b nL ret pc Ls (.int z :: .int x :: st) M res := x_pure (fun C _ w => lv_ishl C.1 C.2.1 hd w) k
theorem x_ishr {x z : Int32} (hd : decode b pc = .ok (.ishr, 1)) (k : Ex G d y b nL ret (pc + 1) Ls (.int (x >>> (z &&& 31)) :: st) M res) : Ex G d y b nL ret pc Ls (.int z :: .int x :: st) M res := x_pure (fun C _ w => lv_ishr C.1 C.2.1 hd w) k
theorem x_iushr {x z : Int32} (hd : decode b pc = .ok (.iushr, 1)) (k : Ex G d y b nL ret (pc + 1) Ls (.int ((x.toUInt32 >>> (z.toUInt32 &&& Int32.toUInt32 31)).toInt32) :: st) M res) : Ex G d y b nL ret pc Ls (.int z :: .int x :: st) M res := x_pure (fun C _ w => lv_iushr C.1 C.2.1 hd rfl w) k
theorem x_i2l {x : Int32} (hd : decode b pc = .ok (.i2l, 1)) (k : Ex G d y b nL ret (pc + 1) Ls (.long x.toInt64 :: st) M res) : Ex G d y b nL ret pc Ls (.int x :: st) M res := x_pure (fun C _ w => lv_i2l C.1 C.2.1 hd rfl w) k
theorem x_l2i {x : Int64} (hd : decode b pc = .ok (.l2i, 1)) (k : Ex G d y b nL ret (pc + 1) Ls (.int x.toInt32 :: st) M res) : Ex G d y b nL ret pc Ls (.long x :: st) M res := x_pure (fun C _ w => lv_l2i C.1 C.2.1 hd rfl w) k
theorem x_ladd {x z : Int64} (hd : decode b pc = .ok (.ladd, 1)) (k : Ex G d y b nL ret (pc + 1) Ls (.long (x + z) :: st) M res) : Ex G d y b nL ret pc Ls (.long z :: .long x :: st) M res := x_pure (fun C _ w => lv_ladd C.1 C.2.1 hd w) k
theorem x_lmul {x z : Int64} (hd : decode b pc = .ok (.lmul, 1)) (k : Ex G d y b nL ret (pc + 1) Ls (.long (x * z) :: st) M res) : Ex G d y b nL ret pc Ls (.long z :: .long x :: st) M res := x_pure (fun C _ w => lv_lmul C.1 C.2.1 hd w) k
theorem x_land {x z : Int64} (hd : decode b pc = .ok (.land, 1)) (k : Ex G d y b nL ret (pc + 1) Ls (.long (x &&& z) :: st) M res) : Ex G d y b nL ret pc Ls (.long z :: .long x :: st) M res := x_pure (fun C _ w => lv_land C.1 C.2.1 hd w) k
theorem x_ldiv {x z : Int64} (hd : decode b pc = .ok (.ldiv, 1)) (hz : ¬ z = 0) (k : Ex G d y b nL ret (pc + 1) Ls (.long (x / z) :: st) M res) : Ex G d y b nL ret pc Ls (.long z :: .long x :: st) M res := x_pure (fun C _ w => lv_ldiv C.1 C.2.1 hd hz w) k
theorem x_lcmp {x z : Int64} (hd : decode b pc = .ok (.lcmp, 1)) (k : Ex G d y b nL ret (pc + 1) Ls (.int (lg_cmp x z) :: st) M res) : Ex G d y b nL ret pc Ls (.long z :: .long x :: st) M res := x_pure (fun C _ w => W.lcmp C.1 C.2.1 hd w) k
theorem x_dup2 {v w : Value} (hd : decode b pc = .ok (.dup2, 1)) (hv : (rv G v).category = 1) (hw : (rv G w).category = 1) (k : Ex G d y b nL ret (pc + 1) Ls (v :: w :: v :: w :: st) M res) : Ex G d y b nL ret pc Ls (v :: w :: st) M res := x_pure (fun C _ w => lv_dup2_11 C.1 C.2.1 hd hv hw w) k
/-- a branch -/
theorem x_br {P : Prop} {pt pf : Nat} {st2 : List Value} (hb : (M.1 ≤ res.2.1 ∧ M.2.1 ≤ res.2.2.1)) (h : ∀ {p : Program} {l : Launch} {e : Env} {R : Room} {s : State} {m : MethodId} {args : Array Value} {below : List Frame} {meth : Method} {c : Code} {H : Heap} {locs : List Loc} {cells slots : Nat} {Q : State → Prop} {ls : Array Slot} {T0 S0 : Nat},
    zCx G d y b nL ret p R s m args meth c T0 S0 → (P → W p l e R s m args below meth c H locs cells slots Q (F0 m pt ls (st2.map (rv G)))) → (¬ P → W p l e R s m args below meth c H locs cells slots Q (F0 m pf ls (st2.map (rv G)))) → W p l e R s m args below meth c H locs cells slots Q (F0 m pc ls (st.map (rv G))))
    (kt : P → Ex G d y b nL ret pt Ls st2 M res) (kf : ¬ P → Ex G d y b nL ret pf Ls st2 M res) : Ex G d y b nL ret pc Ls st M res := by
  refine ⟨hb, ?_⟩
  intro p l e R s m args below meth c H locs cells slots Q ls T0 S0 hC hw hS hl h1 h2 h3 h4 K
  exact h hC (fun q => (kt q).2 p l e R s m args below meth c H locs cells slots Q ls T0 S0 hC hw hS hl h1 h2 h3 h4 K) (fun q => (kf q).2 p l e R s m args below meth c H locs cells slots Q ls T0 S0 hC hw hS hl h1 h2 h3 h4 K)
theorem ex_b {P : Prop} {pt pf : Nat} {st2 : List Value} (kt : P → Ex G d y b nL ret pt Ls st2 M res) (kf : ¬ P → Ex G d y b nL ret pf Ls st2 M res) : M.1 ≤ res.2.1 ∧ M.2.1 ≤ res.2.2.1 := (Classical.em P).elim (fun q => (kt q).1) (fun q => (kf q).1)
theorem x_if_eq {x : Int32} {off : Int} {t : Nat} (hd : decode b pc = .ok (.ifCond .eq off, 3)) (ht : (pc : Int) + off = (t : Int)) (kt : x = 0 → Ex G d y b nL ret t Ls st M res) (kf : ¬ x = 0 → Ex G d y b nL ret (pc + 3) Ls st M res) : Ex G d y b nL ret pc Ls (.int x :: st) M res := x_br (ex_b kt kf) (fun C a z => lv_if_eq C.1 C.2.1 hd ht a z) kt kf
theorem x_if_ne {x : Int32} {off : Int} {t : Nat} (hd : decode b pc = .ok (.ifCond .ne off, 3)) (ht : (pc : Int) + off = (t : Int)) (kt : ¬ x = 0 → Ex G d y b nL ret t Ls st M res) (kf : x = 0 → Ex G d y b nL ret (pc + 3) Ls st M res) : Ex G d y b nL ret pc Ls (.int x :: st) M res := x_br (P := ¬ x = 0) (ex_b kt (fun q => kf (Classical.not_not.mp q))) (fun C a z => lv_if_ne C.1 C.2.1 hd ht a (fun q => z (fun r => r q))) kt (fun q => kf (Classical.not_not.mp q))
theorem x_if_lt {x : Int32} {off : Int} {t : Nat} (hd : decode b pc = .ok (.ifCond .lt off, 3)) (ht : (pc : Int) + off = (t : Int)) (kt : x < 0 → Ex G d y b nL ret t Ls st M res) (kf : ¬ x < 0 → Ex G d y b nL ret (pc + 3) Ls st M res) : Ex G d y b nL ret pc Ls (.int x :: st) M res := x_br (ex_b kt kf) (fun C a z => lv_if_lt C.1 C.2.1 hd ht a z) kt kf
theorem x_if_ge {x : Int32} {off : Int} {t : Nat} (hd : decode b pc = .ok (.ifCond .ge off, 3)) (ht : (pc : Int) + off = (t : Int)) (kt : 0 ≤ x → Ex G d y b nL ret t Ls st M res) (kf : ¬ 0 ≤ x → Ex G d y b nL ret (pc + 3) Ls st M res) : Ex G d y b nL ret pc Ls (.int x :: st) M res := x_br (ex_b kt kf) (fun C a z => lv_if_ge C.1 C.2.1 hd ht a z) kt kf
theorem x_if_gt {x : Int32} {off : Int} {t : Nat} (hd : decode b pc = .ok (.ifCond .gt off, 3)) (ht : (pc : Int) + off = (t : Int)) (kt : 0 < x → Ex G d y b nL ret t Ls st M res) (kf : ¬ 0 < x → Ex G d y b nL ret (pc + 3) Ls st M res) : Ex G d y b nL ret pc Ls (.int x :: st) M res := x_br (ex_b kt kf) (fun C a z => lv_if_gt C.1 C.2.1 hd ht a z) kt kf
theorem x_if_le {x : Int32} {off : Int} {t : Nat} (hd : decode b pc = .ok (.ifCond .le off, 3)) (ht : (pc : Int) + off = (t : Int)) (kt : x ≤ 0 → Ex G d y b nL ret t Ls st M res) (kf : ¬ x ≤ 0 → Ex G d y b nL ret (pc + 3) Ls st M res) : Ex G d y b nL ret pc Ls (.int x :: st) M res := x_br (ex_b kt kf) (fun C a z => lv_if_le C.1 C.2.1 hd ht a z) kt kf
theorem x_icmp_eq {x z : Int32} {off : Int} {t : Nat} (hd : decode b pc = .ok (.if_icmp .eq off, 3)) (ht : (pc : Int) + off = (t : Int)) (kt : x = z → Ex G d y b nL ret t Ls st M res) (kf : ¬ x = z → Ex G d y b nL ret (pc + 3) Ls st M res) : Ex G d y b nL ret pc Ls (.int z :: .int x :: st) M res := x_br (ex_b kt kf) (fun C a z => lv_icmp_eq C.1 C.2.1 hd ht a z) kt kf
theorem x_icmp_ne {x z : Int32} {off : Int} {t : Nat} (hd : decode b pc = .ok (.if_icmp .ne off, 3)) (ht : (pc : Int) + off = (t : Int)) (kt : ¬ x = z → Ex G d y b nL ret t Ls st M res) (kf : x = z → Ex G d y b nL ret (pc + 3) Ls st M res) : Ex G d y b nL ret pc Ls (.int z :: .int x :: st) M res := x_br (P := ¬ x = z) (ex_b kt (fun q => kf (Classical.not_not.mp q))) (fun C a z => lv_icmp_ne C.1 C.2.1 hd ht a (fun q => z (fun r => r q))) kt (fun q => kf (Classical.not_not.mp q))
theorem x_icmp_lt {x z : Int32} {off : Int} {t : Nat} (hd : decode b pc = .ok (.if_icmp .lt off, 3)) (ht : (pc : Int) + off = (t : Int)) (kt : x < z → Ex G d y b nL ret t Ls st M res) (kf : ¬ x < z → Ex G d y b nL ret (pc + 3) Ls st M res) : Ex G d y b nL ret pc Ls (.int z :: .int x :: st) M res := x_br (ex_b kt kf) (fun C a z => lv_icmp_lt C.1 C.2.1 hd ht a z) kt kf
theorem x_icmp_ge {x z : Int32} {off : Int} {t : Nat} (hd : decode b pc = .ok (.if_icmp .ge off, 3)) (ht : (pc : Int) + off = (t : Int)) (kt : z ≤ x → Ex G d y b nL ret t Ls st M res) (kf : ¬ z ≤ x → Ex G d y b nL ret (pc + 3) Ls st M res) : Ex G d y b nL ret pc Ls (.int z :: .int x :: st) M res := x_br (ex_b kt kf) (fun C a z => lv_icmp_ge C.1 C.2.1 hd ht a z) kt kf
theorem x_icmp_gt {x z : Int32} {off : Int} {t : Nat} (hd : decode b pc = .ok (.if_icmp .gt off, 3)) (ht : (pc : Int) + off = (t : Int)) (kt : z < x → Ex G d y b nL ret t Ls st M res) (kf : ¬ z < x → Ex G d y b nL ret (pc + 3) Ls st M res) : Ex G d y b nL ret pc Ls (.int z :: .int x :: st) M res := x_br (ex_b kt kf) (fun C a z => lv_icmp_gt C.1 C.2.1 hd ht a z) kt kf
theorem x_icmp_le {x z : Int32} {off : Int} {t : Nat} (hd : decode b pc = .ok (.if_icmp .le off, 3)) (ht : (pc : Int) + off = (t : Int)) (kt : x ≤ z → Ex G d y b nL ret t Ls st M res) (kf : ¬ x ≤ z → Ex G d y b nL ret (pc + 3) Ls st M res) : Ex G d y b nL ret pc Ls (.int z :: .int x :: st) M res := x_br (ex_b kt kf) (fun C a z => lv_icmp_le C.1 C.2.1 hd ht a z) kt kf
/-- switches: the place in the table is given -/
theorem x_tableOut {dflt lo hi : Int} {offs : Array Int} {len : Nat} {x : Int32} {t : Nat} (hd : decode b pc = .ok (.tableswitch dflt lo hi offs, len)) (h : x.toInt < lo ∨ hi < x.toInt) (ht : (pc : Int) + dflt = (t : Int)) (k : Ex G d y b nL ret t Ls st M res) : Ex G d y b nL ret pc Ls (.int x :: st) M res := x_pure (fun C _ w => lv_tableOut C.1 C.2.1 hd h ht w) k
theorem x_tableIn {dflt lo hi : Int} {offs : Array Int} {len : Nat} {x : Int32} {off : Int} {t : Nat} (hd : decode b pc = .ok (.tableswitch dflt lo hi offs, len)) (h1 : ¬ x.toInt < lo) (h2 : ¬ hi < x.toInt) (ho : offs[(x.toInt - lo).toNat]? = some off) (ht : (pc : Int) + off = (t : Int)) (k : Ex G d y b nL ret t Ls st M res) : Ex G d y b nL ret pc Ls (.int x :: st) M res := x_pure (fun C _ w => lv_tableIn C.1 C.2.1 hd h1 h2 ho ht w) k
theorem x_lookup {dflt : Int} {ps : Array (Int × Int)} {len : Nat} {x : Int32} {off : Int} {t : Nat} (hd : decode b pc = .ok (.lookupswitch dflt ps, len)) (hp : (ps.toList.zip (ps.toList.drop 1)).all (fun (a, next) => a.1 < next.1) = true) (ho : Op.lookupswitch.offset ps.toList dflt x.toInt = off) (ht : (pc : Int) + off = (t : Int)) (k : Ex G d y b nL ret t Ls st M res) : Ex G d y b nL ret pc Ls (.int x :: st) M res := x_pure (fun C _ w => lv_lookup C.1 C.2.1 hd hp ho ht w) k
/-! locals written -/
def zas (G : zG) (Ls : List Value) : List (Nat × Value) := (Ls.zipIdx.filter (fun q => decide (q.1 ≠ .null))).map (fun q => (q.2, rv G q.1))
theorem zas_has {ls : Array Slot} (h : zLR G ls nL Ls) : lv_has ls nL (zas G Ls) := by
  refine ⟨h.1, h.2.1, fun q hq => ?_⟩
  obtain ⟨⟨v, k⟩, h1, rfl⟩ := List.mem_map.mp hq
  obtain ⟨h2, h3⟩ := List.mem_filter.mp h1
  have h4 : Ls[k]? = some v := by
    have := List.mem_zipIdx_iff_getElem?.mp h2
    simpa using this
  exact h.2.2 k v h4 (by simpa using h3)
theorem zas_mem {k : Nat} {v : Value} (h : Ls[k]? = some v) (hv : v ≠ .null) : (k, rv G v) ∈ zas G Ls := by
  refine List.mem_map.mpr ⟨(v, k), List.mem_filter.mpr ⟨List.mem_zipIdx_iff_getElem?.mpr (by simpa using h), by simpa using hv⟩, rfl⟩
/-- no long stands just before -/
def zok1 (Ls : List Value) : Nat → Bool
  | 0 => true
  | j + 1 => match Ls[j]? with
    | some (.long _) => false
    | some (.double _) => false
    | _ => true
theorem rv_cat {v : Value} (hv : ∀ x, v ≠ .long x) (hv2 : ∀ x, v ≠ .double x) : (rv G v).category = 1 := by
  cases v with
  | long x => exact absurd rfl (hv x)
  | double x => exact absurd rfl (hv2 x)
  | ref r => by_cases h : r = 0 <;> simp [rv, zo, h, va_rf, Value.category]
  | _ => rfl
theorem zLR.store1 {ls ls' : Array Slot} {i : Nat} {v : Value} (h : zLR G ls nL Ls) (hok : zok1 Ls i = true) (h' : lv_has ls' nL ((i, rv G v) :: (zas G Ls).filter (fun q => !(q.1 == i) && !(q.1 + 1 == i && q.2.category == 2)))) : zLR G ls' nL (Ls.set i v) := by
  refine ⟨h'.1, h'.2.1, fun k w hk hw => ?_⟩
  by_cases e : k = i
  · subst e
    have hlt : k < Ls.length := by
      have := (List.getElem?_eq_some_iff.mp hk).1
      simpa using this
    rw [List.getElem?_set_self hlt] at hk
    cases hk
    exact h'.2.2 (k, rv G v) List.mem_cons_self
  · rw [List.getElem?_set_ne (Ne.symm e)] at hk
    refine h'.2.2 (k, rv G w) (List.mem_cons_of_mem _ (List.mem_filter.mpr ⟨zas_mem hk hw, ?_⟩))
    by_cases e2 : k + 1 = i
    · subst e2
      simp only [zok1, hk] at hok
      have hc : (rv G w).category = 1 := by
        refine rv_cat (fun x q => ?_) (fun x q => ?_) <;> (subst q; simp at hok)
      simp [hc]
    · simp [e, e2]
theorem zLR.store2 {ls ls' : Array Slot} {i : Nat} {x : Int64} (h : zLR G ls nL Ls) (hok : zok1 Ls i = true) (h' : lv_has ls' nL ((i, Value.long x) :: (zas G Ls).filter (fun q => !(q.1 == i) && (!(q.1 == i + 1) && !(q.1 + 1 == i && q.2.category == 2))))) : zLR G ls' nL ((Ls.set i (.long x)).set (i + 1) .null) := by
  refine ⟨h'.1, h'.2.1, fun k w hk hw => ?_⟩
  by_cases e1 : k = i + 1
  · subst e1
    have hlt : i + 1 < Ls.length := by
      have := (List.getElem?_eq_some_iff.mp hk).1
      simpa using this
    rw [List.getElem?_set_self (by simpa using hlt)] at hk
    cases hk
    exact absurd rfl hw
  rw [List.getElem?_set_ne (Ne.symm e1)] at hk
  by_cases e : k = i
  · subst e
    have hlt : k < Ls.length := by
      have := (List.getElem?_eq_some_iff.mp hk).1
      simpa using this
    rw [List.getElem?_set_self hlt] at hk
    cases hk
    exact h'.2.2 (k, Value.long x) List.mem_cons_self
  · rw [List.getElem?_set_ne (Ne.symm e)] at hk
    refine h'.2.2 (k, rv G w) (List.mem_cons_of_mem _ (List.mem_filter.mpr ⟨zas_mem hk hw, ?_⟩))
    by_cases e2 : k + 1 = i
    · subst e2
      simp only [zok1, hk] at hok
      have hc : (rv G w).category = 1 := by
        refine rv_cat (fun x q => ?_) (fun x q => ?_) <;> (subst q; simp at hok)
      simp [hc, e1]
    · simp [e, e1, e2]
/-- a step that changes locals -/
theorem x_loc {pc2 : Nat} {st2 Ls2 : List Value} (h : ∀ {p : Program} {l : Launch} {e : Env} {R : Room} {s : State} {m : MethodId} {args : Array Value} {below : List Frame} {meth : Method} {c : Code} {H : Heap} {locs : List Loc} {cells slots : Nat} {Q : State → Prop} {ls : Array Slot} {T0 S0 : Nat},
    zCx G d y b nL ret p R s m args meth c T0 S0 → zLR G ls nL Ls → (∀ ls' : Array Slot, zLR G ls' nL Ls2 → W p l e R s m args below meth c H locs cells slots Q (F0 m pc2 ls' (st2.map (rv G)))) → W p l e R s m args below meth c H locs cells slots Q (F0 m pc ls (st.map (rv G))))
    (k : Ex G d y b nL ret pc2 Ls2 st2 M res) : Ex G d y b nL ret pc Ls st M res := by
  refine ⟨k.1, ?_⟩
  intro p l e R s m args below meth c H locs cells slots Q ls T0 S0 hC hw hS hl h1 h2 h3 h4 K
  exact h hC hl (fun ls' hl' => k.2 p l e R s m args below meth c H locs cells slots Q ls' T0 S0 hC hw hS hl' h1 h2 h3 h4 K)
theorem x_istore_n {n : Fin 4} {i : Nat} {x : Int32} (hd : decode b pc = .ok (.istore_n n, 1)) (hi : (n : Nat) = i) (hn : i < nL) (hok : zok1 Ls i = true) (k : Ex G d y b nL ret (pc + 1) (Ls.set i (.int x)) st M res) : Ex G d y b nL ret pc Ls (.int x :: st) M res := x_loc (fun C h w => lv_istore_n C.1 C.2.1 hd hi (zas_has h) hn rfl (fun ls' h' => w ls' (zLR.store1 (v := .int _) h hok h'))) k
theorem x_istore {i : Nat} {x : Int32} (hd : decode b pc = .ok (.istore i, 2)) (hn : i < nL) (hok : zok1 Ls i = true) (k : Ex G d y b nL ret (pc + 2) (Ls.set i (.int x)) st M res) : Ex G d y b nL ret pc Ls (.int x :: st) M res := x_loc (fun C h w => lv_istore C.1 C.2.1 hd (zas_has h) hn rfl (fun ls' h' => w ls' (zLR.store1 (v := .int _) h hok h'))) k
theorem x_lstore_n {n : Fin 4} {i : Nat} {x : Int64} (hd : decode b pc = .ok (.lstore_n n, 1)) (hi : (n : Nat) = i) (hn : i + 1 < nL) (hok : zok1 Ls i = true) (k : Ex G d y b nL ret (pc + 1) ((Ls.set i (.long x)).set (i + 1) .null) st M res) : Ex G d y b nL ret pc Ls (.long x :: st) M res := x_loc (fun C h w => lv_lstore_n C.1 C.2.1 hd hi (zas_has h) hn rfl (fun ls' h' => w ls' (h.store2 hok h'))) k
theorem x_astore_n {n : Fin 4} {i r : Nat} (hd : decode b pc = .ok (.astore_n n, 1)) (hi : (n : Nat) = i) (hn : i < nL) (hok : zok1 Ls i = true) (hr : r ≠ 0) (k : Ex G d y b nL ret (pc + 1) (Ls.set i (.ref r)) st M res) : Ex G d y b nL ret pc Ls (.ref r :: st) M res := by
  refine x_loc (st2 := st) (fun C h w => ?_) k
  rw [List.map_cons, rv_ref hr]
  refine lv_astore_n C.1 C.2.1 hd hi (zas_has h) hn rfl (fun ls' h' => w ls' (zLR.store1 (v := .ref r) h hok ?_))
  rw [rv_ref hr]
  exact h'
theorem x_astore {i r : Nat} (hd : decode b pc = .ok (.astore i, 2)) (hn : i < nL) (hok : zok1 Ls i = true) (hr : r ≠ 0) (k : Ex G d y b nL ret (pc + 2) (Ls.set i (.ref r)) st M res) : Ex G d y b nL ret pc Ls (.ref r :: st) M res := by
  refine x_loc (st2 := st) (fun C h w => ?_) k
  rw [List.map_cons, rv_ref hr]
  refine lv_astore C.1 C.2.1 hd (zas_has h) hn rfl (fun ls' h' => w ls' (zLR.store1 (v := .ref r) h hok ?_))
  rw [rv_ref hr]
  exact h'
theorem x_iinc {i : Nat} {n : Int} {x v : Int32} (hd : decode b pc = .ok (.iinc i n, 3)) (hl : Ls[i]? = some (.int x)) (hv : x + Int32.ofInt n = v) (hn : i < nL) (hok : zok1 Ls i = true) (k : Ex G d y b nL ret (pc + 3) (Ls.set i (.int v)) st M res) : Ex G d y b nL ret pc Ls st M res := by
  refine x_loc (fun C h w => ?_) k
  obtain ⟨q, hq⟩ := List.getElem?_of_mem (zas_mem (G := G) hl (fun q => by cases q))
  exact lv_iinc C.1 C.2.1 hd (zas_has h) hq hv hn rfl (fun ls' h' => w ls' (zLR.store1 (v := .int _) h hok h'))
end EX2
