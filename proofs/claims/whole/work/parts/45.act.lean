/-! an act: remembered, then done, by both -/
theorem F_act {I I2 : Nat → Nat → Int32} {tw s : Nat} (htw : tw = 4 ∨ tw = 13) (hs : s = 22) (hf : ∀ i j, ¬ (cN s i ∨ cP' i j ∨ cS i j) → I2 i j = I i j) : (∀ i j, cT tw i j → I2 i j = I i j) ∧ (∀ i j, cI i → I2 i j = I i j) ∧ (∀ i j, cX i j → I2 i j = I i j) ∧ (∀ i j, cK i j → I2 i j = I i j) ∧ (∀ i j, cB i j → I2 i j = I i j) ∧ (∀ z, (1000 ≤ z ∨ z = 160) → I2 z = I z) :=
  ⟨fun i j q => hf i j (by unfold cT at q; unfold cN cP' cS; omega), fun i j q => hf i j (by unfold cI at q; unfold cN cP' cS; omega), fun i j q => hf i j (by unfold cX at q; unfold cN cP' cS; omega), fun i j q => hf i j (by unfold cK at q; unfold cN cP' cS; omega), fun i j q => hf i j (by unfold cB at q; unfold cN cP' cS; omega), fun z hz => funext fun j => hf z j (by unfold cN cP' cS; omega)⟩
section ACT
variable {B : zM} {tw s u c pa pn tl kn en sd : Nat} {T P K : Nat → Nat → Nat} {r kf X kw kd kb ew el : Nat → Nat} {I : Nat → Nat → Int32}
theorem act (hB : GB B tw s u) (hT : gT tw T I) (hN : gN s (T 0 2) c r I) (hP : gP (T 0 2) c pa pn P I) (hI : gI (T 0 2) c kf K I) (hX : gX tl X I) (hK : gK T kn kw kd kb I) (hBk : gB T en ew el I) :
    ∃ I1, f_X3_remember 32 s (zI B I) = some (zI B I1) ∧ XS s r I1 ∧ gT tw T I1 ∧ (∀ z, (1000 ≤ z ∨ z = 160) → I1 z = I z) ∧ I1 1 12 = I 1 12 ∧
      ∀ I2, (∀ i j, ¬ ((s ≤ i ∧ i ≤ s + 4) ∨ (i = 1 ∧ j = 12)) → I2 i j = I1 i j) → gT tw T I2 ∧ YS 145 r I2 ∧ (∀ z, (1000 ≤ z ∨ z = 160) → I2 z = I z) ∧ I2 144 4 = I 144 4 ∧
        ∃ I3, f_X9_keepAct 144 (zI B I2) = some (zI B I3) ∧ YS 145 r I3 ∧ gT tw T I3 ∧ I3 144 4 = I 144 4 ∧ I3 1 12 = I2 1 12 ∧
          ∀ I4 r' sd', (∀ i j, ¬ (i = 145 ∨ (i = 144 ∧ j = 4)) → I4 i j = I3 i j) → XS s r' I2 → YS 145 r' I4 → rB (T 0 2) (c + 1) r' → gS sd' I4 → CR B I4 (c + 1) ∧ ∀ z, (1000 ≤ z ∨ z = 160) → I4 z = I z := by
  have htw := hB.hw
  have hse := hB.hs
  obtain ⟨I1, a1, a2, a3, a4, a5⟩ := X_rem (pn := pn) (pa := pa) hB hN.1 hP.2.1 hP.1 hP.2.2.1 hP.2.2.2.1
  have hpn := hP.2.1
  have hpa := hP.1
  have t5 : ∀ i j, ¬ (cN s i ∨ cP' i j ∨ cS i j) → I1 i j = I i j := fun i j q => a5 i j (by unfold cN cP' cS at q; omega)
  have xs1 : XS s r I1 := hN.1.fp (fun i j h1 h2 => a5 i j (by omega))
  refine ⟨I1, a1, xs1, hT.fr (F_act htw hse t5).1, (F_act htw hse t5).2.2.2.2.2, a5 1 12 (by omega), fun I2 b1 => ?_⟩
  have t6 : ∀ i j, ¬ (cN s i ∨ cP' i j ∨ cS i j) → I2 i j = I i j := fun i j q => by rw [b1 i j (by unfold cN cP' cS at q; omega), t5 i j q]
  have ys2 : YS 145 r I2 := fun k hk => by rw [b1 145 k (by omega), a5 145 k (by omega)]; exact hN.2.1 k hk
  have e3 : I2 144 3 = nI pa := by rw [b1 144 3 (by omega), a5 144 3 (by omega), hP.2.2.2.2.1]
  obtain ⟨I3, c1, c2, c3, c4, c5⟩ := Y_keepAct hB ys2 hP.1 e3
  have t7 : ∀ i j, ¬ (cN s i ∨ cP' i j ∨ cS i j) → I3 i j = I i j := fun i j q => by rw [c5 i j (by unfold cP' at q; omega), t6 i j q]
  have g4 : I2 144 4 = I 144 4 := by rw [b1 144 4 (by omega), a5 144 4 (by omega)]
  refine ⟨hT.fr (F_act htw hse t6).1, ys2, (F_act htw hse t6).2.2.2.2.2, g4, I3, c1, fun k hk => by rw [c5 145 k (by omega)]; exact ys2 k hk, hT.fr (F_act htw hse t7).1, by rw [c5 144 4 (by omega), g4], c5 1 12 (by omega), fun I4 r' sd' d1 d2 d3 d4 d5 => ?_⟩
  have t8 : ∀ i j, ¬ (cN s i ∨ cP' i j ∨ cS i j) → I4 i j = I i j := fun i j q => by rw [d1 i j (by unfold cN cS at q; omega), t7 i j q]
  obtain ⟨f1, f2, f3, f4, f5, f6⟩ := F_act htw hse t8
  have xs4 : XS s r' I4 := d2.fp (fun i j h1 h2 => by rw [d1 i j (by omega), c5 i j (by omega)])
  obtain ⟨P', hP'⟩ := gP_new (J := I4) (r := r) hP hN.2.2
    (a2.fp (fun i j h1 h2 => by rw [d1 i j (by omega), c5 i j (by omega), b1 i j (by omega)]))
    (by rw [d1 32 1 (by omega), c5 32 1 (by omega), b1 32 1 (by omega), a3])
    (by rw [d1 32 2 (by omega), c5 32 2 (by omega), b1 32 2 (by omega), a4])
    (by rw [d1 144 3 (by omega), c2])
    (fun i j h1 h2 h3 => by rw [d1 i j (by omega), c5 i j (by omega), b1 i j (by omega), a5 i j (by omega)])
    (fun k hk => by rw [d1 147 _ (by omega), c3 k hk])
    (fun j k hj hk => by rw [d1 147 _ (by omega), c4 j k hj hk, b1 147 _ (by omega), a5 147 _ (by omega)])
  exact ⟨⟨tw, s, u, T, r', _, _, P', kf, K, tl, X, kn, kw, kd, kb, en, ew, el, sd', hB, hT.fr f1, ⟨xs4, d3, d4⟩, hP'.mono (Nat.le_succ c), (hI.fr f2).mono (Nat.le_succ c), hX.fr f3, hK.fr f4, hBk.fr f5, d5⟩, f6⟩
end ACT
