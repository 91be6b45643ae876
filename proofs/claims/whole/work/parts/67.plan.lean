/-! plan: all plans in an order, the best of them -/
def okP (T : Nat → Nat → Nat) (w b : Nat) : Bool := if b = 2 then decide (T 3 (2 * w) ≠ 0) else if b = 3 then decide (T 3 (2 * w + 1) ≠ 0) else if b = 4 then decide (T 4 w ≠ 0) else true
def stP (T : Nat → Nat → Nat) (w b : Nat) : Nat := if b = 1 then 2 ^ w else if b = 2 then T 3 (2 * w) else if b = 3 then T 3 (2 * w + 1) else 0
def fAll (sp : Nat → Nat) (S : Nat) : Nat → Nat → Bool
  | 0, _ => true
  | m + 1, i => (!hasB S i || decide (0 < sp i)) && fAll sp S m (i + 1)
def afP (T : Nat → Nat → Nat) (sp : Nat → Nat) (w b : Nat) : Bool := okP T w b && fAll sp (stP T w b) 8 0
def dcP (sp : Nat → Nat) (S : Nat) : Nat → Nat := fun v => if hasB S v = true then sp v - 1 else sp v
/-- the needs' words wd, worths wt; leaves: worth, words, picks -/
def gnP (wt : Nat → Nat) (i b : Nat) : Nat := if b = 0 then 0 else wt i
def lvP (T : Nat → Nat → Nat) (wd wt : Nat → Nat) (od : List Nat) : Nat → Nat → (Nat → Nat) → Nat → Nat → (Nat → Nat) → List (Nat × Nat × (Nat → Nat))
  | 0, _, _, w, c, t => [(w, c, t)]
  | m + 1, i, sp, w, c, t => od.flatMap (fun b => if afP T sp (wd i) b = true then lvP T wd wt od m (i + 1) (dcP sp (stP T (wd i) b)) (w + gnP wt i b) (c + pcm (stP T (wd i) b) 8 0) (va_up t i b) else [])
def btP (s : Nat × Nat × (Nat → Nat)) (w c : Nat) : Prop := s.1 < w + 1 ∨ (s.1 = w + 1 ∧ c < s.2.1)
theorem btP_dec (s : Nat × Nat × (Nat → Nat)) (w c : Nat) : btP s w c ∨ ¬ btP s w c := Classical.em _
noncomputable def tkP (s l : Nat × Nat × (Nat → Nat)) : Nat × Nat × (Nat → Nat) := @ite _ (btP s l.1 l.2.1) (Classical.propDecidable _) (l.1 + 1, l.2.1, l.2.2) s
theorem tkP_t {s l : Nat × Nat × (Nat → Nat)} (h : btP s l.1 l.2.1) : tkP s l = (l.1 + 1, l.2.1, l.2.2) := by unfold tkP; exact if_pos h
theorem tkP_f {s l : Nat × Nat × (Nat → Nat)} (h : ¬ btP s l.1 l.2.1) : tkP s l = s := by unfold tkP; exact if_neg h
noncomputable def fdP (s : Nat × Nat × (Nat → Nat)) (L : List (Nat × Nat × (Nat → Nat))) : Nat × Nat × (Nat → Nat) := L.foldl tkP s
theorem fdP_nil {s : Nat × Nat × (Nat → Nat)} : fdP s [] = s := rfl
theorem fdP_cons {s l : Nat × Nat × (Nat → Nat)} {L : List (Nat × Nat × (Nat → Nat))} : fdP s (l :: L) = fdP (tkP s l) L := rfl
theorem fdP_app {s : Nat × Nat × (Nat → Nat)} {L M : List (Nat × Nat × (Nat → Nat))} : fdP s (L ++ M) = fdP (fdP s L) M := List.foldl_append
theorem fdP_no {s : Nat × Nat × (Nat → Nat)} : ∀ L : List (Nat × Nat × (Nat → Nat)), (∀ l ∈ L, ¬ btP s l.1 l.2.1) → fdP s L = s := by
  intro L
  induction L with
  | nil => intro _; rfl
  | cons l L ih =>
    intro h
    rw [fdP_cons, tkP_f (h l (List.mem_cons_self ..))]
    exact ih (fun x hx => h x (List.mem_cons_of_mem _ hx))
/-- what the needs from i on are worth -/
theorem lvP_b {T : Nat → Nat → Nat} {wd wt : Nat → Nat} {od : List Nat} : ∀ m i sp w c t, ∀ l ∈ lvP T wd wt od m i sp w c t, l.1 ≤ w + sm wt m i ∧ c ≤ l.2.1 := by
  intro m
  induction m with
  | zero =>
    intro i sp w c t l h
    simp only [lvP, List.mem_singleton] at h
    subst h
    exact ⟨Nat.le_refl _, Nat.le_refl _⟩
  | succ m ih =>
    intro i sp w c t l h
    simp only [lvP, List.mem_flatMap] at h
    obtain ⟨b, -, hb⟩ := h
    split at hb
    · obtain ⟨h1, h2⟩ := ih _ _ _ _ _ _ hb
      have hg : gnP wt i b ≤ wt i := by unfold gnP; split <;> omega
      rw [sm_1]
      exact ⟨by omega, by omega⟩
    · exact absurd hb (by simp)
theorem prP {T : Nat → Nat → Nat} {wd wt : Nat → Nat} {od : List Nat} {m i w c : Nat} {sp t : Nat → Nat} {s : Nat × Nat × (Nat → Nat)} (h : ¬ btP s (w + sm wt m i) c) : fdP s (lvP T wd wt od m i sp w c t) = s := by
  refine fdP_no _ (fun l hl => ?_)
  obtain ⟨h1, h2⟩ := lvP_b m i sp w c t l hl
  unfold btP at h ⊢
  omega
theorem lvP_m {T : Nat → Nat → Nat} {wd wt : Nat → Nat} {od od2 : List Nat} (ho : ∀ b, b ∈ od → b ∈ od2) : ∀ m i sp w c t l, l ∈ lvP T wd wt od m i sp w c t → l ∈ lvP T wd wt od2 m i sp w c t := by
  intro m
  induction m with
  | zero => intro i sp w c t l h; exact h
  | succ m ih =>
    intro i sp w c t l h
    simp only [lvP, List.mem_flatMap] at h ⊢
    obtain ⟨b, hb, hl⟩ := h
    refine ⟨b, ho b hb, ?_⟩
    split at hl
    · rename_i hc
      rw [if_pos hc]
      exact ih _ _ _ _ _ _ hl
    · exact absurd hl (by simp)
theorem fdP_i : ∀ (L : List (Nat × Nat × (Nat → Nat))) (s : Nat × Nat × (Nat → Nat)), (∀ l ∈ L, ¬ btP (fdP s L) l.1 l.2.1) ∧ (s.1 < (fdP s L).1 ∨ (s.1 = (fdP s L).1 ∧ (fdP s L).2.1 ≤ s.2.1)) ∧ (fdP s L = s ∨ ∃ l ∈ L, fdP s L = (l.1 + 1, l.2.1, l.2.2)) := by
  intro L
  induction L with
  | nil => intro s; exact ⟨fun l h => absurd h (by simp), Or.inr ⟨rfl, Nat.le_refl _⟩, Or.inl rfl⟩
  | cons l L ih =>
    intro s
    rw [fdP_cons]
    obtain ⟨h1, h2, h3⟩ := ih (tkP s l)
    by_cases k : btP s l.1 l.2.1
    · rw [tkP_t k] at h1 h2 h3 ⊢
      simp only [] at h2
      refine ⟨fun x hx => ?_, ?_, ?_⟩
      · rcases List.mem_cons.mp hx with rfl | hx
        · unfold btP; omega
        · exact h1 x hx
      · unfold btP at k; omega
      · rcases h3 with h3 | ⟨y, hy, h3⟩
        · exact Or.inr ⟨l, List.mem_cons_self .., h3⟩
        · exact Or.inr ⟨y, List.mem_cons_of_mem _ hy, h3⟩
    · rw [tkP_f k] at h1 h2 h3 ⊢
      refine ⟨fun x hx => ?_, h2, ?_⟩
      · rcases List.mem_cons.mp hx with rfl | hx
        · unfold btP at k ⊢; omega
        · exact h1 x hx
      · rcases h3 with h3 | ⟨y, hy, h3⟩
        · exact Or.inl h3
        · exact Or.inr ⟨y, List.mem_cons_of_mem _ hy, h3⟩
/-- in whatever order: as much, and as few -/
theorem fdP_key {L M : List (Nat × Nat × (Nat → Nat))} (h1 : ∀ l, l ∈ L → l ∈ M) (h2 : ∀ l, l ∈ M → l ∈ L) {f g : Nat → Nat} : (fdP (0, 0, f) L).1 = (fdP (0, 0, g) M).1 ∧ (fdP (0, 0, f) L).2.1 = (fdP (0, 0, g) M).2.1 := by
  obtain ⟨a1, -, a3⟩ := fdP_i L (0, 0, f)
  obtain ⟨b1, -, b3⟩ := fdP_i M (0, 0, g)
  rcases a3 with a3 | ⟨x, hx, a3⟩
  · rcases b3 with b3 | ⟨y, hy, b3⟩
    · rw [a3, b3]; exact ⟨rfl, rfl⟩
    · have := a1 y (h2 y hy)
      rw [a3] at this
      exact absurd (Or.inl (Nat.succ_pos _)) this
  · rcases b3 with b3 | ⟨y, hy, b3⟩
    · have := b1 x (h1 x hx)
      rw [b3] at this
      exact absurd (Or.inl (Nat.succ_pos _)) this
    · have e1 := a1 y (h2 y hy)
      have e2 := b1 x (h1 x hx)
      rw [a3] at e1
      rw [b3] at e2
      rw [a3, b3]
      unfold btP at e1 e2
      simp only [] at e1 e2 ⊢
      omega
/-- the first of the best is found again -/
theorem fdP_again {W C : Nat} {p : Nat → Nat} : ∀ (L : List (Nat × Nat × (Nat → Nat))) (s : Nat × Nat × (Nat → Nat)), (∀ l ∈ L, ¬ (W < l.1 + 1 ∨ (W = l.1 + 1 ∧ l.2.1 < C))) → (s.1 < W ∨ (s.1 = W ∧ C < s.2.1)) → (fdP s L).1 = W → (fdP s L).2.1 = C → fdP (W, C + 1, p) L = fdP s L := by
  intro L
  induction L with
  | nil =>
    intro s _ h2 h3 h4
    rw [fdP_nil] at h3 h4
    omega
  | cons l L ih =>
    intro s h1 h2 h3 h4
    rw [fdP_cons] at h3 h4 ⊢
    rw [fdP_cons]
    have hl := h1 l (List.mem_cons_self ..)
    by_cases k : W = l.1 + 1 ∧ l.2.1 = C
    · have k1 : btP s l.1 l.2.1 := by unfold btP; omega
      have k2 : btP (W, C + 1, p) l.1 l.2.1 := by unfold btP; simp only []; omega
      rw [tkP_t k1, tkP_t k2]
    · have k2 : ¬ btP (W, C + 1, p) l.1 l.2.1 := by unfold btP; simp only []; omega
      rw [tkP_f k2]
      refine ih (tkP s l) (fun x hx => h1 x (List.mem_cons_of_mem _ hx)) ?_ h3 h4
      by_cases k1 : btP s l.1 l.2.1
      · rw [tkP_t k1]
        simp only []
        omega
      · rw [tkP_f k1]; exact h2
/-- two searches: the second begins as if one word worse -/
theorem two_P {L M : List (Nat × Nat × (Nat → Nat))} (h1 : ∀ l, l ∈ L → l ∈ M) (h2 : ∀ l, l ∈ M → l ∈ L) (h0 : ∃ l, l ∈ M) {f g p : Nat → Nat} : fdP ((fdP (0, 0, f) L).1, (fdP (0, 0, f) L).2.1 + 1, p) M = fdP (0, 0, g) M := by
  obtain ⟨e1, e2⟩ := fdP_key h1 h2 (f := f) (g := g)
  rw [e1, e2]
  obtain ⟨b1, -, b3⟩ := fdP_i M (0, 0, g)
  have hp : 0 < (fdP (0, 0, g) M).1 := by
    rcases b3 with b3 | ⟨y, hy, b3⟩
    · obtain ⟨l, hl⟩ := h0
      have := b1 l hl
      rw [b3] at this
      exact absurd (Or.inl (Nat.succ_pos _)) this
    · rw [b3]; exact Nat.succ_pos _
  exact fdP_again M (0, 0, g) (fun l hl => b1 l hl) (Or.inl hp) rfl rfl
theorem hasB_0 {v : Nat} : hasB 0 v = false := by
  unfold hasB
  rw [Nat.zero_div]
  rfl
theorem fAll_0 {sp : Nat → Nat} : ∀ m i, fAll sp 0 m i = true := by
  intro m
  induction m with
  | zero => intro i; rfl
  | succ m ih =>
    intro i
    simp only [fAll]
    rw [ih, hasB_0]
    rfl
theorem lvP_ne {T : Nat → Nat → Nat} {wd wt : Nat → Nat} {od : List Nat} (ho : 0 ∈ od) : ∀ m i sp w c t, ∃ l, l ∈ lvP T wd wt od m i sp w c t := by
  intro m
  induction m with
  | zero => intro i sp w c t; exact ⟨_, List.mem_singleton.mpr rfl⟩
  | succ m ih =>
    intro i sp w c t
    obtain ⟨l, hl⟩ := ih (i + 1) (dcP sp (stP T (wd i) 0)) (w + gnP wt i 0) (c + pcm (stP T (wd i) 0) 8 0) (va_up t i 0)
    refine ⟨l, ?_⟩
    simp only [lvP, List.mem_flatMap]
    refine ⟨0, ho, ?_⟩
    have e : afP T sp (wd i) 0 = true := by
      have e1 : stP T (wd i) 0 = 0 := rfl
      unfold afP
      rw [e1, fAll_0]
      rfl
    rw [if_pos e]
    exact hl
/-- how a level goes on, option by option -/
theorem lvP_c {T : Nat → Nat → Nat} {wd wt : Nat → Nat} {od : List Nat} {m i w c b : Nat} {sp t : Nat → Nat} {bs : List Nat} {s : Nat × Nat × (Nat → Nat)} : fdP s ((b :: bs).flatMap (fun b => if afP T sp (wd i) b = true then lvP T wd wt od m (i + 1) (dcP sp (stP T (wd i) b)) (w + gnP wt i b) (c + pcm (stP T (wd i) b) 8 0) (va_up t i b) else [])) = fdP (if afP T sp (wd i) b = true then fdP s (lvP T wd wt od m (i + 1) (dcP sp (stP T (wd i) b)) (w + gnP wt i b) (c + pcm (stP T (wd i) b) 8 0) (va_up t i b)) else s) (bs.flatMap (fun b => if afP T sp (wd i) b = true then lvP T wd wt od m (i + 1) (dcP sp (stP T (wd i) b)) (w + gnP wt i b) (c + pcm (stP T (wd i) b) 8 0) (va_up t i b) else [])) := by
  rw [List.flatMap_cons, fdP_app]
  congr 1
  split <;> rfl
