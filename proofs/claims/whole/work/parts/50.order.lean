/-! Terms as trees, and their order. A tree is a letter and two places for arguments; letters: below 12 variables, below 16 no argument, below 18 one, else two. -/
abbrev oeT : Type := Std.DTreeMap.Internal.Impl Unit (fun _ => Unit)
def ot_sz : oeT → Nat
  | .leaf => 0
  | .inner _ _ _ l r => ot_sz l + ot_sz r + 1
def ot_wf : oeT → Prop
  | .leaf => False
  | .inner n _ _ l r => (n < 16 → l = .leaf ∧ r = .leaf) ∧ (16 ≤ n → ot_wf l) ∧ (16 ≤ n → n < 18 → r = .leaf) ∧ (18 ≤ n → ot_wf r)
def ot_oc (x : Nat) : oeT → Prop
  | .leaf => False
  | .inner n _ _ l r => n = x ∨ ot_oc x l ∨ ot_oc x r
def ot_gI (f : Nat) (oc : Nat → Prop) (s1 s2 : oeT) (g1 g2 : oeT → Prop) : oeT → Prop
  | .leaf => False
  | .inner g a b t1 t2 => (g < 12 ∧ oc g ∧ f ≠ g) ∨ (12 ≤ g ∧ 12 ≤ f ∧
      ((16 ≤ f ∧ (s1 = .inner g a b t1 t2 ∨ g1 (.inner g a b t1 t2))) ∨ (18 ≤ f ∧ (s2 = .inner g a b t1 t2 ∨ g2 (.inner g a b t1 t2))) ∨
       ((16 ≤ g → ot_gI f oc s1 s2 g1 g2 t1) ∧ (18 ≤ g → ot_gI f oc s1 s2 g1 g2 t2) ∧ (g < f ∨ (f = g ∧ ((16 ≤ f ∧ g1 t1) ∨ (18 ≤ f ∧ s1 = t1 ∧ g2 t2)))))))
/-- s is greater than t -/
def ot_gt : oeT → oeT → Prop
  | .leaf => fun _ => False
  | .inner f a b s1 s2 => ot_gI f (fun x => ot_oc x (.inner f a b s1 s2)) s1 s2 (ot_gt s1) (ot_gt s2)
theorem ot_gt_eq {f g : Nat} {a b : Unit} {a' b' : Unit} {s1 s2 t1 t2 : oeT} : ot_gt (.inner f a b s1 s2) (.inner g a' b' t1 t2) ↔ ((g < 12 ∧ ot_oc g (.inner f a b s1 s2) ∧ f ≠ g) ∨ (12 ≤ g ∧ 12 ≤ f ∧
      ((16 ≤ f ∧ (s1 = .inner g a' b' t1 t2 ∨ ot_gt s1 (.inner g a' b' t1 t2))) ∨ (18 ≤ f ∧ (s2 = .inner g a' b' t1 t2 ∨ ot_gt s2 (.inner g a' b' t1 t2))) ∨
       ((16 ≤ g → ot_gt (.inner f a b s1 s2) t1) ∧ (18 ≤ g → ot_gt (.inner f a b s1 s2) t2) ∧ (g < f ∨ (f = g ∧ ((16 ≤ f ∧ ot_gt s1 t1) ∨ (18 ≤ f ∧ s1 = t1 ∧ ot_gt s2 t2)))))))) := Iff.rfl
theorem ot_gt_leaf {s : oeT} : ¬ ot_gt s .leaf := by
  cases s with
  | leaf => exact fun h => h
  | inner f a b s1 s2 => exact fun h => h
theorem ot_wf1 {f : Nat} {a b : Unit} {l r : oeT} (h : ot_wf (.inner f a b l r)) (hf : 16 ≤ f) : ot_wf l := h.2.1 hf
theorem ot_wf2 {f : Nat} {a b : Unit} {l r : oeT} (h : ot_wf (.inner f a b l r)) (hf : 18 ≤ f) : ot_wf r := h.2.2.2 hf
/-- a variable of the smaller one is a variable of the greater one -/
theorem ot_gt_oc : ∀ (n : Nat) (s t : oeT), ot_sz s + ot_sz t ≤ n → ot_wf s → ot_wf t → ot_gt s t → ∀ x, x < 12 → ot_oc x t → ot_oc x s := by
  intro n
  induction n with
  | zero =>
    intro s t hn hs ht
    cases s with
    | leaf => exact hs.elim
    | inner => simp [ot_sz] at hn
  | succ n ih =>
    intro s t hn hs ht h x hx hox
    cases s with
    | leaf => exact h.elim
    | inner f a b s1 s2 =>
      cases t with
      | leaf => exact h.elim
      | inner g a' b' t1 t2 =>
        simp only [ot_sz] at hn
        rcases ot_gt_eq.mp h with ⟨h1, h2, h3⟩ | ⟨h1, h2, h3⟩
        · have hl := ht.1 (by omega)
          rcases hox with rfl | q | q
          · exact h2
          · rw [hl.1] at q; exact q.elim
          · rw [hl.2] at q; exact q.elim
        · rcases h3 with ⟨h4, h5⟩ | ⟨h4, h5⟩ | ⟨h4, h5, h6⟩
          · refine Or.inr (Or.inl ?_)
            rcases h5 with h5 | h5
            · rw [h5]; exact hox
            · exact ih s1 _ (by simp only [ot_sz]; omega) (ot_wf1 hs h4) ht h5 x hx hox
          · refine Or.inr (Or.inr ?_)
            rcases h5 with h5 | h5
            · rw [h5]; exact hox
            · exact ih s2 _ (by simp only [ot_sz]; omega) (ot_wf2 hs h4) ht h5 x hx hox
          · rcases hox with q | q | q
            · omega
            · by_cases hg : 16 ≤ g
              · exact ih _ t1 (by simp only [ot_sz]; omega) hs (ot_wf1 ht hg) (h4 hg) x hx q
              · have hl := ht.1 (by omega)
                rw [hl.1] at q; exact q.elim
            · by_cases hg : 18 ≤ g
              · exact ih _ t2 (by simp only [ot_sz]; omega) hs (ot_wf2 ht hg) (h5 hg) x hx q
              · by_cases hg2 : 16 ≤ g
                · have hl := ht.2.2.1 hg2 (by omega)
                  rw [hl] at q; exact q.elim
                · have hl := ht.1 (by omega)
                  rw [hl.2] at q; exact q.elim
theorem ot_gt_var {f g : Nat} {a b a' b' : Unit} {s1 s2 t1 t2 : oeT} (hs : ot_wf (.inner f a b s1 s2)) (hf : f < 12) : ¬ ot_gt (.inner f a b s1 s2) (.inner g a' b' t1 t2) := by
  intro h
  rcases ot_gt_eq.mp h with ⟨h1, h2, h3⟩ | ⟨h1, h2, h3⟩
  · have hl := hs.1 (by omega)
    rcases h2 with q | q | q
    · exact h3 q
    · rw [hl.1] at q; exact q
    · rw [hl.2] at q; exact q
  · omega
/-- an argument is smaller; and what is greater than a term is greater than its arguments -/
theorem ot_arg1 {f : Nat} {a b : Unit} {s1 s2 : oeT} (hs : ot_wf (.inner f a b s1 s2)) (hf : 16 ≤ f) : ot_gt (.inner f a b s1 s2) s1 := by
  have hw := ot_wf1 hs hf
  cases s1 with
  | leaf => exact hw.elim
  | inner g a' b' t1 t2 =>
    by_cases hg : g < 12
    · exact ot_gt_eq.mpr (Or.inl ⟨hg, Or.inr (Or.inl (Or.inl rfl)), by omega⟩)
    · exact ot_gt_eq.mpr (Or.inr ⟨by omega, by omega, Or.inl ⟨hf, Or.inl rfl⟩⟩)
theorem ot_arg2 {f : Nat} {a b : Unit} {s1 s2 : oeT} (hs : ot_wf (.inner f a b s1 s2)) (hf : 18 ≤ f) : ot_gt (.inner f a b s1 s2) s2 := by
  have hw := ot_wf2 hs hf
  cases s2 with
  | leaf => exact hw.elim
  | inner g a' b' t1 t2 =>
    by_cases hg : g < 12
    · exact ot_gt_eq.mpr (Or.inl ⟨hg, Or.inr (Or.inr (Or.inl rfl)), by omega⟩)
    · exact ot_gt_eq.mpr (Or.inr ⟨by omega, by omega, Or.inr (Or.inl ⟨hf, Or.inl rfl⟩)⟩)
/-- by way of an argument -/
theorem ot_up1 {f : Nat} {a b : Unit} {s1 s2 t : oeT} (hs : ot_wf (.inner f a b s1 s2)) (ht : ot_wf t) (hf : 16 ≤ f) (h : ot_gt s1 t) : ot_gt (.inner f a b s1 s2) t := by
  cases t with
  | leaf => exact ht.elim
  | inner g a' b' t1 t2 =>
    by_cases hg : g < 12
    · refine ot_gt_eq.mpr (Or.inl ⟨hg, Or.inr (Or.inl ?_), by omega⟩)
      exact ot_gt_oc _ s1 _ (Nat.le_refl _) (ot_wf1 hs hf) ht h g hg (Or.inl rfl)
    · exact ot_gt_eq.mpr (Or.inr ⟨by omega, by omega, Or.inl ⟨hf, Or.inr h⟩⟩)
theorem ot_up2 {f : Nat} {a b : Unit} {s1 s2 t : oeT} (hs : ot_wf (.inner f a b s1 s2)) (ht : ot_wf t) (hf : 18 ≤ f) (h : ot_gt s2 t) : ot_gt (.inner f a b s1 s2) t := by
  cases t with
  | leaf => exact ht.elim
  | inner g a' b' t1 t2 =>
    by_cases hg : g < 12
    · refine ot_gt_eq.mpr (Or.inl ⟨hg, Or.inr (Or.inr ?_), by omega⟩)
      exact ot_gt_oc _ s2 _ (Nat.le_refl _) (ot_wf2 hs hf) ht h g hg (Or.inl rfl)
    · exact ot_gt_eq.mpr (Or.inr ⟨by omega, by omega, Or.inr (Or.inl ⟨hf, Or.inr h⟩)⟩)
theorem ot_dn1 : ∀ (s t : oeT) (g : Nat) (a' b' : Unit) (t1 t2 : oeT), t = .inner g a' b' t1 t2 → ot_wf s → ot_wf t → 16 ≤ g → ot_gt s t → ot_gt s t1 := by
  intro s
  induction s with
  | leaf => intro t g a' b' t1 t2 _ hs; exact hs.elim
  | inner f a b s1 s2 ih1 ih2 =>
    intro t g a' b' t1 t2 e hs ht hg h
    subst e
    have hw := ot_wf1 ht hg
    rcases ot_gt_eq.mp h with ⟨h1, h2, h3⟩ | ⟨h1, h2, h3⟩
    · omega
    · rcases h3 with ⟨h4, h5⟩ | ⟨h4, h5⟩ | ⟨h4, h5, h6⟩
      · rcases h5 with h5 | h5
        · exact ot_up1 hs hw h4 (by rw [h5]; exact ot_arg1 ht hg)
        · exact ot_up1 hs hw h4 (ih1 _ g a' b' t1 t2 rfl (ot_wf1 hs h4) ht hg h5)
      · rcases h5 with h5 | h5
        · exact ot_up2 hs hw h4 (by rw [h5]; exact ot_arg1 ht hg)
        · exact ot_up2 hs hw h4 (ih2 _ g a' b' t1 t2 rfl (ot_wf2 hs h4) ht hg h5)
      · exact h4 hg
theorem ot_dn2 : ∀ (s t : oeT) (g : Nat) (a' b' : Unit) (t1 t2 : oeT), t = .inner g a' b' t1 t2 → ot_wf s → ot_wf t → 18 ≤ g → ot_gt s t → ot_gt s t2 := by
  intro s
  induction s with
  | leaf => intro t g a' b' t1 t2 _ hs; exact hs.elim
  | inner f a b s1 s2 ih1 ih2 =>
    intro t g a' b' t1 t2 e hs ht hg h
    subst e
    have hw := ot_wf2 ht hg
    rcases ot_gt_eq.mp h with ⟨h1, h2, h3⟩ | ⟨h1, h2, h3⟩
    · omega
    · rcases h3 with ⟨h4, h5⟩ | ⟨h4, h5⟩ | ⟨h4, h5, h6⟩
      · rcases h5 with h5 | h5
        · exact ot_up1 hs hw h4 (by rw [h5]; exact ot_arg2 ht hg)
        · exact ot_up1 hs hw h4 (ih1 _ g a' b' t1 t2 rfl (ot_wf1 hs h4) ht hg h5)
      · rcases h5 with h5 | h5
        · exact ot_up2 hs hw h4 (by rw [h5]; exact ot_arg2 ht hg)
        · exact ot_up2 hs hw h4 (ih2 _ g a' b' t1 t2 rfl (ot_wf2 hs h4) ht hg h5)
      · exact h5 hg
theorem ot_trans : ∀ (n : Nat) (s t u : oeT), ot_sz s + ot_sz t + ot_sz u ≤ n → ot_wf s → ot_wf t → ot_wf u → ot_gt s t → ot_gt t u → ot_gt s u := by
  intro n
  induction n with
  | zero =>
    intro s t u hn hs
    cases s with
    | leaf => exact hs.elim
    | inner => simp [ot_sz] at hn
  | succ n ih =>
    intro s t u hn hs ht hu hst htu
    cases s with
    | leaf => exact hs.elim
    | inner f a b s1 s2 =>
      cases t with
      | leaf => exact ht.elim
      | inner g a' b' t1 t2 =>
        cases u with
        | leaf => exact hu.elim
        | inner k a'' b'' u1 u2 =>
          simp only [ot_sz] at hn
          have hfv : ¬ f < 12 := fun q => ot_gt_var hs q hst
          have hgv : ¬ g < 12 := fun q => ot_gt_var ht q htu
          by_cases hk : k < 12
          · have ho := ot_gt_oc _ _ _ (Nat.le_refl _) hs ht hst k hk (ot_gt_oc _ _ _ (Nat.le_refl _) ht hu htu k hk (Or.inl rfl))
            exact ot_gt_eq.mpr (Or.inl ⟨hk, ho, by omega⟩)
          · rcases ot_gt_eq.mp hst with ⟨h1, _, _⟩ | ⟨_, _, h3⟩
            · omega
            · rcases h3 with ⟨h4, h5⟩ | ⟨h4, h5⟩ | ⟨h4, h5, h6⟩
              · rcases h5 with h5 | h5
                · exact ot_up1 hs hu h4 (by rw [h5]; exact htu)
                · exact ot_up1 hs hu h4 (ih s1 _ _ (by simp only [ot_sz]; omega) (ot_wf1 hs h4) ht hu h5 htu)
              · rcases h5 with h5 | h5
                · exact ot_up2 hs hu h4 (by rw [h5]; exact htu)
                · exact ot_up2 hs hu h4 (ih s2 _ _ (by simp only [ot_sz]; omega) (ot_wf2 hs h4) ht hu h5 htu)
              · rcases ot_gt_eq.mp htu with ⟨h1, _, _⟩ | ⟨_, _, k3⟩
                · omega
                · rcases k3 with ⟨k4, k5⟩ | ⟨k4, k5⟩ | ⟨k4, k5, k6⟩
                  · rcases k5 with k5 | k5
                    · rw [← k5]; exact h4 k4
                    · exact ih _ t1 _ (by simp only [ot_sz]; omega) hs (ot_wf1 ht k4) hu (h4 k4) k5
                  · rcases k5 with k5 | k5
                    · rw [← k5]; exact h5 k4
                    · exact ih _ t2 _ (by simp only [ot_sz]; omega) hs (ot_wf2 ht k4) hu (h5 k4) k5
                  · have a1 : 16 ≤ k → ot_gt (.inner f a b s1 s2) u1 := fun q => ih _ _ u1 (by simp only [ot_sz]; omega) hs ht (ot_wf1 hu q) hst (k4 q)
                    have a2 : 18 ≤ k → ot_gt (.inner f a b s1 s2) u2 := fun q => ih _ _ u2 (by simp only [ot_sz]; omega) hs ht (ot_wf2 hu q) hst (k5 q)
                    refine ot_gt_eq.mpr (Or.inr ⟨by omega, by omega, Or.inr (Or.inr ⟨a1, a2, ?_⟩)⟩)
                    rcases h6 with h6 | ⟨h6, h7⟩
                    · rcases k6 with k6 | ⟨k6, _⟩
                      · exact Or.inl (by omega)
                      · exact Or.inl (by omega)
                    · rcases k6 with k6 | ⟨k6, k7⟩
                      · exact Or.inl (by omega)
                      · refine Or.inr ⟨by omega, ?_⟩
                        rcases h7 with ⟨h7, h8⟩ | ⟨h7, h8, h9⟩
                        · rcases k7 with ⟨k7, k8⟩ | ⟨k7, k8, k9⟩
                          · exact Or.inl ⟨h7, ih s1 t1 u1 (by omega) (ot_wf1 hs h7) (ot_wf1 ht k7) (ot_wf1 hu (by omega)) h8 k8⟩
                          · exact Or.inl ⟨h7, by rw [← k8]; exact h8⟩
                        · rcases k7 with ⟨k7, k8⟩ | ⟨k7, k8, k9⟩
                          · exact Or.inl ⟨by omega, by rw [h8]; exact k8⟩
                          · exact Or.inr ⟨h7, h8.trans k8, ih s2 t2 u2 (by omega) (ot_wf2 hs h7) (ot_wf2 ht k7) (ot_wf2 hu (by omega)) h9 k9⟩
theorem ot_irr : ∀ (s : oeT), ot_wf s → ¬ ot_gt s s := by
  intro s
  induction s with
  | leaf => exact fun h _ => h
  | inner f a b s1 s2 ih1 ih2 =>
    intro hs h
    have key1 : 16 ≤ f → ¬ (s1 = .inner f a b s1 s2 ∨ ot_gt s1 (.inner f a b s1 s2)) := by
      intro hf q
      rcases q with q | q
      · have := congrArg ot_sz q; simp only [ot_sz] at this; omega
      · exact ih1 (ot_wf1 hs hf) (ot_dn1 s1 _ f a b s1 s2 rfl (ot_wf1 hs hf) hs hf q)
    have key2 : 18 ≤ f → ¬ (s2 = .inner f a b s1 s2 ∨ ot_gt s2 (.inner f a b s1 s2)) := by
      intro hf q
      rcases q with q | q
      · have := congrArg ot_sz q; simp only [ot_sz] at this; omega
      · exact ih2 (ot_wf2 hs hf) (ot_dn2 s2 _ f a b s1 s2 rfl (ot_wf2 hs hf) hs hf q)
    rcases ot_gt_eq.mp h with ⟨_, _, h3⟩ | ⟨_, _, h3⟩
    · exact h3 rfl
    · rcases h3 with ⟨h4, h5⟩ | ⟨h4, h5⟩ | ⟨h4, h5, h6⟩
      · exact key1 h4 h5
      · exact key2 h4 h5
      · rcases h6 with h6 | ⟨_, ⟨h7, h8⟩ | ⟨h7, _, h8⟩⟩
        · omega
        · exact ih1 (ot_wf1 hs h7) h8
        · exact ih2 (ot_wf2 hs h7) h8
