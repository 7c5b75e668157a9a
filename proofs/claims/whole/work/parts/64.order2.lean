/-! The order, as a program may ask it: only what still matters is compared. -/
theorem ot_sz_fl : ∀ t : oeT, ot_sz t = (ot_fl t).length := by
  intro t
  induction t with
  | leaf => rfl
  | inner n a b l r ih1 ih2 => simp only [ot_sz, ot_fl, List.length_cons, List.length_append, ih1, ih2]
theorem ot_oc_mem {x : Nat} : ∀ t : oeT, ot_oc x t ↔ x ∈ ot_fl t := by
  intro t
  induction t with
  | leaf => simp [ot_oc, ot_fl]
  | inner n a b l r ih1 ih2 =>
    simp only [ot_oc, ot_fl, List.mem_cons, List.mem_append, ih1, ih2]
    constructor
    · rintro (h | h)
      · exact Or.inl h.symm
      · exact Or.inr h
    · rintro (h | h)
      · exact Or.inl h.symm
      · exact Or.inr h
theorem ot_oc_at {x i : Nat} {l : List Nat} {t : oeT} (hw : ot_wf t) (h : ot_at l i t) : ot_oc x t ↔ ∃ k, i ≤ k ∧ k < ol_en l i ∧ l.getD k 0 = x := by
  rw [ot_oc_mem, ← ot_at_sub hw h]
  constructor
  · intro hm
    obtain ⟨k, hk⟩ := List.getElem?_of_mem hm
    have hk1 := (List.getElem?_eq_some_iff.mp hk).1
    refine ⟨i + k, by omega, ?_, ?_⟩
    · rw [ol_sub_len2] at hk1; omega
    · rw [← ol_sub_at hk1, List.getD_eq_getElem?_getD, hk]; rfl
  · rintro ⟨k, h1, h2, h3⟩
    have hk : k - i < (ol_sub l i).length := by rw [ol_sub_len2]; omega
    have e := ol_sub_at hk
    rw [show i + (k - i) = k by omega, h3] at e
    rw [← e, List.getD_eq_getElem?_getD, List.getElem?_eq_getElem hk]
    exact List.getElem_mem hk
theorem ot_same {l r : List Nat} {i j : Nat} {s t : oeT} (hs : ot_wf s) (ht : ot_wf t) (h : ot_at l i s) (g : ot_at r j t) : ol_sub l i = ol_sub r j ↔ s = t := by
  rw [ot_at_sub hs h, ot_at_sub ht g]
  constructor
  · intro e
    exact ot_fl_inj s t [] [] hs ht (by rw [e])
  · intro e; rw [e]
section
variable {f k : Nat} {a b a' b' : Unit} {s1 s2 t1 t2 : oeT}
theorem ot_tr {s t u : oeT} (hs : ot_wf s) (ht : ot_wf t) (hu : ot_wf u) (h : ot_gt s t) (g : ot_gt t u) : ot_gt s u := ot_trans _ s t u (Nat.le_refl _) hs ht hu h g
theorem ot_gt_big (hs : ot_wf (.inner f a b s1 s2)) (ht : ot_wf (.inner k a' b' t1 t2)) (hf : 12 ≤ k) (hk : k < f) : ot_gt (.inner f a b s1 s2) (.inner k a' b' t1 t2) ↔ ((16 ≤ k → ot_gt (.inner f a b s1 s2) t1) ∧ (18 ≤ k → ot_gt (.inner f a b s1 s2) t2)) := by
  constructor
  · intro h
    exact ⟨fun q => ot_dn1 _ _ k a' b' t1 t2 rfl hs ht q h, fun q => ot_dn2 _ _ k a' b' t1 t2 rfl hs ht q h⟩
  · intro h
    exact ot_gt_eq.mpr (Or.inr ⟨hf, by omega, Or.inr (Or.inr ⟨h.1, h.2, Or.inl hk⟩)⟩)
theorem ot_gt_small (hf : 12 ≤ f) (hk : f < k) : ot_gt (.inner f a b s1 s2) (.inner k a' b' t1 t2) ↔ ((16 ≤ f ∧ (s1 = .inner k a' b' t1 t2 ∨ ot_gt s1 (.inner k a' b' t1 t2))) ∨ (18 ≤ f ∧ (s2 = .inner k a' b' t1 t2 ∨ ot_gt s2 (.inner k a' b' t1 t2)))) := by
  constructor
  · intro h
    rcases ot_gt_eq.mp h with ⟨h1, _, _⟩ | ⟨_, _, h3⟩
    · omega
    · rcases h3 with h4 | h4 | ⟨_, _, h6⟩
      · exact Or.inl h4
      · exact Or.inr h4
      · rcases h6 with h6 | ⟨h6, _⟩ <;> omega
  · intro h
    refine ot_gt_eq.mpr (Or.inr ⟨by omega, hf, ?_⟩)
    rcases h with h | h
    · exact Or.inl h
    · exact Or.inr (Or.inl h)
theorem ot_gt_un (hs : ot_wf (.inner f a b s1 s2)) (ht : ot_wf (.inner f a' b' t1 t2)) (h1 : 16 ≤ f) (h2 : f < 18) : ot_gt (.inner f a b s1 s2) (.inner f a' b' t1 t2) ↔ ot_gt s1 t1 := by
  have w1 := ot_wf1 hs h1
  have v1 := ot_wf1 ht h1
  constructor
  · intro h
    rcases ot_gt_eq.mp h with ⟨h1, _, _⟩ | ⟨_, _, h3⟩
    · omega
    · rcases h3 with ⟨_, h4 | h4⟩ | ⟨h4, _⟩ | ⟨_, _, h6⟩
      · rw [h4]; exact ot_arg1 ht h1
      · exact ot_dn1 _ _ f a' b' t1 t2 rfl w1 ht h1 h4
      · omega
      · rcases h6 with h6 | ⟨_, ⟨_, h7⟩ | ⟨h7, _⟩⟩
        · omega
        · exact h7
        · omega
  · intro h
    exact ot_gt_eq.mpr (Or.inr ⟨by omega, by omega, Or.inr (Or.inr ⟨fun _ => ot_tr hs w1 v1 (ot_arg1 hs h1) h, fun q => by omega, Or.inr ⟨rfl, Or.inl ⟨h1, h⟩⟩⟩)⟩)
theorem ot_gt_bin0 (hs : ot_wf (.inner f a b s1 s2)) (ht : ot_wf (.inner f a' b' t1 t2)) (h2 : 18 ≤ f) (e : s1 = t1) : ot_gt (.inner f a b s1 s2) (.inner f a' b' t1 t2) ↔ ot_gt s2 t2 := by
  have h1 : 16 ≤ f := by omega
  have w1 := ot_wf1 hs h1
  have v1 := ot_wf1 ht h1
  have w2 := ot_wf2 hs h2
  have v2 := ot_wf2 ht h2
  subst e
  constructor
  · intro h
    rcases ot_gt_eq.mp h with ⟨h1, _, _⟩ | ⟨_, _, h3⟩
    · omega
    · rcases h3 with ⟨_, h4 | h4⟩ | ⟨_, h4 | h4⟩ | ⟨_, _, h6⟩
      · have := congrArg ot_sz h4; simp only [ot_sz] at this; omega
      · exact (ot_irr _ w1 (ot_tr w1 ht w1 h4 (ot_arg1 ht h1))).elim
      · rw [h4]; exact ot_arg2 ht h2
      · exact ot_dn2 _ _ f a' b' s1 t2 rfl w2 ht h2 h4
      · rcases h6 with h6 | ⟨_, ⟨_, h7⟩ | ⟨_, _, h7⟩⟩
        · omega
        · exact (ot_irr _ w1 h7).elim
        · exact h7
  · intro h
    exact ot_gt_eq.mpr (Or.inr ⟨by omega, by omega, Or.inr (Or.inr ⟨fun _ => ot_arg1 hs h1, fun _ => ot_tr hs w2 v2 (ot_arg2 hs h2) h, Or.inr ⟨rfl, Or.inr ⟨h2, rfl, h⟩⟩⟩)⟩)
theorem ot_gt_bin1 (hs : ot_wf (.inner f a b s1 s2)) (ht : ot_wf (.inner f a' b' t1 t2)) (h2 : 18 ≤ f) (e : ot_gt s1 t1) : ot_gt (.inner f a b s1 s2) (.inner f a' b' t1 t2) ↔ ot_gt (.inner f a b s1 s2) t2 := by
  have h1 : 16 ≤ f := by omega
  have w1 := ot_wf1 hs h1
  have v1 := ot_wf1 ht h1
  constructor
  · intro h
    exact ot_dn2 _ _ f a' b' t1 t2 rfl hs ht h2 h
  · intro h
    exact ot_gt_eq.mpr (Or.inr ⟨by omega, by omega, Or.inr (Or.inr ⟨fun _ => ot_tr hs w1 v1 (ot_arg1 hs h1) e, fun _ => h, Or.inr ⟨rfl, Or.inl ⟨h1, e⟩⟩⟩)⟩)
theorem ot_gt_bin2 (hs : ot_wf (.inner f a b s1 s2)) (ht : ot_wf (.inner f a' b' t1 t2)) (h2 : 18 ≤ f) (e : ¬ ot_gt s1 t1) (e2 : s1 ≠ t1) : ot_gt (.inner f a b s1 s2) (.inner f a' b' t1 t2) ↔ (s2 = .inner f a' b' t1 t2 ∨ ot_gt s2 (.inner f a' b' t1 t2)) := by
  have h1 : 16 ≤ f := by omega
  have w1 := ot_wf1 hs h1
  constructor
  · intro h
    rcases ot_gt_eq.mp h with ⟨h1, _, _⟩ | ⟨_, _, h3⟩
    · omega
    · rcases h3 with ⟨_, h4 | h4⟩ | ⟨_, h4⟩ | ⟨_, _, h6⟩
      · exact (e (by rw [h4]; exact ot_arg1 ht h1)).elim
      · exact (e (ot_dn1 _ _ f a' b' t1 t2 rfl w1 ht h1 h4)).elim
      · exact h4
      · rcases h6 with h6 | ⟨_, ⟨_, h7⟩ | ⟨_, h7, _⟩⟩
        · omega
        · exact (e h7).elim
        · exact (e2 h7).elim
  · intro h
    exact ot_gt_eq.mpr (Or.inr ⟨by omega, by omega, Or.inr (Or.inl ⟨h2, h⟩)⟩)
end
