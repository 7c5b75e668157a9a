/-! Terms as rows of letters. -/
def ol_ar (c : Nat) : Nat := if 18 ≤ c then 2 else if 16 ≤ c then 1 else 0
/-- how many letters n terms take at the front of a row -/
def ol_tl : Nat → List Nat → Nat
  | 0, _ => 0
  | _ + 1, [] => 0
  | n + 1, c :: l => 1 + ol_tl (n + ol_ar c) l
def ol_en (l : List Nat) (i : Nat) : Nat := i + ol_tl 1 (l.drop i)
/-- the subterm that begins at a place -/
def ol_sub (l : List Nat) (i : Nat) : List Nat := (l.drop i).take (ol_tl 1 (l.drop i))
theorem ol_tl_0 (l : List Nat) : ol_tl 0 l = 0 := by cases l <;> rfl
theorem ol_tl_nil (n : Nat) : ol_tl n [] = 0 := by cases n <;> rfl
theorem ol_tl_le : ∀ (l : List Nat) (n : Nat), ol_tl n l ≤ l.length
  | [], n => by rw [ol_tl_nil]; exact Nat.zero_le _
  | c :: l, 0 => by rw [ol_tl_0]; exact Nat.zero_le _
  | c :: l, n + 1 => by
    have := ol_tl_le l (n + ol_ar c)
    simp only [ol_tl, List.length_cons]
    omega
theorem ol_tl_add : ∀ (l : List Nat) (m n : Nat), ol_tl (m + n) l = ol_tl m l + ol_tl n (l.drop (ol_tl m l))
  | [], m, n => by rw [ol_tl_nil, ol_tl_nil, List.drop_nil, ol_tl_nil]
  | c :: l, 0, n => by rw [ol_tl_0, List.drop_zero, Nat.zero_add, Nat.zero_add]
  | c :: l, m + 1, n => by
    have ih := ol_tl_add l (m + ol_ar c) n
    have e : m + 1 + n = (m + n) + 1 := by omega
    have e2 : m + n + ol_ar c = m + ol_ar c + n := by omega
    rw [e]
    simp only [ol_tl]
    rw [e2, ih]
    have e3 : List.drop (1 + ol_tl (m + ol_ar c) l) (c :: l) = List.drop (ol_tl (m + ol_ar c) l) l := by
      rw [Nat.add_comm 1]; rfl
    rw [e3]
    omega
theorem ol_en_le {l : List Nat} {i : Nat} (h : i ≤ l.length) : ol_en l i ≤ l.length := by
  have := ol_tl_le (l.drop i) 1
  rw [List.length_drop] at this
  unfold ol_en
  omega
theorem ol_drop_cons {l : List Nat} {i : Nat} (h : i < l.length) : l.drop i = l.getD i 0 :: l.drop (i + 1) := by
  rw [List.drop_eq_getElem_cons h, List.getD_eq_getElem?_getD, List.getElem?_eq_getElem h]; rfl
theorem ol_en_step {l : List Nat} {i : Nat} (h : i < l.length) : ol_en l i = i + 1 + ol_tl (ol_ar (l.getD i 0)) (l.drop (i + 1)) := by
  unfold ol_en
  rw [ol_drop_cons h]
  simp only [ol_tl, Nat.zero_add]
  omega
theorem ol_en_lt {l : List Nat} {i : Nat} (h : i < l.length) : i < ol_en l i := by
  rw [ol_en_step h]; omega
theorem ol_en_0 {l : List Nat} {i : Nat} (h : i < l.length) (hc : l.getD i 0 < 16) : ol_en l i = i + 1 := by
  rw [ol_en_step h]
  have : ol_ar (l.getD i 0) = 0 := by unfold ol_ar; rw [if_neg (by omega), if_neg (by omega)]
  rw [this, ol_tl_0]
theorem ol_en_1 {l : List Nat} {i : Nat} (h : i < l.length) (hc : 16 ≤ l.getD i 0) (hd : l.getD i 0 < 18) : ol_en l i = ol_en l (i + 1) := by
  rw [ol_en_step h]
  have : ol_ar (l.getD i 0) = 1 := by unfold ol_ar; rw [if_neg (by omega), if_pos (by omega)]
  rw [this]; rfl
theorem ol_en_2 {l : List Nat} {i : Nat} (h : i < l.length) (hc : 18 ≤ l.getD i 0) : ol_en l i = ol_en l (ol_en l (i + 1)) := by
  rw [ol_en_step h]
  have : ol_ar (l.getD i 0) = 1 + 1 := by unfold ol_ar; rw [if_pos (by omega)]
  rw [this, ol_tl_add]
  unfold ol_en
  rw [List.drop_drop]
  omega
theorem ol_en_end {l : List Nat} {i : Nat} (h : l.length ≤ i) : ol_en l i = i := by
  unfold ol_en
  rw [List.drop_eq_nil_of_le h, ol_tl_nil]
  rfl
theorem ol_getD_lt {l : List Nat} {i : Nat} (h : i < l.length) : l[i]? = some (l.getD i 0) := by
  rw [List.getD_eq_getElem?_getD, List.getElem?_eq_getElem h]; rfl
theorem ol_getD_app1 {l r : List Nat} {i : Nat} (h : i < l.length) : (l ++ r).getD i 0 = l.getD i 0 := by
  rw [List.getD_eq_getElem?_getD, List.getD_eq_getElem?_getD, List.getElem?_append_left h]
theorem ol_getD_app2 {l r : List Nat} {i : Nat} (h : l.length ≤ i) : (l ++ r).getD i 0 = r.getD (i - l.length) 0 := by
  rw [List.getD_eq_getElem?_getD, List.getD_eq_getElem?_getD, List.getElem?_append_right h]
theorem ol_ext {l r : List Nat} (hl : l.length = r.length) (h : ∀ i, i < l.length → l.getD i 0 = r.getD i 0) : l = r := by
  apply List.ext_getElem?
  intro i
  by_cases hi : i < l.length
  · rw [ol_getD_lt hi, ol_getD_lt (by omega), h i hi]
  · rw [List.getElem?_eq_none (by omega), List.getElem?_eq_none (by omega)]
theorem ol_sub_len {l : List Nat} {i : Nat} : (ol_sub l i).length = ol_tl 1 (l.drop i) := by
  unfold ol_sub
  rw [List.length_take]
  have := ol_tl_le (l.drop i) 1
  omega
theorem ol_sub_len2 {l : List Nat} {i : Nat} : (ol_sub l i).length = ol_en l i - i := by
  rw [ol_sub_len]; unfold ol_en; omega
theorem ol_sub_at {l : List Nat} {i k : Nat} (h : k < (ol_sub l i).length) : (ol_sub l i).getD k 0 = l.getD (i + k) 0 := by
  unfold ol_sub at h ⊢
  rw [List.length_take] at h
  rw [List.getD_eq_getElem?_getD, List.getD_eq_getElem?_getD, List.getElem?_take_of_lt (by omega), List.getElem?_drop]
/-- two subterms are the same, by their letters -/
theorem ol_sub_eq {l r : List Nat} {i j : Nat} : ol_sub l i = ol_sub r j ↔ (ol_en l i - i = ol_en r j - j ∧ ∀ k, k < ol_en l i - i → l.getD (i + k) 0 = r.getD (j + k) 0) := by
  constructor
  · intro h
    have hl : (ol_sub l i).length = (ol_sub r j).length := by rw [h]
    rw [ol_sub_len2, ol_sub_len2] at hl
    refine ⟨hl, fun k hk => ?_⟩
    have h1 := ol_sub_at (l := l) (i := i) (k := k) (by rw [ol_sub_len2]; exact hk)
    have h2 := ol_sub_at (l := r) (i := j) (k := k) (by rw [ol_sub_len2]; omega)
    rw [← h1, ← h2, h]
  · intro h
    refine ol_ext (by rw [ol_sub_len2, ol_sub_len2]; exact h.1) (fun k hk => ?_)
    rw [ol_sub_len2] at hk
    rw [ol_sub_at (by rw [ol_sub_len2]; exact hk), ol_sub_at (by rw [ol_sub_len2]; omega)]
    exact h.2 k hk
-- trees as rows
def ot_fl : oeT → List Nat
  | .leaf => []
  | .inner n _ _ l r => n :: (ot_fl l ++ ot_fl r)
theorem ot_tl : ∀ (t : oeT) (r : List Nat) (n : Nat), ot_wf t → ol_tl (n + 1) (ot_fl t ++ r) = (ot_fl t).length + ol_tl n r := by
  intro t
  induction t with
  | leaf => intro r n h; exact h.elim
  | inner c a b t1 t2 ih1 ih2 =>
    intro r n h
    simp only [ot_fl, List.cons_append, ol_tl, List.append_assoc, List.length_cons, List.length_append]
    by_cases h2 : 18 ≤ c
    · have e : ol_ar c = 2 := by unfold ol_ar; rw [if_pos h2]
      rw [e, ih1 _ _ (ot_wf1 h (by omega)), ih2 _ _ (ot_wf2 h h2)]
      omega
    · by_cases h1 : 16 ≤ c
      · have e : ol_ar c = 1 := by unfold ol_ar; rw [if_neg h2, if_pos h1]
        have hr : t2 = .leaf := h.2.2.1 h1 (by omega)
        subst hr
        rw [e]
        simp only [ot_fl, List.nil_append, List.length_nil]
        rw [ih1 _ _ (ot_wf1 h h1)]
        omega
      · have e : ol_ar c = 0 := by unfold ol_ar; rw [if_neg h2, if_neg h1]
        have hl := h.1 (by omega)
        rw [hl.1, hl.2, e]
        simp [ot_fl]
/-- what stands at place i of l begins with the term t -/
def ot_at (l : List Nat) (i : Nat) (t : oeT) : Prop := ∃ r, l.drop i = ot_fl t ++ r
theorem ot_at_sub {l : List Nat} {i : Nat} {t : oeT} (hw : ot_wf t) (h : ot_at l i t) : ol_sub l i = ot_fl t := by
  obtain ⟨r, h⟩ := h
  unfold ol_sub
  rw [h, show (1 : Nat) = 0 + 1 from rfl, ot_tl t r 0 hw, ol_tl_0, Nat.add_zero, List.take_left']
  rfl
theorem ot_at_en {l : List Nat} {i : Nat} {t : oeT} (hw : ot_wf t) (h : ot_at l i t) : ol_en l i = i + (ot_fl t).length := by
  rw [← ot_at_sub hw h, ol_sub_len]; rfl
theorem ot_fl_inj : ∀ (s t : oeT) (r q : List Nat), ot_wf s → ot_wf t → ot_fl s ++ r = ot_fl t ++ q → s = t := by
  intro s
  induction s with
  | leaf => intro t r q h; exact h.elim
  | inner c a b s1 s2 ih1 ih2 =>
    intro t r q hs ht h
    cases t with
    | leaf => exact ht.elim
    | inner c' a' b' t1 t2 =>
      simp only [ot_fl, List.cons_append, List.append_assoc] at h
      obtain ⟨hc, h0⟩ := List.cons.inj h
      subst hc
      by_cases h1 : 16 ≤ c
      · have e1 := ih1 t1 _ _ (ot_wf1 hs h1) (ot_wf1 ht h1) h0
        subst e1
        have h3 := List.append_cancel_left h0
        by_cases h2 : 18 ≤ c
        · have e2 := ih2 t2 _ _ (ot_wf2 hs h2) (ot_wf2 ht h2) h3
          subst e2
          rfl
        · rw [hs.2.2.1 h1 (by omega), ht.2.2.1 h1 (by omega)]
      · have a1 := hs.1 (by omega)
        have a2 := ht.1 (by omega)
        rw [a1.1, a1.2, a2.1, a2.2]
theorem ot_fl_pos {t : oeT} (h : ot_wf t) : 0 < (ot_fl t).length := by
  cases t with
  | leaf => exact h.elim
  | inner => simp [ot_fl]
theorem ot_at_lt {l : List Nat} {i : Nat} {t : oeT} (hw : ot_wf t) (h : ot_at l i t) : i < l.length := by
  obtain ⟨r, h⟩ := h
  have := congrArg List.length h
  rw [List.length_drop, List.length_append] at this
  have := ot_fl_pos hw
  omega
theorem ot_at_c {l : List Nat} {i n : Nat} {a b : Unit} {t1 t2 : oeT} (h : ot_at l i (.inner n a b t1 t2)) : l.getD i 0 = n := by
  obtain ⟨r, h⟩ := h
  have e : (l.drop i)[0]? = some n := by rw [h]; rfl
  rw [List.getElem?_drop, Nat.add_zero] at e
  rw [List.getD_eq_getElem?_getD, e]; rfl
theorem ot_at_1 {l : List Nat} {i n : Nat} {a b : Unit} {t1 t2 : oeT} (h : ot_at l i (.inner n a b t1 t2)) : ot_at l (i + 1) t1 := by
  obtain ⟨r, h⟩ := h
  refine ⟨ot_fl t2 ++ r, ?_⟩
  rw [← List.drop_drop, h]
  simp [ot_fl]
theorem ot_at_2 {l : List Nat} {i n : Nat} {a b : Unit} {t1 t2 : oeT} (hw : ot_wf t1) (h : ot_at l i (.inner n a b t1 t2)) : ot_at l (ol_en l (i + 1)) t2 := by
  have h1 := ot_at_1 h
  rw [ot_at_en hw h1]
  obtain ⟨r, h⟩ := h
  refine ⟨r, ?_⟩
  rw [← List.drop_drop, ← List.drop_drop, h]
  simp [ot_fl]
