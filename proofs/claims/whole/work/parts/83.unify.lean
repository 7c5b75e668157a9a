/-! Unifying, on trees: values, their full putting in, no circles, soundness. -/
theorem fm_congr {α β : Type} {f k : α → List β} : ∀ {l : List α}, (∀ c ∈ l, f c = k c) → l.flatMap f = l.flatMap k
  | [], _ => rfl
  | c :: l, h => by
    rw [List.flatMap_cons, List.flatMap_cons, h c List.mem_cons_self, fm_congr (fun x hx => h x (List.mem_cons_of_mem _ hx))]
/-- a row with values put in, n levels deep -/
def ou_x (σ : Nat → Option oeT) : Nat → List Nat → List Nat
  | 0 => fun l => l
  | n + 1 => fun l => l.flatMap (fun c => ((σ c).map (fun u => ou_x σ n (ot_fl u))).getD [c])
theorem ou_x_succ (σ : Nat → Option oeT) (n : Nat) (l : List Nat) : ou_x σ (n + 1) l = l.flatMap (fun c => ((σ c).map (fun u => ou_x σ n (ot_fl u))).getD [c]) := rfl
/-- no circles: a rank, at most 11 -/
def ua (σ : Nat → Option oeT) (r : Nat → Nat) : Prop := ∀ c u, σ c = some u → c < 12 ∧ ot_wf u ∧ r c ≤ 11 ∧ ∀ y ∈ ot_fl u, ∀ w, σ y = some w → r y < r c
theorem ou_x_stable {σ : Nat → Option oeT} {r : Nat → Nat} (H : ua σ r) : ∀ (n : Nat) (l : List Nat), (∀ c ∈ l, ∀ u, σ c = some u → r c < n) → ou_x σ (n + 1) l = ou_x σ n l := by
  intro n
  induction n with
  | zero =>
    intro l hl
    rw [ou_x_succ]
    have : l.flatMap (fun c => ((σ c).map (fun u => ou_x σ 0 (ot_fl u))).getD [c]) = l.flatMap (fun c => [c]) := by
      refine fm_congr (fun c hc => ?_)
      cases hs : σ c with
      | none => rfl
      | some u => have := hl c hc u hs; omega
    rw [this]
    show l.flatMap (fun c => [c]) = l
    rw [List.flatMap_singleton']
  | succ n ih =>
    intro l hl
    rw [ou_x_succ, ou_x_succ]
    refine fm_congr (fun c hc => ?_)
    cases hs : σ c with
    | none => rfl
    | some u =>
      have h1 := hl c hc u hs
      show ou_x σ (n + 1) (ot_fl u) = ou_x σ n (ot_fl u)
      exact ih _ (fun y hy w hw => by have := (H c u hs).2.2.2 y hy w hw; omega)
/-- a row with all values put in -/
def ou_X (σ : Nat → Option oeT) (l : List Nat) : List Nat := ou_x σ 12 l
theorem ou_x_le {σ : Nat → Option oeT} {r : Nat → Nat} (H : ua σ r) {n : Nat} {l : List Nat} (hl : ∀ c ∈ l, ∀ u, σ c = some u → r c < n) : ∀ k, ou_x σ (n + k) l = ou_x σ n l
  | 0 => rfl
  | k + 1 => by
    rw [← Nat.add_assoc, ou_x_stable H (n + k) l (fun c hc u hu => by have := hl c hc u hu; omega)]
    exact ou_x_le H hl k
theorem ou_X_n {σ : Nat → Option oeT} {r : Nat → Nat} (H : ua σ r) {n : Nat} {l : List Nat} (hn : n ≤ 12) (hl : ∀ c ∈ l, ∀ u, σ c = some u → r c < n) : ou_X σ l = ou_x σ n l := by
  have := ou_x_le H hl (12 - n)
  rw [show n + (12 - n) = 12 by omega] at this
  exact this
theorem ou_X_eq {σ : Nat → Option oeT} {r : Nat → Nat} (H : ua σ r) (l : List Nat) : ou_X σ l = l.flatMap (fun c => ((σ c).map (fun u => ou_X σ (ot_fl u))).getD [c]) := by
  have := ou_x_stable H 12 l (fun c hc u hu => by have := (H c u hu).2.2.1; omega)
  unfold ou_X
  rw [← this, ou_x_succ]
theorem ou_X_app {σ : Nat → Option oeT} (l m : List Nat) : ou_X σ (l ++ m) = ou_X σ l ++ ou_X σ m := by
  unfold ou_X
  rw [ou_x_succ, ou_x_succ, ou_x_succ, List.flatMap_append]
theorem ou_X_nil {σ : Nat → Option oeT} : ou_X σ [] = [] := rfl
theorem ou_X_1 {σ : Nat → Option oeT} {r : Nat → Nat} (H : ua σ r) {c : Nat} {u : oeT} (h : σ c = some u) : ou_X σ [c] = ou_X σ (ot_fl u) := by
  rw [ou_X_eq H [c]]
  simp [h]
theorem ou_X_0 {σ : Nat → Option oeT} {c : Nat} (h : σ c = none) : ou_X σ [c] = [c] := by
  unfold ou_X
  rw [ou_x_succ]
  simp [h]
theorem ou_X_cons {σ : Nat → Option oeT} (c : Nat) (l : List Nat) : ou_X σ (c :: l) = ou_X σ [c] ++ ou_X σ l := ou_X_app [c] l
theorem ou_X_mem {σ : Nat → Option oeT} {y v : Nat} : ∀ {l : List Nat}, y ∈ l → v ∈ ou_X σ [y] → v ∈ ou_X σ l
  | [], h, _ => by cases h
  | c :: l, h, hv => by
    rw [ou_X_cons]
    rcases List.mem_cons.mp h with q | q
    · rw [← q]; exact List.mem_append_left _ hv
    · exact List.mem_append_right _ (ou_X_mem q hv)
theorem ou_x_len {σ : Nat → Option oeT} {r : Nat → Nat} (H : ua σ r) : ∀ (n : Nat) (l : List Nat), l.length ≤ (ou_x σ n l).length := by
  intro n
  induction n with
  | zero => intro l; exact Nat.le_refl _
  | succ n ih =>
    intro l
    induction l with
    | nil => exact Nat.zero_le _
    | cons c l ihl =>
      rw [ou_x_succ] at ihl ⊢
      rw [List.flatMap_cons, List.length_append, List.length_cons]
      have : 1 ≤ (((σ c).map (fun u => ou_x σ n (ot_fl u))).getD [c]).length := by
        cases hs : σ c with
        | none => exact Nat.le_refl _
        | some u =>
          have h1 := ih (ot_fl u)
          have h2 := ot_fl_pos (H c u hs).2.1
          show 1 ≤ (ou_x σ n (ot_fl u)).length
          omega
      omega
/-- what stands there in the end has no value -/
theorem ou_x_un {σ : Nat → Option oeT} {r : Nat → Nat} (H : ua σ r) : ∀ (n : Nat) (l : List Nat), (∀ c ∈ l, ∀ u, σ c = some u → r c < n) → ∀ x ∈ ou_x σ n l, σ x = none := by
  intro n
  induction n with
  | zero =>
    intro l hl x hx
    cases hs : σ x with
    | none => rfl
    | some u => have := hl x hx u hs; omega
  | succ n ih =>
    intro l hl x hx
    rw [ou_x_succ] at hx
    obtain ⟨c, hc, hx⟩ := List.mem_flatMap.mp hx
    cases hs : σ c with
    | none =>
      rw [hs] at hx
      have : x = c := by simpa using hx
      rw [this]; exact hs
    | some u =>
      rw [hs] at hx
      have hx : x ∈ ou_x σ n (ot_fl u) := hx
      have h1 := hl c hc u hs
      exact ih _ (fun y hy w hw => by have := (H c u hs).2.2.2 y hy w hw; omega) x hx
theorem ou_X_un {σ : Nat → Option oeT} {r : Nat → Nat} (H : ua σ r) {l : List Nat} {x : Nat} (hx : x ∈ ou_X σ l) : σ x = none :=
  ou_x_un H 12 l (fun c hc u hu => by have := (H c u hu).2.2.1; omega) x hx
-- counting, to make ranks small
noncomputable def ct (P : Nat → Prop) : Nat → Nat
  | 0 => 0
  | n + 1 => ct P n + @ite Nat (P n) (Classical.propDecidable _) 1 0
theorem ct_le (P : Nat → Prop) : ∀ n, ct P n ≤ n
  | 0 => Nat.le_refl _
  | n + 1 => by
    have := ct_le P n
    unfold ct
    split <;> omega
theorem ct_mono {P R : Nat → Prop} (h : ∀ z, P z → R z) : ∀ n, ct P n ≤ ct R n
  | 0 => Nat.le_refl _
  | n + 1 => by
    have := ct_mono h n
    unfold ct
    by_cases e : P n
    · rw [if_pos e, if_pos (h n e)]; omega
    · rw [if_neg e]; omega
theorem ct_lt {P R : Nat → Prop} (h : ∀ z, P z → R z) {z : Nat} (h1 : R z) (h2 : ¬ P z) : ∀ n, z < n → ct P n < ct R n
  | 0, q => by omega
  | n + 1, q => by
    unfold ct
    by_cases e : z = n
    · subst e
      have := ct_mono h z
      rw [if_neg h2, if_pos h1]; omega
    · have := ct_lt h h1 h2 n (by omega)
      by_cases f : P n
      · rw [if_pos f, if_pos (h n f)]; omega
      · rw [if_neg f]; omega
theorem ct_small {P : Nat → Prop} {z : Nat} (h2 : ¬ P z) : ∀ n, z < n → ct P n + 1 ≤ n
  | 0, q => by omega
  | n + 1, q => by
    unfold ct
    by_cases e : z = n
    · subst e
      have := ct_le P z
      rw [if_neg h2]; omega
    · have := ct_small h2 n (by omega)
      split <;> omega
theorem ua_small {σ : Nat → Option oeT} {r : Nat → Nat} (H : ∀ c u, σ c = some u → c < 12 ∧ ot_wf u ∧ ∀ y ∈ ot_fl u, ∀ w, σ y = some w → r y < r c) : ∃ r', ua σ r' := by
  refine ⟨fun x => ct (fun z => σ z ≠ none ∧ r z < r x) 12, fun c u hc => ?_⟩
  obtain ⟨h1, h2, h3⟩ := H c u hc
  refine ⟨h1, h2, ?_, fun y hy w hw => ?_⟩
  · have := ct_small (P := fun z => σ z ≠ none ∧ r z < r c) (z := c) (fun q => by have := q.2; omega) 12 h1
    try dsimp only
    omega
  · have h4 := h3 y hy w hw
    exact ct_lt (fun z q => ⟨q.1, by have := q.2; omega⟩) ⟨by rw [hw]; exact Option.some_ne_none _, h4⟩ (fun q => by have := q.2; omega) 12 (H y w hw).1
def ou_up (σ : Nat → Option oeT) (v : Nat) (t : oeT) : Nat → Option oeT := fun x => if x = v then some t else σ x
/-- a new value makes no circle -/
theorem ua_up {σ : Nat → Option oeT} {r : Nat → Nat} (H : ua σ r) {v : Nat} {t : oeT} (hv : v < 12) (hs : σ v = none) (ht : ot_wf t) (hn : v ∉ ou_X σ (ot_fl t)) : ∃ r', ua (ou_up σ v t) r' := by
  have dec : ∀ x, Decidable (v ∈ ou_X σ [x]) := fun x => inferInstance
  refine ua_small (r := fun x => if x = v then 12 else if v ∈ ou_X σ [x] then r x + 13 else r x) (fun c u hc => ?_)
  unfold ou_up at hc
  have key : ∀ y w, y ≠ v → ou_up σ v t y = some w → σ y = some w := fun y w hy hw => by unfold ou_up at hw; rw [if_neg hy] at hw; exact hw
  by_cases e : c = v
  · rw [if_pos e] at hc
    cases hc
    refine ⟨by omega, ht, fun y hy w hw => ?_⟩
    have yv : y ≠ v := fun q => hn (ou_X_mem hy (by rw [q, ou_X_0 hs]; exact List.mem_cons_self))
    have hw2 := key y w yv hw
    have yn : v ∉ ou_X σ [y] := fun q => hn (ou_X_mem hy q)
    try dsimp only
    rw [if_neg yv, if_neg yn, if_pos e]
    have := (H y w hw2).2.2.1
    omega
  · rw [if_neg e] at hc
    obtain ⟨a1, a2, a3, a4⟩ := H c u hc
    refine ⟨a1, a2, fun y hy w hw => ?_⟩
    have hX := ou_X_1 H hc
    try dsimp only
    rw [if_neg e]
    by_cases yv : y = v
    · have : v ∈ ou_X σ [c] := by rw [hX]; exact ou_X_mem hy (by rw [yv, ou_X_0 hs]; exact List.mem_cons_self)
      rw [if_pos yv, if_pos this]; omega
    · have hw2 := key y w yv hw
      have h4 := a4 y hy w hw2
      rw [if_neg yv]
      by_cases q : v ∈ ou_X σ [y]
      · have : v ∈ ou_X σ [c] := by rw [hX]; exact ou_X_mem hy q
        rw [if_pos q, if_pos this]; omega
      · rw [if_neg q]
        split <;> omega
/-- values that stay -/
def ou_le (σ τ : Nat → Option oeT) : Prop := ∀ c u, σ c = some u → τ c = some u
theorem ou_le_up {σ : Nat → Option oeT} {v : Nat} {t : oeT} (hs : σ v = none) : ou_le σ (ou_up σ v t) := by
  intro c u hc
  unfold ou_up
  rw [if_neg (fun q => by rw [q, hs] at hc; cases hc)]
  exact hc
/-- along the values of variables -/
def ou_look (σ : Nat → Option oeT) : Nat → oeT → oeT
  | 0, t => t
  | _ + 1, .leaf => .leaf
  | n + 1, .inner c a b l r => ((σ c).map (fun u => ou_look σ n u)).getD (.inner c a b l r)
theorem ou_look_wf {σ : Nat → Option oeT} {r : Nat → Nat} (H : ua σ r) : ∀ (n : Nat) (t : oeT), ot_wf t → ot_wf (ou_look σ n t)
  | 0, t, h => h
  | n + 1, .leaf, h => h
  | n + 1, .inner c a b l q, h => by
    unfold ou_look
    cases hs : σ c with
    | none => exact h
    | some u => exact ou_look_wf H n u (H c u hs).2.1
theorem ou_var_fl {c : Nat} {a b : Unit} {l r : oeT} (h : ot_wf (.inner c a b l r)) (hc : c < 16) : ot_fl (.inner c a b l r) = [c] := by
  have := h.1 hc
  rw [this.1, this.2]
  simp [ot_fl]
theorem ou_look_X {σ τ : Nat → Option oeT} {r r' : Nat → Nat} (H : ua σ r) (H' : ua τ r') (hle : ou_le σ τ) : ∀ (n : Nat) (t : oeT), ot_wf t → ou_X τ (ot_fl (ou_look σ n t)) = ou_X τ (ot_fl t)
  | 0, t, h => rfl
  | n + 1, .leaf, h => rfl
  | n + 1, .inner c a b l q, h => by
    unfold ou_look
    cases hs : σ c with
    | none => rfl
    | some u =>
      obtain ⟨h1, h2, _, _⟩ := H c u hs
      show ou_X τ (ot_fl (ou_look σ n u)) = _
      rw [ou_look_X H H' hle n u h2, ou_var_fl h (by omega), ou_X_1 H' (hle c u hs)]
def ot_hd : oeT → Nat
  | .leaf => 0
  | .inner c _ _ _ _ => c
def ot_l : oeT → oeT
  | .leaf => .leaf
  | .inner _ _ _ l _ => l
def ot_r : oeT → oeT
  | .leaf => .leaf
  | .inner _ _ _ _ r => r
theorem ou_look_un {σ : Nat → Option oeT} {r : Nat → Nat} (H : ua σ r) : ∀ (n : Nat) (t : oeT), ot_wf t → (∀ u, σ (ot_hd t) = some u → r (ot_hd t) < n) → σ (ot_hd (ou_look σ n t)) = none
  | 0, t, h, hr => by
    show σ (ot_hd t) = none
    cases hs : σ (ot_hd t) with
    | none => rfl
    | some u => have := hr u hs; omega
  | n + 1, .leaf, h, hr => h.elim
  | n + 1, .inner c a b l q, h, hr => by
    unfold ou_look
    cases hs : σ c with
    | none => exact hs
    | some u =>
      have h1 := hr u hs
      obtain ⟨_, h2, _, h4⟩ := H c u hs
      show σ (ot_hd (ou_look σ n u)) = none
      refine ou_look_un H n u h2 (fun w hw => ?_)
      have hm : ot_hd u ∈ ot_fl u := by
        cases u with
        | leaf => exact h2.elim
        | inner => exact List.mem_cons_self
      have := h4 _ hm w hw
      have h1 : r c < n + 1 := h1
      omega
/-- giving a value -/
noncomputable def ou_give (σ : Nat → Option oeT) (v : Nat) (t : oeT) : Option (Nat → Option oeT) := @ite _ ((ou_X σ (ot_fl t)).length ≤ 300 ∧ v ∉ ou_X σ (ot_fl t)) (Classical.propDecidable _) (some (ou_up σ v t)) none
def ou_args (a b : oeT) : List (oeT × oeT) := if 18 ≤ ot_hd a then [(ot_l a, ot_l b), (ot_r a, ot_r b)] else if 16 ≤ ot_hd a then [(ot_l a, ot_l b)] else []
/-- unifying in at most n pairs -/
noncomputable def ou : Nat → (Nat → Option oeT) → List (oeT × oeT) → Option (Nat → Option oeT)
  | _, σ, [] => some σ
  | 0, _, _ :: _ => none
  | n + 1, σ, (s, t) :: st =>
    if ot_hd (ou_look σ 12 s) < 12 then
      (if ot_hd (ou_look σ 12 s) = ot_hd (ou_look σ 12 t) then ou n σ st else (ou_give σ (ot_hd (ou_look σ 12 s)) (ou_look σ 12 t)).bind (fun σ' => ou n σ' st))
    else if ot_hd (ou_look σ 12 t) < 12 then (ou_give σ (ot_hd (ou_look σ 12 t)) (ou_look σ 12 s)).bind (fun σ' => ou n σ' st)
    else if ot_hd (ou_look σ 12 s) = ot_hd (ou_look σ 12 t) then ou n σ (ou_args (ou_look σ 12 s) (ou_look σ 12 t) ++ st)
    else none
theorem ou_give_some {σ σ' : Nat → Option oeT} {v : Nat} {t : oeT} (h : ou_give σ v t = some σ') : σ' = ou_up σ v t ∧ (ou_X σ (ot_fl t)).length ≤ 300 ∧ v ∉ ou_X σ (ot_fl t) := by
  unfold ou_give at h
  split at h
  · rename_i q; cases h; exact ⟨rfl, q⟩
  · cases h
theorem ou_look12 {σ : Nat → Option oeT} {r : Nat → Nat} (H : ua σ r) {t : oeT} (h : ot_wf t) : σ (ot_hd (ou_look σ 12 t)) = none :=
  ou_look_un H 12 t h (fun u hu => by have := (H _ u hu).2.2.1; omega)
/-- what unifying gives makes both the same -/
theorem ou_sound : ∀ (n : Nat) (σ σ' : Nat → Option oeT) (st : List (oeT × oeT)) (r : Nat → Nat), ua σ r → (∀ p ∈ st, ot_wf p.1 ∧ ot_wf p.2) → ou n σ st = some σ' → ou_le σ σ' ∧ (∃ r', ua σ' r') ∧ ∀ p ∈ st, ou_X σ' (ot_fl p.1) = ou_X σ' (ot_fl p.2) := by
  intro n
  induction n with
  | zero =>
    intro σ σ' st r H hst h
    cases st with
    | nil => simp only [ou] at h; cases h; exact ⟨fun c u q => q, ⟨r, H⟩, fun p hp => by cases hp⟩
    | cons p st => cases h
  | succ n ih =>
    intro σ σ' st r H hst h
    cases st with
    | nil => simp only [ou] at h; cases h; exact ⟨fun c u q => q, ⟨r, H⟩, fun p hp => by cases hp⟩
    | cons p st =>
      obtain ⟨s, t⟩ := p
      have hs := (hst _ List.mem_cons_self).1
      have ht := (hst _ List.mem_cons_self).2
      have hst' : ∀ p ∈ st, ot_wf p.1 ∧ ot_wf p.2 := fun p hp => hst p (List.mem_cons_of_mem _ hp)
      have ws := ou_look_wf H 12 s hs
      have wt := ou_look_wf H 12 t ht
      have us := ou_look12 H hs
      have ut := ou_look12 H ht
      have X1 : ∀ (τ : Nat → Option oeT) (q : Nat → Nat), ua τ q → ou_le σ τ → ou_X τ (ot_fl (ou_look σ 12 s)) = ou_X τ (ot_fl (ou_look σ 12 t)) → ou_X τ (ot_fl s) = ou_X τ (ot_fl t) := fun τ q Hq hle e => by
        rw [ou_look_X H Hq hle 12 s hs, ou_look_X H Hq hle 12 t ht] at e; exact e
      simp only [ou] at h
      generalize ou_look σ 12 s = a at *
      generalize ou_look σ 12 t = b at *
      have hgive : ∀ (x y : oeT), ot_wf x → ot_wf y → σ (ot_hd x) = none → ot_hd x < 12 → (ou_give σ (ot_hd x) y).bind (fun σ' => ou n σ' st) = some σ' → ou_le σ σ' ∧ (∃ r', ua σ' r') ∧ (∀ p ∈ st, ou_X σ' (ot_fl p.1) = ou_X σ' (ot_fl p.2)) ∧ ou_X σ' (ot_fl x) = ou_X σ' (ot_fl y) := by
        intro x y hx hy hun h12 hg
        cases hgv : ou_give σ (ot_hd x) y with
        | none => rw [hgv] at hg; cases hg
        | some σ1 =>
          rw [hgv] at hg
          have hg : ou n σ1 st = some σ' := hg
          obtain ⟨e1, e2, e3⟩ := ou_give_some hgv
          obtain ⟨r1, H1⟩ := ua_up H h12 hun hy e3
          rw [← e1] at H1
          obtain ⟨l1, ⟨r2, H2⟩, l3⟩ := ih σ1 σ' st r1 H1 hst' hg
          have le1 : ou_le σ σ1 := by rw [e1]; exact ou_le_up hun
          refine ⟨fun c u q => l1 c u (le1 c u q), ⟨r2, H2⟩, l3, ?_⟩
          have hv : σ' (ot_hd x) = some y := l1 _ _ (by rw [e1]; unfold ou_up; rw [if_pos rfl])
          cases x with
          | leaf => exact hx.elim
          | inner c a' b' l q =>
            have h12 : c < 12 := h12
            rw [ou_var_fl hx (by omega)]
            exact ou_X_1 H2 hv
      by_cases ca : ot_hd a < 12
      · rw [if_pos ca] at h
        by_cases cab : ot_hd a = ot_hd b
        · rw [if_pos cab] at h
          obtain ⟨l1, ⟨r2, H2⟩, l3⟩ := ih σ σ' st r H hst' h
          refine ⟨l1, ⟨r2, H2⟩, fun p hp => ?_⟩
          rcases List.mem_cons.mp hp with q | q
          · rw [q]
            refine X1 σ' r2 H2 l1 ?_
            cases a with
            | leaf => exact ws.elim
            | inner c1 _ _ _ _ =>
              cases b with
              | leaf => exact wt.elim
              | inner c2 _ _ _ _ =>
                have e : c1 = c2 := cab
                subst e
                have ca : c1 < 12 := ca
                rw [ou_var_fl ws (by omega), ou_var_fl wt (by omega)]
          · exact l3 p q
        · rw [if_neg cab] at h
          obtain ⟨l1, ⟨r2, H2⟩, l3, l4⟩ := hgive a b ws wt us ca h
          refine ⟨l1, ⟨r2, H2⟩, fun p hp => ?_⟩
          rcases List.mem_cons.mp hp with q | q
          · rw [q]; exact X1 σ' r2 H2 l1 l4
          · exact l3 p q
      · rw [if_neg ca] at h
        by_cases cb : ot_hd b < 12
        · rw [if_pos cb] at h
          obtain ⟨l1, ⟨r2, H2⟩, l3, l4⟩ := hgive b a wt ws ut cb h
          refine ⟨l1, ⟨r2, H2⟩, fun p hp => ?_⟩
          rcases List.mem_cons.mp hp with q | q
          · rw [q]; exact X1 σ' r2 H2 l1 l4.symm
          · exact l3 p q
        · rw [if_neg cb] at h
          by_cases cab : ot_hd a = ot_hd b
          · rw [if_pos cab] at h
            cases a with
            | leaf => exact ws.elim
            | inner c1 a1 b1 s1 s2 =>
              cases b with
              | leaf => exact wt.elim
              | inner c2 a2 b2 t1 t2 =>
                have e : c1 = c2 := cab
                subst e
                have hargs : ∀ p ∈ ou_args (.inner c1 a1 b1 s1 s2) (.inner c1 a2 b2 t1 t2), ot_wf p.1 ∧ ot_wf p.2 := by
                  intro p hp
                  unfold ou_args at hp
                  split at hp
                  · rename_i q
                    rcases List.mem_cons.mp hp with z | z
                    · rw [z]; exact ⟨ot_wf1 ws (Nat.le_trans (by decide) q), ot_wf1 wt (Nat.le_trans (by decide) q)⟩
                    · rw [List.mem_singleton.mp z]; exact ⟨ot_wf2 ws q, ot_wf2 wt q⟩
                  · split at hp
                    · rename_i q
                      rw [List.mem_singleton.mp hp]; exact ⟨ot_wf1 ws q, ot_wf1 wt q⟩
                    · cases hp
                obtain ⟨l1, ⟨r2, H2⟩, l3⟩ := ih σ σ' _ r H (fun p hp => by
                  rcases List.mem_append.mp hp with q | q
                  · exact hargs p q
                  · exact hst' p q) h
                refine ⟨l1, ⟨r2, H2⟩, fun p hp => ?_⟩
                rcases List.mem_cons.mp hp with q | q
                · rw [q]
                  refine X1 σ' r2 H2 l1 ?_
                  show ou_X σ' (c1 :: (ot_fl s1 ++ ot_fl s2)) = ou_X σ' (c1 :: (ot_fl t1 ++ ot_fl t2))
                  rw [ou_X_cons, ou_X_cons c1 (ot_fl t1 ++ ot_fl t2), ou_X_app, ou_X_app (ot_fl t1)]
                  by_cases c18 : 18 ≤ c1
                  · have m1 := l3 (s1, t1) (List.mem_append_left _ (by unfold ou_args; rw [if_pos (show 18 ≤ ot_hd (.inner c1 a1 b1 s1 s2) from c18)]; exact List.mem_cons_self))
                    have m2 := l3 (s2, t2) (List.mem_append_left _ (by unfold ou_args; rw [if_pos (show 18 ≤ ot_hd (.inner c1 a1 b1 s1 s2) from c18)]; exact List.mem_cons_of_mem _ List.mem_cons_self))
                    rw [show ou_X σ' (ot_fl s1) = ou_X σ' (ot_fl t1) from m1, show ou_X σ' (ot_fl s2) = ou_X σ' (ot_fl t2) from m2]
                  · by_cases c16 : 16 ≤ c1
                    · have m1 := l3 (s1, t1) (List.mem_append_left _ (by unfold ou_args; rw [if_neg (show ¬ 18 ≤ ot_hd (.inner c1 a1 b1 s1 s2) from c18), if_pos (show 16 ≤ ot_hd (.inner c1 a1 b1 s1 s2) from c16)]; exact List.mem_cons_self))
                      rw [show ou_X σ' (ot_fl s1) = ou_X σ' (ot_fl t1) from m1, ws.2.2.1 c16 (by omega), wt.2.2.1 c16 (by omega)]
                    · rw [(ws.1 (by omega)).1, (ws.1 (by omega)).2, (wt.1 (by omega)).1, (wt.1 (by omega)).2]
                · exact l3 p (List.mem_append_right _ q)
          · rw [if_neg cab] at h; cases h
