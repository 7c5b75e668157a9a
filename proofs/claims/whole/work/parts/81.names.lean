/-! Rows that are terms, by what is missing; naming variables: what it keeps. -/
def ol_ms : Nat → List Nat → Option Nat
  | n, [] => some n
  | 0, _ :: _ => none
  | n + 1, c :: l => ol_ms (n + ol_ar c) l
theorem ol_ms_app : ∀ (l r : List Nat) (n : Nat), ol_ms n (l ++ r) = (ol_ms n l).bind (fun m => ol_ms m r)
  | [], r, n => by cases n <;> rfl
  | c :: l, r, 0 => rfl
  | c :: l, r, n + 1 => by
    simp only [List.cons_append, ol_ms]
    exact ol_ms_app l r _
theorem ol_ms_0 {l : List Nat} {m : Nat} (h : ol_ms 0 l = some m) : l = [] ∧ m = 0 := by
  cases l with
  | nil => simp only [ol_ms] at h; cases h; exact ⟨rfl, rfl⟩
  | cons c l => cases h
theorem ot_ms : ∀ (t : oeT) (r : List Nat) (n : Nat), ot_wf t → ol_ms (n + 1) (ot_fl t ++ r) = ol_ms n r := by
  intro t
  induction t with
  | leaf => intro r n h; exact h.elim
  | inner c a b t1 t2 ih1 ih2 =>
    intro r n h
    simp only [ot_fl, List.cons_append, ol_ms, List.append_assoc]
    by_cases h2 : 18 ≤ c
    · have e : ol_ar c = 2 := by unfold ol_ar; rw [if_pos h2]
      rw [e, ih1 _ _ (ot_wf1 h (by omega)), ih2 _ _ (ot_wf2 h h2)]
    · by_cases h1 : 16 ≤ c
      · have e : ol_ar c = 1 := by unfold ol_ar; rw [if_neg h2, if_pos h1]
        have hr : t2 = .leaf := h.2.2.1 h1 (by omega)
        subst hr
        rw [e]
        simp only [ot_fl, List.nil_append]
        rw [ih1 _ _ (ot_wf1 h h1)]
      · have e : ol_ar c = 0 := by unfold ol_ar; rw [if_neg h2, if_neg h1]
        have hl := h.1 (by omega)
        rw [hl.1, hl.2, e]
        simp [ot_fl]
theorem ol_ms_split : ∀ (k : Nat) (l : List Nat) (n m : Nat), l.length ≤ k → m ≤ n → ol_ms (n + 1) l = some m → ∃ t r, ot_wf t ∧ l = ot_fl t ++ r ∧ ol_ms n r = some m := by
  intro k
  induction k with
  | zero =>
    intro l n m hk hm h
    cases l with
    | nil => simp only [ol_ms] at h; cases h; omega
    | cons c l => simp at hk
  | succ k ih =>
    intro l n m hk hm h
    cases l with
    | nil => simp only [ol_ms] at h; cases h; omega
    | cons c l =>
      simp only [ol_ms] at h
      have hk : l.length ≤ k := by simp at hk; exact hk
      by_cases h2 : 18 ≤ c
      · have e : ol_ar c = 2 := by unfold ol_ar; rw [if_pos h2]
        rw [e] at h
        obtain ⟨t1, r1, w1, e1, m1⟩ := ih l (n + 1) m hk (by omega) h
        obtain ⟨t2, r2, w2, e2, m2⟩ := ih r1 n m (by rw [e1, List.length_append] at hk; omega) hm m1
        refine ⟨.inner c () () t1 t2, r2, ⟨fun q => by omega, fun _ => w1, fun _ q => by omega, fun _ => w2⟩, ?_, m2⟩
        rw [e1, e2]; simp [ot_fl]
      · by_cases h1 : 16 ≤ c
        · have e : ol_ar c = 1 := by unfold ol_ar; rw [if_neg h2, if_pos h1]
          rw [e] at h
          obtain ⟨t1, r1, w1, e1, m1⟩ := ih l n m hk hm h
          refine ⟨.inner c () () t1 .leaf, r1, ⟨fun q => by omega, fun _ => w1, fun _ _ => rfl, fun q => absurd q h2⟩, ?_, m1⟩
          rw [e1]; simp [ot_fl]
        · have e : ol_ar c = 0 := by unfold ol_ar; rw [if_neg h2, if_neg h1]
          rw [e] at h
          refine ⟨.inner c () () .leaf .leaf, l, ⟨fun q => ⟨rfl, rfl⟩, fun q => absurd q h1, fun q => absurd q h1, fun q => absurd q h2⟩, ?_, h⟩
          simp [ot_fl]
/-- a row is a term -/
def ol_tm (l : List Nat) : Prop := ∃ t, ot_wf t ∧ ot_fl t = l
theorem ol_tm_ms {l : List Nat} : ol_tm l ↔ ol_ms 1 l = some 0 := by
  constructor
  · rintro ⟨t, h1, h2⟩
    have := ot_ms t [] 0 h1
    rw [List.append_nil, h2] at this
    rw [this]; rfl
  · intro h
    obtain ⟨t, r, h1, h2, h3⟩ := ol_ms_split _ l 0 0 (Nat.le_refl _) (Nat.le_refl _) h
    obtain ⟨h4, _⟩ := ol_ms_0 h3
    exact ⟨t, h1, by rw [h2, h4, List.append_nil]⟩
theorem ol_tm_pos {l : List Nat} (h : ol_tm l) : 0 < l.length := by
  obtain ⟨t, h1, h2⟩ := h
  rw [← h2]; exact ot_fl_pos h1
theorem ol_tm_sub {l : List Nat} (h : ol_tm l) : ol_sub l 0 = l := by
  obtain ⟨t, h1, h2⟩ := h
  rw [ot_at_sub h1 ⟨[], by rw [h2]; simp⟩, h2]
theorem ol_tm_en {l : List Nat} (h : ol_tm l) : ol_en l 0 = l.length := by
  obtain ⟨t, h1, h2⟩ := h
  rw [ot_at_en h1 ⟨[], by rw [h2]; simp⟩, h2, Nat.zero_add]
theorem ol_ms_map : ∀ (l r : List Nat) (n : Nat), l.map ol_ar = r.map ol_ar → ol_ms n l = ol_ms n r
  | [], [], _, _ => rfl
  | [], _ :: _, _, h => by cases h
  | _ :: _, [], _, h => by cases h
  | c :: l, e :: r, 0, _ => rfl
  | c :: l, e :: r, n + 1, h => by
    simp only [List.map_cons, List.cons.injEq] at h
    simp only [ol_ms]
    rw [h.1]
    exact ol_ms_map l r _ h.2
theorem ol_tl_map : ∀ (l r : List Nat) (n : Nat), l.map ol_ar = r.map ol_ar → ol_tl n l = ol_tl n r
  | [], [], _, _ => rfl
  | [], _ :: _, _, h => by cases h
  | _ :: _, [], _, h => by cases h
  | c :: l, e :: r, 0, _ => rfl
  | c :: l, e :: r, n + 1, h => by
    simp only [List.map_cons, List.cons.injEq] at h
    simp only [ol_tl]
    rw [h.1, ol_tl_map l r _ h.2]
theorem ol_en_map {l r : List Nat} {i : Nat} (h : l.map ol_ar = r.map ol_ar) : ol_en l i = ol_en r i := by
  unfold ol_en
  rw [ol_tl_map (l.drop i) (r.drop i) 1 (by rw [List.map_drop, List.map_drop, h])]
theorem ol_tm_map {l r : List Nat} (h : l.map ol_ar = r.map ol_ar) (hl : ol_tm l) : ol_tm r := by
  rw [ol_tm_ms] at hl ⊢
  rw [← ol_ms_map l r 1 h]; exact hl
/-- how many have a name -/
def rn_cnt (nm : Nat → Int) : Nat → Nat
  | 0 => 0
  | n + 1 => rn_cnt nm n + if nm n = -1 then 0 else 1
theorem rn_cnt_le (nm : Nat → Int) : ∀ n, rn_cnt nm n ≤ n
  | 0 => Nat.le_refl _
  | n + 1 => by
    have := rn_cnt_le nm n
    simp only [rn_cnt]
    split <;> omega
theorem rn_cnt_lt {nm : Nat → Int} {c : Nat} (h : nm c = -1) : ∀ n, c < n → rn_cnt nm n < n
  | 0, q => by omega
  | n + 1, q => by
    simp only [rn_cnt]
    by_cases e : c = n
    · subst e
      rw [if_pos h]
      have := rn_cnt_le nm c
      omega
    · have := rn_cnt_lt h n (by omega)
      split <;> omega
theorem rn_cnt_up {nm : Nat → Int} {c u : Nat} (h : nm c = -1) : ∀ n, rn_cnt (fun v => if v = c then (u : Int) else nm v) n = rn_cnt nm n + if c < n then 1 else 0
  | 0 => by simp [rn_cnt]
  | n + 1 => by
    simp only [rn_cnt]
    rw [rn_cnt_up h n]
    by_cases e : n = c
    · subst e
      have e1 : ¬ ((u : Int) = -1) := by omega
      simp [h, e1]
    · simp only [if_neg e]
      by_cases q : c < n
      · rw [if_pos q, if_pos (show c < n + 1 by omega)]; omega
      · rw [if_neg q, if_neg (show ¬ c < n + 1 by omega)]; omega
def rn_ok (nm : Nat → Int) (u : Nat) : Prop := rn_cnt nm 12 = u ∧ ∀ v, nm v = -1 ∨ (0 ≤ nm v ∧ nm v < (u : Int))
theorem rn_ok_start : rn_ok (fun _ => -1) 0 := by
  refine ⟨rfl, fun v => Or.inl rfl⟩
theorem rn_ok_12 {nm : Nat → Int} {u : Nat} (h : rn_ok nm u) : u ≤ 12 := by
  have := rn_cnt_le nm 12
  rw [h.1] at this; exact this
theorem rn_ok_upd {nm : Nat → Int} {u c : Nat} (h : rn_ok nm u) (hc : c < 12) (hn : nm c = -1) : rn_ok (fun v => if v = c then (u : Int) else nm v) (u + 1) := by
  refine ⟨by rw [rn_cnt_up hn, if_pos hc, h.1], fun v => ?_⟩
  try dsimp only
  split
  · right; omega
  · rcases h.2 v with q | q
    · exact Or.inl q
    · right; omega
/-- naming keeps what is no variable; variables become variables below the count -/
theorem ol_ren_ok : ∀ (l : List Nat) (nm : Nat → Int) (u : Nat), rn_ok nm u → rn_ok (ol_ren l nm u).2.1 (ol_ren l nm u).2.2 ∧ (ol_ren l nm u).1.map ol_ar = l.map ol_ar ∧ (∀ c ∈ (ol_ren l nm u).1, (c < 12 ∧ c < (ol_ren l nm u).2.2) ∨ (12 ≤ c ∧ c ∈ l))
  | [], nm, u, h => ⟨h, rfl, fun c hc => by cases hc⟩
  | c :: l, nm, u, h => by
    have a0 : ∀ x, x < 12 → ol_ar x = 0 := fun x hx => by unfold ol_ar; rw [if_neg (by omega), if_neg (by omega)]
    unfold ol_ren
    by_cases hc : c < 12
    · rw [if_pos hc]
      by_cases hn : nm c = -1
      · rw [if_pos hn]
        have ho := rn_ok_upd h hc hn
        obtain ⟨b1, b2, b3⟩ := ol_ren_ok l _ (u + 1) ho
        have u12 : u < 12 := by
          have := rn_cnt_lt hn 12 hc
          rw [h.1] at this; exact this
        have hge := (ol_ren_ge l (fun v => if v = c then (u : Int) else nm v) (u + 1)).1
        refine ⟨b1, ?_, fun x hx => ?_⟩
        · simp only [List.map_cons]
          rw [b2, a0 u u12, a0 c hc]
        · rcases List.mem_cons.mp hx with q | q
          · left; rw [q]; exact ⟨u12, by try dsimp only; omega⟩
          · rcases b3 x q with q | q
            · exact Or.inl q
            · exact Or.inr ⟨q.1, List.mem_cons_of_mem _ q.2⟩
      · rw [if_neg hn]
        obtain ⟨b1, b2, b3⟩ := ol_ren_ok l nm u h
        have hge := (ol_ren_ge l nm u).1
        have u12 := rn_ok_12 h
        have hv : 0 ≤ nm c ∧ nm c < (u : Int) := by
          rcases h.2 c with q | q
          · exact absurd q hn
          · exact q
        refine ⟨b1, ?_, fun x hx => ?_⟩
        · simp only [List.map_cons]
          rw [b2, a0 (nm c).toNat (by omega), a0 c hc]
        · rcases List.mem_cons.mp hx with q | q
          · left; rw [q]; exact ⟨by omega, by try dsimp only; omega⟩
          · rcases b3 x q with q | q
            · exact Or.inl q
            · exact Or.inr ⟨q.1, List.mem_cons_of_mem _ q.2⟩
    · rw [if_neg hc]
      obtain ⟨b1, b2, b3⟩ := ol_ren_ok l nm u h
      refine ⟨b1, ?_, fun x hx => ?_⟩
      · simp only [List.map_cons]; rw [b2]
      · rcases List.mem_cons.mp hx with q | q
        · right; rw [q]; exact ⟨by omega, List.mem_cons_self⟩
        · rcases b3 x q with q | q
          · exact Or.inl q
          · exact Or.inr ⟨q.1, List.mem_cons_of_mem _ q.2⟩
/-- an equation's variables named: the equation, and how many there are -/
def ol_nm (q : List Nat × List Nat) : (List Nat × List Nat) × Nat :=
  (((ol_ren q.1 (fun _ => -1) 0).1, (ol_ren q.2 (ol_ren q.1 (fun _ => -1) 0).2.1 (ol_ren q.1 (fun _ => -1) 0).2.2).1), (ol_ren q.2 (ol_ren q.1 (fun _ => -1) 0).2.1 (ol_ren q.1 (fun _ => -1) 0).2.2).2.2)
theorem ol_nm_ok (q : List Nat × List Nat) : (ol_nm q).2 ≤ 12 ∧ (ol_nm q).1.1.map ol_ar = q.1.map ol_ar ∧ (ol_nm q).1.2.map ol_ar = q.2.map ol_ar ∧ (ol_nm q).1.1.length = q.1.length ∧ (ol_nm q).1.2.length = q.2.length ∧
    (∀ c ∈ (ol_nm q).1.1, (c < 12 ∧ c < (ol_nm q).2) ∨ (12 ≤ c ∧ c ∈ q.1)) ∧ (∀ c ∈ (ol_nm q).1.2, (c < 12 ∧ c < (ol_nm q).2) ∨ (12 ≤ c ∧ c ∈ q.2)) := by
  obtain ⟨a1, a2, a3⟩ := ol_ren_ok q.1 _ 0 rn_ok_start
  obtain ⟨b1, b2, b3⟩ := ol_ren_ok q.2 _ _ a1
  have hge := (ol_ren_ge q.2 (ol_ren q.1 (fun _ => -1) 0).2.1 (ol_ren q.1 (fun _ => -1) 0).2.2).1
  refine ⟨rn_ok_12 b1, a2, b2, ol_ren_len _ _ _, ol_ren_len _ _ _, fun c hc => ?_, b3⟩
  rcases a3 c hc with q1 | q1
  · exact Or.inl ⟨q1.1, Nat.lt_of_lt_of_le q1.2 hge⟩
  · exact Or.inr q1
