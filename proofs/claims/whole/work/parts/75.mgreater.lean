/-! The reference's order is the order. -/
/-- the reference's number of a letter -/
def om (c : Nat) : Int := if c < 12 then (c : Int) else 39 - (c : Int)
def ol_ok (l : List Nat) : Prop := ∀ c ∈ l, c < 20
theorem ol_ok_at {l : List Nat} (h : ol_ok l) {i : Nat} (hi : i < l.length) : l.getD i 0 < 20 := h _ (by rw [List.getD_eq_getElem?_getD, List.getElem?_eq_getElem hi]; exact List.getElem_mem hi)
theorem om_inj {c e : Nat} (hc : c < 20) (he : e < 20) : om c = om e ↔ c = e := by
  unfold om
  constructor
  · intro h
    split at h <;> split at h <;> omega
  · intro h; rw [h]
theorem om_var {c : Nat} (hc : c < 20) : om c < 20 ↔ c < 12 := by
  unfold om
  split <;> omega
theorem om_lt {c e : Nat} (hc : 12 ≤ c) (he : 12 ≤ e) (hc2 : c < 20) (he2 : e < 20) : om c < om e ↔ e < c := by
  unfold om
  rw [if_neg (by omega), if_neg (by omega)]
  omega
theorem om_rg {c : Nat} (hc : c < 20) : 0 ≤ om c ∧ om c < 28 := by
  unfold om
  split <;> omega
def MR (h : Nat → Nat → Int) (q : Nat) (l : List Nat) : Prop := ∀ i, i < l.length → h q i = om (l.getD i 0)
def ME (h : Nat → Nat → Int) (q : Nat) (l : List Nat) : Prop := ∀ i, i < l.length → h q i = ((ol_en l i : Nat) : Int)
theorem ot_every : ∀ (t : oeT) (l : List Nat) (i : Nat), ot_wf t → ot_at l i t → ∀ p, i ≤ p → p < i + (ot_fl t).length → ∃ u, ot_wf u ∧ ot_at l p u := by
  intro t
  induction t with
  | leaf => intro l i h; exact h.elim
  | inner n a b t1 t2 ih1 ih2 =>
    intro l i hw ha p h1 h2
    by_cases e : p = i
    · subst e; exact ⟨_, hw, ha⟩
    · simp only [ot_fl, List.length_cons, List.length_append] at h2
      by_cases n1 : 16 ≤ n
      · have w1 := ot_wf1 hw n1
        have a1 := ot_at_1 ha
        by_cases c1 : p < i + 1 + (ot_fl t1).length
        · exact ih1 l (i + 1) w1 a1 p (by omega) c1
        · by_cases n2 : 18 ≤ n
          · have a2 := ot_at_2 w1 ha
            rw [ot_at_en w1 a1] at a2
            exact ih2 l _ (ot_wf2 hw n2) a2 p (by omega) (by omega)
          · rw [hw.2.2.1 n1 (by omega)] at h2
            simp only [ot_fl, List.length_nil] at h2
            omega
      · have e1 := hw.1 (by omega)
        rw [e1.1, e1.2] at h2
        simp only [ot_fl, List.length_nil] at h2
        omega
theorem ot_at_uni {l : List Nat} {p : Nat} {s t : oeT} (hs : ot_wf s) (ht : ot_wf t) (h : ot_at l p s) (g : ot_at l p t) : s = t := by
  obtain ⟨r, h⟩ := h
  obtain ⟨q, g⟩ := g
  exact ot_fl_inj s t r q hs ht (by rw [← h, ← g])
def ot_G (l r : List Nat) (p q : Nat) : Prop := ∃ s t, ot_wf s ∧ ot_wf t ∧ ot_at l p s ∧ ot_at r q t ∧ ot_gt s t
theorem ot_G_iff {l r : List Nat} {p q : Nat} {s t : oeT} (hs : ot_wf s) (ht : ot_wf t) (h : ot_at l p s) (g : ot_at r q t) : ot_G l r p q ↔ ot_gt s t := by
  constructor
  · rintro ⟨s', t', a1, a2, a3, a4, a5⟩
    rw [ot_at_uni hs a1 h a3, ot_at_uni ht a2 g a4]
    exact a5
  · intro q
    exact ⟨s, t, hs, ht, h, g, q⟩
def MT (h : Nat → Nat → Int) (m : Nat) (l r : List Nat) (p q : Nat) : Prop := (h (m + 17) (60 * p + q) = 1 ∧ ot_G l r p q) ∨ (h (m + 17) (60 * p + q) = 0 ∧ ¬ ot_G l r p q)
section
variable {D : Nat} {sh : List (Nat × Nat)} {g : Nat → Nat → Option Nat} {h : Nat → Nat → Int} {Q : oeQ} {m : Nat} {l r : List Nat}
theorem m_args (hD : 1 ≤ D) {x : Nat} (hx : x < 20) (k : Q (some (.inl ((ol_ar x : Nat) : Int))) (sh, g, h)) : oe_M D 34 [.inl (om x)] (sh, g, h) Q := by
  obtain ⟨d, rfl⟩ : ∃ d, D = d + 1 := ⟨D - 1, by omega⟩
  by_cases e : x < 12
  · have e1 : om x = (x : Int) := by unfold om; rw [if_pos e]
    rw [ar_0 (by omega)] at k
    rw [e1]
    exact g34 ⟨fun _ => k, fun c => by omega⟩
  · have e1 : om x = 39 - (x : Int) := by unfold om; rw [if_neg e]
    rw [e1]
    refine g34 ⟨fun c => by omega, fun c => ⟨fun c2 => ⟨fun c3 => ?_, fun c3 => ?_⟩, fun c2 => ?_⟩⟩
    · rw [ar_1 (by omega) (by omega)] at k; exact k
    · rw [ar_2 (by omega)] at k; exact k
    · rw [ar_0 (by omega)] at k; exact k
theorem m_sameSub (hDD : 2 ≤ D) (hM : MdS sh g m) (hl : l.length ≤ 60) (hr : r.length ≤ 60) (ol : ol_ok l) (or_ : ol_ok r) (F : MR h (m + 13) l) (S : MR h (m + 14) r) (FE : ME h (m + 15) l) (SE : ME h (m + 16) r) (i j : Nat) (hi : i < l.length) (hj : j < r.length)
    (k1 : ol_sub l i = ol_sub r j → Q (some (.inl 1)) (sh, g, h)) (k0 : ol_sub l i ≠ ol_sub r j → Q (some (.inl 0)) (sh, g, h)) : oe_M D 37 [.inr (.inl m), .inl (i : Int), .inl (j : Int)] (sh, g, h) Q := by
  obtain ⟨d, rfl⟩ : ∃ d, D = d + 2 := ⟨D - 2, by omega⟩
  have el := ol_en_le (Nat.le_of_lt hi)
  have er := ol_en_le (Nat.le_of_lt hj)
  have li := ol_en_lt hi
  have lj := ol_en_lt hj
  have fe : h (m + 15) ((i : Int)).toNat = ((ol_en l i : Nat) : Int) := by rw [Int.toNat_natCast, FE i hi]
  have se : h (m + 16) ((j : Int)).toNat = ((ol_en r j : Nat) : Int) := by rw [Int.toNat_natCast, SE j hj]
  have fin0 : ∀ v4 : Int, ol_sub l i ≠ ol_sub r j → oe_V (oe_cost 37) 37 (oe_M (d + 1)) none Q 28 [some (.inr (.inl m)), some (.inl (i : Int)), some (.inl (j : Int)), some (.inl 0), some (.inl v4)] [] (sh, g, h) 0 0 :=
    fun v4 q => g37_28 ⟨fun _ => ⟨Or.inl rfl, k0 q⟩, fun c => absurd rfl c⟩
  have loop : ol_en l i - i = ol_en r j - j → ∀ n k : Nat, ol_en l i - i - k = n → k ≤ ol_en l i - i → (∀ x, x < k → l.getD (i + x) 0 = r.getD (j + x) 0) →
      oe_V (oe_cost 37) 37 (oe_M (d + 1)) none Q 28 [some (.inr (.inl m)), some (.inl (i : Int)), some (.inl (j : Int)), some (.inl 1), some (.inl (k : Int))] [] (sh, g, h) 0 0 := by
    intro hw n
    induction n with
    | zero =>
      intro k hn hk0 hk
      refine g37_28 ⟨fun c => absurd c (by decide), fun _ => ⟨by unfold oe_rg; omega, hM.1, m + 15, (md_25 hM).1, 60, (md_25 hM).2, by omega, by omega, fun _ => ⟨Or.inr rfl, k1 (ol_sub_eq.mpr ⟨hw, fun x hx => hk x (by omega)⟩)⟩, fun c => by rw [fe] at c; omega⟩⟩
    | succ n ih =>
      intro k hn hk0 hk
      refine g37_28 ⟨fun c => absurd c (by decide), fun _ => ⟨by unfold oe_rg; omega, hM.1, m + 15, (md_25 hM).1, 60, (md_25 hM).2, by omega, by omega, fun c => by rw [fe] at c; omega, fun _ => ⟨m + 13, (md_21 hM).1, by unfold oe_rg; omega, 60, (md_21 hM).2, by omega, by omega, m + 14, (md_23 hM).1, by unfold oe_rg; omega, 60, (md_23 hM).2, by omega, by omega, fun c => ⟨by unfold oe_rg; omega, ?_⟩, fun c => ⟨by unfold oe_rg; omega, ?_⟩⟩⟩⟩
      · rw [show ((i : Int) + (k : Int)).toNat = i + k by omega, show ((j : Int) + (k : Int)).toNat = j + k by omega, F _ (by omega), S _ (by omega)] at c
        refine fin0 _ (fun q => c ?_)
        rw [(ol_sub_eq.mp q).2 k (by omega)]
      · rw [show ((i : Int) + (k : Int)).toNat = i + k by omega, show ((j : Int) + (k : Int)).toNat = j + k by omega, F _ (by omega), S _ (by omega)] at c
        have c2 := (om_inj (ol_ok_at ol (by omega)) (ol_ok_at or_ (by omega))).mp c
        refine ih (k + 1) (by omega) (by omega) (fun x hx => ?_)
        by_cases e : x = k
        · subst e; exact c2
        · exact hk x (by omega)
  refine g37 ⟨hM.1, m + 15, (md_25 hM).1, 60, (md_25 hM).2, by omega, by omega, by rw [fe]; unfold oe_rg; omega, m + 16, (md_26 hM).1, 60, (md_26 hM).2, by omega, by omega, by rw [se]; unfold oe_rg; omega, fun c => ?_, fun c => ?_⟩
  · rw [fe, se] at c
    refine fin0 _ (fun q => ?_)
    have := (ol_sub_eq.mp q).1
    omega
  · rw [fe, se] at c
    exact loop (by omega) _ 0 rfl (Nat.zero_le _) (fun x hx => by omega)
theorem MT_if {i j : Nat} {s t : oeT} (hs : ot_wf s) (ht : ot_wf t) (hi : ot_at l i s) (hj : ot_at r j t) (T : MT h m l r i j) : (h (m + 17) (60 * i + j) = 1 ∧ ot_gt s t) ∨ (h (m + 17) (60 * i + j) = 0 ∧ ¬ ot_gt s t) := by
  rcases T with ⟨a, b⟩ | ⟨a, b⟩
  · exact Or.inl ⟨a, (ot_G_iff hs ht hi hj).mp b⟩
  · exact Or.inr ⟨a, fun q => b ((ot_G_iff hs ht hi hj).mpr q)⟩
set_option maxHeartbeats 2000000 in
theorem m_isAbove (hDD : 4 ≤ D) (hM : MdS sh g m) (hl : l.length ≤ 60) (hr : r.length ≤ 60) (ol : ol_ok l) (or_ : ol_ok r) (F : MR h (m + 13) l) (S : MR h (m + 14) r) (FE : ME h (m + 15) l) (SE : ME h (m + 16) r) (i j : Nat) {s t : oeT} (hs : ot_wf s) (ht : ot_wf t) (hi : ot_at l i s) (hj : ot_at r j t)
    (T : ∀ p q, p < l.length → q < r.length → (i < p ∨ (p = i ∧ j < q)) → MT h m l r p q)
    (k1 : ot_gt s t → Q (some (.inl 1)) (sh, g, h)) (k0 : ¬ ot_gt s t → Q (some (.inl 0)) (sh, g, h)) : oe_M D 41 [.inr (.inl m), .inl (i : Int), .inl (j : Int)] (sh, g, h) Q := by
  obtain ⟨d, rfl⟩ : ∃ d, D = d + 2 := ⟨D - 2, by omega⟩
  have li := ot_at_lt hs hi
  have lj := ot_at_lt ht hj
  have le := ol_en_lt li
  have le2 := ol_en_le (Nat.le_of_lt li)
  cases s with
  | leaf => exact hs.elim
  | inner f ua ub s1 s2 =>
  cases t with
  | leaf => exact ht.elim
  | inner k va vb t1 t2 =>
  have ci := ot_at_c hi
  have cj := ot_at_c hj
  have f20 : f < 20 := by rw [← ci]; exact ol_ok_at ol li
  have k20 : k < 20 := by rw [← cj]; exact ol_ok_at or_ lj
  have ef : h (m + 13) ((i : Int)).toNat = om f := by rw [Int.toNat_natCast, F i li, ci]
  have ek : h (m + 14) ((j : Int)).toNat = om k := by rw [Int.toNat_natCast, S j lj, cj]
  have arf := ar_le f
  have ark := ar_le k
  have i1 : 16 ≤ f → ot_at l (i + 1) s1 := fun _ => ot_at_1 hi
  have i2 : 18 ≤ f → ot_at l (ol_en l (i + 1)) s2 := fun q => ot_at_2 (ot_wf1 hs (by omega)) hi
  have j1 : 16 ≤ k → ot_at r (j + 1) t1 := fun _ => ot_at_1 hj
  have j2 : 18 ≤ k → ot_at r (ol_en r (j + 1)) t2 := fun q => ot_at_2 (ot_wf1 ht (by omega)) hj
  have L1 : 16 ≤ f → i + 1 < l.length := fun q => ot_at_lt (ot_wf1 hs q) (i1 q)
  have L2 : 18 ≤ f → ol_en l (i + 1) < l.length ∧ i + 1 < ol_en l (i + 1) := fun q => ⟨ot_at_lt (ot_wf2 hs q) (i2 q), ol_en_lt (L1 (by omega))⟩
  have R1 : 16 ≤ k → j + 1 < r.length := fun q => ot_at_lt (ot_wf1 ht q) (j1 q)
  have R2 : 18 ≤ k → ol_en r (j + 1) < r.length ∧ j + 1 < ol_en r (j + 1) := fun q => ⟨ot_at_lt (ot_wf2 ht q) (j2 q), ol_en_lt (R1 (by omega))⟩
  have g27 := (md_27 hM).1
  have s27 := (md_27 hM).2
  -- an argument of s that is t or greater
  have argE : ∀ (D : Nat) (Q : oeQ), 3 ≤ D → (((16 ≤ f ∧ (s1 = .inner k va vb t1 t2 ∨ ot_gt s1 (.inner k va vb t1 t2))) ∨ (18 ≤ f ∧ (s2 = .inner k va vb t1 t2 ∨ ot_gt s2 (.inner k va vb t1 t2)))) → Q (some (.inl 1)) (sh, g, h)) → (¬ ((16 ≤ f ∧ (s1 = .inner k va vb t1 t2 ∨ ot_gt s1 (.inner k va vb t1 t2))) ∨ (18 ≤ f ∧ (s2 = .inner k va vb t1 t2 ∨ ot_gt s2 (.inner k va vb t1 t2)))) → Q (some (.inl 0)) (sh, g, h)) →
      oe_M D 38 [.inr (.inl m), .inl (i : Int), .inl (j : Int)] (sh, g, h) Q := by
    intro D Q hD y n
    obtain ⟨e, rfl⟩ : ∃ e, D = e + 2 := ⟨D - 2, by omega⟩
    have fin : ∀ (x v4 : Int) (c : Nat), (x = 0 ∨ x = 1) → ol_ar f ≤ c → Q (some (.inl x)) (sh, g, h) → oe_V (oe_cost 38) 38 (oe_M (e + 1)) none Q 10 [some (.inr (.inl m)), some (.inl (i : Int)), some (.inl (j : Int)), some (.inl x), some (.inl v4), some (.inl (c : Int))] [] (sh, g, h) 0 0 := by
      intro x v4 c hx hc q
      refine g38_10 ⟨hM.1, m + 13, (md_21 hM).1, 60, (md_21 hM).2, by omega, by omega, ?_⟩
      rw [ef]
      exact m_args (by omega) f20 ⟨_, rfl, rfl, fun _ => ⟨hx, q⟩, fun z => by omega⟩
    have one : ∀ (u : oeT) (p c : Nat), ot_wf u → ot_at l p u → i < p → c < ol_ar f → ((u = .inner k va vb t1 t2 ∨ ot_gt u (.inner k va vb t1 t2)) → oe_V (oe_cost 38) 38 (oe_M (e + 1)) none Q 10 [some (.inr (.inl m)), some (.inl (i : Int)), some (.inl (j : Int)), some (.inl 1), some (.inl ((ol_en l p : Nat) : Int)), some (.inl ((c + 1 : Nat) : Int))] [] (sh, g, h) 0 0) →
        (¬ (u = .inner k va vb t1 t2 ∨ ot_gt u (.inner k va vb t1 t2)) → oe_V (oe_cost 38) 38 (oe_M (e + 1)) none Q 10 [some (.inr (.inl m)), some (.inl (i : Int)), some (.inl (j : Int)), some (.inl 0), some (.inl ((ol_en l p : Nat) : Int)), some (.inl ((c + 1 : Nat) : Int))] [] (sh, g, h) 0 0) →
        oe_V (oe_cost 38) 38 (oe_M (e + 1)) none Q 10 [some (.inr (.inl m)), some (.inl (i : Int)), some (.inl (j : Int)), some (.inl 0), some (.inl (p : Int)), some (.inl (c : Int))] [] (sh, g, h) 0 0 := by
      intro u p c hu hp hip hc yes no
      have lp := ot_at_lt hu hp
      have fe : h (m + 15) ((p : Int)).toNat = ((ol_en l p : Nat) : Int) := by rw [Int.toNat_natCast, FE p lp]
      have ix : ((60 * (p : Int)) + (j : Int)).toNat = 60 * p + j := by omega
      have tb := MT_if hu ht hp hj (T p j lp lj (Or.inl hip))
      refine g38_10 ⟨hM.1, m + 13, (md_21 hM).1, 60, (md_21 hM).2, by omega, by omega, ?_⟩
      rw [ef]
      refine m_args (by omega) f20 ⟨_, rfl, rfl, fun z => by omega, fun _ => ⟨fun z => absurd rfl z, fun _ => ⟨m + 17, g27, by unfold oe_rg; omega, by unfold oe_rg; omega, 3600, s27, by omega, by omega, fun z => ⟨m + 15, (md_25 hM).1, 60, (md_25 hM).2, by omega, by omega, by unfold oe_rg; omega, ?_⟩, fun z => ?_⟩⟩⟩
      · rw [ix] at z
        rw [fe]
        exact yes (tb.elim (fun q => Or.inr q.2) (fun q => absurd q.1 z))
      · rw [ix] at z
        have ng : ¬ ot_gt u (.inner k va vb t1 t2) := tb.elim (fun q => by rw [z] at q; exact absurd q.1 (by decide)) (fun q => q.2)
        refine m_sameSub (by omega) hM hl hr ol or_ F S FE SE p j lp lj (fun q => ⟨1, rfl, rfl, fun c => absurd c (by decide), fun _ => ⟨m + 15, (md_25 hM).1, 60, (md_25 hM).2, by omega, by omega, by unfold oe_rg; omega, ?_⟩⟩) (fun q => ⟨0, rfl, rfl, fun _ => ⟨m + 15, (md_25 hM).1, 60, (md_25 hM).2, by omega, by omega, by unfold oe_rg; omega, ?_⟩, fun c => absurd rfl c⟩)
        · rw [fe]; exact yes (Or.inl ((ot_same hu ht hp hj).mp q))
        · rw [fe]; exact no (fun z2 => z2.elim (fun z3 => q ((ot_same hu ht hp hj).mpr z3)) ng)
    have skip : ∀ (p c : Nat), p < l.length → c < ol_ar f → oe_V (oe_cost 38) 38 (oe_M (e + 1)) none Q 10 [some (.inr (.inl m)), some (.inl (i : Int)), some (.inl (j : Int)), some (.inl 1), some (.inl ((ol_en l p : Nat) : Int)), some (.inl ((c + 1 : Nat) : Int))] [] (sh, g, h) 0 0 →
        oe_V (oe_cost 38) 38 (oe_M (e + 1)) none Q 10 [some (.inr (.inl m)), some (.inl (i : Int)), some (.inl (j : Int)), some (.inl 1), some (.inl (p : Int)), some (.inl (c : Int))] [] (sh, g, h) 0 0 := by
      intro p c lp hc nx
      refine g38_10 ⟨hM.1, m + 13, (md_21 hM).1, 60, (md_21 hM).2, by omega, by omega, ?_⟩
      rw [ef]
      refine m_args (by omega) f20 ⟨_, rfl, rfl, fun z => by omega, fun _ => ⟨fun z => ⟨m + 15, (md_25 hM).1, 60, (md_25 hM).2, by omega, by omega, by unfold oe_rg; omega, ?_⟩, fun z => absurd z (by decide)⟩⟩
      rw [Int.toNat_natCast, FE p lp]
      exact nx
    refine g38 ⟨by unfold oe_rg; omega, ?_⟩
    by_cases f2 : 18 ≤ f
    · refine one s1 (i + 1) 0 (ot_wf1 hs (by omega)) (i1 (by omega)) (by omega) (by rw [ar_2 f2]; omega) (fun a => ?_) (fun a => ?_)
      · exact skip _ 1 (L2 f2).1 (by rw [ar_2 f2]; omega) (fin 1 _ 2 (Or.inr rfl) (by rw [ar_2 f2]; exact Nat.le_refl _) (y (Or.inl ⟨by omega, a⟩)))
      · refine one s2 _ 1 (ot_wf2 hs f2) (i2 f2) (by have := (L2 f2).2; omega) (by rw [ar_2 f2]; omega) (fun b => ?_) (fun b => ?_)
        · exact fin 1 _ 2 (Or.inr rfl) (by rw [ar_2 f2]; exact Nat.le_refl _) (y (Or.inr ⟨f2, b⟩))
        · exact fin 0 _ 2 (Or.inl rfl) (by rw [ar_2 f2]; exact Nat.le_refl _) (n (fun z => z.elim (fun z => a z.2) (fun z => b z.2)))
    · by_cases f1 : 16 ≤ f
      · refine one s1 (i + 1) 0 (ot_wf1 hs f1) (i1 f1) (by omega) (by rw [ar_1 f1 (by omega)]; omega) (fun a => ?_) (fun a => ?_)
        · exact fin 1 _ 1 (Or.inr rfl) (by rw [ar_1 f1 (by omega)]; exact Nat.le_refl _) (y (Or.inl ⟨f1, a⟩))
        · exact fin 0 _ 1 (Or.inl rfl) (by rw [ar_1 f1 (by omega)]; exact Nat.le_refl _) (n (fun z => z.elim (fun z => a z.2) (fun z => f2 z.1)))
      · exact fin 0 _ 0 (Or.inl rfl) (by rw [ar_0 (by omega)]; exact Nat.le_refl _) (n (fun z => z.elim (fun z => f1 z.1) (fun z => f2 z.1)))
  -- s above all arguments of t
  have abA : ∀ (D : Nat) (Q : oeQ), 3 ≤ D → (((16 ≤ k → ot_gt (.inner f ua ub s1 s2) t1) ∧ (18 ≤ k → ot_gt (.inner f ua ub s1 s2) t2)) → Q (some (.inl 1)) (sh, g, h)) → (¬ ((16 ≤ k → ot_gt (.inner f ua ub s1 s2) t1) ∧ (18 ≤ k → ot_gt (.inner f ua ub s1 s2) t2)) → Q (some (.inl 0)) (sh, g, h)) →
      oe_M D 39 [.inr (.inl m), .inl (i : Int), .inl (j : Int)] (sh, g, h) Q := by
    intro D Q hD y n
    obtain ⟨e, rfl⟩ : ∃ e, D = e + 2 := ⟨D - 2, by omega⟩
    have fin : ∀ (x v4 : Int) (c : Nat), (x = 0 ∨ x = 1) → ol_ar k ≤ c → Q (some (.inl x)) (sh, g, h) → oe_V (oe_cost 39) 39 (oe_M (e + 1)) none Q 10 [some (.inr (.inl m)), some (.inl (i : Int)), some (.inl (j : Int)), some (.inl x), some (.inl v4), some (.inl (c : Int))] [] (sh, g, h) 0 0 := by
      intro x v4 c hx hc q
      refine g39_10 ⟨hM.1, m + 14, (md_23 hM).1, 60, (md_23 hM).2, by omega, by omega, ?_⟩
      rw [ek]
      exact m_args (by omega) k20 ⟨_, rfl, rfl, fun _ => ⟨hx, q⟩, fun z => by omega⟩
    have one : ∀ (u : oeT) (p c : Nat), ot_wf u → ot_at r p u → j < p → c < ol_ar k → (ot_gt (.inner f ua ub s1 s2) u → oe_V (oe_cost 39) 39 (oe_M (e + 1)) none Q 10 [some (.inr (.inl m)), some (.inl (i : Int)), some (.inl (j : Int)), some (.inl 1), some (.inl ((ol_en r p : Nat) : Int)), some (.inl ((c + 1 : Nat) : Int))] [] (sh, g, h) 0 0) →
        (¬ ot_gt (.inner f ua ub s1 s2) u → oe_V (oe_cost 39) 39 (oe_M (e + 1)) none Q 10 [some (.inr (.inl m)), some (.inl (i : Int)), some (.inl (j : Int)), some (.inl 0), some (.inl ((ol_en r p : Nat) : Int)), some (.inl ((c + 1 : Nat) : Int))] [] (sh, g, h) 0 0) →
        oe_V (oe_cost 39) 39 (oe_M (e + 1)) none Q 10 [some (.inr (.inl m)), some (.inl (i : Int)), some (.inl (j : Int)), some (.inl 1), some (.inl (p : Int)), some (.inl (c : Int))] [] (sh, g, h) 0 0 := by
      intro u p c hu hp hip hc yes no
      have lp := ot_at_lt hu hp
      have se : h (m + 16) ((p : Int)).toNat = ((ol_en r p : Nat) : Int) := by rw [Int.toNat_natCast, SE p lp]
      have ix : ((60 * (i : Int)) + (p : Int)).toNat = 60 * i + p := by omega
      have tb := MT_if hs hu hi hp (T i p li lp (Or.inr ⟨rfl, hip⟩))
      refine g39_10 ⟨hM.1, m + 14, (md_23 hM).1, 60, (md_23 hM).2, by omega, by omega, ?_⟩
      rw [ek]
      refine m_args (by omega) k20 ⟨_, rfl, rfl, fun z => by omega, fun _ => ⟨fun z => absurd z (by decide), fun _ => ⟨m + 17, g27, by unfold oe_rg; omega, by unfold oe_rg; omega, 3600, s27, by omega, by omega, fun z => ⟨m + 16, (md_26 hM).1, 60, (md_26 hM).2, by omega, by omega, by unfold oe_rg; omega, ?_⟩, fun z => ⟨m + 16, (md_26 hM).1, 60, (md_26 hM).2, by omega, by omega, by unfold oe_rg; omega, ?_⟩⟩⟩⟩
      · rw [ix] at z
        rw [se]
        exact no (tb.elim (fun q => by rw [z] at q; exact absurd q.1 (by decide)) (fun q => q.2))
      · rw [ix] at z
        rw [se]
        exact yes (tb.elim (fun q => q.2) (fun q => absurd q.1 z))
    have skip : ∀ (p c : Nat), p < r.length → c < ol_ar k → oe_V (oe_cost 39) 39 (oe_M (e + 1)) none Q 10 [some (.inr (.inl m)), some (.inl (i : Int)), some (.inl (j : Int)), some (.inl 0), some (.inl ((ol_en r p : Nat) : Int)), some (.inl ((c + 1 : Nat) : Int))] [] (sh, g, h) 0 0 →
        oe_V (oe_cost 39) 39 (oe_M (e + 1)) none Q 10 [some (.inr (.inl m)), some (.inl (i : Int)), some (.inl (j : Int)), some (.inl 0), some (.inl (p : Int)), some (.inl (c : Int))] [] (sh, g, h) 0 0 := by
      intro p c lp hc nx
      refine g39_10 ⟨hM.1, m + 14, (md_23 hM).1, 60, (md_23 hM).2, by omega, by omega, ?_⟩
      rw [ek]
      refine m_args (by omega) k20 ⟨_, rfl, rfl, fun z => by omega, fun _ => ⟨fun z => ⟨m + 16, (md_26 hM).1, 60, (md_26 hM).2, by omega, by omega, by unfold oe_rg; omega, ?_⟩, fun z => absurd rfl z⟩⟩
      rw [Int.toNat_natCast, SE p lp]
      exact nx
    refine g39 ⟨by unfold oe_rg; omega, ?_⟩
    by_cases f2 : 18 ≤ k
    · refine one t1 (j + 1) 0 (ot_wf1 ht (by omega)) (j1 (by omega)) (by omega) (by rw [ar_2 f2]; omega) (fun a => ?_) (fun a => ?_)
      · refine one t2 _ 1 (ot_wf2 ht f2) (j2 f2) (by have := (R2 f2).2; omega) (by rw [ar_2 f2]; omega) (fun b => ?_) (fun b => ?_)
        · exact fin 1 _ 2 (Or.inr rfl) (by rw [ar_2 f2]; exact Nat.le_refl _) (y ⟨fun _ => a, fun _ => b⟩)
        · exact fin 0 _ 2 (Or.inl rfl) (by rw [ar_2 f2]; exact Nat.le_refl _) (n (fun z => b (z.2 f2)))
      · exact skip _ 1 (R2 f2).1 (by rw [ar_2 f2]; omega) (fin 0 _ 2 (Or.inl rfl) (by rw [ar_2 f2]; exact Nat.le_refl _) (n (fun z => a (z.1 (by omega)))))
    · by_cases f1 : 16 ≤ k
      · refine one t1 (j + 1) 0 (ot_wf1 ht f1) (j1 f1) (by omega) (by rw [ar_1 f1 (by omega)]; omega) (fun a => ?_) (fun a => ?_)
        · exact fin 1 _ 1 (Or.inr rfl) (by rw [ar_1 f1 (by omega)]; exact Nat.le_refl _) (y ⟨fun _ => a, fun z => absurd z f2⟩)
        · exact fin 0 _ 1 (Or.inl rfl) (by rw [ar_1 f1 (by omega)]; exact Nat.le_refl _) (n (fun z => a (z.1 f1)))
      · exact fin 1 _ 0 (Or.inr rfl) (by rw [ar_0 (by omega)]; exact Nat.le_refl _) (y ⟨fun z => absurd z f1, fun z => absurd z f2⟩)
  -- the first arguments that differ
  have turn : ∀ (D : Nat) (Q : oeQ), 3 ≤ D → f = k → (((16 ≤ f ∧ ot_gt s1 t1) ∨ (18 ≤ f ∧ s1 = t1 ∧ ot_gt s2 t2)) → Q (some (.inl 1)) (sh, g, h)) → (¬ ((16 ≤ f ∧ ot_gt s1 t1) ∨ (18 ≤ f ∧ s1 = t1 ∧ ot_gt s2 t2)) → Q (some (.inl 0)) (sh, g, h)) →
      oe_M D 40 [.inr (.inl m), .inl (i : Int), .inl (j : Int)] (sh, g, h) Q := by
    intro D Q hD hfk y n
    obtain ⟨e, rfl⟩ : ∃ e, D = e + 2 := ⟨D - 2, by omega⟩
    have fin : ∀ (v3 v4 : Int) (c : Nat), ol_ar f ≤ c → Q (some (.inl 0)) (sh, g, h) → oe_V (oe_cost 40) 40 (oe_M (e + 1)) none Q 12 [some (.inr (.inl m)), some (.inl (i : Int)), none, some (.inl v3), some (.inl v4), some (.inl (c : Int))] [] (sh, g, h) 0 0 := by
      intro v3 v4 c hc q
      refine g40_12 ⟨hM.1, m + 13, (md_21 hM).1, 60, (md_21 hM).2, by omega, by omega, ?_⟩
      rw [ef]
      exact m_args (by omega) f20 ⟨_, rfl, rfl, fun _ => q, fun z => by omega⟩
    have one : ∀ (u w : oeT) (p q c : Nat), ot_wf u → ot_wf w → ot_at l p u → ot_at r q w → i < p → c < ol_ar f → (u = w → oe_V (oe_cost 40) 40 (oe_M (e + 1)) none Q 12 [some (.inr (.inl m)), some (.inl (i : Int)), none, some (.inl ((ol_en l p : Nat) : Int)), some (.inl ((ol_en r q : Nat) : Int)), some (.inl ((c + 1 : Nat) : Int))] [] (sh, g, h) 0 0) →
        (u ≠ w → ot_gt u w → Q (some (.inl 1)) (sh, g, h)) → (u ≠ w → ¬ ot_gt u w → Q (some (.inl 0)) (sh, g, h)) →
        oe_V (oe_cost 40) 40 (oe_M (e + 1)) none Q 12 [some (.inr (.inl m)), some (.inl (i : Int)), none, some (.inl (p : Int)), some (.inl (q : Int)), some (.inl (c : Int))] [] (sh, g, h) 0 0 := by
      intro u w p q c hu hw hp hq hip hc same yes no
      have lp := ot_at_lt hu hp
      have lq := ot_at_lt hw hq
      have ix : ((60 * (p : Int)) + (q : Int)).toNat = 60 * p + q := by omega
      have tb := MT_if hu hw hp hq (T p q lp lq (Or.inl hip))
      refine g40_12 ⟨hM.1, m + 13, (md_21 hM).1, 60, (md_21 hM).2, by omega, by omega, ?_⟩
      rw [ef]
      refine m_args (by omega) f20 ⟨_, rfl, rfl, fun z => by omega, fun _ => ?_⟩
      refine m_sameSub (by omega) hM hl hr ol or_ F S FE SE p q lp lq (fun z => ⟨1, rfl, rfl, fun _ => ⟨m + 15, (md_25 hM).1, 60, (md_25 hM).2, by omega, by omega, m + 16, (md_26 hM).1, 60, (md_26 hM).2, by omega, by omega, by unfold oe_rg; omega, ?_⟩, fun c => absurd c (by decide)⟩) (fun z => ⟨0, rfl, rfl, fun c => absurd rfl c, fun _ => ⟨m + 17, g27, by unfold oe_rg; omega, by unfold oe_rg; omega, 3600, s27, by omega, by omega, ?_, ?_⟩⟩)
      · rw [Int.toNat_natCast, Int.toNat_natCast, FE p lp, SE q lq]
        exact same ((ot_same hu hw hp hq).mp z)
      · rw [ix]
        exact tb.elim (fun a => Or.inr a.1) (fun a => Or.inl a.1)
      · have ne : u ≠ w := fun a => z ((ot_same hu hw hp hq).mpr a)
        rw [ix]
        rcases tb with ⟨a, b⟩ | ⟨a, b⟩
        · rw [a]; exact yes ne b
        · rw [a]; exact no ne b
    refine g40 ⟨by unfold oe_rg; omega, by unfold oe_rg; omega, ?_⟩
    by_cases f2 : 18 ≤ f
    · have ws1 := ot_wf1 hs (by omega : 16 ≤ f)
      have ws2 := ot_wf2 hs f2
      refine one s1 t1 (i + 1) (j + 1) 0 ws1 (ot_wf1 ht (by omega)) (i1 (by omega)) (j1 (by omega)) (by omega) (by rw [ar_2 f2]; omega) (fun a => ?_) (fun _ b => y (Or.inl ⟨by omega, b⟩)) (fun a b => n (fun z => z.elim (fun z => b z.2) (fun z => a z.2.1)))
      have irr : ¬ ot_gt s1 t1 := by rw [← a]; exact ot_irr s1 ws1
      refine one s2 t2 _ _ 1 ws2 (ot_wf2 ht (by omega)) (i2 f2) (j2 (by omega)) (by have := (L2 f2).2; omega) (by rw [ar_2 f2]; omega) (fun b => ?_) (fun _ b => y (Or.inr ⟨f2, a, b⟩)) (fun _ b => n (fun z => z.elim (fun z => irr z.2) (fun z => b z.2.2)))
      exact fin _ _ 2 (by rw [ar_2 f2]; exact Nat.le_refl _) (n (fun z => z.elim (fun z => irr z.2) (fun z => ot_irr s2 ws2 (by have z2 := z.2.2; rw [← b] at z2; exact z2))))
    · by_cases f1 : 16 ≤ f
      · have ws1 := ot_wf1 hs f1
        refine one s1 t1 (i + 1) (j + 1) 0 ws1 (ot_wf1 ht (by omega)) (i1 f1) (j1 (by omega)) (by omega) (by rw [ar_1 f1 (by omega)]; omega) (fun a => ?_) (fun _ b => y (Or.inl ⟨f1, b⟩)) (fun _ b => n (fun z => z.elim (fun z => b z.2) (fun z => f2 z.1)))
        exact fin _ _ 1 (by rw [ar_1 f1 (by omega)]; exact Nat.le_refl _) (n (fun z => z.elim (fun z => ot_irr s1 ws1 (by have z2 := z.2; rw [← a] at z2; exact z2)) (fun z => f2 z.1)))
      · exact fin _ _ 0 (by rw [ar_0 (by omega)]; exact Nat.le_refl _) (n (fun z => z.elim (fun z => f1 z.1) (fun z => f2 z.1)))
  refine g41 ⟨hM.1, m + 13, (md_21 hM).1, 60, (md_21 hM).2, by omega, by omega, m + 14, (md_23 hM).1, 60, (md_23 hM).2, by omega, by omega, ?_, ?_⟩
  · rw [ef, ek]
    intro c
    have hk : k < 12 := (om_var k20).mp c
    have hgt : ot_gt (.inner f ua ub s1 s2) (.inner k va vb t1 t2) ↔ (ot_oc k (.inner f ua ub s1 s2) ∧ f ≠ k) := by
      constructor
      · intro q
        rcases ot_gt_eq.mp q with ⟨_, q2, q3⟩ | ⟨q1, _, _⟩
        · exact ⟨q2, q3⟩
        · omega
      · intro q
        exact ot_gt_eq.mpr (Or.inl ⟨hk, q.1, q.2⟩)
    have fe : h (m + 15) ((i : Int)).toNat = ((ol_en l i : Nat) : Int) := by rw [Int.toNat_natCast, FE i li]
    have loop : ∀ (n p : Nat) (x : Int), ol_en l i - p = n → i ≤ p → p ≤ ol_en l i → ((x = 1 ∧ ∃ q, i ≤ q ∧ q < p ∧ l.getD q 0 = k) ∨ (x = 0 ∧ ¬ ∃ q, i ≤ q ∧ q < p ∧ l.getD q 0 = k)) →
        oe_V (oe_cost 41) 41 (oe_M (d + 1)) none Q 29 [some (.inr (.inl m)), some (.inl (i : Int)), none, some (.inl (om f)), some (.inl (om k)), some (.inl x), some (.inl (p : Int))] [] (sh, g, h) 0 0 := by
      intro n
      induction n with
      | zero =>
        intro p x hn h1 h2 hx
        obtain rfl : p = ol_en l i := by omega
        refine g41_29 ⟨hM.1, m + 15, (md_25 hM).1, 60, (md_25 hM).2, by omega, by omega, fun _ => ⟨fun z => k0 (fun y => ?_), fun z => ⟨fun e => k0 (fun y => (hgt.mp y).2 ((om_inj f20 k20).mp e)), fun e => k1 (hgt.mpr ⟨?_, fun y => e (by rw [y])⟩)⟩⟩, fun z => by rw [fe] at z; omega⟩
        · rcases hx with hx | hx
          · rw [z] at hx; exact absurd hx.1 (by decide)
          · exact hx.2 ((ot_oc_at hs hi).mp (hgt.mp y).1)
        · rcases hx with hx | hx
          · exact (ot_oc_at hs hi).mpr hx.2
          · exact absurd hx.1 z
      | succ n ih =>
        intro p x hn h1 h2 hx
        refine g41_29 ⟨hM.1, m + 15, (md_25 hM).1, 60, (md_25 hM).2, by omega, by omega, fun z => by clear hx; rw [fe] at z; omega, fun _ => ⟨fun z => ⟨by unfold oe_rg; omega, ?_⟩, fun z => ⟨m + 13, (md_21 hM).1, 60, (md_21 hM).2, by omega, by omega, fun z2 => ⟨by unfold oe_rg; omega, ?_⟩, fun z2 => ⟨by unfold oe_rg; omega, ?_⟩⟩⟩⟩
        · rcases hx with ⟨e, q, a1, a2, a3⟩ | hx
          · exact ih (p + 1) 1 (by omega) (by omega) (by omega) (Or.inl ⟨rfl, q, a1, by omega, a3⟩)
          · exact absurd hx.1 z
        · rw [Int.toNat_natCast, F p (by omega)] at z2
          refine ih (p + 1) 0 (by omega) (by omega) (by omega) (Or.inr ⟨rfl, ?_⟩)
          rintro ⟨q, a1, a2, a3⟩
          by_cases e : q = p
          · subst e; exact z2 (by rw [a3])
          · rcases hx with hx | hx
            · rw [z] at hx; exact absurd hx.1 (by decide)
            · exact hx.2 ⟨q, a1, by omega, a3⟩
        · rw [Int.toNat_natCast, F p (by omega)] at z2
          exact ih (p + 1) 1 (by omega) (by omega) (by omega) (Or.inl ⟨rfl, p, h1, by omega, (om_inj (ol_ok_at ol (by omega)) k20).mp z2⟩)
    exact loop _ i 0 rfl (Nat.le_refl _) (by omega) (Or.inr ⟨rfl, fun ⟨q, a1, a2, a3⟩ => by omega⟩)
  · rw [ef, ek]
    intro c
    have hk : 12 ≤ k := by
      rcases Nat.lt_or_ge k 12 with q | q
      · have := (om_var k20).mpr q; omega
      · exact q
    refine ⟨fun c2 => k0 (ot_gt_var hs ((om_var f20).mp c2)), fun c2 => ?_⟩
    have hf : 12 ≤ f := by
      rcases Nat.lt_or_ge f 12 with q | q
      · have := (om_var f20).mpr q; omega
      · exact q
    have eq0 : ot_gt (.inner f ua ub s1 s2) (.inner k va vb t1 t2) ↔ (((16 ≤ f ∧ (s1 = .inner k va vb t1 t2 ∨ ot_gt s1 (.inner k va vb t1 t2))) ∨ (18 ≤ f ∧ (s2 = .inner k va vb t1 t2 ∨ ot_gt s2 (.inner k va vb t1 t2)))) ∨ (((16 ≤ k → ot_gt (.inner f ua ub s1 s2) t1) ∧ (18 ≤ k → ot_gt (.inner f ua ub s1 s2) t2)) ∧ (k < f ∨ (f = k ∧ ((16 ≤ f ∧ ot_gt s1 t1) ∨ (18 ≤ f ∧ s1 = t1 ∧ ot_gt s2 t2)))))) := by
      constructor
      · intro q
        rcases ot_gt_eq.mp q with ⟨q1, _, _⟩ | ⟨_, _, q3⟩
        · omega
        · rcases q3 with q4 | q4 | ⟨q4, q5, q6⟩
          · exact Or.inl (Or.inl q4)
          · exact Or.inl (Or.inr q4)
          · exact Or.inr ⟨⟨q4, q5⟩, q6⟩
      · intro q
        refine ot_gt_eq.mpr (Or.inr ⟨hk, hf, ?_⟩)
        rcases q with (q | q) | ⟨⟨q4, q5⟩, q6⟩
        · exact Or.inl q
        · exact Or.inr (Or.inl q)
        · exact Or.inr (Or.inr ⟨q4, q5, q6⟩)
    refine argE (d + 1) _ (by omega) (fun y => ⟨1, rfl, rfl, fun z => absurd z (by decide), fun _ => k1 (eq0.mpr (Or.inl y))⟩) (fun y => ⟨0, rfl, rfl, fun _ => ?_, fun z => absurd rfl z⟩)
    refine abA (d + 1) _ (by omega) (fun y2 => ⟨1, rfl, rfl, fun z => absurd z (by decide), fun _ => ⟨fun c3 => k1 (eq0.mpr (Or.inr ⟨y2, Or.inl ((om_lt hf hk f20 k20).mp c3)⟩)), fun c3 => ⟨fun c4 => k0 (fun w => ?_), fun c4 => ?_⟩⟩⟩) (fun y2 => ⟨0, rfl, rfl, fun _ => k0 (fun w => (eq0.mp w).elim (fun w => y w) (fun w => y2 w.1)), fun z => absurd rfl z⟩)
    · rcases eq0.mp w with w | ⟨_, w | w⟩
      · exact y w
      · have := (om_lt hf hk f20 k20).mpr w; omega
      · exact c4 (by rw [w.1])
    · have hfk : f = k := (om_inj f20 k20).mp c4
      refine turn (d + 1) _ (by omega) hfk (fun y3 => ⟨1, rfl, rfl, fun z => absurd z (by decide), fun _ => k1 (eq0.mpr (Or.inr ⟨y2, Or.inr ⟨hfk, y3⟩⟩))⟩) (fun y3 => ⟨0, rfl, rfl, fun _ => k0 (fun w => ?_), fun z => absurd rfl z⟩)
      rcases eq0.mp w with w | ⟨_, w | w⟩
      · exact y w
      · omega
      · exact y3 w.2
end
