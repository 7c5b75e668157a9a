/-! Contracts of the unifier (class): giving, pushing, solving, loading, writing. -/
def UnK (h : Nat → Nat → Int) (U : Nat) (l : List Nat) : List (oeT × oeT) → Prop
  | [] => True
  | ab :: st => (∃ p q : Nat, h (U + 5) st.length = (p : Int) ∧ h (U + 6) st.length = (q : Int) ∧ ot_at l p ab.1 ∧ ot_at l q ab.2) ∧ UnK h U l st
theorem UnK.kept {h h' : Nat → Nat → Int} {U : Nat} {l : List Nat} : ∀ {st : List (oeT × oeT)}, UnK h U l st → (∀ i, i < st.length → h' (U + 5) i = h (U + 5) i ∧ h' (U + 6) i = h (U + 6) i) → UnK h' U l st
  | [], _, _ => trivial
  | ab :: st, H, e => by
    obtain ⟨⟨p, q, h1, h2, h3, h4⟩, H2⟩ := H
    have e1 := e st.length (by simp)
    exact ⟨⟨p, q, by rw [e1.1]; exact h1, by rw [e1.2]; exact h2, h3, h4⟩, H2.kept (fun i hi => e i (by simp; omega))⟩
theorem UnV.kept {h h' : Nat → Nat → Int} {V : Nat} {l : List Nat} {σ : Nat → Option oeT} (H : UnV h V l σ) (e : h' V = h V) : UnV h' V l σ := by
  intro v hv
  rw [e]; exact H v hv
theorem UnR.kept {h h' : Nat → Nat → Int} {U : Nat} {l : List Nat} (H : UnR h U l) (e : ∀ c, U + 1 ≤ c → c ≤ U + 3 → h' c = h c) : UnR h' U l :=
  ⟨H.1.kept (e _ (by omega) (by omega)) (e _ (by omega) (by omega)), H.2.1.kept (e _ (by omega) (by omega)), H.2.2⟩
theorem ou_x_all {σ : Nat → Option oeT} {P : Nat → Prop} (hσ : ∀ v u, σ v = some u → ∀ c ∈ ot_fl u, P c) : ∀ (n : Nat) (l : List Nat), (∀ c ∈ l, P c) → ∀ c ∈ ou_x σ n l, P c := by
  intro n
  induction n with
  | zero => intro l hl c hc; exact hl c hc
  | succ n ih =>
    intro l hl c hc
    rw [ou_x_succ] at hc
    obtain ⟨x, hx, hc⟩ := List.mem_flatMap.mp hc
    cases hs : σ x with
    | none =>
      rw [hs] at hc
      have : c = x := by simpa using hc
      rw [this]; exact hl x hx
    | some u =>
      rw [hs] at hc
      have hc : c ∈ ou_x σ n (ot_fl u) := hc
      exact ih _ (hσ x u hs) c hc
theorem ot_at_mem {l : List Nat} {p : Nat} {t : oeT} (h : ot_at l p t) {c : Nat} (hc : c ∈ ot_fl t) : c ∈ l := by
  obtain ⟨r, hr⟩ := h
  refine List.mem_of_mem_drop (i := p) ?_
  rw [hr]; exact List.mem_append_left _ hc
theorem UnV.all {h : Nat → Nat → Int} {V : Nat} {l : List Nat} {σ : Nat → Option oeT} {r : Nat → Nat} (H : UnV h V l σ) (hu : ua σ r) {v : Nat} {u : oeT} (hv : σ v = some u) {c : Nat} (hc : c ∈ ot_fl u) : c ∈ l := by
  rcases H v (hu v u hv).1 with q | ⟨p, t, q1, q2, q3, q4, q5⟩
  · rw [q.2] at hv; cases hv
  · rw [q3] at hv; cases hv; exact ot_at_mem q5 hc
theorem ou_X_all {h : Nat → Nat → Int} {V : Nat} {l w : List Nat} {σ : Nat → Option oeT} {r : Nat → Nat} (H : UnV h V l σ) (hu : ua σ r) (hw : ∀ c ∈ w, c ∈ l) {c : Nat} (hc : c ∈ ou_X σ w) : c ∈ l :=
  ou_x_all (P := fun c => c ∈ l) (fun v u hv c hc => H.all hu hv hc) 12 w hw c hc
section
variable {D : Nat} {sh : List (Nat × Nat)} {g : Nat → Nat → Option Nat} {h : Nat → Nat → Int} {Q : oeQ}
theorem c_give (hDD : 4 ≤ D) {U : Nat} {l : List Nat} {σ : Nat → Option oeT} {r : Nat → Nat} (hS : UnS sh g U) (hR : UnR h U l) (hV : UnV h (U + 4) l σ) (H : ua σ r) (v p : Nat) (t : oeT) (hv : v < 12) (ht : ot_wf t) (hp : ot_at l p t)
    (k1 : ∀ σ' h', ou_give σ v t = some σ' → UnV h' (U + 4) l σ' → (∀ c, c ≠ U + 4 → c ≠ U + 7 → c ≠ U + 8 → c ≠ U + 10 → c ≠ U + 11 → h' c = h c) → Q (some (.inl 1)) (sh, g, h'))
    (k0 : ou_give σ v t = none → ∀ h', (∀ c, c ≠ U + 4 → c ≠ U + 7 → c ≠ U + 8 → c ≠ U + 10 → c ≠ U + 11 → h' c = h c) → Q (some (.inl 0)) (sh, g, h')) :
    oe_M D 121 [.inr (.inl U), .inl (v : Int), .inl (p : Int)] (sh, g, h) Q := by
  obtain ⟨d, rfl⟩ : ∃ d, D = d + 2 := ⟨D - 2, by omega⟩
  have hSS := hS
  obtain ⟨s0, s1, s2, s3, s4, s5, s6, s7, s8, s9, s10, s11, s12, s13, s14⟩ := hS
  have hpl := ot_at_lt ht hp
  have r60 := hR.2.2
  have en := ol_en_le (Nat.le_of_lt hpl)
  have enl := ol_en_lt hpl
  have ee : h (U + 3) ((p : Int)).toNat = ((ol_en l p : Nat) : Int) := by rw [Int.toNat_natCast]; exact hR.2.1 p hpl
  have hsub : ol_rg l p (ol_en l p) = ot_fl t := by rw [ol_rg_sub, ot_at_sub ht hp]
  refine g121 ⟨s0, U + 1, s1, s2.1, U + 3, s2.2.2.1, 60, s2.2.2.2.2.1, by omega, by omega, ?_⟩
  rw [ee]
  refine c_expand (by omega) (lim := 300) hSS hR hV H p (ol_en l p) (Nat.le_refl _) (by omega) en (fun a1 h1 hC1 hF1 => ?_) (fun a1 h1 hF1 => ?_)
  · rw [hsub] at a1 hC1
    refine ⟨1, h1, rfl, rfl, fun c => absurd c (by decide), fun _ => ⟨U + 7, s9, s10.1, ?_⟩⟩
    rw [hC1.1]
    refine c_holds (by omega) s10 hC1 a1 v 0 _ (Nat.le_refl _) (fun ⟨i, i1, i2, i3⟩ => ⟨1, rfl, rfl, fun c => absurd c (by decide), fun _ => ?_⟩) (fun hno => ⟨0, rfl, rfl, fun _ => ⟨U + 4, s3, 12, s4, by omega, by omega, fun h2 e2 => ?_⟩, fun c => absurd rfl c⟩)
    · refine k0 ?_ h1 (fun c b0 b1 b2 b3 b4 => hF1 c b1 b2 b3 b4)
      unfold ou_give
      refine if_neg (fun z => z.2 ?_)
      rw [← i3, List.getD_eq_getElem?_getD, List.getElem?_eq_getElem i2]
      exact List.getElem_mem i2
    · have nm : v ∉ ou_X σ (ot_fl t) := by
        intro z
        obtain ⟨i, i1, i2⟩ := List.getElem_of_mem z
        refine hno i (Nat.zero_le _) i1 ?_
        rw [List.getD_eq_getElem?_getD, List.getElem?_eq_getElem i1]
        exact i2
      rw [Int.toNat_natCast] at e2
      refine k1 (ou_up σ v t) h2 (by unfold ou_give; exact if_pos ⟨a1, nm⟩) (fun x hx => ?_) (fun c b0 b1 b2 b3 b4 => by rw [e2, up_ne b0, hF1 c b1 b2 b3 b4])
      unfold ou_up
      by_cases e : x = v
      · right
        refine ⟨p, t, by rw [e2, e, up_eq], hpl, by rw [if_pos e], ht, hp⟩
      · rw [if_neg e, e2, up_col e, hF1 (U + 4) (by omega) (by omega) (by omega) (by omega)]
        exact hV x hx
  · rw [hsub] at a1
    refine ⟨0, h1, rfl, rfl, fun _ => k0 ?_ h1 (fun c b0 b1 b2 b3 b4 => hF1 c b1 b2 b3 b4), fun c => absurd rfl c⟩
    unfold ou_give
    exact if_neg (fun z => by have := z.1; omega)
theorem c_push (hDD : 2 ≤ D) {U : Nat} {l : List Nat} {st : List (oeT × oeT)} (hS : UnS sh g U) (hK : UnK h U l st) (hn : h U 4 = ((st.length : Nat) : Int)) (hlt : st.length < 302) (p q : Nat) (a b : oeT) (ha : ot_at l p a) (hb : ot_at l q b)
    (k : ∀ h', h' U 4 = (((st.length + 1 : Nat)) : Int) → UnK h' U l ((a, b) :: st) → (∀ c, c ≠ U → c ≠ U + 5 → c ≠ U + 6 → h' c = h c) → Q none (sh, g, h')) : oe_M D 118 [.inr (.inl U), .inl (p : Int), .inl (q : Int)] (sh, g, h) Q := by
  obtain ⟨d, rfl⟩ : ∃ d, D = d + 2 := ⟨D - 2, by omega⟩
  obtain ⟨s0, s1, s2, s3, s4, s5, s6, s7, s8, _⟩ := hS
  refine g118 ⟨s0, U + 5, s5, 302, s6, fun c => by rw [hn] at c; omega, fun _ => ⟨by rw [hn]; omega, by rw [hn]; omega, fun h1 e1 => ⟨U + 6, s7, 302, s8, ?_⟩⟩⟩
  rw [hn, Int.toNat_natCast] at e1
  have n1 : h1 U 4 = ((st.length : Nat) : Int) := by rw [e1, up_ne (by omega), hn]
  refine ⟨by rw [n1]; omega, by rw [n1]; omega, fun h2 e2 => ?_⟩
  rw [n1, Int.toNat_natCast] at e2
  have n2 : h2 U 4 = ((st.length : Nat) : Int) := by rw [e2, up_ne (by omega), n1]
  refine ⟨by rw [n2]; unfold oe_rg; omega, fun h3 e3 => ?_⟩
  rw [n2] at e3
  refine k h3 (by rw [e3, up_eq]; omega) ⟨⟨p, q, ?_, ?_, ha, hb⟩, hK.kept (fun i hi => ⟨?_, ?_⟩)⟩ (fun c b1 b2 b3 => by rw [e3, up_ne b1, e2, up_ne b3, e1, up_ne b2])
  · rw [e3, up_ne (by omega), e2, up_ne (by omega), e1, up_eq]
  · rw [e3, up_ne (by omega), e2, up_eq]
  · rw [e3, up_ne (by omega), e2, up_ne (by omega), e1, up_col (by omega)]
  · rw [e3, up_ne (by omega), e2, up_col (by omega), e1, up_ne (by omega)]
theorem c_pushArgs (hDD : 3 ≤ D) {U : Nat} {l : List Nat} {st : List (oeT × oeT)} (hS : UnS sh g U) (hR : UnR h U l) (hK : UnK h U l st) (hn : h U 4 = ((st.length : Nat) : Int)) (hlt : st.length < 301) (p q : Nat) (a b : oeT) (ha : ot_at l p a) (hb : ot_at l q b) (wa : ot_wf a) (wb : ot_wf b) (hh : ot_hd a = ot_hd b)
    (k : ∀ h', h' U 4 = (((ou_args a b ++ st).length : Nat) : Int) → UnK h' U l (ou_args a b ++ st) → (∀ c, c ≠ U → c ≠ U + 5 → c ≠ U + 6 → h' c = h c) → Q none (sh, g, h')) : oe_M D 119 [.inr (.inl U), .inl (p : Int), .inl (q : Int), .inl ((ol_ar (ot_hd a) : Nat) : Int)] (sh, g, h) Q := by
  obtain ⟨d, rfl⟩ : ∃ d, D = d + 2 := ⟨D - 2, by omega⟩
  have hSS := hS
  obtain ⟨s0, s1, s2, s3, s4, s5, s6, s7, s8, _⟩ := hS
  have r60 := hR.2.2
  cases a with
  | leaf => exact wa.elim
  | inner c1 x1 y1 a1 a2 =>
    cases b with
    | leaf => exact wb.elim
    | inner c2 x2 y2 b1 b2 =>
      have e : c1 = c2 := hh
      subst e
      have hp := ot_at_lt wa ha
      have hq := ot_at_lt wb hb
      have hdv : ot_hd (.inner c1 x1 y1 a1 a2) = c1 := rfl
      rw [hdv]
      have pn : ((p : Int) + 1) = ((p + 1 : Nat) : Int) := by omega
      have qn : ((q : Int) + 1) = ((q + 1 : Nat) : Int) := by omega
      by_cases h18 : 18 ≤ c1
      · have ea : ou_args (.inner c1 x1 y1 a1 a2) (.inner c1 x2 y2 b1 b2) = [(a1, b1), (a2, b2)] := by unfold ou_args; exact if_pos h18
        rw [ea] at k
        rw [ar_2 h18]
        have w1 := ot_wf1 wa (show 16 ≤ c1 by omega)
        have v1 := ot_wf1 wb (show 16 ≤ c1 by omega)
        have A1 := ot_at_1 ha
        have B1 := ot_at_1 hb
        have A2 := ot_at_2 w1 ha
        have B2 := ot_at_2 v1 hb
        have p1 := ot_at_lt w1 A1
        have q1 := ot_at_lt v1 B1
        have E1 : h (U + 3) (p + 1) = ((ol_en l (p + 1) : Nat) : Int) := hR.2.1 _ p1
        have E2 : h (U + 3) (q + 1) = ((ol_en l (q + 1) : Nat) : Int) := hR.2.1 _ q1
        refine g119 ⟨fun z => absurd rfl z, fun _ => ⟨s0, U + 1, s1, s2.1, U + 3, s2.2.2.1, by unfold oe_rg; omega, 60, s2.2.2.2.2.1, by omega, by omega, by unfold oe_rg; omega, by omega, by omega, ?_⟩⟩
        rw [pn, qn, Int.toNat_natCast, Int.toNat_natCast, E1, E2]
        refine c_push (by omega) hSS hK hn (by omega) _ _ a2 b2 A2 B2 (fun h1 n1 K1 F1 => ⟨h1, rfl, rfl, fun z => by omega, fun _ => ⟨by unfold oe_rg; omega, by unfold oe_rg; omega, ?_⟩⟩)
        refine c_push (by omega) hSS K1 (by rw [n1]; rfl) (by simp; omega) _ _ a1 b1 A1 B1 (fun h2 n2 K2 F2 => ⟨h2, rfl, rfl, ?_⟩)
        exact k h2 (by rw [n2]; rfl) K2 (fun c z1 z2 z3 => by rw [F2 c z1 z2 z3, F1 c z1 z2 z3])
      · by_cases h16 : 16 ≤ c1
        · have ea : ou_args (.inner c1 x1 y1 a1 a2) (.inner c1 x2 y2 b1 b2) = [(a1, b1)] := (if_neg h18).trans (if_pos h16)
          rw [ea] at k
          rw [ar_1 h16 (by omega)]
          refine g119 ⟨fun _ => ⟨fun z => by omega, fun _ => ⟨by unfold oe_rg; omega, by unfold oe_rg; omega, s0, ?_⟩⟩, fun z => by omega⟩
          rw [pn, qn]
          refine c_push (by omega) hSS hK hn (by omega) _ _ a1 b1 (ot_at_1 ha) (ot_at_1 hb) (fun h2 n2 K2 F2 => ⟨h2, rfl, rfl, ?_⟩)
          exact k h2 (by rw [n2]; rfl) K2 F2
        · have ea : ou_args (.inner c1 x1 y1 a1 a2) (.inner c1 x2 y2 b1 b2) = [] := (if_neg h18).trans (if_neg h16)
          rw [ea] at k
          rw [ar_0 (by omega)]
          exact g119 ⟨fun _ => ⟨fun _ => k h hn hK (fun c _ _ _ => rfl), fun z => by omega⟩, fun z => by omega⟩
theorem ou_args_len (a b : oeT) : (ou_args a b).length ≤ 2 := by
  unfold ou_args
  split
  · exact Nat.le_refl _
  · split
    · exact Nat.le_succ _
    · exact Nat.zero_le _
set_option maxHeartbeats 1000000 in
theorem c_solve (hDD : 6 ≤ D) {U : Nat} {l : List Nat} (hS : UnS sh g U) (hR : UnR h U l) (p0 q0 : Nat) (a0 b0 : oeT) (ha0 : ot_at l p0 a0) (hb0 : ot_at l q0 b0) (wa0 : ot_wf a0) (wb0 : ot_wf b0)
    (k1 : ∀ σ' r' h', ou 300 (fun _ => none) [(a0, b0)] = some σ' → ua σ' r' → UnV h' (U + 4) l σ' → (∀ c, c ≠ U → c ≠ U + 4 → c ≠ U + 5 → c ≠ U + 6 → c ≠ U + 7 → c ≠ U + 8 → c ≠ U + 10 → c ≠ U + 11 → h' c = h c) → Q (some (.inl 1)) (sh, g, h'))
    (k0 : ou 300 (fun _ => none) [(a0, b0)] = none → ∀ h', (∀ c, c ≠ U → c ≠ U + 4 → c ≠ U + 5 → c ≠ U + 6 → c ≠ U + 7 → c ≠ U + 8 → c ≠ U + 10 → c ≠ U + 11 → h' c = h c) → Q (some (.inl 0)) (sh, g, h')) :
    oe_M D 117 [.inr (.inl U), .inl (p0 : Int), .inl (q0 : Int)] (sh, g, h) Q := by
  obtain ⟨d, rfl⟩ : ∃ d, D = d + 2 := ⟨D - 2, by omega⟩
  have hSS := hS
  obtain ⟨s0, s1, s2, s3, s4, s5, s6, s7, s8, s9, s10, s11, s12, s13, s14⟩ := hS
  have r60 := hR.2.2
  have loop : ∀ (n i : Nat) (σ : Nat → Option oeT) (r : Nat → Nat) (st : List (oeT × oeT)) (h1 : Nat → Nat → Int), n + i = 300 → st.length ≤ i + 1 → ou n σ st = ou 300 (fun _ => none) [(a0, b0)] → ua σ r → UnV h1 (U + 4) l σ → (∀ x ∈ st, ot_wf x.1 ∧ ot_wf x.2) → UnK h1 U l st → h1 U 4 = ((st.length : Nat) : Int) → (∀ c, c ≠ U → c ≠ U + 4 → c ≠ U + 5 → c ≠ U + 6 → c ≠ U + 7 → c ≠ U + 8 → c ≠ U + 10 → c ≠ U + 11 → h1 c = h c) →
      oe_V (oe_cost 117) 117 (oe_M (d + 1)) none Q 21 [some (.inr (.inl U)), none, none, some (.inl (i : Int)), none, none, none, none] [] (sh, g, h1) 0 0 := by
    intro n
    induction n with
    | zero =>
      intro i σ r st h1 hi hl he H hV hw hK hn hF
      cases st with
      | nil =>
        have he : some σ = ou 300 (fun _ => none) [(a0, b0)] := he
        refine g117_21 ⟨fun _ => ⟨s0, fun c => absurd hn c, fun _ => k1 σ r h1 he.symm H hV hF⟩, fun c => by omega⟩
      | cons x st =>
        have he : none = ou 300 (fun _ => none) [(a0, b0)] := he
        refine g117_21 ⟨fun _ => ⟨s0, fun _ => k0 he.symm h1 hF, fun c => by rw [hn, List.length_cons] at c; omega⟩, fun c => by omega⟩
    | succ n ih =>
      intro i σ r st h1 hi hl he H hV hw hK hn hF
      cases st with
      | nil =>
        have he : some σ = ou 300 (fun _ => none) [(a0, b0)] := he
        refine g117_21 ⟨fun c => by omega, fun _ => ⟨s0, fun _ => ⟨fun c => absurd hn c, fun _ => k1 σ r h1 he.symm H hV hF⟩, fun c => by rw [hn] at c; simp at c⟩⟩
      | cons x st =>
        obtain ⟨s, t⟩ := x
        rw [List.length_cons] at hn hl
        have ws := (hw _ List.mem_cons_self).1
        have wt := (hw _ List.mem_cons_self).2
        have hw' : ∀ x ∈ st, ot_wf x.1 ∧ ot_wf x.2 := fun x hx => hw x (List.mem_cons_of_mem _ hx)
        obtain ⟨⟨p, q, e1, e2, e3, e4⟩, hK'⟩ := hK
        refine g117_21 ⟨fun c => by omega, fun _ => ⟨s0, fun c => by rw [hn] at c; omega, fun _ => ⟨by rw [hn]; unfold oe_rg; omega, fun h2 eh2 => ⟨U + 5, s5, 302, s6, ?_⟩⟩⟩⟩
        have n2 : h2 U 4 = ((st.length : Nat) : Int) := by rw [eh2, up_eq, hn]; omega
        have g2 : ∀ c, c ≠ U → h2 c = h1 c := fun c hc => by rw [eh2, up_ne hc]
        have hF2 : ∀ c, c ≠ U → c ≠ U + 4 → c ≠ U + 5 → c ≠ U + 6 → c ≠ U + 7 → c ≠ U + 8 → c ≠ U + 10 → c ≠ U + 11 → h2 c = h c := fun c z1 z2 z3 z4 z5 z6 z7 z8 => by rw [g2 c z1, hF c z1 z2 z3 z4 z5 z6 z7 z8]
        have hR2 : UnR h2 U l := hR.kept (fun c z1 z2 => hF2 c (by omega) (by omega) (by omega) (by omega) (by omega) (by omega) (by omega) (by omega))
        have hV2 : UnV h2 (U + 4) l σ := hV.kept (g2 _ (by omega))
        have hK2 : UnK h2 U l st := hK'.kept (fun i _ => ⟨by rw [g2 _ (by omega)], by rw [g2 _ (by omega)]⟩)
        have i1 : ((i : Int) + 1) = ((i + 1 : Nat) : Int) := by omega
        rw [n2, Int.toNat_natCast, g2 (U + 5) (by omega), e1]
        refine ⟨by omega, by omega, ?_⟩
        refine c_look (by omega) hSS hR2 hV2 H p s ws e3 (fun p' hp' => ⟨_, rfl, rfl, U + 6, s7, 302, s8, by omega, by omega, ?_⟩)
        rw [g2 (U + 6) (by omega), e2]
        refine c_look (by omega) hSS hR2 hV2 H q t wt e4 (fun q' hq' => ⟨_, rfl, rfl, U + 1, s1, s2.1, U + 2, s2.2.1, 60, s2.2.2.2.1, ?_⟩)
        have wA := ou_look_wf H 12 s ws
        have wB := ou_look_wf H 12 t wt
        have uA := ou_look12 H ws
        have uB := ou_look12 H wt
        simp only [ou] at he
        generalize ou_look σ 12 s = A at *
        generalize ou_look σ 12 t = B at *
        have lA := ot_at_lt wA hp'
        have lB := ot_at_lt wB hq'
        have cA : h2 (U + 2) ((p' : Int)).toNat = ((ot_hd A : Nat) : Int) := by
          rw [Int.toNat_natCast, show U + 2 = U + 1 + 1 by omega, hR2.1.2 p' lA]
          cases A with
          | leaf => exact wA.elim
          | inner c _ _ _ _ => rw [ot_at_c hp']; rfl
        have cB : h2 (U + 2) ((q' : Int)).toNat = ((ot_hd B : Nat) : Int) := by
          rw [Int.toNat_natCast, show U + 2 = U + 1 + 1 by omega, hR2.1.2 q' lB]
          cases B with
          | leaf => exact wB.elim
          | inner c _ _ _ _ => rw [ot_at_c hq']; rfl
        rw [cA, cB]
        refine ⟨by omega, by omega, by omega, by omega, fun c1 => ⟨fun c2 => ⟨by unfold oe_rg; omega, ?_⟩, fun c2 => ?_⟩, fun c1 => ⟨fun c2 => ?_, fun c2 => ⟨fun c3 => ?_, fun c3 => ?_⟩⟩⟩
        · rw [if_pos (by omega), if_pos (by omega)] at he
          rw [i1]
          exact ih (i + 1) σ r st h2 (by omega) (by omega) he H hV2 hw' hK2 n2 hF2
        · rw [if_pos (by omega), if_neg (by omega)] at he
          refine c_give (by omega) hSS hR2 hV2 H (ot_hd A) q' B (by omega) wB hq' (fun σ' h3 hg hV3 hF3 => ⟨1, h3, rfl, rfl, fun _ => ⟨by unfold oe_rg; omega, ?_⟩, fun c => absurd c (by decide)⟩) (fun hg h3 hF3 => ⟨0, h3, rfl, rfl, fun c => absurd rfl c, fun _ => ?_⟩)
          · rw [hg] at he
            obtain ⟨y1, y2, y3⟩ := ou_give_some hg
            obtain ⟨r', H'⟩ := ua_up H (show ot_hd A < 12 by omega) uA wB y3
            rw [← y1] at H'
            rw [i1]
            exact ih (i + 1) σ' r' st h3 (by omega) (by omega) he H' hV3 hw' (hK2.kept (fun i _ => ⟨by rw [hF3 _ (by omega) (by omega) (by omega) (by omega) (by omega)], by rw [hF3 _ (by omega) (by omega) (by omega) (by omega) (by omega)]⟩)) (by rw [hF3 _ (by omega) (by omega) (by omega) (by omega) (by omega)]; exact n2) (fun c z1 z2 z3 z4 z5 z6 z7 z8 => by rw [hF3 c z2 z5 z6 z7 z8, hF2 c z1 z2 z3 z4 z5 z6 z7 z8])
          · rw [hg] at he
            exact k0 he.symm h3 (fun c z1 z2 z3 z4 z5 z6 z7 z8 => by rw [hF3 c z2 z5 z6 z7 z8, hF2 c z1 z2 z3 z4 z5 z6 z7 z8])
        · rw [if_neg (by omega), if_pos (by omega)] at he
          refine c_give (by omega) hSS hR2 hV2 H (ot_hd B) p' A (by omega) wA hp' (fun σ' h3 hg hV3 hF3 => ⟨1, h3, rfl, rfl, fun _ => ⟨by unfold oe_rg; omega, ?_⟩, fun c => absurd c (by decide)⟩) (fun hg h3 hF3 => ⟨0, h3, rfl, rfl, fun c => absurd rfl c, fun _ => ?_⟩)
          · rw [hg] at he
            obtain ⟨y1, y2, y3⟩ := ou_give_some hg
            obtain ⟨r', H'⟩ := ua_up H (show ot_hd B < 12 by omega) uB wA y3
            rw [← y1] at H'
            rw [i1]
            exact ih (i + 1) σ' r' st h3 (by omega) (by omega) he H' hV3 hw' (hK2.kept (fun i _ => ⟨by rw [hF3 _ (by omega) (by omega) (by omega) (by omega) (by omega)], by rw [hF3 _ (by omega) (by omega) (by omega) (by omega) (by omega)]⟩)) (by rw [hF3 _ (by omega) (by omega) (by omega) (by omega) (by omega)]; exact n2) (fun c z1 z2 z3 z4 z5 z6 z7 z8 => by rw [hF3 c z2 z5 z6 z7 z8, hF2 c z1 z2 z3 z4 z5 z6 z7 z8])
          · rw [hg] at he
            exact k0 he.symm h3 (fun c z1 z2 z3 z4 z5 z6 z7 z8 => by rw [hF3 c z2 z5 z6 z7 z8, hF2 c z1 z2 z3 z4 z5 z6 z7 z8])
        · rw [if_neg (by omega), if_neg (by omega), if_pos (by omega)] at he
          have hAB : ot_hd A = ot_hd B := by omega
          have hwa : ∀ x ∈ ou_args A B, ot_wf x.1 ∧ ot_wf x.2 := by
            intro x hx
            cases A with
            | leaf => exact wA.elim
            | inner ca _ _ a1 a2 =>
              cases B with
              | leaf => exact wB.elim
              | inner cb _ _ b1 b2 =>
                have e : ca = cb := hAB
                subst e
                unfold ou_args at hx
                split at hx
                · rename_i z
                  rcases List.mem_cons.mp hx with z2 | z2
                  · rw [z2]; exact ⟨ot_wf1 wA (Nat.le_trans (by decide) z), ot_wf1 wB (Nat.le_trans (by decide) z)⟩
                  · rw [List.mem_singleton.mp z2]; exact ⟨ot_wf2 wA z, ot_wf2 wB z⟩
                · split at hx
                  · rename_i z
                    rw [List.mem_singleton.mp hx]; exact ⟨ot_wf1 wA z, ot_wf1 wB z⟩
                  · cases hx
          refine c_args (by omega) (ot_hd A) ⟨_, rfl, rfl, ?_⟩
          refine c_pushArgs (by omega) hSS hR2 hK2 n2 (by omega) p' q' A B hp' hq' wA wB hAB (fun h3 n3 K3 F3 => ⟨h3, rfl, rfl, by unfold oe_rg; omega, ?_⟩)
          rw [i1]
          have la := ou_args_len A B
          exact ih (i + 1) σ r _ h3 (by omega) (by rw [List.length_append]; omega) he H (hV2.kept (F3 _ (by omega) (by omega) (by omega))) (fun x hx => by
            rcases List.mem_append.mp hx with z | z
            · exact hwa x z
            · exact hw' x z) K3 n3 (fun c z1 z2 z3 z4 z5 z6 z7 z8 => by rw [F3 c z1 z3 z4, hF2 c z1 z2 z3 z4 z5 z6 z7 z8])
        · rw [if_neg (by omega), if_neg (by omega), if_neg (by omega)] at he
          exact k0 he.symm h2 hF2
  refine g117 ⟨s0, U + 4, s3, c_fill (by omega) s4 (by omega) (-1) (fun h1 v1 f1 => ⟨h1, rfl, rfl, fun h2 e2 => ?_⟩)⟩
  have n2 : h2 U 4 = ((([] : List (oeT × oeT)).length : Nat) : Int) := by rw [e2, up_eq]; rfl
  refine c_push (st := []) (by omega) hSS trivial n2 (by decide) p0 q0 a0 b0 ha0 hb0 (fun h3 n3 K3 F3 => ⟨h3, rfl, rfl, ?_⟩)
  refine loop 300 0 (fun _ => none) (fun _ => 0) [(a0, b0)] h3 rfl (by simp) rfl (fun c u hc => by cases hc) (fun v hv => Or.inl ⟨?_, rfl⟩) (fun x hx => ?_) K3 n3 (fun c z1 z2 z3 z4 z5 z6 z7 z8 => by rw [F3 c z1 z3 z4, e2, up_ne z1, f1 c z2])
  · rw [F3 _ (by omega) (by omega) (by omega), e2, up_ne (by omega)]; exact v1 v hv
  · rw [List.mem_singleton.mp hx]; exact ⟨wa0, wb0⟩
theorem c_forget (hDD : 3 ≤ D) {U : Nat} (hS : UnS sh g U) (k : ∀ h', LtC h' (U + 1) [] → (∀ c, c ≠ U + 1 → h' c = h c) → Q none (sh, g, h')) : oe_M D 115 [.inr (.inl U)] (sh, g, h) Q := by
  obtain ⟨d, rfl⟩ : ∃ d, D = d + 2 := ⟨D - 2, by omega⟩
  refine g115 ⟨hS.1, U + 1, hS.2.1, hS.2.2.1.1, c_empty (by omega) hS.2.2.1 (fun h1 e1 => ⟨h1, rfl, rfl, k h1 ⟨by rw [e1, up_eq]; rfl, fun i hi => by cases hi⟩ (fun c hc => by rw [e1, up_ne hc])⟩)⟩
theorem c_load (hDD : 4 ≤ D) {U a ca : Nat} {l w : List Nat} (hS : UnS sh g U) (hA : LtS sh g a ca) (da : a + 3 ≤ U ∨ U + 12 ≤ a) (hC : LtC h (U + 1) l) (hC2 : LtC h a w) (hw : w.length ≤ ca) (hfit : l.length + w.length ≤ 60) (s : Nat) (hs : s ≤ 6) (hok : ∀ c ∈ w, c < 1000)
    (k : ∀ h', UnR h' U (l ++ ol_shift s w) → (∀ c, c < U + 1 ∨ U + 3 < c → h' c = h c) → Q (some (.inl ((l.length : Nat) : Int))) (sh, g, h')) : oe_M D 116 [.inr (.inl U), .inr (.inl a), .inl (s : Int)] (sh, g, h) Q := by
  obtain ⟨d, rfl⟩ : ∃ d, D = d + 2 := ⟨D - 2, by omega⟩
  have hln : (l ++ ol_shift s w).length ≤ 60 := by rw [List.length_append]; unfold ol_shift; rw [List.length_map]; exact hfit
  refine g116 ⟨hS.1, U + 1, hS.2.1, hS.2.2.1.1, ?_⟩
  refine c_appendAll (by omega) hS.2.2.1 hA (by omega) hC hC2 hw hfit s hs hok (fun h1 C1 F1 => ⟨h1, rfl, rfl, ?_⟩)
  refine c_close (by omega) hS.2.2.1 C1 hln (fun h2 C2 E2 F2 => ⟨h2, rfl, rfl, ?_⟩)
  rw [hC.1]
  exact k h2 ⟨C2, E2, hln⟩ (fun c hc => by rw [F2 c (by omega), F1 c (by omega) (by omega)])
theorem ol_shift_0 (w : List Nat) : ol_shift 0 w = w := by
  unfold ol_shift
  have : (fun c : Nat => if c < 12 then c + 0 else c) = id := by funext c; split <;> rfl
  rw [this, List.map_id]
theorem c_writeI (hDD : 5 ≤ D) {U a ca : Nat} {l : List Nat} {σ : Nat → Option oeT} {r : Nat → Nat} (hS : UnS sh g U) (hR : UnR h U l) (hV : UnV h (U + 4) l σ) (H : ua σ r) (hl : ol_ok l) (hA : LtS sh g a ca) (da : a + 3 ≤ U ∨ U + 12 ≤ a) (lim p : Nat) (hlim : lim ≤ ca) (t : oeT) (ht : ot_wf t) (hp : ot_at l p t)
    (k1 : (ou_X σ (ot_fl t)).length ≤ lim → ∀ h', LtC h' a (ou_X σ (ot_fl t)) → LtE h' a (ou_X σ (ot_fl t)) → (∀ c, c ≠ U + 7 → c ≠ U + 8 → c ≠ U + 10 → c ≠ U + 11 → c < a ∨ a + 2 < c → h' c = h c) → Q (some (.inl 1)) (sh, g, h'))
    (k0 : lim < (ou_X σ (ot_fl t)).length → ∀ h', (∀ c, c ≠ U + 7 → c ≠ U + 8 → c ≠ U + 10 → c ≠ U + 11 → c < a ∨ a + 2 < c → h' c = h c) → Q (some (.inl 0)) (sh, g, h')) :
    oe_M D 123 [.inr (.inl U), .inl (p : Int), .inr (.inl a), .inl (lim : Int)] (sh, g, h) Q := by
  obtain ⟨d, rfl⟩ : ∃ d, D = d + 2 := ⟨D - 2, by omega⟩
  have hSS := hS
  obtain ⟨s0, s1, s2, s3, s4, s5, s6, s7, s8, s9, s10, s11, s12, s13, s14⟩ := hS
  have hca := hA.2.2.2.2.2
  have hpl := ot_at_lt ht hp
  have r60 := hR.2.2
  have en := ol_en_le (Nat.le_of_lt hpl)
  have enl := ol_en_lt hpl
  have ee : h (U + 3) ((p : Int)).toNat = ((ol_en l p : Nat) : Int) := by rw [Int.toNat_natCast]; exact hR.2.1 p hpl
  have hsub : ol_rg l p (ol_en l p) = ot_fl t := by rw [ol_rg_sub, ot_at_sub ht hp]
  refine g123 ⟨s0, U + 1, s1, s2.1, U + 3, s2.2.2.1, 60, s2.2.2.2.2.1, by omega, by omega, ?_⟩
  rw [ee]
  refine c_expand (by omega) hSS hR hV H lim p (ol_en l p) (by omega) (by omega) en (fun a1 h1 hC1 hF1 => ?_) (fun a1 h1 hF1 => ?_)
  · rw [hsub] at a1 hC1
    refine ⟨1, h1, rfl, rfl, fun _ => ⟨hA.1, ?_⟩, fun c => absurd c (by decide)⟩
    refine c_empty (by omega) hA (fun h2 e2 => ⟨h2, rfl, rfl, U + 7, s9, ?_⟩)
    refine c_appendAll (l := []) (by omega) hA s10 (by omega) ⟨by rw [e2, up_eq]; rfl, fun i hi => by cases hi⟩ (hC1.kept (by rw [e2, up_ne (by omega)]) (by rw [e2, up_ne (by omega)])) (by omega) (by simp; omega) 0 (by omega) (fun c hc => ?_) (fun h3 C3 F3 => ⟨h3, rfl, rfl, ?_⟩)
    · have := hl c (ou_X_all hV H (fun c hc => ot_at_mem hp hc) hc)
      omega
    · rw [ol_shift_0, List.nil_append] at C3
      refine c_close (by omega) hA C3 (by omega) (fun h4 C4 E4 F4 => ⟨h4, rfl, rfl, ?_⟩)
      exact k1 a1 h4 C4 E4 (fun c z1 z2 z3 z4 z5 => by rw [F4 c (by omega), F3 c (by omega) (by omega), e2, up_ne (by omega), hF1 c z1 z2 z3 z4])
  · rw [hsub] at a1
    exact ⟨0, h1, rfl, rfl, fun c => absurd rfl c, fun _ => k0 a1 h1 (fun c z1 z2 z3 z4 _ => hF1 c z1 z2 z3 z4)⟩
theorem c_before (hDD : 4 ≤ D) {U : Nat} {l : List Nat} {σ : Nat → Option oeT} {r : Nat → Nat} (hS : UnS sh g U) (hR : UnR h U l) (hV : UnV h (U + 4) l σ) (H : ua σ r) (f t : Nat) (hft : f ≤ t) (ht : t ≤ l.length) (hlen : (ou_X σ (ol_rg l f t)).length ≤ 300)
    (k : ∀ h', (∀ c, c ≠ U + 7 → c ≠ U + 8 → c ≠ U + 10 → c ≠ U + 11 → h' c = h c) → Q (some (.inl (((ou_X σ (ol_rg l f t)).length : Nat) : Int))) (sh, g, h')) :
    oe_M D 122 [.inr (.inl U), .inl (f : Int), .inl (t : Int)] (sh, g, h) Q := by
  obtain ⟨d, rfl⟩ : ∃ d, D = d + 2 := ⟨D - 2, by omega⟩
  have hSS := hS
  obtain ⟨s0, s1, s2, s3, s4, s5, s6, s7, s8, s9, s10, s11, s12, s13, s14⟩ := hS
  refine g122 ⟨s0, c_expand (by omega) (lim := 300) hSS hR hV H f t (Nat.le_refl _) hft ht (fun a1 h1 hC1 hF1 => ⟨1, h1, rfl, rfl, U + 7, s9, s10.1, ?_⟩) (fun a1 => by omega)⟩
  rw [hC1.1]
  exact k h1 hF1
end
