/-! The reference: the public methods reduce, compare, unify, show. -/
theorem ab_lt_127 {c : Nat} (h : c < 20) : ab_lt c < 127 := by
  have := lt_ok c h
  unfold ab_lt; omega
theorem take_map {l : List Nat} {i : Nat} (h : i < l.length) : (l.take (i + 1)).map ab_lt = (l.take i).map ab_lt ++ [ab_lt (l.getD i 0)] := by
  rw [ol_take_succ h, List.map_append]; rfl
section
variable {D : Nat} {sh : List (Nat × Nat)} {g : Nat → Nat → Option Nat} {h : Nat → Nat → Int} {Q : oeQ}
theorem m_reduce (hDD : 20 ≤ D) {m : Nat} (hM : MdS sh g m) {x : abF} (hF : MdF h m x)
    (k : ∀ h', MdF h' m (ab_reduce x).2 → h' m 0 = 0 → md_o m h h' → Q (some (.inl (ab_reduce x).1)) (sh, g, h')) : oe_M D 82 [.inr (.inl m)] (sh, g, h) Q := by
  obtain ⟨d, rfl⟩ : ∃ d, D = d + 2 := ⟨D - 2, by omega⟩
  have ac3 := md_5 hM
  have ac18 := md_28 hM
  refine g82 ⟨hM.1, fun h1 e1 => ?_⟩
  obtain ⟨F1, z1, o1⟩ := md_fault hF e1
  have T60 := F1.1.2.1
  unfold ab_reduce at k
  refine m_read (by omega) hM F1.1 false true 2 (Or.inr (Or.inr ⟨rfl, rfl, rfl⟩)) (fun i h2 hr t0 fo fr => ?_) (fun q h2 hr M2 n7 _ qe t0 fo fr => ?_)
  · rw [hr] at k
    have := rd_lt hr
    exact ⟨_, h2, rfl, rfl, fun c => by omega, fun _ => ⟨by unfold oe_rg; omega, k h2 (md_rd F1 t0 fo fr) (by rw [fo 0 (by omega) (by omega) (by omega)]; exact z1) (fun c hc => by rw [fr c (by omega) (by omega), o1 c hc])⟩⟩
  · rw [hr] at k
    try dsimp only at k
    obtain ⟨y1, y2, y3, _, y5⟩ := rd_all hr
    have qe := qe rfl
    rw [qe, List.append_nil] at M2
    rw [qe] at n7
    have n7 : h2 m 7 = ((q.1.length : Nat) : Int) := by simpa using n7
    have F2 := md_rd F1 t0 fo fr
    refine ⟨_, h2, rfl, rfl, fun _ => ⟨fun c2 h3 e3 => ?_, fun c2 => ?_⟩, fun c => absurd c (by decide)⟩
    rotate_left
    · rw [n7] at c2
      rw [if_pos (show 30 < q.1.length by omega)] at k
      exact k h2 F2 (by rw [fo 0 (by omega) (by omega) (by omega)]; exact z1) (fun c hc => by rw [fr c (by omega) (by omega), o1 c hc])
    rw [n7] at c2 e3
    rw [if_neg (show ¬ 30 < q.1.length by omega)] at k
    have loop : ∀ (n i : Nat) (h4 : Nat → Nat → Int), q.1.length - i = n → i ≤ q.1.length → (∀ j, j < i → h4 (m + 18) j = om (q.1.getD j 0)) → (∀ c, c ≠ m + 18 → h4 c = h3 c) →
        oe_V (oe_cost 82) 82 (oe_M (d + 1)) none Q 42 [some (.inr (.inl m)), none, some (.inl (i : Int)), none] [] (sh, g, h4) 0 0 := by
      intro n
      induction n with
      | zero =>
        intro i h4 hn hi P4 F4
        have w7 : h4 m 7 = ((q.1.length : Nat) : Int) := by rw [F4 m (by omega), e3, up_col (by omega)]; exact n7
        refine g82_42 ⟨hM.1, fun _ => ?_, fun c => by rw [w7] at c; omega⟩
        have K4 : MdK h4 m x.2.2 := F2.2.2.kept (fun c y1 y2 => by rw [F4 c (by omega), e3, up_ne (by omega)]) (by rw [F4 m (by omega), e3, up_col (by omega)]) (by rw [F4 m (by omega), e3, up_col (by omega)]) (by rw [F4 m (by omega), e3, up_col (by omega)]) (by rw [F4 m (by omega), e3, up_col (by omega)])
        refine m_low (by omega) hM ⟨y3, by omega, (rd_tm y1).1⟩ K4.1.2.2.2.2.1 K4.1.2.2.2.1 K4.1.2.2.2.2.2.1 (fun j hj => P4 j (by omega)) (by rw [F4 m (by omega), e3, up_eq]) (fun h5 ok5 R5 n5 fr5 => ⟨_, h5, rfl, rfl, fun h6 e6 => ?_⟩)
        have K5 : MdK h5 m x.2.2 := K4.kept (fun c y1 y2 => fr5.1 c (by omega) (by omega)) (fr5.2 _ (by omega) (by omega) (by omega) (by omega)) (fr5.2 _ (by omega) (by omega) (by omega) (by omega)) (fr5.2 _ (by omega) (by omega) (by omega) (by omega)) (fr5.2 _ (by omega) (by omega) (by omega) (by omega))
        have vars := ol_low_vars (eqs := x.2.2.2.1) 50 q.1
        have lw := ok5.2.1
        generalize ol_low x.2.2.2.1 50 q.1 = W at *
        have put : ∀ (n i : Nat) (h7 : Nat → Nat → Int), W.1.length - i = n → i ≤ W.1.length → MdP h7 m ((W.1.take i).map ab_lt) → (∀ j, j ≠ 3 → h7 m j = h5 m j) → (∀ c, c ≠ m → c ≠ m + 2 → h7 c = h5 c) →
            oe_V (oe_cost 82) 82 (oe_M (d + 1)) none Q 80 [some (.inr (.inl m)), none, some (.inl ((W.2 : Nat) : Int)), some (.inl (i : Int))] [] (sh, g, h7) 0 0 := by
          intro n
          induction n with
          | zero =>
            intro i h7 hn hi P7 j7 f7
            have w29 : h7 m 29 = ((W.1.length : Nat) : Int) := by rw [j7 29 (by omega)]; exact n5
            refine g82_80 ⟨hM.1, fun _ => ?_, fun c => by rw [w29] at c; omega⟩
            rw [List.take_of_length_le (by omega)] at P7
            refine k h7 ⟨MdT_nil (by rw [j7 1 (by omega), fr5.2 1 (by omega) (by omega) (by omega) (by omega), F4 m (by omega), e3, up_col (by omega)]; exact t0), P7, K5.kept (fun c y1 y2 => f7 c (by omega) (by omega)) (j7 _ (by omega)) (j7 _ (by omega)) (j7 _ (by omega)) (j7 _ (by omega))⟩ (by rw [j7 0 (by omega), fr5.2 0 (by omega) (by omega) (by omega) (by omega), F4 m (by omega), e3, up_col (by omega), fo 0 (by omega) (by omega) (by omega)]; exact z1) (fun c hc => by rw [f7 c (by omega) (by omega), fr5.1 c (by omega) (by omega), F4 c (by omega), e3, up_ne (by omega), fr c (by omega) (by omega), o1 c hc])
          | succ n ihn =>
            intro i h7 hn hi P7 j7 f7
            have w29 : h7 m 29 = ((W.1.length : Nat) : Int) := by rw [j7 29 (by omega)]; exact n5
            have il : i < W.1.length := by omega
            have cc : h7 (m + 18) ((i : Int)).toNat = om (W.1.getD i 0) := by rw [Int.toNat_natCast, f7 _ (by omega) (by omega)]; exact R5 i il
            have c20 := ol_ok_at ok5.2.2 il
            have mem : W.1.getD i 0 ∈ W.1 := by rw [List.getD_eq_getElem?_getD, List.getElem?_eq_getElem il]; exact List.getElem_mem il
            refine g82_80 ⟨hM.1, fun c => by rw [w29] at c; omega, fun _ => ⟨m + 18, ac18.1, 64, ac18.2, by omega, by omega, ?_⟩⟩
            rw [cc]
            refine m_char (by omega) _ c20 (fun y => (rd_tm y1).2 _ (vars _ mem y) y) ⟨_, h7, rfl, rfl, ?_⟩
            refine m_put (by omega) hM P7 (by rw [List.length_map, List.length_take]; omega) _ (ab_lt_127 c20) (fun h8 P8 j8 f8 => ⟨h8, rfl, rfl, by unfold oe_rg; omega, ?_⟩)
            rw [← take_map il] at P8
            rw [show (i : Int) + 1 = ((i + 1 : Nat) : Int) by omega]
            exact ihn (i + 1) h8 (by omega) (by omega) P8 (fun j hj => by rw [j8 j hj, j7 j hj]) (fun c y1 y2 => by rw [f8 c y1 y2, f7 c y1 y2])
        exact put _ 0 h6 rfl (Nat.zero_le _) (MdP_nil (by rw [e6, up_eq])) (fun j hj => by rw [e6, up_col hj]) (fun c y1 y2 => by rw [e6, up_ne y1])
      | succ n ih =>
        intro i h4 hn hi P4 F4
        have w7 : h4 m 7 = ((q.1.length : Nat) : Int) := by rw [F4 m (by omega), e3, up_col (by omega)]; exact n7
        refine g82_42 ⟨hM.1, fun c => by rw [w7] at c; omega, fun _ => ⟨m + 18, ac18.1, m + 3, ac3.1, 60, ac3.2, by omega, by omega, 64, ac18.2, by omega, by omega, fun h5 e5 => ⟨by unfold oe_rg; omega, ?_⟩⟩⟩
        rw [Int.toNat_natCast, F4 (m + 3) (by omega), e3, up_ne (by omega), M2 i (by omega)] at e5
        rw [show (i : Int) + 1 = ((i + 1 : Nat) : Int) by omega]
        refine ih (i + 1) h5 (by omega) (by omega) (fun j hj => ?_) (fun c hc => by rw [e5, up_ne hc]; exact F4 c hc)
        by_cases ej : j = i
        · subst ej; rw [e5, up_eq]
        · rw [e5, up_col ej]; exact P4 j (by omega)
    exact loop _ 0 h3 rfl (Nat.zero_le _) (fun j hj => by omega) (fun _ _ => rfl)
theorem m_compare (hDD : 20 ≤ D) {m : Nat} (hM : MdS sh g m) {x : abF} (hF : MdF h m x)
    (k : ∀ h', MdF h' m (ab_compare x).2 → h' m 0 = 0 → md_o m h h' → Q (some (.inl (ab_compare x).1)) (sh, g, h')) : oe_M D 80 [.inr (.inl m)] (sh, g, h) Q := by
  obtain ⟨d, rfl⟩ : ∃ d, D = d + 2 := ⟨D - 2, by omega⟩
  have ac3 := md_5 hM
  have ac13 := md_21 hM
  have ac14 := md_23 hM
  refine g80 ⟨hM.1, fun h1 e1 => ?_⟩
  obtain ⟨F1, z1, o1⟩ := md_fault hF e1
  have T60 := F1.1.2.1
  unfold ab_compare at k
  refine m_read (by omega) hM F1.1 true true 0 (Or.inl ⟨rfl, rfl, rfl⟩) (fun i h2 hr t0 fo fr => ?_) (fun q h2 hr M2 n7 n6 _ t0 fo fr => ?_)
  · rw [hr] at k
    have := rd_lt hr
    exact ⟨_, h2, rfl, rfl, fun c => by omega, fun _ => ⟨by unfold oe_rg; omega, k h2 (md_rd F1 t0 fo fr) (by rw [fo 0 (by omega) (by omega) (by omega)]; exact z1) (fun c hc => by rw [fr c (by omega) (by omega), o1 c hc])⟩⟩
  · rw [hr] at k
    try dsimp only at k
    obtain ⟨y1, y2, y3, y4, y5⟩ := rd_all hr
    have y4 := y4 rfl
    have n6 := n6 rfl
    have F2 := md_rd F1 t0 fo fr
    have ok1 := (rd_tm y1).1
    have ok2 := (rd_tm y2).1
    have MA1 : MA h2 (m + 3) 0 q.1 := MA_1 (b := q.2) (fun i hi => by rw [Nat.zero_add]; exact M2 i hi)
    have MA2 : MA h2 (m + 3) q.1.length q.2 := by
      have := MA_2 (h := h2) (q := m + 3) (f := 0) (a := q.1) (b := q.2) (fun i hi => by rw [Nat.zero_add]; exact M2 i hi)
      rw [Nat.zero_add] at this; exact this
    have z2 : h2 m 0 = 0 := by rw [fo 0 (by omega) (by omega) (by omega)]; exact z1
    have o2 : md_o m h h2 := fun c hc => by rw [fr c (by omega) (by omega), o1 c hc]
    -- only the rows of the order change from here on
    have fin : ∀ h' : Nat → Nat → Int, (∀ c, c < m + 13 ∨ m + 17 < c → c ≠ m → h' c = h2 c) → (∀ j, j ≠ 22 → j ≠ 24 → h' m j = h2 m j) → Q (some (.inl (@ite _ (q.1 = q.2) (Classical.propDecidable _) 3 (@ite _ (ol_gt q.1 q.2) (Classical.propDecidable _) 1 (@ite _ (ol_gt q.2 q.1) (Classical.propDecidable _) 2 0))))) (sh, g, h') := by
      intro h' f' j'
      exact k h' ⟨MdT_nil (by rw [j' 1 (by omega) (by omega)]; exact t0), F2.2.1.kept (j' 3 (by omega) (by omega)) (f' _ (by omega) (by omega)), F2.2.2.kept (fun c u1 u2 => f' c (by omega) (by omega)) (j' _ (by omega) (by omega)) (j' _ (by omega) (by omega)) (j' _ (by omega) (by omega)) (j' _ (by omega) (by omega))⟩ (by rw [j' 0 (by omega) (by omega)]; exact z2) (fun c hc => by rw [f' c (by omega) (by omega), o2 c hc])
    -- one turn
    have turn : ∀ (t : Int) (A B : List Nat) (a b : Nat), ((t = 1 ∧ a = 0 ∧ b = q.1.length) ∨ (t = 2 ∧ a = q.1.length ∧ b = 0)) → ol_tm A → ol_tm B → ol_ok A → ol_ok B → a + A.length ≤ 60 → b + B.length ≤ 60 → MA h2 (m + 3) a A → MA h2 (m + 3) b B →
        (ol_gt A B → ∀ h' : Nat → Nat → Int, (∀ c, c < m + 13 ∨ m + 17 < c → c ≠ m → h' c = h2 c) → (∀ j, j ≠ 22 → j ≠ 24 → h' m j = h2 m j) → Q (some (.inl t)) (sh, g, h')) →
        (¬ ol_gt A B → ∀ h' : Nat → Nat → Int, (∀ c, c < m + 13 ∨ m + 17 < c → c ≠ m → h' c = h2 c) → (∀ j, j ≠ 22 → j ≠ 24 → h' m j = h2 m j) → oe_V (oe_cost 80) 80 (oe_M (d + 1)) none Q 102 [some (.inr (.inl m)), none, some (.inl ((q.1.length : Nat) : Int)), some (.inl ((q.2.length : Nat) : Int)), none, some (.inl (t + 1)), none] [] (sh, g, h') 0 0) →
        ∀ h3 : Nat → Nat → Int, h3 m 22 = ((A.length : Nat) : Int) → h3 m 24 = ((B.length : Nat) : Int) → (∀ c, c < m + 13 ∨ m + 17 < c → c ≠ m → h3 c = h2 c) → (∀ j, j ≠ 22 → j ≠ 24 → h3 m j = h2 m j) →
        oe_V (oe_cost 80) 80 (oe_M (d + 1)) none Q 141 [some (.inr (.inl m)), none, some (.inl ((q.1.length : Nat) : Int)), some (.inl ((q.2.length : Nat) : Int)), none, some (.inl t), some (.inl 0)] [] (sh, g, h3) 0 0 := by
      intro t A B a b ht tA tB oA oB lA lB mA mB K1 K0
      have two : ∀ (n i : Nat) (h4 : Nat → Nat → Int), B.length - i = n → i ≤ B.length → MR h4 (m + 13) A → (∀ j, j < i → h4 (m + 14) j = om (B.getD j 0)) → h4 m 22 = ((A.length : Nat) : Int) → h4 m 24 = ((B.length : Nat) : Int) → (∀ c, c < m + 13 ∨ m + 17 < c → c ≠ m → h4 c = h2 c) → (∀ j, j ≠ 22 → j ≠ 24 → h4 m j = h2 m j) →
          oe_V (oe_cost 80) 80 (oe_M (d + 1)) none Q 186 [some (.inr (.inl m)), none, some (.inl ((q.1.length : Nat) : Int)), some (.inl ((q.2.length : Nat) : Int)), none, some (.inl t), some (.inl (i : Int))] [] (sh, g, h4) 0 0 := by
        intro n
        induction n with
        | zero =>
          intro i h4 hn hi RA PB n22 n24 f4 j4
          obtain ⟨u, hu, fu⟩ := tA
          obtain ⟨v, hv, fv⟩ := tB
          have gi := ol_gt_iff hu hv
          rw [fu, fv] at gi
          refine g80_186 ⟨hM.1, fun _ => ?_, fun c => by rw [n24] at c; omega⟩
          refine m_gt (by omega) hM hu hv fu.symm fv.symm (by omega) (by omega) oA oB RA (fun j hj => PB j (by omega)) n22 n24 (fun z h5 f5 => ⟨1, h5, rfl, rfl, fun c => absurd c (by decide), fun _ => ?_⟩) (fun z h5 f5 => ⟨0, h5, rfl, rfl, fun _ => ⟨by unfold oe_rg; omega, ?_⟩, fun c => absurd rfl c⟩)
          · exact K1 (gi.mpr z) h5 (fun c u1 u2 => by rw [f5 c (by omega) (by omega) (by omega), f4 c u1 u2]) (fun j u1 u2 => by rw [f5 m (by omega) (by omega) (by omega), j4 j u1 u2])
          · exact K0 (fun y => z (gi.mp y)) h5 (fun c u1 u2 => by rw [f5 c (by omega) (by omega) (by omega), f4 c u1 u2]) (fun j u1 u2 => by rw [f5 m (by omega) (by omega) (by omega), j4 j u1 u2])
        | succ n ih =>
          intro i h4 hn hi RA PB n22 n24 f4 j4
          have cc : h4 (m + 3) (b + i) = om (B.getD i 0) := by rw [f4 _ (by omega) (by omega)]; exact mB i (by omega)
          have nxt : ∀ h5 : Nat → Nat → Int, h5 = oe_up h4 (m + 14) i (om (B.getD i 0)) → oe_V (oe_cost 80) 80 (oe_M (d + 1)) none Q 186 [some (.inr (.inl m)), none, some (.inl ((q.1.length : Nat) : Int)), some (.inl ((q.2.length : Nat) : Int)), none, some (.inl t), some (.inl ((i : Int) + 1))] [] (sh, g, h5) 0 0 := by
            intro h5 e5
            rw [show (i : Int) + 1 = ((i + 1 : Nat) : Int) by omega]
            refine ih (i + 1) h5 (by omega) (by omega) (RA.kept (by rw [e5, up_ne (by omega)])) (fun j hj => ?_) (by rw [e5, up_ne (by omega)]; exact n22) (by rw [e5, up_ne (by omega)]; exact n24) (fun c u1 u2 => by rw [e5, up_ne (by omega)]; exact f4 c u1 u2) (fun j u1 u2 => by rw [e5, up_ne (by omega)]; exact j4 j u1 u2)
            by_cases ej : j = i
            · subst ej; rw [e5, up_eq]
            · rw [e5, up_col ej]; exact PB j (by omega)
          refine g80_186 ⟨hM.1, fun c => by rw [n24] at c; omega, fun _ => ⟨m + 14, ac14.1, m + 3, ac3.1, fun c => ⟨60, ac3.2, by omega, by omega, 60, ac14.2, by omega, by omega, fun h5 e5 => ⟨by unfold oe_rg; omega, nxt h5 ?_⟩⟩, fun c => ⟨by unfold oe_rg; omega, 60, ac3.2, by omega, by omega, 60, ac14.2, by omega, by omega, fun h5 e5 => ⟨by unfold oe_rg; omega, nxt h5 ?_⟩⟩⟩⟩
          · have b0 : b = 0 := by omega
            rw [b0, Nat.zero_add] at cc
            rw [e5, Int.toNat_natCast, cc]
          · have b0 : b = q.1.length := by omega
            rw [b0] at cc
            rw [e5, Int.toNat_natCast, show (((q.1.length : Nat) : Int) + (i : Int)).toNat = q.1.length + i by omega, cc]
      have one : ∀ (n i : Nat) (h4 : Nat → Nat → Int), A.length - i = n → i ≤ A.length → (∀ j, j < i → h4 (m + 13) j = om (A.getD j 0)) → h4 m 22 = ((A.length : Nat) : Int) → h4 m 24 = ((B.length : Nat) : Int) → (∀ c, c < m + 13 ∨ m + 17 < c → c ≠ m → h4 c = h2 c) → (∀ j, j ≠ 22 → j ≠ 24 → h4 m j = h2 m j) →
          oe_V (oe_cost 80) 80 (oe_M (d + 1)) none Q 141 [some (.inr (.inl m)), none, some (.inl ((q.1.length : Nat) : Int)), some (.inl ((q.2.length : Nat) : Int)), none, some (.inl t), some (.inl (i : Int))] [] (sh, g, h4) 0 0 := by
        intro n
        induction n with
        | zero =>
          intro i h4 hn hi PA n22 n24 f4 j4
          exact g80_141 ⟨hM.1, fun _ => two _ 0 h4 rfl (Nat.zero_le _) (fun j hj => PA j (by omega)) (fun j hj => by omega) n22 n24 f4 j4, fun c => by rw [n22] at c; omega⟩
        | succ n ih =>
          intro i h4 hn hi PA n22 n24 f4 j4
          have cc : h4 (m + 3) (a + i) = om (A.getD i 0) := by rw [f4 _ (by omega) (by omega)]; exact mA i (by omega)
          have nxt : ∀ h5 : Nat → Nat → Int, h5 = oe_up h4 (m + 13) i (om (A.getD i 0)) → oe_V (oe_cost 80) 80 (oe_M (d + 1)) none Q 141 [some (.inr (.inl m)), none, some (.inl ((q.1.length : Nat) : Int)), some (.inl ((q.2.length : Nat) : Int)), none, some (.inl t), some (.inl ((i : Int) + 1))] [] (sh, g, h5) 0 0 := by
            intro h5 e5
            rw [show (i : Int) + 1 = ((i + 1 : Nat) : Int) by omega]
            refine ih (i + 1) h5 (by omega) (by omega) (fun j hj => ?_) (by rw [e5, up_ne (by omega)]; exact n22) (by rw [e5, up_ne (by omega)]; exact n24) (fun c u1 u2 => by rw [e5, up_ne (by omega)]; exact f4 c u1 u2) (fun j u1 u2 => by rw [e5, up_ne (by omega)]; exact j4 j u1 u2)
            by_cases ej : j = i
            · subst ej; rw [e5, up_eq]
            · rw [e5, up_col ej]; exact PA j (by omega)
          refine g80_141 ⟨hM.1, fun c => by rw [n22] at c; omega, fun _ => ⟨m + 13, ac13.1, m + 3, ac3.1, fun c => ⟨by unfold oe_rg; omega, 60, ac3.2, by omega, by omega, 60, ac13.2, by omega, by omega, fun h5 e5 => ⟨by unfold oe_rg; omega, nxt h5 ?_⟩⟩, fun c => ⟨60, ac3.2, by omega, by omega, 60, ac13.2, by omega, by omega, fun h5 e5 => ⟨by unfold oe_rg; omega, nxt h5 ?_⟩⟩⟩⟩
          · have a0 : a = q.1.length := by omega
            rw [a0] at cc
            rw [e5, Int.toNat_natCast, show (((q.1.length : Nat) : Int) + (i : Int)).toNat = q.1.length + i by omega, cc]
          · have a0 : a = 0 := by omega
            rw [a0, Nat.zero_add] at cc
            rw [e5, Int.toNat_natCast, cc]
      intro h3 n22 n24 f3 j3
      exact one _ 0 h3 rfl (Nat.zero_le _) (fun j hj => by omega) n22 n24 f3 j3
    have differ : q.1 ≠ q.2 → oe_V (oe_cost 80) 80 (oe_M (d + 1)) none Q 102 [some (.inr (.inl m)), none, some (.inl ((q.1.length : Nat) : Int)), some (.inl ((q.2.length : Nat) : Int)), none, some (.inl 1), none] [] (sh, g, h2) 0 0 := by
      intro hne
      rw [if_neg hne] at fin
      refine g80_102 ⟨fun c => absurd c (by decide), fun _ => ⟨fun c => absurd rfl c, fun _ => ⟨hM.1, fun h3 e3 => ⟨fun c => absurd rfl c, fun _ h4 e4 => ?_⟩⟩⟩⟩
      refine turn 1 q.1 q.2 0 q.1.length (Or.inl ⟨rfl, rfl, rfl⟩) y3 y4 ok1 ok2 (by omega) (by omega) MA1 MA2 (fun z h' f' j' => ?_) (fun z h' f' j' => ?_) h4 (by rw [e4, up_col (by omega), e3, up_eq]) (by rw [e4, up_eq]) (fun c u1 u2 => by rw [e4, up_ne u2, e3, up_ne u2]) (fun j u1 u2 => by rw [e4, up_col u2, e3, up_col u1])
      · rw [if_pos z] at fin; exact fin h' f' j'
      · rw [if_neg z] at fin
        refine g80_102 ⟨fun c => absurd c (by decide), fun _ => ⟨fun _ => ⟨hM.1, fun h5 e5 => ⟨fun _ h6 e6 => ?_, fun c => absurd c (by decide)⟩⟩, fun c => absurd c (by decide)⟩⟩
        refine turn 2 q.2 q.1 q.1.length 0 (Or.inr ⟨rfl, rfl, rfl⟩) y4 y3 ok2 ok1 (by omega) (by omega) MA2 MA1 (fun z3 h'' f'' j'' => ?_) (fun z3 h'' f'' j'' => ?_) h6 (by rw [e6, up_col (by omega), e5, up_eq]) (by rw [e6, up_eq]) (fun c u1 u2 => by rw [e6, up_ne u2, e5, up_ne u2, f' c u1 u2]) (fun j u1 u2 => by rw [e6, up_col u2, e5, up_col u1, j' j u1 u2])
        · rw [if_pos z3] at fin; exact fin h'' f'' j''
        · rw [if_neg z3] at fin
          exact g80_102 ⟨fun _ => fin h'' f'' j'', fun c => absurd c (by decide)⟩
    have same : ∀ (n i : Nat), q.1.length - i = n → i ≤ q.1.length → q.1.length = q.2.length → (∀ j, j < i → q.1.getD j 0 = q.2.getD j 0) → oe_V (oe_cost 80) 80 (oe_M (d + 1)) none Q 49 [some (.inr (.inl m)), none, some (.inl ((q.1.length : Nat) : Int)), some (.inl ((q.2.length : Nat) : Int)), some (.inl 1), some (.inl (i : Int)), none] [] (sh, g, h2) 0 0 := by
      intro n
      induction n with
      | zero =>
        intro i hn hi hl hj
        refine g80_49 ⟨fun _ => ⟨fun c => absurd c (by decide), fun _ => ?_⟩, fun c => by omega⟩
        rw [if_pos (ol_ext hl (fun j hj' => hj j (by omega)))] at fin
        exact fin h2 (fun _ _ _ => rfl) (fun _ _ _ => rfl)
      | succ n ih =>
        intro i hn hi hl hj
        refine g80_49 ⟨fun c => by omega, fun _ => ⟨fun c => absurd c (by decide), fun _ => ⟨hM.1, m + 3, ac3.1, 60, ac3.2, by omega, by omega, by unfold oe_rg; omega, by omega, by omega, ?_⟩⟩⟩
        have c1 : h2 (m + 3) ((i : Int)).toNat = om (q.1.getD i 0) := by have := MA1 i (by omega); rw [Nat.zero_add] at this; rw [Int.toNat_natCast]; exact this
        have c2 : h2 (m + 3) (((q.1.length : Nat) : Int) + (i : Int)).toNat = om (q.2.getD i 0) := by rw [show (((q.1.length : Nat) : Int) + (i : Int)).toNat = q.1.length + i by omega]; exact MA2 i (by omega)
        rw [c1, c2]
        have inj := om_inj (ol_ok_at ok1 (i := i) (by omega)) (ol_ok_at ok2 (i := i) (by omega))
        refine ⟨fun c => ⟨by unfold oe_rg; omega, ?_⟩, fun c => ⟨by unfold oe_rg; omega, ?_⟩⟩
        · have hne : q.1 ≠ q.2 := fun e => c (by rw [e])
          exact g80_49 ⟨fun _ => ⟨fun _ => differ hne, fun c => absurd rfl c⟩, fun _ => ⟨fun _ => ⟨fun _ => differ hne, fun c => absurd rfl c⟩, fun c => absurd rfl c⟩⟩
        · rw [show (i : Int) + 1 = ((i + 1 : Nat) : Int) by omega]
          refine ih (i + 1) (by omega) (by omega) hl (fun j hj' => ?_)
          by_cases ej : j = i
          · subst ej; exact inj.mp c
          · exact hj j (by omega)
    refine ⟨_, h2, rfl, rfl, fun _ => ?_, fun c => absurd c (by decide)⟩
    rw [n7, n6, show ((q.1.length + q.2.length : Nat) : Int) - ((q.1.length : Nat) : Int) = ((q.2.length : Nat) : Int) by omega]
    refine ⟨by unfold oe_rg; omega, fun c => ?_, fun c => same _ 0 rfl (Nat.zero_le _) (by omega) (fun j hj => by omega)⟩
    have hne : q.1 ≠ q.2 := fun e => c (by rw [e])
    exact g80_49 ⟨fun _ => ⟨fun _ => differ hne, fun c => absurd rfl c⟩, fun _ => ⟨fun _ => ⟨fun _ => differ hne, fun c => absurd rfl c⟩, fun c => absurd rfl c⟩⟩
end
