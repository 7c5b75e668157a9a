/-! The reference: the public methods unify, show. -/
section
variable {D : Nat} {sh : List (Nat × Nat)} {g : Nat → Nat → Option Nat} {h : Nat → Nat → Int} {Q : oeQ}
theorem m_unify (hDD : 20 ≤ D) {m : Nat} (hM : MdS sh g m) {x : abF} (hF : MdF h m x)
    (k : ∀ h', MdF h' m (ab_unify x).2 → h' m 0 = 0 → md_o m h h' → Q (some (.inl (ab_unify x).1)) (sh, g, h')) : oe_M D 81 [.inr (.inl m)] (sh, g, h) Q := by
  obtain ⟨d, rfl⟩ : ∃ d, D = d + 2 := ⟨D - 2, by omega⟩
  have ac3 := md_5 hM
  have ac22 := md_34 hM
  have ac26 := md_39 hM
  refine g81 ⟨hM.1, fun h1 e1 => ?_⟩
  obtain ⟨F1, z1, o1⟩ := md_fault hF e1
  have T60 := F1.1.2.1
  unfold ab_unify at k
  refine m_read (by omega) hM F1.1 true true 0 (Or.inl ⟨rfl, rfl, rfl⟩) (fun i h2 hr t0 fo fr => ?_) (fun q h2 hr M2 n7 n6 _ t0 fo fr => ?_)
  · rw [hr] at k
    have := rd_lt hr
    exact ⟨_, h2, rfl, rfl, fun c => by omega, fun _ => ⟨by unfold oe_rg; omega, k h2 (md_rd F1 t0 fo fr) (by rw [fo 0 (by omega) (by omega) (by omega)]; exact z1) (fun c hc => by rw [fr c (by omega) (by omega), o1 c hc])⟩⟩
  · rw [hr] at k
    try dsimp only at k
    obtain ⟨y1, y2, y3, y4, y5⟩ := rd_all hr
    have y4 := y4 rfl
    have n6 := n6 rfl
    have F2 := md_rd F1 t0 fo fr
    have ok1 := (rd_tm y1).1
    have ok2 := (rd_tm y2).1
    obtain ⟨s1, s2⟩ := ol_tr_ok y3
    obtain ⟨s3, s4⟩ := ol_tr_ok y4
    have z2 : h2 m 0 = 0 := by rw [fo 0 (by omega) (by omega) (by omega)]; exact z1
    have o2 : md_o m h h2 := fun c hc => by rw [fr c (by omega) (by omega), o1 c hc]
    have at1 : ot_at (q.1 ++ q.2) 0 (ol_tr q.1) := ⟨q.2, by rw [s2]; simp⟩
    have at2 : ot_at (q.1 ++ q.2) q.1.length (ol_tr q.2) := ⟨[], by rw [s4, List.drop_left, List.append_nil]⟩
    have okr : ol_ok (q.1 ++ q.2) := fun c hc => by
      rcases List.mem_append.mp hc with z | z
      · exact ok1 c z
      · exact ok2 c z
    have v6 : ∀ c ∈ q.1 ++ q.2, c < 12 → c < 6 := fun c hc h12 => by
      rcases List.mem_append.mp hc with z | z
      · exact (rd_tm y1).2 c z h12
      · exact (rd_tm y2).2 c z h12
    have rl : (q.1 ++ q.2).length ≤ 64 := by rw [List.length_append]; omega
    -- only the row and what unifying uses have changed
    have keep : ∀ h' : Nat → Nat → Int, (∀ c, c < m ∨ (m < c ∧ c < m + 22) ∨ m + 28 < c → h' c = h2 c) → (∀ j, j ≠ 36 → j ≠ 40 → h' m j = h2 m j) → MdF h' m ([], x.2) ∧ h' m 0 = 0 ∧ md_o m h h' := fun h' ff jj =>
      ⟨⟨MdT_nil (by rw [jj 1 (by omega) (by omega)]; exact t0), F2.2.1.kept (jj 3 (by omega) (by omega)) (ff _ (by omega)), F2.2.2.kept (fun c u1 u2 => ff c (by omega)) (jj _ (by omega) (by omega)) (jj _ (by omega) (by omega)) (jj _ (by omega) (by omega)) (jj _ (by omega) (by omega))⟩, by rw [jj 0 (by omega) (by omega)]; exact z2, fun c hc => by rw [ff c (by omega), o2 c hc]⟩
    have loop : ∀ (n i : Nat) (h3 : Nat → Nat → Int), q.1.length + q.2.length - i = n → i ≤ q.1.length + q.2.length → (∀ j, j < i → h3 (m + 22) j = om ((q.1 ++ q.2).getD j 0)) → (∀ c, c ≠ m + 22 → h3 c = h2 c) →
        oe_V (oe_cost 81) 81 (oe_M (d + 1)) none Q 21 [some (.inr (.inl m)), none, some (.inl (i : Int))] [] (sh, g, h3) 0 0 := by
      intro n
      induction n with
      | zero =>
        intro i h3 hn hi P3 F3
        have w7 : h3 m 7 = ((q.1.length + q.2.length : Nat) : Int) := by rw [F3 m (by omega)]; exact n7
        have w6 : h3 m 6 = ((q.1.length : Nat) : Int) := by rw [F3 m (by omega)]; exact n6
        have R3 : MR h3 (m + 22) (q.1 ++ q.2) := fun j hj => P3 j (by rw [List.length_append] at hj; omega)
        refine g81_21 ⟨hM.1, fun _ => ?_, fun c => by rw [w7] at c; omega⟩
        rw [w6]
        refine m_isUnified (by omega) hM rl okr R3 0 q.1.length (ol_tr q.1) (ol_tr q.2) at1 at2 s1 s3 (fun σ r h4 hou H V4 F4 => ⟨1, h4, rfl, rfl, fun _ h5 e5 => ?_, fun c => absurd c (by decide)⟩) (fun hou h4 F4 => ⟨0, h4, rfl, rfl, fun c => absurd rfl c, fun _ => ?_⟩)
        · rw [hou] at k
          try dsimp only at k
          have E5 : md_fo m h4 h5 := ⟨fun c u1 _ _ _ => by rw [e5, up_ne u1], fun j u => by rw [e5, up_col u]⟩
          have v5 : h5 m 6 = ((q.1.length : Nat) : Int) := by rw [E5.2 6 (by omega), F4.2 6 (by omega) (by omega)]; exact w6
          rw [v5]
          have R5 : MR h5 (m + 22) (q.1 ++ q.2) := R3.kept (by rw [E5.1 _ (by omega) (by omega) (by omega) (by omega), F4.1 _ (by omega)])
          have V5 : UnV h5 (m + 23) (q.1 ++ q.2) σ := V4.kept (E5.1 _ (by omega) (by omega) (by omega) (by omega))
          have rg : ol_rg (q.1 ++ q.2) 0 q.1.length = q.1 := by unfold ol_rg; rw [List.drop_zero, Nat.sub_zero, List.take_left]
          refine m_putIn (out := []) (lim := 60) (by omega) hM rl okr R5 V5 H 0 q.1.length (by omega) (Nat.zero_le _) (by rw [List.length_append]; omega) (fun i hi => by cases hi) (by rw [e5, up_eq]; rfl) (Nat.zero_le _) (fun b1 h6 C6 n6' F6 => ⟨1, h6, rfl, rfl, fun _ h7 e7 => ?_, fun c => absurd c (by decide)⟩) (fun b1 h6 n6' F6 => ⟨0, h6, rfl, rfl, fun c => absurd rfl c, fun _ => ?_⟩)
          · rw [rg, List.nil_append] at C6 n6'
            rw [rg] at b1
            have b1' : (ou_X σ q.1).length ≤ 60 := by simpa using b1
            rw [if_neg (by omega)] at k
            have inl : ∀ c ∈ ou_X σ q.1, c ∈ q.1 ++ q.2 := fun c hc => ou_X_all V5 H (fun c hc => List.mem_append_left _ hc) hc
            generalize ou_X σ q.1 = W at *
            have f6 : ∀ c, c < m ∨ (m < c ∧ c < m + 22) ∨ m + 28 < c → h6 c = h2 c := fun c u => by rw [F6.1 c (by omega) (by omega) (by omega) (by omega), E5.1 c (by omega) (by omega) (by omega) (by omega), F4.1 c (by omega), F3 c (by omega)]
            have j6 : ∀ j, j ≠ 36 → j ≠ 40 → h6 m j = h2 m j := fun j u1 u2 => by rw [F6.2 j u2, E5.2 j u2, F4.2 j u1 u2, F3 m (by omega)]
            have put : ∀ (n i : Nat) (h8 : Nat → Nat → Int), W.length - i = n → i ≤ W.length → MdP h8 m ((W.take i).map ab_lt) → (∀ j, j ≠ 3 → h8 m j = h6 m j) → (∀ c, c ≠ m → c ≠ m + 2 → h8 c = h6 c) →
                oe_V (oe_cost 81) 81 (oe_M (d + 1)) none Q 91 [some (.inr (.inl m)), none, some (.inl (i : Int))] [] (sh, g, h8) 0 0 := by
              intro n
              induction n with
              | zero =>
                intro i h8 hn hi P8 j8 f8
                have w40 : h8 m 40 = ((W.length : Nat) : Int) := by rw [j8 40 (by omega)]; exact n6'
                refine g81_91 ⟨hM.1, fun _ => ?_, fun c => by rw [w40] at c; omega⟩
                rw [List.take_of_length_le (by omega)] at P8
                have lw := P8.1
                rw [List.length_map] at lw
                rw [lw]
                refine k h8 ⟨MdT_nil (by rw [j8 1 (by omega), j6 1 (by omega) (by omega)]; exact t0), P8, F2.2.2.kept (fun c u1 u2 => by rw [f8 c (by omega) (by omega), f6 c (by omega)]) (by rw [j8 _ (by omega), j6 _ (by omega) (by omega)]) (by rw [j8 _ (by omega), j6 _ (by omega) (by omega)]) (by rw [j8 _ (by omega), j6 _ (by omega) (by omega)]) (by rw [j8 _ (by omega), j6 _ (by omega) (by omega)])⟩ (by rw [j8 0 (by omega), j6 0 (by omega) (by omega)]; exact z2) (fun c hc => by rw [f8 c (by omega) (by omega), f6 c (by omega), o2 c hc])
              | succ n ihn =>
                intro i h8 hn hi P8 j8 f8
                have w40 : h8 m 40 = ((W.length : Nat) : Int) := by rw [j8 40 (by omega)]; exact n6'
                have il : i < W.length := by omega
                have cc : h8 (m + 26) ((i : Int)).toNat = om (W.getD i 0) := by rw [Int.toNat_natCast, f8 _ (by omega) (by omega)]; exact C6 i il
                have mem : W.getD i 0 ∈ W := by rw [List.getD_eq_getElem?_getD, List.getElem?_eq_getElem il]; exact List.getElem_mem il
                have c20 := okr _ (inl _ mem)
                refine g81_91 ⟨hM.1, fun c => by rw [w40] at c; omega, fun _ => ⟨m + 26, ac26.1, 320, ac26.2, by omega, by omega, ?_⟩⟩
                rw [cc]
                refine m_char (by omega) _ c20 (fun y => v6 _ (inl _ mem) y) ⟨_, h8, rfl, rfl, ?_⟩
                refine m_put (by omega) hM P8 (by rw [List.length_map, List.length_take]; omega) _ (ab_lt_127 c20) (fun h9 P9 j9 f9 => ⟨h9, rfl, rfl, by unfold oe_rg; omega, ?_⟩)
                rw [← take_map il] at P9
                rw [show (i : Int) + 1 = ((i + 1 : Nat) : Int) by omega]
                exact ihn (i + 1) h9 (by omega) (by omega) P9 (fun j hj => by rw [j9 j hj, j8 j hj]) (fun c u1 u2 => by rw [f9 c u1 u2, f8 c u1 u2])
            exact put _ 0 h7 rfl (Nat.zero_le _) (MdP_nil (by rw [e7, up_eq])) (fun j hj => by rw [e7, up_col hj]) (fun c u1 u2 => by rw [e7, up_ne u1])
          · rw [rg] at b1
            rw [if_pos (by simpa using b1)] at k
            obtain ⟨r1, r2, r3⟩ := keep h6 (fun c u => by rw [F6.1 c (by omega) (by omega) (by omega) (by omega), E5.1 c (by omega) (by omega) (by omega) (by omega), F4.1 c (by omega), F3 c (by omega)]) (fun j u1 u2 => by rw [F6.2 j u2, E5.2 j u2, F4.2 j u1 u2, F3 m (by omega)])
            exact k h6 r1 r2 r3
        · rw [hou] at k
          try dsimp only at k
          obtain ⟨r1, r2, r3⟩ := keep h4 (fun c u => by rw [F4.1 c (by omega), F3 c (by omega)]) (fun j u1 u2 => by rw [F4.2 j u1 u2, F3 m (by omega)])
          exact k h4 r1 r2 r3
      | succ n ih =>
        intro i h3 hn hi P3 F3
        have w7 : h3 m 7 = ((q.1.length + q.2.length : Nat) : Int) := by rw [F3 m (by omega)]; exact n7
        refine g81_21 ⟨hM.1, fun c => by rw [w7] at c; omega, fun _ => ⟨m + 22, ac22.1, m + 3, ac3.1, 60, ac3.2, by omega, by omega, 64, ac22.2, by omega, by omega, fun h4 e4 => ⟨by unfold oe_rg; omega, ?_⟩⟩⟩
        rw [Int.toNat_natCast, F3 (m + 3) (by omega), M2 i (by rw [List.length_append]; omega)] at e4
        rw [show (i : Int) + 1 = ((i + 1 : Nat) : Int) by omega]
        refine ih (i + 1) h4 (by omega) (by omega) (fun j hj => ?_) (fun c hc => by rw [e4, up_ne hc]; exact F3 c hc)
        by_cases ej : j = i
        · subst ej; rw [e4, up_eq]
        · rw [e4, up_col ej]; exact P3 j (by omega)
    refine ⟨_, h2, rfl, rfl, fun _ => loop _ 0 h2 rfl (Nat.zero_le _) (fun j hj => by omega) (fun _ _ => rfl), fun c => absurd c (by decide)⟩
/-- the page so far -/
def ab_pk (q : List Nat × List Nat) (i : Nat) : List Nat := if i ≤ q.1.length then (q.1.take i).map ab_lt else q.1.map ab_lt ++ [61] ++ (q.2.take (i - q.1.length)).map ab_lt
theorem m_show (hDD : 8 ≤ D) {m : Nat} (hM : MdS sh g m) {x : abF} (hF : MdF h m x) (w i : Int)
    (k : ∀ q, 0 ≤ w → w ≤ 2 → ab_at x.2.2 w i = some q → ∀ h', MdF h' m (x.1, ab_pg q, x.2.2) → h' m 0 = 0 → md_o m h h' → Q (some (.inl (((ab_pg q).length : Nat) : Int))) (sh, g, h'))
    (kt : w < 0 ∨ 2 < w → ∀ h', MdF h' m x → h' m 0 = 1 → md_o m h h' → Q (some (.inl 0)) (sh, g, h'))
    (kn : 0 ≤ w → w ≤ 2 → ab_at x.2.2 w i = none → ∀ h', MdF h' m x → h' m 0 = 2 → md_o m h h' → Q (some (.inl 0)) (sh, g, h')) : oe_M D 79 [.inr (.inl m), .inl w, .inl i] (sh, g, h) Q := by
  obtain ⟨d, rfl⟩ : ∃ d, D = d + 2 := ⟨D - 2, by omega⟩
  have ac4 := md_9 hM
  have ac5 := md_10 hM
  have ac6 := md_11 hM
  have ac7 := md_13 hM
  have ac8 := md_14 hM
  have ac9 := md_15 hM
  have acS := md_18 hM
  have acN := md_19 hM
  obtain ⟨n8, w30, MWw, n12, e10, MWe, n16⟩ := hF.2.2.1
  have hG := hF.2.2.2
  -- a fault
  have bad : ∀ v : Int, 0 < v → (∀ h', MdF h' m x → h' m 0 = v → md_o m h h' → Q (some (.inl 0)) (sh, g, h')) → oe_V (oe_cost 79) 79 (oe_M (d + 1)) none Q 77 [some (.inr (.inl m)), some (.inl w), some (.inl i), none, none, none, none] [.inl v, .inr (.inl m)] (sh, g, h) 0 0 := by
    intro v hv K
    refine g79_77 ⟨hM.1, fun h1 e1 => ?_⟩
    obtain ⟨F1, z1, o1⟩ := md_fault hF e1
    exact ⟨hM.1, fun c => by omega, fun _ => K h1 F1 z1 o1⟩
  -- the page is written
  have page : ∀ (q : List Nat × List Nat), 0 ≤ w → w ≤ 2 → ab_at x.2.2 w i = some q → ol_ok q.1 → ol_ok q.2 → (∀ c ∈ q.1 ++ q.2, c < 12 → c < 6) → q.1.length + q.2.length ≤ 60 → 0 < q.2.length →
      (∀ (n : Nat) (h1 : Nat → Nat → Int) (P : oeQ), n < q.1.length + q.2.length → (∀ c, c ≠ m → c ≠ m + 2 → h1 c = h c) → oe_M (d + 1) 33 [.inl (om ((q.1 ++ q.2).getD n 0))] (sh, g, h1) (fun r hp => ∃ (x96 : Int) (h95 : Nat → Nat → Int), r = some (.inl x96) ∧ hp = (sh, g, h95) ∧ oe_M (d + 1) 78 [.inr (.inl m), .inl x96] (sh, g, h95) (fun r hp => ∃ (h97 : Nat → Nat → Int), r = none ∧ hp = (sh, g, h97) ∧ oe_rg ((n : Int) + 1) ∧ oe_V (oe_cost 79) 79 (oe_M (d + 1)) none Q 174 [some (.inr (.inl m)), some (.inl w), some (.inl i), none, some (.inl ((q.1.length : Nat) : Int)), some (.inl ((q.1.length + q.2.length : Nat) : Int)), some (.inl ((n : Int) + 1))] [] (sh, g, h97) 0 0)) → oe_V (oe_cost 79) 79 (oe_M (d + 1)) none Q 194 [some (.inr (.inl m)), some (.inl w), some (.inl i), none, some (.inl ((q.1.length : Nat) : Int)), some (.inl ((q.1.length + q.2.length : Nat) : Int)), some (.inl (n : Int))] [] (sh, g, h1) 0 0) →
      ∀ h1 : Nat → Nat → Int, h1 m 3 = 0 → h1 m 0 = 0 → (∀ j, j ≠ 0 → j ≠ 3 → h1 m j = h m j) → (∀ c, c ≠ m → h1 c = h c) →
      oe_V (oe_cost 79) 79 (oe_M (d + 1)) none Q 174 [some (.inr (.inl m)), some (.inl w), some (.inl i), none, some (.inl ((q.1.length : Nat) : Int)), some (.inl ((q.1.length + q.2.length : Nat) : Int)), some (.inl 0)] [] (sh, g, h1) 0 0 := by
    intro q w0 w2 hat ok1 ok2 v6 l60 lpos st h1 n1 z1 j1 f1
    have loop : ∀ (k' n : Nat) (h2 : Nat → Nat → Int), q.1.length + q.2.length - n = k' → n ≤ q.1.length + q.2.length → MdP h2 m (ab_pk q n) → (∀ j, j ≠ 3 → h2 m j = h1 m j) → (∀ c, c ≠ m → c ≠ m + 2 → h2 c = h c) →
        oe_V (oe_cost 79) 79 (oe_M (d + 1)) none Q 174 [some (.inr (.inl m)), some (.inl w), some (.inl i), none, some (.inl ((q.1.length : Nat) : Int)), some (.inl ((q.1.length + q.2.length : Nat) : Int)), some (.inl (n : Int))] [] (sh, g, h2) 0 0 := by
      intro k'
      induction k' with
      | zero =>
        intro n h2 hn hn2 P2 j2 f2
        have pe : ab_pk q n = ab_pg q := by
          unfold ab_pk ab_pg
          rw [if_neg (by omega), List.take_of_length_le (by omega)]
        rw [pe] at P2
        refine g79_174 ⟨fun _ => ⟨hM.1, ?_⟩, fun c => by omega⟩
        rw [P2.1]
        exact k q w0 w2 hat h2 ⟨hF.1.kept (by rw [j2 1 (by omega), j1 1 (by omega) (by omega)]) (f2 _ (by omega) (by omega)), P2, hF.2.2.kept (fun c u1 u2 => f2 c (by omega) (by omega)) (by rw [j2 _ (by omega), j1 _ (by omega) (by omega)]) (by rw [j2 _ (by omega), j1 _ (by omega) (by omega)]) (by rw [j2 _ (by omega), j1 _ (by omega) (by omega)]) (by rw [j2 _ (by omega), j1 _ (by omega) (by omega)])⟩ (by rw [j2 0 (by omega)]; exact z1) (fun c hc => f2 c (by omega) (by omega))
      | succ k' ih =>
        intro n h2 hn hn2 P2 j2 f2
        have lt : n < q.1.length + q.2.length := by omega
        have okA : ol_ok (q.1 ++ q.2) := fun c hc => by
          rcases List.mem_append.mp hc with z | z
          · exact ok1 c z
          · exact ok2 c z
        have il : n < (q.1 ++ q.2).length := by rw [List.length_append]; exact lt
        have c20 := ol_ok_at okA il
        have mem : (q.1 ++ q.2).getD n 0 ∈ q.1 ++ q.2 := by rw [List.getD_eq_getElem?_getD, List.getElem?_eq_getElem il]; exact List.getElem_mem il
        -- a letter behind what stands there
        have letter : ∀ (P : List Nat) (h3 : Nat → Nat → Int), P ++ [ab_lt ((q.1 ++ q.2).getD n 0)] = ab_pk q (n + 1) → P.length < 61 → MdP h3 m P → (∀ j, j ≠ 3 → h3 m j = h1 m j) → (∀ c, c ≠ m → c ≠ m + 2 → h3 c = h c) → oe_V (oe_cost 79) 79 (oe_M (d + 1)) none Q 194 [some (.inr (.inl m)), some (.inl w), some (.inl i), none, some (.inl ((q.1.length : Nat) : Int)), some (.inl ((q.1.length + q.2.length : Nat) : Int)), some (.inl (n : Int))] [] (sh, g, h3) 0 0 := by
          intro P h3 hP lP P3 j3 f3
          refine st n h3 Q lt f3 ?_
          refine m_char (by omega) _ c20 (v6 _ mem) ⟨_, h3, rfl, rfl, ?_⟩
          refine m_put (by omega) hM P3 lP _ (ab_lt_127 c20) (fun h4 P4 j4 f4 => ⟨h4, rfl, rfl, by unfold oe_rg; omega, ?_⟩)
          rw [hP] at P4
          rw [show (n : Int) + 1 = ((n + 1 : Nat) : Int) by omega]
          exact ih (n + 1) h4 (by omega) (by omega) P4 (fun j hj => by rw [j4 j hj, j3 j hj]) (fun c u1 u2 => by rw [f4 c u1 u2, f3 c u1 u2])
        refine g79_174 ⟨fun c => by omega, fun _ => ⟨fun c => ?_, fun c => ⟨hM.1, ?_⟩⟩⟩
        · refine letter (ab_pk q n) h2 ?_ ?_ P2 j2 f2
          · unfold ab_pk
            by_cases z : n < q.1.length
            · rw [if_pos (by omega), if_pos (by omega), take_map z, ol_getD_app1 z]
            · have z2 : q.1.length < n := by omega
              rw [if_neg (by omega), if_neg (by omega), show n + 1 - q.1.length = (n - q.1.length) + 1 by omega, take_map (by omega), ol_getD_app2 (by omega), List.append_assoc (q.1.map ab_lt ++ [61])]
          · unfold ab_pk
            split
            · rw [List.length_map, List.length_take]; omega
            · rw [List.length_append, List.length_append, List.length_map, List.length_map, List.length_take]; simp; omega
        · have en : n = q.1.length := by omega
          have pe : ab_pk q n = q.1.map ab_lt := by
            unfold ab_pk
            rw [if_pos (by omega), List.take_of_length_le (by omega)]
          rw [pe] at P2
          refine m_put (c := 61) (by omega) hM P2 (by rw [List.length_map]; omega) (by omega) (fun h3 P3 j3 f3 => ⟨h3, rfl, rfl, ?_⟩)
          refine letter (q.1.map ab_lt ++ [61]) h3 ?_ (by rw [List.length_append, List.length_map]; simp; omega) P3 (fun j hj => by rw [j3 j hj, j2 j hj]) (fun c u1 u2 => by rw [f3 c u1 u2, f2 c u1 u2])
          unfold ab_pk
          rw [if_neg (by omega), en, show q.1.length + 1 - q.1.length = 0 + 1 by omega, take_map lpos, ol_getD_app2 (Nat.le_refl _), Nat.sub_self]
          simp
    have P1 : MdP h1 m (ab_pk q 0) := by
      have : ab_pk q 0 = [] := by unfold ab_pk; rw [if_pos (Nat.zero_le _)]; simp
      rw [this]; exact MdP_nil n1
    exact loop _ 0 h1 rfl (Nat.zero_le _) P1 (fun _ _ => rfl) (fun c u1 _ => f1 c u1)
  -- an equation of the rows
  have rowp : ∀ (rows : List (List Nat × List Nat)) (qc lf al N M : Nat), MW h qc lf al rows → sh[qc]? = some (0, N) → 20 * rows.length ≤ N → rows.length ≤ 30 → qc ≠ m → qc ≠ m + 2 → 0 ≤ i → i < ((rows.length : Nat) : Int) →
      ol_ok (rows.getD i.toNat ([], [])).1 ∧ ol_ok (rows.getD i.toNat ([], [])).2 ∧ (∀ c ∈ (rows.getD i.toNat ([], [])).1 ++ (rows.getD i.toNat ([], [])).2, c < 12 → c < 6) ∧ (rows.getD i.toNat ([], [])).1.length + (rows.getD i.toNat ([], [])).2.length ≤ 20 ∧ 0 < (rows.getD i.toNat ([], [])).2.length := by
    intro rows qc lf al N M W hq hN h30 d1 d2 i0 il
    obtain ⟨r1, r2, r3, r4⟩ := W i.toNat (by omega)
    have tm := eq_tm r4
    obtain ⟨_, p2, p3, p4, p5, p6⟩ := r4
    exact ⟨p3, p4, fun c hc h12 => by
      rcases List.mem_append.mp hc with z | z
      · exact p5 c z h12
      · exact p6 c z h12, p2, ol_tm_pos tm.2.1⟩
  refine g79 ⟨fun c0 => ⟨fun c1 => ⟨hM.1, fun c => bad 1 (by decide) (kt (Or.inl c)), fun c => ⟨fun c2 => ?_, fun c2 => bad 1 (by decide) (kt (Or.inr c2))⟩⟩, fun c1 => ⟨fun c2 => ?_, fun c2 => ⟨hM.1, fun c3 => ?_, fun c3 => ?_⟩⟩⟩, fun c0 => ⟨fun c2 => ?_, fun c2 => ⟨hM.1, fun c3 => ?_, fun c3 => ?_⟩⟩⟩
  · have ew : w = 2 := by omega
    have ea : ab_at x.2.2 w i = x.2.2.2.2.1 := by unfold ab_at; rw [if_pos ew]
    rcases hG with ⟨a, b⟩ | ⟨q, a, b, S0, S1, t0, t1, v6⟩
    · exact ⟨fun _ => bad 2 (by decide) (kn c c2 (by rw [ea]; exact a)), fun c3 => absurd b c3⟩
    · refine ⟨fun c3 => by rw [b] at c3; exact absurd c3 (by decide), fun _ => ?_⟩
      have l0 := t0.2.1
      have l1 := t1.2.1
      refine g79_77 ⟨hM.1, fun h1 e1 => ⟨hM.1, fun _ h2 e2 => ⟨fun _ => ⟨fun _ => ⟨m + 11, acN.1, 6, acN.2, by omega, by omega, ?_⟩, fun y => by omega⟩, fun y => absurd y c0⟩, fun c3 => by rw [e1, up_eq] at c3; omega⟩⟩
      have f2 : ∀ c, c ≠ m → h2 c = h c := fun c u => by rw [e2, up_ne u, e1, up_ne u]
      have j2 : ∀ j, j ≠ 0 → j ≠ 3 → h2 m j = h m j := fun j u1 u2 => by rw [e2, up_col u2, e1, up_col u1]
      have a0 : h2 (m + 11) 0 = ((q.1.length : Nat) : Int) := by rw [f2 _ (by omega)]; exact S0.1
      have a1 : h2 (m + 11) 1 = ((q.2.length : Nat) : Int) := by rw [f2 _ (by omega)]; exact S1.1
      refine g79_127 ⟨fun _ => ⟨fun _ => ⟨hM.1, m + 11, acN.1, 6, acN.2, by omega, by omega, by omega, by omega, by rw [a0, a1]; unfold oe_rg; omega, ?_⟩, fun y => by omega⟩, fun y => absurd y c0⟩
      rw [a0, a1, ← Int.natCast_add]
      refine page q c c2 (by rw [ea]; exact a) t0.2.2 t1.2.2 v6 (by omega) (ol_tm_pos t1.1) (fun n h3 P hn f3 hP => ?_) h2 (by rw [e2, up_eq]) (by rw [e2, up_col (by omega), e1, up_eq]) j2 f2
      refine g79_194 ⟨fun _ => ⟨fun _ => ⟨fun y => ⟨hM.1, m + 10, acS.1, by unfold oe_rg; omega, by unfold oe_rg; omega, 240, acS.2, by omega, by omega, ?_⟩, fun y => ⟨hM.1, m + 10, acS.1, 240, acS.2, by omega, by omega, ?_⟩⟩, fun y => by omega⟩, fun y => absurd y c0⟩
      · have := S1.2 (n - q.1.length) (by omega)
        rw [show (40 + (n : Int) - ((q.1.length : Nat) : Int)).toNat = 40 * 1 + (n - q.1.length) by omega, f3 _ (by omega) (by omega), this]
        rw [ol_getD_app2 (by omega)] at hP
        exact hP
      · have := S0.2 n (by omega)
        rw [show ((n : Int)).toNat = 40 * 0 + n by omega, f3 _ (by omega) (by omega), this]
        rw [ol_getD_app1 (by omega)] at hP
        exact hP
  · exact ⟨fun c => by omega, fun c => ⟨fun c4 => bad 2 (by decide) (kn c c4 (by unfold ab_at; rw [if_neg (by omega), if_neg (by omega), if_neg (by omega)])), fun c4 => by omega⟩⟩
  · rw [n8] at c3
    exact ⟨fun c => by omega, fun c => ⟨fun c4 => bad 2 (by decide) (kn c c4 (by unfold ab_at; rw [if_neg (by omega), if_neg (by omega), if_neg (by omega)])), fun c4 => by omega⟩⟩
  · rw [n8] at c3
    refine ⟨fun c => by omega, fun c => ⟨fun c4 => ?_, fun c4 => by omega⟩⟩
    have ea : ab_at x.2.2 w i = some (x.2.2.1.getD i.toNat ([], [])) := by unfold ab_at; rw [if_neg (by omega), if_neg (by omega), if_pos ⟨c2, c3⟩]
    obtain ⟨r1, r2, r3, r4⟩ := MWw i.toNat (by omega)
    obtain ⟨p1, p2, p3, p4, p5⟩ := rowp x.2.2.1 (m + 4) (m + 5) (m + 6) 600 0 MWw ac4.2 (by omega) w30 (by omega) (by omega) c2 c3
    generalize x.2.2.1.getD i.toNat ([], []) = q at *
    have it : ((i.toNat : Nat) : Int) = i := by omega
    refine g79_77 ⟨hM.1, fun h1 e1 => ⟨hM.1, fun _ h2 e2 => ⟨fun _ => ⟨fun y => absurd c1 y, fun _ => ⟨m + 5, ac5.1, 30, ac5.2, by omega, by omega, ?_⟩⟩, fun y => absurd y c0⟩, fun y => by rw [e1, up_eq] at y; omega⟩⟩
    have f2 : ∀ c, c ≠ m → h2 c = h c := fun c u => by rw [e2, up_ne u, e1, up_ne u]
    have j2 : ∀ j, j ≠ 0 → j ≠ 3 → h2 m j = h m j := fun j u1 u2 => by rw [e2, up_col u2, e1, up_col u1]
    rw [show h2 (m + 5) i.toNat = ((q.1.length : Nat) : Int) by rw [f2 _ (by omega)]; exact r1]
    refine g79_127 ⟨fun _ => ⟨fun y => absurd c1 y, fun _ => ⟨hM.1, m + 6, ac6.1, 30, ac6.2, by omega, by omega, ?_⟩⟩, fun y => absurd y c0⟩
    rw [show h2 (m + 6) i.toNat = ((q.1.length + q.2.length : Nat) : Int) by rw [f2 _ (by omega)]; exact r2]
    refine page q c c4 ea p1 p2 p3 (by omega) p5 (fun n h3 P hn f3 hP => ?_) h2 (by rw [e2, up_eq]) (by rw [e2, up_col (by omega), e1, up_eq]) j2 f2
    refine g79_194 ⟨fun _ => ⟨fun y => absurd c1 y, fun _ => ⟨hM.1, m + 4, ac4.1, by unfold oe_rg; omega, by unfold oe_rg; omega, 600, ac4.2, by omega, by omega, ?_⟩⟩, fun y => absurd y c0⟩
    have := r3 n (by rw [List.length_append]; exact hn)
    rw [show (20 * i + (n : Int)).toNat = 20 * i.toNat + n by omega, f3 _ (by omega) (by omega), this]
    exact hP
  · exact ⟨fun c => by omega, fun c => ⟨fun c4 => bad 2 (by decide) (kn c c4 (by unfold ab_at; rw [if_neg (by omega), if_pos c0, if_neg (by omega)])), fun c4 => by omega⟩⟩
  · rw [n12] at c3
    exact ⟨fun c => by omega, fun c => ⟨fun c4 => bad 2 (by decide) (kn c c4 (by unfold ab_at; rw [if_neg (by omega), if_pos c0, if_neg (by omega)])), fun c4 => by omega⟩⟩
  · rw [n12] at c3
    refine ⟨fun c => by omega, fun c => ⟨fun c4 => ?_, fun c4 => by omega⟩⟩
    have ea : ab_at x.2.2 w i = some (x.2.2.2.1.getD i.toNat ([], [])) := by unfold ab_at; rw [if_neg (by omega), if_pos c0, if_pos ⟨c2, c3⟩]
    obtain ⟨r1, r2, r3, r4⟩ := MWe i.toNat (by omega)
    obtain ⟨p1, p2, p3, p4, p5⟩ := rowp x.2.2.2.1 (m + 7) (m + 8) (m + 9) 200 0 MWe ac7.2 (by omega) (by omega) (by omega) (by omega) c2 c3
    generalize x.2.2.2.1.getD i.toNat ([], []) = q at *
    have it : ((i.toNat : Nat) : Int) = i := by omega
    refine g79_77 ⟨hM.1, fun h1 e1 => ⟨hM.1, fun _ h2 e2 => ⟨fun y => absurd c0 y, fun _ => ⟨m + 8, ac8.1, 10, ac8.2, by omega, by omega, ?_⟩⟩, fun y => by rw [e1, up_eq] at y; omega⟩⟩
    have f2 : ∀ c, c ≠ m → h2 c = h c := fun c u => by rw [e2, up_ne u, e1, up_ne u]
    have j2 : ∀ j, j ≠ 0 → j ≠ 3 → h2 m j = h m j := fun j u1 u2 => by rw [e2, up_col u2, e1, up_col u1]
    rw [show h2 (m + 8) i.toNat = ((q.1.length : Nat) : Int) by rw [f2 _ (by omega)]; exact r1]
    refine g79_127 ⟨fun y => absurd c0 y, fun _ => ⟨hM.1, m + 9, ac9.1, 10, ac9.2, by omega, by omega, ?_⟩⟩
    rw [show h2 (m + 9) i.toNat = ((q.1.length + q.2.length : Nat) : Int) by rw [f2 _ (by omega)]; exact r2]
    refine page q c c4 ea p1 p2 p3 (by omega) p5 (fun n h3 P hn f3 hP => ?_) h2 (by rw [e2, up_eq]) (by rw [e2, up_col (by omega), e1, up_eq]) j2 f2
    refine g79_194 ⟨fun y => absurd c0 y, fun _ => ⟨hM.1, m + 7, ac7.1, by unfold oe_rg; omega, by unfold oe_rg; omega, 200, ac7.2, by omega, by omega, ?_⟩⟩
    have := r3 n (by rw [List.length_append]; exact hn)
    rw [show (20 * i + (n : Int)).toNat = 20 * i.toNat + n by omega, f3 _ (by omega) (by omega), this]
    exact hP
end
