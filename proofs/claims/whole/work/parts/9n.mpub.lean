/-! The reference: the public methods. -/
def MdF (h : Nat → Nat → Int) (m : Nat) (x : abF) : Prop := MdT h m x.1 ∧ MdP h m x.2.1 ∧ MdK h m x.2.2
theorem MdK.kept {h h' : Nat → Nat → Int} {m : Nat} {s : abS} (H : MdK h m s) (e : ∀ c, m + 4 ≤ c → c ≤ m + 11 → h' c = h c) (e8 : h' m 8 = h m 8) (e12 : h' m 12 = h m 12) (e16 : h' m 16 = h m 16) (e17 : h' m 17 = h m 17) : MdK h' m s :=
  ⟨H.1.kept (fun c z1 z2 => e c z1 (by omega)) e8 e12 e16, H.2.kept e17 (fun i _ => by rw [e _ (by omega) (by omega)]) (fun i _ => by rw [e _ (by omega) (by omega)])⟩
/-- outside the reference nothing changes -/
def md_o (m : Nat) (h h' : Nat → Nat → Int) : Prop := ∀ c, c < m ∨ m + 30 < c → h' c = h c
section
variable {D : Nat} {sh : List (Nat × Nat)} {g : Nat → Nat → Option Nat} {h : Nat → Nat → Int} {Q : oeQ}
theorem m_thrown (hDD : 2 ≤ D) {m : Nat} (hM : MdS sh g m) (k : Q (some (.inl (h m 0))) (sh, g, h)) : oe_M D 29 [.inr (.inl m)] (sh, g, h) Q := by
  obtain ⟨d, rfl⟩ : ∃ d, D = d + 2 := ⟨D - 2, by omega⟩
  exact g29 ⟨hM.1, k⟩
/-- the fault is set; all else is as it was -/
theorem md_fault {m : Nat} {x : abF} {v : Int} {h' : Nat → Nat → Int} (hF : MdF h m x) (e : h' = oe_up h m 0 v) : MdF h' m x ∧ h' m 0 = v ∧ md_o m h h' :=
  ⟨⟨hF.1.kept (by rw [e, up_col (by omega)]) (by rw [e, up_ne (by omega)]), hF.2.1.kept (by rw [e, up_col (by omega)]) (by rw [e, up_ne (by omega)]), hF.2.2.kept (fun c z1 z2 => by rw [e, up_ne (by omega)]) (by rw [e, up_col (by omega)]) (by rw [e, up_col (by omega)]) (by rw [e, up_col (by omega)]) (by rw [e, up_col (by omega)])⟩, by rw [e, up_eq], fun c z => by rw [e, up_ne (by omega)]⟩
theorem m_type (hDD : 2 ≤ D) {m : Nat} (hM : MdS sh g m) {x : abF} (hF : MdF h m x) (c : Int)
    (k : ∀ h', MdF h' m (ab_type x c).2 → h' m 0 = 0 → md_o m h h' → Q (some (.inl (ab_type x c).1)) (sh, g, h')) : oe_M D 30 [.inr (.inl m), .inl c] (sh, g, h) Q := by
  obtain ⟨d, rfl⟩ : ∃ d, D = d + 2 := ⟨D - 2, by omega⟩
  have ac := md_2 hM
  refine g30 ⟨hM.1, fun h1 e1 => ?_⟩
  obtain ⟨F1, z1, o1⟩ := md_fault hF e1
  unfold ab_type at k
  have no : (c < 32 ∨ 126 < c ∨ 60 ≤ x.1.length) → Q (some (.inl 0)) (sh, g, h1) := fun z => by
    rw [if_pos z] at k
    exact k h1 F1 z1 o1
  have F1' := F1
  obtain ⟨⟨t1, t2, t3, t4⟩, hP, hK⟩ := F1
  refine ⟨fun c1 => no (Or.inl c1), fun c1 => ⟨fun c2 => no (Or.inr (Or.inl c2)), fun c2 => ⟨fun c3 => ⟨m + 1, ac.1, 60, ac.2, by omega, by omega, fun h2 e2 => ?_⟩, fun c3 => no (Or.inr (Or.inr (by rw [t1] at c3; omega)))⟩⟩⟩
  rw [t1] at c3
  rw [if_neg (show ¬ (c < 32 ∨ 126 < c ∨ 60 ≤ x.1.length) by omega)] at k
  rw [t1, Int.toNat_natCast] at e2
  have n2 : h2 m 1 = ((x.1.length : Nat) : Int) := by rw [e2, up_ne (by omega)]; exact t1
  refine ⟨by rw [n2]; unfold oe_rg; omega, fun h3 e3 => ?_⟩
  rw [n2] at e3
  have f3 : ∀ c, c ≠ m → c ≠ m + 1 → h3 c = h1 c := fun c y1 y2 => by rw [e3, up_ne y1, e2, up_ne y2]
  have f0 : ∀ j, j ≠ 1 → h3 m j = h1 m j := fun j hj => by rw [e3, up_col hj, e2, up_ne (by omega)]
  refine k h3 ⟨⟨?_, ?_, fun i hi => ?_, fun y hy => ?_⟩, hP.kept (f0 3 (by omega)) (f3 _ (by omega) (by omega)), hK.kept (fun c y1 y2 => f3 c (by omega) (by omega)) (f0 _ (by omega)) (f0 _ (by omega)) (f0 _ (by omega)) (f0 _ (by omega))⟩ (by rw [f0 0 (by omega)]; exact z1) (fun c z => by rw [f3 c (by omega) (by omega), o1 c z])
  · show h3 m 1 = (((x.1 ++ [c.toNat]).length : Nat) : Int)
    rw [e3, up_eq, List.length_append]; simp
  · show (x.1 ++ [c.toNat]).length ≤ 60
    rw [List.length_append]; simp; omega
  · have hi : i < (x.1 ++ [c.toNat]).length := hi
    show h3 (m + 1) i = (((x.1 ++ [c.toNat]).getD i 0 : Nat) : Int)
    rw [List.length_append] at hi
    have hi : i < x.1.length + 1 := hi
    rw [e3, up_ne (by omega), e2]
    by_cases ei : i = x.1.length
    · subst ei
      rw [up_eq, ol_getD_app2 (Nat.le_refl _), Nat.sub_self]
      show c = ((c.toNat : Nat) : Int)
      omega
    · rw [up_col ei, ol_getD_app1 (by omega)]; exact t3 i (by omega)
  · have hy : y ∈ x.1 ++ [c.toNat] := hy
    rcases List.mem_append.mp hy with z | z
    · exact t4 y z
    · rw [List.mem_singleton.mp z]; omega
theorem m_wipe (hDD : 2 ≤ D) {m : Nat} (hM : MdS sh g m) {x : abF} (hF : MdF h m x)
    (k : ∀ h', MdF h' m ([], x.2) → h' m 0 = 0 → md_o m h h' → Q (some (.inl ((x.1.length : Nat) : Int))) (sh, g, h')) : oe_M D 31 [.inr (.inl m)] (sh, g, h) Q := by
  obtain ⟨d, rfl⟩ : ∃ d, D = d + 2 := ⟨D - 2, by omega⟩
  refine g31 ⟨hM.1, fun h1 e1 h2 e2 => ?_⟩
  obtain ⟨F1, z1, o1⟩ := md_fault hF e1
  rw [F1.1.1]
  exact k h2 ⟨MdT_nil (by rw [e2, up_eq]), F1.2.1.kept (by rw [e2, up_col (by omega)]) (by rw [e2, up_ne (by omega)]), F1.2.2.kept (fun c y1 y2 => by rw [e2, up_ne (by omega)]) (by rw [e2, up_col (by omega)]) (by rw [e2, up_col (by omega)]) (by rw [e2, up_col (by omega)]) (by rw [e2, up_col (by omega)])⟩ (by rw [e2, up_col (by omega)]; exact z1) (fun c z => by rw [e2, up_ne (by omega), o1 c z])
theorem m_length (hDD : 2 ≤ D) {m : Nat} (hM : MdS sh g m) {x : abF} (hF : MdF h m x)
    (k : ∀ h', MdF h' m x → h' m 0 = 0 → md_o m h h' → Q (some (.inl ((x.2.1.length : Nat) : Int))) (sh, g, h')) : oe_M D 83 [.inr (.inl m)] (sh, g, h) Q := by
  obtain ⟨d, rfl⟩ : ∃ d, D = d + 2 := ⟨D - 2, by omega⟩
  refine g83 ⟨hM.1, fun h1 e1 => ?_⟩
  obtain ⟨F1, z1, o1⟩ := md_fault hF e1
  rw [F1.2.1.1]; exact k h1 F1 z1 o1
theorem m_charAt (hDD : 2 ≤ D) {m : Nat} (hM : MdS sh g m) {x : abF} (hF : MdF h m x) (p : Int)
    (k : ∀ h', MdF h' m x → h' m 0 = 0 → md_o m h h' → Q (some (.inl (if 0 ≤ p ∧ p < ((x.2.1.length : Nat) : Int) then ((x.2.1.getD p.toNat 0 : Nat) : Int) else 32))) (sh, g, h')) : oe_M D 84 [.inr (.inl m), .inl p] (sh, g, h) Q := by
  obtain ⟨d, rfl⟩ : ∃ d, D = d + 2 := ⟨D - 2, by omega⟩
  have ac := md_4 hM
  refine g84 ⟨hM.1, fun h1 e1 => ?_⟩
  obtain ⟨F1, z1, o1⟩ := md_fault hF e1
  have k := k h1 F1 z1 o1
  obtain ⟨q1, q2, q3, q4⟩ := F1.2.1
  refine ⟨fun c => ⟨by omega, ?_⟩, fun c => ⟨fun c2 => ⟨m + 2, ac.1, 70, ac.2, by omega, by rw [q1] at c2; omega, ?_⟩, fun c2 => ⟨by omega, ?_⟩⟩⟩
  · rw [if_neg (by omega)] at k; exact k
  · rw [q1] at c2
    rw [if_pos ⟨c, c2⟩] at k
    have hi : p.toNat < x.2.1.length := by omega
    have := q4 _ (show x.2.1.getD p.toNat 0 ∈ x.2.1 by rw [List.getD_eq_getElem?_getD, List.getElem?_eq_getElem hi]; exact List.getElem_mem hi)
    rw [q3 _ hi, show ((x.2.1.getD p.toNat 0 : Nat) : Int) % 65536 = ((x.2.1.getD p.toNat 0 : Nat) : Int) by omega]
    exact ⟨by omega, k⟩
  · rw [q1] at c2
    rw [if_neg (by omega)] at k; exact k
/-- after reading: all but the text is as it was -/
theorem md_rd {m : Nat} {x : abF} {h' : Nat → Nat → Int} (hF : MdF h m x) (t0 : h' m 1 = 0) (fo : ∀ j, j ≠ 1 → j ≠ 6 → j ≠ 7 → h' m j = h m j) (fr : ∀ c, c ≠ m → c ≠ m + 3 → h' c = h c) : MdF h' m ([], x.2) :=
  ⟨MdT_nil t0, hF.2.1.kept (fo 3 (by omega) (by omega) (by omega)) (fr _ (by omega) (by omega)), hF.2.2.kept (fun c z1 z2 => fr c (by omega) (by omega)) (fo _ (by omega) (by omega) (by omega)) (fo _ (by omega) (by omega) (by omega)) (fo _ (by omega) (by omega) (by omega)) (fo _ (by omega) (by omega) (by omega))⟩
theorem m_axm (hDD : 20 ≤ D) {m : Nat} (hM : MdS sh g m) {x : abF} (hF : MdF h m x)
    (k : x.2.2.1.length < 30 → ∀ h', MdF h' m (ab_axm x).2 → h' m 0 = 0 → md_o m h h' → Q (some (.inl (ab_axm x).1)) (sh, g, h'))
    (kt : x.2.2.1.length = 30 → ∀ h', MdF h' m x → h' m 0 = 1 → md_o m h h' → Q (some (.inl 0)) (sh, g, h')) : oe_M D 73 [.inr (.inl m)] (sh, g, h) Q := by
  obtain ⟨d, rfl⟩ : ∃ d, D = d + 2 := ⟨D - 2, by omega⟩
  have n8 := hF.2.2.1.1
  have w30 := hF.2.2.1.2.1
  refine g73 ⟨hM.1, fun c => ?_, fun c => ?_⟩
  rotate_left
  · rw [n8] at c
    refine g73_15 ⟨hM.1, fun h1 e1 => ?_⟩
    obtain ⟨F1, z1, o1⟩ := md_fault hF e1
    exact ⟨hM.1, fun c2 => by omega, fun _ => kt (by omega) h1 F1 z1 o1⟩
  rw [n8] at c
  have hfull : x.2.2.1.length < 30 := by omega
  have k := k hfull
  refine g73_15 ⟨hM.1, fun h1 e1 => ?_⟩
  obtain ⟨F1, z1, o1⟩ := md_fault hF e1
  refine ⟨hM.1, fun _ => ?_, fun c2 => by omega⟩
  have T60 := F1.1.2.1
  unfold ab_axm at k
  refine m_read (by omega) hM F1.1 true true 0 (Or.inl ⟨rfl, rfl, rfl⟩) (fun i h2 hr t0 fo fr => ?_) (fun q h2 hr M2 n7 n6 _ t0 fo fr => ?_)
  · rw [hr] at k
    have := rd_lt hr
    exact ⟨_, h2, rfl, rfl, fun c => by omega, fun _ => ⟨by unfold oe_rg; omega, k h2 (md_rd F1 t0 fo fr) (by rw [fo 0 (by omega) (by omega) (by omega)]; exact z1) (fun c hc => by rw [fr c (by omega) (by omega), o1 c hc])⟩⟩
  · rw [hr] at k
    try dsimp only at k
    obtain ⟨y1, y2, y3, y4, y5⟩ := rd_all hr
    have y4 := y4 rfl
    have n6 := n6 rfl
    have F2 := md_rd F1 t0 fo fr
    refine ⟨_, h2, rfl, rfl, fun _ => ⟨fun c2 => ?_, fun c2 => ?_⟩, fun c => absurd c (by decide)⟩
    · rw [n7] at c2
      rw [if_neg (show ¬ 20 < ol_w q by unfold ol_w; omega)] at k
      obtain ⟨w1, w2, w3, w4, w5, w6, w7⟩ := ol_nm_ok q
      have w8 := ol_nm_6 (rd_tm y1).2 (rd_tm y2).2
      have ok1 := (rd_tm y1).1
      have ok2 := (rd_tm y2).1
      refine m_sides (s := 2) (by omega) hM (by omega) (by omega) (by omega) (by omega) M2 n7 n6 (fun h3 A3 B3 G3 H3 F3 => ⟨h3, rfl, rfl, ?_⟩)
      refine m_namePair (by omega) hM ok1 ok2 (by omega) (by omega) A3 B3 (fun h4 A4 B4 F4 G4 H4 => ⟨_, h4, rfl, rfl, ?_⟩)
      have C4 : MdC h4 m x.2.2.1 x.2.2.2.1 x.2.2.2.2.2 := F2.2.2.1.kept (fun c z1 z2 => by rw [F4 c (by omega) (by omega) (by omega), F3 c (by omega) (by omega)]) (by rw [F4 m (by omega) (by omega) (by omega), F3 m (by omega) (by omega)]) (by rw [F4 m (by omega) (by omega) (by omega), F3 m (by omega) (by omega)]) (by rw [F4 m (by omega) (by omega) (by omega), F3 m (by omega) (by omega)])
      have G4' : MdG h4 m x.2.2.2.2.1 := F2.2.2.2.kept (by rw [F4 m (by omega) (by omega) (by omega), F3 m (by omega) (by omega)]) (fun i z => by rw [G4 i (by omega), G3 i (by omega)]) (fun i z => by rw [H4 i (by omega), H3 i (by omega) (by omega)])
      have qok : eq_ok (ol_nm q).1 := by
        obtain ⟨s, s1, s2⟩ := ol_tm_map w2.symm y3
        obtain ⟨t, t1, t2⟩ := ol_tm_map w3.symm y4
        refine ⟨⟨s, t, s1, t1, s2, t2⟩, by omega, fun c hc => ?_, fun c hc => ?_, fun c hc hc2 => ?_, fun c hc hc2 => ?_⟩
        · rcases w6 c hc with z | z
          · omega
          · exact ok1 c z.2
        · rcases w7 c hc with z | z
          · omega
          · exact ok2 c z.2
        · rcases w6 c hc with z | z <;> omega
        · rcases w7 c hc with z | z <;> omega
      refine m_await (a := (ol_nm q).1.1) (b := (ol_nm q).1.2) (by omega) hM hfull C4.1 C4.2.2.1 qok A4 B4 (fun h5 W5 n5 F5 J5 => ⟨h5, rfl, rfl, ?_⟩)
      rw [n5]
      refine k h5 ⟨MdT_nil (by rw [J5 1 (by omega), F4 m (by omega) (by omega) (by omega), F3 m (by omega) (by omega)]; exact t0), F2.2.1.kept (by rw [J5 3 (by omega), F4 m (by omega) (by omega) (by omega), F3 m (by omega) (by omega)]) (by rw [F5 _ (by omega) (by omega) (by omega) (by omega), F4 _ (by omega) (by omega) (by omega), F3 _ (by omega) (by omega)]), ⟨?_, ?_, W5, by rw [J5 12 (by omega)]; exact C4.2.2.2.1, C4.2.2.2.2.1, C4.2.2.2.2.2.1.kept (F5 _ (by omega) (by omega) (by omega) (by omega)) (F5 _ (by omega) (by omega) (by omega) (by omega)) (F5 _ (by omega) (by omega) (by omega) (by omega)), by rw [J5 16 (by omega)]; exact C4.2.2.2.2.2.2⟩, G4'.kept (J5 17 (by omega)) (fun i _ => by rw [F5 _ (by omega) (by omega) (by omega) (by omega)]) (fun i _ => by rw [F5 _ (by omega) (by omega) (by omega) (by omega)])⟩ (by rw [J5 0 (by omega), F4 m (by omega) (by omega) (by omega), F3 m (by omega) (by omega), fo 0 (by omega) (by omega) (by omega)]; exact z1) (fun c hc => by rw [F5 c (by omega) (by omega) (by omega) (by omega), F4 c (by omega) (by omega) (by omega), F3 c (by omega) (by omega), fr c (by omega) (by omega), o1 c hc])
      · rw [n5]; simp
      · simp; omega
    · rw [n7] at c2
      rw [if_pos (show 20 < ol_w q by unfold ol_w; omega)] at k
      exact k h2 F2 (by rw [fo 0 (by omega) (by omega) (by omega)]; exact z1) (fun c hc => by rw [fr c (by omega) (by omega), o1 c hc])
theorem m_goal (hDD : 20 ≤ D) {m : Nat} (hM : MdS sh g m) {x : abF} (hF : MdF h m x)
    (k : ∀ h', MdF h' m (ab_goal x).2 → h' m 0 = 0 → md_o m h h' → Q (some (.inl (ab_goal x).1)) (sh, g, h')) : oe_M D 74 [.inr (.inl m)] (sh, g, h) Q := by
  obtain ⟨d, rfl⟩ : ∃ d, D = d + 2 := ⟨D - 2, by omega⟩
  refine g74 ⟨hM.1, fun h1 e1 => ?_⟩
  obtain ⟨F1, z1, o1⟩ := md_fault hF e1
  have T60 := F1.1.2.1
  unfold ab_goal at k
  refine m_read (by omega) hM F1.1 true false 1 (Or.inr (Or.inl ⟨rfl, rfl, rfl⟩)) (fun i h2 hr t0 fo fr => ?_) (fun q h2 hr M2 n7 n6 _ t0 fo fr => ?_)
  · rw [hr] at k
    have := rd_lt hr
    exact ⟨_, h2, rfl, rfl, fun c => by omega, fun _ => ⟨by unfold oe_rg; omega, k h2 (md_rd F1 t0 fo fr) (by rw [fo 0 (by omega) (by omega) (by omega)]; exact z1) (fun c hc => by rw [fr c (by omega) (by omega), o1 c hc])⟩⟩
  · rw [hr] at k
    try dsimp only at k
    obtain ⟨y1, y2, y3, y4, y5⟩ := rd_all hr
    have y4 := y4 rfl
    have n6 := n6 rfl
    have F2 := md_rd F1 t0 fo fr
    have heavy : (20 < q.1.length ∨ 20 < q.2.length) → Q (some (.inl (-200))) (sh, g, h2) := fun z => by
      rw [if_pos z] at k
      exact k h2 F2 (by rw [fo 0 (by omega) (by omega) (by omega)]; exact z1) (fun c hc => by rw [fr c (by omega) (by omega), o1 c hc])
    refine ⟨_, h2, rfl, rfl, fun _ => ⟨fun c2 => heavy (Or.inl (by rw [n6] at c2; omega)), fun c2 => ⟨by rw [n6, n7]; unfold oe_rg; omega, fun c3 => ?_, fun c3 => heavy (Or.inr (by rw [n6, n7] at c3; omega))⟩⟩, fun c => absurd c (by decide)⟩
    rw [n6] at c2
    rw [n6, n7] at c3
    rw [if_neg (show ¬ (20 < q.1.length ∨ 20 < q.2.length) by omega)] at k
    refine m_sides (s := 0) (by omega) hM (by omega) (by omega) (by omega) (by omega) M2 n7 n6 (fun h3 A3 B3 G3 H3 F3 => ⟨h3, rfl, rfl, fun h4 e4 => ?_⟩)
    have f4 : ∀ c, c ≠ m → c ≠ m + 10 → c ≠ m + 11 → h4 c = h2 c := fun c z1 z2 z3 => by rw [e4, up_ne z1, F3 c z2 z3]
    have j4 : ∀ j, j ≠ 17 → h4 m j = h2 m j := fun j hj => by rw [e4, up_col hj, F3 m (by omega) (by omega)]
    have C4 : MdC h4 m x.2.2.1 x.2.2.2.1 x.2.2.2.2.2 := F2.2.2.1.kept (fun c z1 z2 => f4 c (by omega) (by omega) (by omega)) (j4 _ (by omega)) (j4 _ (by omega)) (j4 _ (by omega))
    have G4 : MdG h4 m (some q) := Or.inr ⟨q, rfl, by rw [e4, up_eq], A3.kept (by rw [e4, up_ne (by omega)]) (fun i _ => by rw [e4, up_ne (by omega)]), B3.kept (by rw [e4, up_ne (by omega)]) (fun i _ => by rw [e4, up_ne (by omega)]), ⟨y3, by omega, (rd_tm y1).1⟩, ⟨y4, by omega, (rd_tm y2).1⟩, fun c hc h12 => by
      rcases List.mem_append.mp hc with z | z
      · exact (rd_tm y1).2 c z h12
      · exact (rd_tm y2).2 c z h12⟩
    refine m_reduceGoal (by omega) hM C4 G4 (fun h5 C5 G5 f5 => ⟨h5, rfl, rfl, ?_⟩)
    have fin : MdF h5 m ([], x.2.1, x.2.2.1, x.2.2.2.1, some (ab_low x.2.2.2.1 q), x.2.2.2.2.2) :=
      ⟨MdT_nil (by rw [f5.2 1 (by omega), j4 1 (by omega)]; exact t0), F2.2.1.kept (by rw [f5.2 3 (by omega), j4 3 (by omega)]) (by rw [f5.1 _ (by omega), f4 _ (by omega) (by omega) (by omega)]), C5, G5⟩
    have kk := k h5 fin (by rw [f5.2 0 (by omega), j4 0 (by omega), fo 0 (by omega) (by omega) (by omega)]; exact z1) (fun c hc => by rw [f5.1 c (by omega), f4 c (by omega) (by omega) (by omega), fr c (by omega) (by omega), o1 c hc])
    refine m_proved (by omega) hM G5 (fun z => ⟨1, rfl, rfl, fun c => absurd c (by decide), fun _ => ?_⟩) (fun z => ⟨0, rfl, rfl, fun _ => ?_, fun c => absurd rfl c⟩)
    · obtain ⟨q', e1, e2⟩ := z
      cases e1
      rw [if_pos e2] at kk; exact kk
    · rw [if_neg (fun y => z ⟨_, rfl, y⟩)] at kk; exact kk
theorem m_step (hDD : 32 ≤ D) {m : Nat} (hM : MdS sh g m) {x : abF} (hF : MdF h m x) (hlb : x.2.2.2.2.2 < 1700000000)
    (k : ∀ h', MdF h' m (x.1, x.2.1, (ab_st x.2.2).2) → h' m 0 = 0 → md_o m h h' → Q (some (.inl (((ab_st x.2.2).1 : Nat) : Int))) (sh, g, h')) : oe_M D 75 [.inr (.inl m)] (sh, g, h) Q := by
  obtain ⟨d, rfl⟩ : ∃ d, D = d + 2 := ⟨D - 2, by omega⟩
  refine g75 ⟨hM.1, fun h1 e1 => ?_⟩
  obtain ⟨F1, z1, o1⟩ := md_fault hF e1
  refine m_one (by omega) hM F1.2.2 (by omega) (fun h2 K2 b2 f2 => ⟨_, h2, rfl, rfl, ?_⟩)
  exact k h2 ⟨F1.1.kept (f2.2 1 (by omega)) (f2.1 _ (by omega)), F1.2.1.kept (f2.2 3 (by omega)) (f2.1 _ (by omega)), K2⟩ (by rw [f2.2 0 (by omega)]; exact z1) (fun c hc => by rw [f2.1 c (by omega), o1 c hc])
theorem m_steps (hDD : 34 ≤ D) {m : Nat} (hM : MdS sh g m) {x : abF} (hF : MdF h m x) (hlb : x.2.2.2.2.2 < 1700000000) (w : Int)
    (k : 1 ≤ w → w ≤ 20 → ∀ h', MdF h' m (x.1, x.2.1, (ab_more (w.toNat - 1) (ab_st x.2.2)).2) → h' m 0 = 0 → md_o m h h' → Q (some (.inl (((ab_more (w.toNat - 1) (ab_st x.2.2)).1 : Nat) : Int))) (sh, g, h'))
    (kt : w < 1 ∨ 20 < w → ∀ h', MdF h' m x → h' m 0 = 1 → md_o m h h' → Q (some (.inl 0)) (sh, g, h')) : oe_M D 76 [.inr (.inl m), .inl w] (sh, g, h) Q := by
  obtain ⟨d, rfl⟩ : ∃ d, D = d + 2 := ⟨D - 2, by omega⟩
  refine g76 ⟨fun c => ⟨hM.1, fun h1 e1 => ?_⟩, fun c => ⟨fun c2 => ⟨hM.1, fun h1 e1 => ?_⟩, fun c2 => ⟨hM.1, fun h1 e1 => ?_⟩⟩⟩
  · obtain ⟨F1, z1, o1⟩ := md_fault hF e1
    exact ⟨fun c3 => by omega, fun _ => kt (Or.inl c) h1 F1 z1 o1⟩
  rotate_left
  · obtain ⟨F1, z1, o1⟩ := md_fault hF e1
    exact ⟨fun c3 => by omega, fun _ => kt (Or.inr c2) h1 F1 z1 o1⟩
  obtain ⟨F1, z1, o1⟩ := md_fault hF e1
  have k := k c c2
  obtain ⟨n0, rfl⟩ : ∃ n0 : Nat, w = (n0 : Int) := ⟨w.toNat, by omega⟩
  rw [Int.toNat_natCast] at k
  refine ⟨fun _ => ?_, fun c3 => by omega⟩
  have fin : ∀ (r : Nat × abS) (h2 : Nat → Nat → Int), r = ab_more (n0 - 1) (ab_st x.2.2) → MdK h2 m r.2 → md_f2 m h1 h2 → Q (some (.inl ((r.1 : Nat) : Int))) (sh, g, h2) := by
    intro r h2 he K2 f2
    rw [← he] at k
    exact k h2 ⟨F1.1.kept (f2.2 1 (by omega)) (f2.1 _ (by omega)), F1.2.1.kept (f2.2 3 (by omega)) (f2.1 _ (by omega)), K2⟩ (by rw [f2.2 0 (by omega)]; exact z1) (fun c hc => by rw [f2.1 c (by omega), o1 c hc])
  have loop : ∀ (n i : Nat) (r : Nat × abS) (h2 : Nat → Nat → Int), n0 - i = n → 1 ≤ i → i ≤ n0 → ab_more n r = ab_more (n0 - 1) (ab_st x.2.2) → r.2.2.2.2 ≤ x.2.2.2.2.2 + 1600 * i → MdK h2 m r.2 → md_f2 m h1 h2 →
      oe_V (oe_cost 76) 76 (oe_M (d + 1)) none Q 33 [some (.inr (.inl m)), some (.inl (n0 : Int)), some (.inl ((r.1 : Nat) : Int)), some (.inl (i : Int))] [] (sh, g, h2) 0 0 := by
    intro n
    induction n with
    | zero =>
      intro i r h2 hn hi him he hb K2 f2
      exact g76_33 ⟨fun _ => fin r h2 he K2 f2, fun c => by omega⟩
    | succ n ih =>
      intro i r h2 hn hi him he hb K2 f2
      have stop : (r.1 = 0 ∨ r.1 = 1) → Q (some (.inl ((r.1 : Nat) : Int))) (sh, g, h2) := by
        intro z
        rw [ab_more_end z] at he
        exact fin r h2 he K2 f2
      refine g76_33 ⟨fun c => by omega, fun _ => ⟨fun c => stop (Or.inl (by omega)), fun c => ⟨fun c2 => stop (Or.inr (by omega)), fun c2 => ⟨hM.1, ?_⟩⟩⟩⟩
      have he : (if r.1 = 0 ∨ r.1 = 1 then r else ab_more n (ab_st r.2)) = ab_more (n0 - 1) (ab_st x.2.2) := he
      rw [if_neg (by omega)] at he
      refine m_one (by omega) hM K2 (by omega) (fun h3 K3 b3 f3 => ⟨_, h3, rfl, rfl, by unfold oe_rg; omega, ?_⟩)
      have i1 : ((i : Int) + 1) = ((i + 1 : Nat) : Int) := by omega
      rw [i1]
      exact ih (i + 1) (ab_st r.2) h3 (by clear he b3 hb K2 K3; omega) (by clear he b3 hb K2 K3; omega) (by clear he b3 hb K2 K3; omega) he (st_b3 _ _ _ _ b3 hb) K3 (md_f2_tr f2 f3)
  refine g76_33 ⟨fun c => by omega, fun _ => ⟨fun c => by omega, fun _ => ⟨fun c => by omega, fun _ => ⟨hM.1, ?_⟩⟩⟩⟩
  refine m_one (by omega) hM F1.2.2 (by omega) (fun h3 K3 b3 f3 => ⟨_, h3, rfl, rfl, by unfold oe_rg; omega, ?_⟩)
  exact loop (n0 - 1) 1 (ab_st x.2.2) h3 rfl (by omega) (by omega) rfl (by omega) K3 f3
theorem m_count (hDD : 2 ≤ D) {m : Nat} (hM : MdS sh g m) {x : abF} (hF : MdF h m x) (w : Int)
    (k : 0 ≤ w → w ≤ 2 → ∀ h', MdF h' m x → h' m 0 = 0 → md_o m h h' → Q (some (.inl (((if w = 0 then x.2.2.2.1.length else if w = 1 then x.2.2.1.length else x.2.2.2.2.2) : Nat) : Int))) (sh, g, h'))
    (kt : w < 0 ∨ 2 < w → ∀ h', MdF h' m x → h' m 0 = 1 → md_o m h h' → Q (some (.inl 0)) (sh, g, h')) : oe_M D 77 [.inr (.inl m), .inl w] (sh, g, h) Q := by
  obtain ⟨d, rfl⟩ : ∃ d, D = d + 2 := ⟨D - 2, by omega⟩
  refine g77 ⟨fun c => ⟨hM.1, fun h1 e1 => ?_⟩, fun c => ⟨fun c2 => ⟨hM.1, fun h1 e1 => ?_⟩, fun c2 => ⟨hM.1, fun h1 e1 => ?_⟩⟩⟩
  · obtain ⟨F1, z1, o1⟩ := md_fault hF e1
    exact ⟨fun c3 => by omega, fun _ => kt (Or.inl c) h1 F1 z1 o1⟩
  · obtain ⟨F1, z1, o1⟩ := md_fault hF e1
    have k := k c c2 h1 F1 z1 o1
    obtain ⟨n8, _, _, n12, _, _, n16⟩ := F1.2.2.1
    refine ⟨fun _ => ⟨fun c3 => ⟨fun c4 => ?_, fun c4 => ?_⟩, fun c3 => ?_⟩, fun c3 => by omega⟩
    · rw [n16]; rw [if_neg c3, if_neg c4] at k; exact k
    · rw [n8]; rw [if_neg c3, if_pos c4] at k; exact k
    · rw [n12]; rw [if_pos c3] at k; exact k
  · obtain ⟨F1, z1, o1⟩ := md_fault hF e1
    exact ⟨fun c3 => by omega, fun _ => kt (Or.inr c2) h1 F1 z1 o1⟩
end
