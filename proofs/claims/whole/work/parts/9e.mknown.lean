/-! The reference: a pair is named; what is known; a pair waits. -/
def md_fn (m : Nat) (h h' : Nat → Nat → Int) : Prop := (∀ c, c ≠ m + 10 → c ≠ m + 11 → c ≠ m + 12 → h' c = h c) ∧ (∀ i, i < 160 → h' (m + 10) i = h (m + 10) i) ∧ ∀ i, i < 4 → h' (m + 11) i = h (m + 11) i
theorem ol_nm_20 {a b : List Nat} (oa : ol_ok a) (ob : ol_ok b) : ol_ok (ol_nm (a, b)).1.1 ∧ ol_ok (ol_nm (a, b)).1.2 := by
  obtain ⟨_, _, _, _, _, z1, z2⟩ := ol_nm_ok (a, b)
  exact ⟨fun c hc => by rcases z1 c hc with q | q; omega; exact oa c q.2, fun c hc => by rcases z2 c hc with q | q; omega; exact ob c q.2⟩
section
variable {D : Nat} {sh : List (Nat × Nat)} {g : Nat → Nat → Option Nat} {h : Nat → Nat → Int} {Q : oeQ}
theorem m_namePair (hDD : 3 ≤ D) {m : Nat} (hM : MdS sh g m) {a b : List Nat} (oa : ol_ok a) (ob : ol_ok b) (la : a.length ≤ 40) (lb : b.length ≤ 40) (A : SD h m 2 a) (B : SD h m 3 b)
    (k : ∀ h', SD h' m 2 (ol_nm (a, b)).1.1 → SD h' m 3 (ol_nm (a, b)).1.2 → (∀ c, c ≠ m + 10 → c ≠ m + 11 → c ≠ m + 12 → h' c = h c) → (∀ i, i < 80 → h' (m + 10) i = h (m + 10) i) → (∀ i, i < 4 → h' (m + 11) i = h (m + 11) i) → Q (some (.inl (((ol_nm (a, b)).2 : Nat) : Int))) (sh, g, h')) : oe_M D 54 [.inr (.inl m)] (sh, g, h) Q := by
  obtain ⟨d, rfl⟩ : ∃ d, D = d + 2 := ⟨D - 2, by omega⟩
  have acS := md_18 hM
  have la' : (ol_nm (a, b)).1.1.length = a.length := ol_ren_len _ _ _
  have lb' : (ol_nm (a, b)).1.2.length = b.length := ol_ren_len _ _ _
  refine g54 ⟨hM.1, m_nameAs (s := 2) (t := 3) (by omega) hM (by omega) (by omega) oa ob la lb A B (fun h1 A1 B1 F1 G1 H1 => ⟨_, h1, rfl, rfl, ?_⟩)⟩
  have loop : ∀ (n i : Nat) (h2 : Nat → Nat → Int), 40 - i = n → i ≤ 40 → (∀ j, j < i → h2 (m + 10) (80 + j) = h1 (m + 10) (160 + j) ∧ h2 (m + 10) (120 + j) = h1 (m + 10) (200 + j)) → (∀ j, j < 80 ∨ 160 ≤ j → h2 (m + 10) j = h1 (m + 10) j) → (∀ c, c ≠ m + 10 → h2 c = h1 c) →
      oe_V (oe_cost 54) 54 (oe_M (d + 1)) none Q 9 [some (.inr (.inl m)), some (.inl (((ol_nm (a, b)).2 : Nat) : Int)), some (.inl (i : Int))] [] (sh, g, h2) 0 0 := by
    intro n
    induction n with
    | zero =>
      intro i h2 hn hi P2 R2 F2
      refine g54_9 ⟨fun _ => k h2 ⟨?_, fun j hj => ?_⟩ ⟨?_, fun j hj => ?_⟩ (fun c y1 y2 y3 => by rw [F2 c y1, F1 c y1 y2 y3]) (fun j hj => by rw [R2 j (by omega), G1 j (by omega)]) (fun j hj => by rw [F2 _ (by omega), H1 j hj]), fun c => by omega⟩
      · rw [F2 _ (by omega), H1 2 (by omega), A.1, la']
      · have := (P2 j (by omega)).1
        rw [show 40 * 2 + j = 80 + j by omega, this]; exact A1.2 j hj
      · rw [F2 _ (by omega), H1 3 (by omega), B.1, lb']
      · have := (P2 j (by omega)).2
        rw [show 40 * 3 + j = 120 + j by omega, this]; exact B1.2 j hj
    | succ n ih =>
      intro i h2 hn hi P2 R2 F2
      refine g54_9 ⟨fun c => by omega, fun _ => ⟨hM.1, m + 10, acS.1, by unfold oe_rg; omega, by unfold oe_rg; omega, 240, acS.2, by omega, by omega, by omega, by omega, fun h3 e3 => ⟨by unfold oe_rg; omega, by unfold oe_rg; omega, by omega, by omega, by omega, by omega, fun h4 e4 => ⟨by unfold oe_rg; omega, ?_⟩⟩⟩⟩
      rw [show (80 + (i : Int)).toNat = 80 + i by omega, show (160 + (i : Int)).toNat = 160 + i by omega, R2 (160 + i) (by omega)] at e3
      rw [show (120 + (i : Int)).toNat = 120 + i by omega, show (200 + (i : Int)).toNat = 200 + i by omega, show h3 (m + 10) (200 + i) = h1 (m + 10) (200 + i) by rw [e3, up_col (by omega)]; exact R2 _ (by omega)] at e4
      rw [show (i : Int) + 1 = ((i + 1 : Nat) : Int) by omega]
      refine ih (i + 1) h4 (by omega) (by omega) (fun j hj => ?_) (fun j hj => by rw [e4, up_col (by omega), e3, up_col (by omega)]; exact R2 j hj) (fun c hc => by rw [e4, up_ne hc, e3, up_ne hc]; exact F2 c hc)
      by_cases ej : j = i
      · subst ej
        exact ⟨by rw [e4, up_col (by omega), e3, up_eq], by rw [e4, up_eq]⟩
      · exact ⟨by rw [e4, up_col (by omega), e3, up_col (by omega)]; exact (P2 j (by omega)).1, by rw [e4, up_col (by omega), e3, up_col (by omega)]; exact (P2 j (by omega)).2⟩
  exact loop 40 0 h1 rfl (by omega) (fun j hj => by omega) (fun _ _ => rfl) (fun _ _ => rfl)
theorem m_isIn (hDD : 2 ≤ D) {m q N n s t : Nat} (hM : MdS sh g m) (hs : s < 6) (ht : t < 6) (hq : sh[q]? = some (0, N)) {x : List Nat × List Nat} {a b : List Nat} (ok : eq_ok x) (hn : 20 * n + 20 ≤ N) (hN : n ≤ 100) (X : MA h q (20 * n) (x.1 ++ x.2)) (oa : ol_ok a) (ob : ol_ok b) (la : a.length ≤ 40) (lb : b.length ≤ 40) (A : SD h m s a) (B : SD h m t b)
    (k1 : x = (a, b) → Q (some (.inl 1)) (sh, g, h)) (k0 : x ≠ (a, b) → Q (some (.inl 0)) (sh, g, h)) : oe_M D 55 [.inr (.inl m), .inr (.inl q), .inl (n : Int), .inl ((x.1.length : Nat) : Int), .inl ((x.1.length + x.2.length : Nat) : Int), .inl (s : Int), .inl (t : Int)] (sh, g, h) Q := by
  obtain ⟨d, rfl⟩ : ∃ d, D = d + 2 := ⟨D - 2, by omega⟩
  have acS := md_18 hM
  have acN := md_19 hM
  obtain ⟨_, qlen, ok1, ok2, _, _⟩ := ok
  have no : ∀ (i : Int), x ≠ (a, b) → oe_V (oe_cost 55) 55 (oe_M (d + 1)) none Q 41 [some (.inr (.inl m)), some (.inr (.inl q)), some (.inl (n : Int)), some (.inl ((x.1.length : Nat) : Int)), some (.inl ((x.1.length + x.2.length : Nat) : Int)), some (.inl (s : Int)), some (.inl (t : Int)), some (.inl 0), some (.inl i)] [] (sh, g, h) 0 0 := fun i hab => g55_41 ⟨fun _ => ⟨Or.inl rfl, k0 hab⟩, fun c => absurd rfl c⟩
  have loop : ∀ (k i : Nat), x.1.length + x.2.length - i = k → i ≤ x.1.length + x.2.length → x.1.length = a.length → x.2.length = b.length → (∀ j, j < i → (x.1 ++ x.2).getD j 0 = (a ++ b).getD j 0) → oe_V (oe_cost 55) 55 (oe_M (d + 1)) none Q 41 [some (.inr (.inl m)), some (.inr (.inl q)), some (.inl (n : Int)), some (.inl ((x.1.length : Nat) : Int)), some (.inl ((x.1.length + x.2.length : Nat) : Int)), some (.inl (s : Int)), some (.inl (t : Int)), some (.inl 1), some (.inl (i : Int))] [] (sh, g, h) 0 0 := by
    intro k
    induction k with
    | zero =>
      intro i hk hi l1 l2 hj
      refine g55_41 ⟨fun c => absurd c (by decide), fun _ => ⟨fun _ => ⟨Or.inr rfl, k1 ?_⟩, fun c => by omega⟩⟩
      have e : x.1 ++ x.2 = a ++ b := ol_ext (by rw [List.length_append, List.length_append]; omega) (fun j hj' => hj j (by rw [List.length_append] at hj'; omega))
      obtain ⟨e1, e2⟩ := List.append_inj e l1
      exact Prod.ext e1 e2
    | succ k ih =>
      intro i hk hi l1 l2 hj
      have xi : h q (20 * n + i) = om ((x.1 ++ x.2).getD i 0) := X i (by rw [List.length_append]; omega)
      have oxy : (x.1 ++ x.2).getD i 0 < 20 := by
        by_cases c : i < x.1.length
        · rw [ol_getD_app1 c]; exact ol_ok_at ok1 c
        · rw [ol_getD_app2 (by omega)]; exact ol_ok_at ok2 (by omega)
      have nxt : (x.1 ++ x.2).getD i 0 = (a ++ b).getD i 0 → oe_V (oe_cost 55) 55 (oe_M (d + 1)) none Q 41 [some (.inr (.inl m)), some (.inr (.inl q)), some (.inl (n : Int)), some (.inl ((x.1.length : Nat) : Int)), some (.inl ((x.1.length + x.2.length : Nat) : Int)), some (.inl (s : Int)), some (.inl (t : Int)), some (.inl 1), some (.inl ((i + 1 : Nat) : Int))] [] (sh, g, h) 0 0 := fun e => ih (i + 1) (by omega) (by omega) l1 l2 (fun j hj' => by
        by_cases ej : j = i
        · subst ej; exact e
        · exact hj j (by omega))
      have non : (x.1 ++ x.2).getD i 0 ≠ (a ++ b).getD i 0 → x ≠ (a, b) := fun e1 e2 => e1 (by rw [e2])
      refine g55_41 ⟨fun c => absurd c (by decide), fun _ => ⟨fun c => by omega, fun _ => ⟨by unfold oe_rg; omega, by unfold oe_rg; omega, N, hq, by omega, by omega, fun c => ⟨hM.1, m + 10, acS.1, by unfold oe_rg; omega, by unfold oe_rg; omega, by unfold oe_rg; omega, 240, acS.2, by omega, by omega, ?_⟩, fun c => ⟨hM.1, m + 10, acS.1, by unfold oe_rg; omega, by unfold oe_rg; omega, 240, acS.2, by omega, by omega, ?_⟩⟩⟩⟩
      · rw [show (20 * (n : Int) + (i : Int)).toNat = 20 * n + i by omega, xi, show (40 * (t : Int) + (i : Int) - ((x.1.length : Nat) : Int)).toNat = 40 * t + (i - a.length) by omega, B.2 _ (by omega), show b.getD (i - a.length) 0 = (a ++ b).getD i 0 by rw [ol_getD_app2 (by omega)], show (i : Int) + 1 = ((i + 1 : Nat) : Int) by omega]
        have o2 : (a ++ b).getD i 0 < 20 := by rw [ol_getD_app2 (by omega)]; exact ol_ok_at ob (by omega)
        exact ⟨fun c => ⟨by unfold oe_rg; omega, no _ (non (fun e => c (by rw [e])))⟩, fun c => ⟨by unfold oe_rg; omega, nxt ((om_inj oxy o2).mp c)⟩⟩
      · rw [show (20 * (n : Int) + (i : Int)).toNat = 20 * n + i by omega, xi, show (40 * (s : Int) + (i : Int)).toNat = 40 * s + i by omega, A.2 _ (by omega), show a.getD i 0 = (a ++ b).getD i 0 by rw [ol_getD_app1 (by omega)], show (i : Int) + 1 = ((i + 1 : Nat) : Int) by omega]
        have o2 : (a ++ b).getD i 0 < 20 := by rw [ol_getD_app1 (by omega)]; exact ol_ok_at oa (by omega)
        exact ⟨fun c => ⟨by unfold oe_rg; omega, no _ (non (fun e => c (by rw [e])))⟩, fun c => ⟨by unfold oe_rg; omega, nxt ((om_inj oxy o2).mp c)⟩⟩
  refine g55 ⟨hM.1, m + 11, acN.1, 6, acN.2, by omega, by omega, ?_⟩
  rw [Int.toNat_natCast, Int.toNat_natCast, A.1, B.1]
  refine ⟨fun c => no _ (fun e => c (by rw [e])), fun c => ⟨by omega, by omega, by omega, by omega, by unfold oe_rg; omega, fun c2 => no _ (fun e => c2 (by rw [e]; simp)), fun c2 => loop _ 0 rfl (Nat.zero_le _) (by omega) (by omega) (fun j hj => by omega)⟩⟩
theorem m_isKnown (hDD : 4 ≤ D) {m : Nat} (hM : MdS sh g m) {ws eqs : List (List Nat × List Nat)} {a b : List Nat} {w : Int} (hn10 : eqs.length ≤ 10) (hw30 : ws.length ≤ 30) (nA : h m 12 = ((eqs.length : Nat) : Int)) (W : MW h (m + 7) (m + 8) (m + 9) eqs) (nW : h m 8 = ((ws.length : Nat) : Int)) (V : MW h (m + 4) (m + 5) (m + 6) ws)
    (oa : ol_ok a) (ob : ol_ok b) (la : a.length ≤ 40) (lb : b.length ≤ 40) (A : SD h m 2 a) (B : SD h m 3 b)
    (k1 : ab_in eqs (a, b) ∨ (w ≠ 0 ∧ ab_in ws (a, b)) → ∀ h', md_fn m h h' → Q (some (.inl 1)) (sh, g, h')) (k0 : ¬ (ab_in eqs (a, b) ∨ (w ≠ 0 ∧ ab_in ws (a, b))) → ∀ h', md_fn m h h' → Q (some (.inl 0)) (sh, g, h')) : oe_M D 56 [.inr (.inl m), .inl w] (sh, g, h) Q := by
  obtain ⟨d, rfl⟩ : ∃ d, D = d + 2 := ⟨D - 2, by omega⟩
  refine g56 ⟨hM.1, m_nameAs (s := 3) (t := 2) (by omega) hM (by omega) (by omega) ob oa lb la B A (fun h1 B1 A1 F1 G1 H1 => ⟨_, h1, rfl, rfl, ?_⟩)⟩
  have ac4 := md_9 hM
  have ac5 := md_10 hM
  have ac6 := md_11 hM
  have ac7 := md_13 hM
  have ac8 := md_14 hM
  have ac9 := md_15 hM
  obtain ⟨to1, to2⟩ := ol_nm_20 ob oa
  have tl1 : (ol_nm (b, a)).1.1.length = b.length := ol_ren_len _ _ _
  have tl2 : (ol_nm (b, a)).1.2.length = a.length := ol_ren_len _ _ _
  have A2 : SD h1 m 2 a := A.kept (H1 2 (by omega)) (fun j _ => G1 _ (by omega))
  have B2 : SD h1 m 3 b := B.kept (H1 3 (by omega)) (fun j _ => G1 _ (by omega))
  have W1 : MW h1 (m + 7) (m + 8) (m + 9) eqs := W.kept (F1 _ (by omega) (by omega) (by omega)) (F1 _ (by omega) (by omega) (by omega)) (F1 _ (by omega) (by omega) (by omega))
  have V1 : MW h1 (m + 4) (m + 5) (m + 6) ws := V.kept (F1 _ (by omega) (by omega) (by omega)) (F1 _ (by omega) (by omega) (by omega)) (F1 _ (by omega) (by omega) (by omega))
  have nA1 : h1 m 12 = ((eqs.length : Nat) : Int) := by rw [F1 _ (by omega) (by omega) (by omega)]; exact nA
  have nW1 : h1 m 8 = ((ws.length : Nat) : Int) := by rw [F1 _ (by omega) (by omega) (by omega)]; exact nW
  have fn : md_fn m h h1 := ⟨F1, G1, H1⟩
  have te : ab_turn (a, b) = (ol_nm (b, a)).1 := rfl
  generalize hT : (ol_nm (b, a)).1 = T at *
  obtain ⟨t1, t2⟩ := T
  dsimp only at *
  have mem : ∀ (rows : List (List Nat × List Nat)), ab_in rows (a, b) ↔ ∃ j, j < rows.length ∧ (rows.getD j ([], []) = (a, b) ∨ rows.getD j ([], []) = (t1, t2)) := by
    intro rows
    unfold ab_in
    rw [te, og_mem (x := ([], [])), og_mem (x := ([], []))]
    constructor
    · rintro (⟨j, y1, y2⟩ | ⟨j, y1, y2⟩)
      · exact ⟨j, y1, Or.inl y2⟩
      · exact ⟨j, y1, Or.inr y2⟩
    · rintro ⟨j, y1, y2 | y2⟩
      · exact Or.inl ⟨j, y1, y2⟩
      · exact Or.inr ⟨j, y1, y2⟩
  have two : ∀ (n i : Nat) (v : Int), ws.length - i = n → i ≤ ws.length → ((v = 1 ∧ (ab_in eqs (a, b) ∨ (w ≠ 0 ∧ ∃ j, j < i ∧ (ws.getD j ([], []) = (a, b) ∨ ws.getD j ([], []) = (t1, t2))))) ∨ (v = 0 ∧ ¬ ab_in eqs (a, b) ∧ ∀ j, j < i → ¬ (ws.getD j ([], []) = (a, b) ∨ ws.getD j ([], []) = (t1, t2)))) →
      oe_V (oe_cost 56) 56 (oe_M (d + 1)) none Q 89 [some (.inr (.inl m)), some (.inl w), some (.inl v), some (.inl (i : Int))] [] (sh, g, h1) 0 0 := by
    intro n
    induction n with
    | zero =>
      intro i v hn hi hv
      refine g56_89 ⟨hM.1, fun _ => ⟨by omega, ?_⟩, fun c => by rw [nW1] at c; omega⟩
      rcases hv with ⟨v1, hv⟩ | ⟨v0, hv1, hv2⟩
      · subst v1
        refine k1 ?_ h1 fn
        rcases hv with z | ⟨z1, j, y1, y2⟩
        · exact Or.inl z
        · exact Or.inr ⟨z1, (mem ws).mpr ⟨j, by omega, y2⟩⟩
      · subst v0
        refine k0 ?_ h1 fn
        rintro (z | ⟨_, z⟩)
        · exact hv1 z
        · obtain ⟨j, y1, y2⟩ := (mem ws).mp z
          exact hv2 j (by omega) y2
    | succ n ih =>
      intro i v hn hi hv
      have hi2 : i < ws.length := by omega
      obtain ⟨q1, q2, q3, qok⟩ := V1 i hi2
      have e1 : (i : Int) + 1 = ((i + 1 : Nat) : Int) := by omega
      refine g56_89 ⟨hM.1, fun c => by rw [nW1] at c; omega, fun _ => ⟨fun c0 => ⟨by omega, ?_⟩, fun cw => ⟨fun c => ⟨by unfold oe_rg; omega, ?_⟩, fun c => ⟨m + 4, ac4.1, m + 5, ac5.1, 30, ac5.2, by omega, by omega, m + 6, ac6.1, 30, ac6.2, by omega, by omega, ?_⟩⟩⟩⟩
      · rcases hv with ⟨v1, hv⟩ | ⟨v0, hv1, hv2⟩
        · subst v1
          refine k1 ?_ h1 fn
          rcases hv with z | ⟨z1, _⟩
          · exact Or.inl z
          · exact absurd c0 z1
        · subst v0
          refine k0 ?_ h1 fn
          rintro (z | ⟨z, _⟩)
          · exact hv1 z
          · exact z c0
      · rw [e1]
        refine ih (i + 1) 1 (by omega) (by omega) (Or.inl ⟨rfl, ?_⟩)
        rcases hv with ⟨v1, hv⟩ | ⟨v0, _⟩
        · rcases hv with z | ⟨z1, j, y1, y2⟩
          · exact Or.inl z
          · exact Or.inr ⟨z1, j, by omega, y2⟩
        · exact absurd v0 c
      · rcases hv with ⟨v1, _⟩ | ⟨v0, hv1, hv2⟩
        · rw [c] at v1; exact absurd v1 (by decide)
        · rw [Int.toNat_natCast, q1, q2, e1]
          have yes : (ws.getD i ([], []) = (a, b) ∨ ws.getD i ([], []) = (t1, t2)) → oe_V (oe_cost 56) 56 (oe_M (d + 1)) none Q 89 [some (.inr (.inl m)), some (.inl w), some (.inl 1), some (.inl ((i + 1 : Nat) : Int))] [] (sh, g, h1) 0 0 := fun z => ih (i + 1) 1 (by omega) (by omega) (Or.inl ⟨rfl, Or.inr ⟨cw, i, by omega, z⟩⟩)
          refine m_isIn (s := 2) (t := 3) (by omega) hM (by omega) (by omega) ac4.2 qok (by omega) (by omega) q3 oa ob la lb A2 B2 (fun z => ⟨1, rfl, rfl, fun _ => ⟨by unfold oe_rg; omega, yes (Or.inl z)⟩, fun c => absurd c (by decide)⟩) (fun z => ⟨0, rfl, rfl, fun c => absurd rfl c, fun _ => ⟨by omega, by omega, by omega, by omega, ?_⟩⟩)
          refine m_isIn (s := 4) (t := 5) (by omega) hM (by omega) (by omega) ac4.2 qok (by omega) (by omega) q3 to1 to2 (by omega) (by omega) B1 A1 (fun y => ⟨1, rfl, rfl, fun c => absurd c (by decide), fun _ => ⟨by unfold oe_rg; omega, yes (Or.inr y)⟩⟩) (fun y => ⟨0, rfl, rfl, fun _ => ⟨by unfold oe_rg; omega, ?_⟩, fun c => absurd rfl c⟩)
          refine ih (i + 1) 0 (by omega) (by omega) (Or.inr ⟨rfl, hv1, fun j hj => ?_⟩)
          by_cases ej : j = i
          · subst ej; rintro (u | u)
            · exact z u
            · exact y u
          · exact hv2 j (by omega)
  have one : ∀ (n i : Nat) (v : Int), eqs.length - i = n → i ≤ eqs.length → ((v = 1 ∧ (∃ j, j < i ∧ (eqs.getD j ([], []) = (a, b) ∨ eqs.getD j ([], []) = (t1, t2)))) ∨ (v = 0 ∧ ∀ j, j < i → ¬ (eqs.getD j ([], []) = (a, b) ∨ eqs.getD j ([], []) = (t1, t2)))) →
      oe_V (oe_cost 56) 56 (oe_M (d + 1)) none Q 11 [some (.inr (.inl m)), some (.inl w), some (.inl v), some (.inl (i : Int))] [] (sh, g, h1) 0 0 := by
    intro n
    induction n with
    | zero =>
      intro i v hn hi hv
      refine g56_11 ⟨hM.1, fun _ => ?_, fun c => by rw [nA1] at c; omega⟩
      refine two ws.length 0 v (by omega) (Nat.zero_le _) ?_
      rcases hv with ⟨v1, j, y1, y2⟩ | ⟨v0, hv⟩
      · exact Or.inl ⟨v1, Or.inl ((mem eqs).mpr ⟨j, by omega, y2⟩)⟩
      · refine Or.inr ⟨v0, fun z => ?_, fun j hj => by omega⟩
        obtain ⟨j, y1, y2⟩ := (mem eqs).mp z
        exact hv j (by omega) y2
    | succ n ih =>
      intro i v hn hi hv
      have hi2 : i < eqs.length := by clear hv; omega
      obtain ⟨q1, q2, q3, qok⟩ := W1 i hi2
      have e1 : (i : Int) + 1 = ((i + 1 : Nat) : Int) := by omega
      refine g56_11 ⟨hM.1, fun c => by clear hv; rw [nA1] at c; omega, fun _ => ⟨fun c => ⟨by clear hv; unfold oe_rg; omega, ?_⟩, fun c => ⟨m + 7, ac7.1, m + 8, ac8.1, 10, ac8.2, by clear hv; omega, by clear hv; omega, m + 9, ac9.1, 10, ac9.2, by clear hv; omega, by clear hv; omega, ?_⟩⟩⟩
      · rw [e1]
        refine ih (i + 1) 1 (by clear hv; omega) (by clear hv; omega) (Or.inl ⟨rfl, ?_⟩)
        rcases hv with ⟨v1, j, y1, y2⟩ | ⟨v0, _⟩
        · exact ⟨j, by omega, y2⟩
        · exact absurd v0 c
      · rcases hv with ⟨v1, _⟩ | ⟨v0, hv⟩
        · rw [c] at v1; exact absurd v1 (by decide)
        · rw [Int.toNat_natCast, q1, q2, e1]
          have yes : (eqs.getD i ([], []) = (a, b) ∨ eqs.getD i ([], []) = (t1, t2)) → oe_V (oe_cost 56) 56 (oe_M (d + 1)) none Q 11 [some (.inr (.inl m)), some (.inl w), some (.inl 1), some (.inl ((i + 1 : Nat) : Int))] [] (sh, g, h1) 0 0 := fun z => ih (i + 1) 1 (by omega) (by omega) (Or.inl ⟨rfl, i, by omega, z⟩)
          refine m_isIn (s := 2) (t := 3) (by omega) hM (by omega) (by omega) ac7.2 qok (by omega) (by omega) q3 oa ob la lb A2 B2 (fun z => ⟨1, rfl, rfl, fun _ => ⟨by unfold oe_rg; omega, yes (Or.inl z)⟩, fun c => absurd c (by decide)⟩) (fun z => ⟨0, rfl, rfl, fun c => absurd rfl c, fun _ => ⟨by omega, by omega, by omega, by omega, ?_⟩⟩)
          refine m_isIn (s := 4) (t := 5) (by omega) hM (by omega) (by omega) ac7.2 qok (by omega) (by omega) q3 to1 to2 (by omega) (by omega) B1 A1 (fun y => ⟨1, rfl, rfl, fun c => absurd c (by decide), fun _ => ⟨by unfold oe_rg; omega, yes (Or.inr y)⟩⟩) (fun y => ⟨0, rfl, rfl, fun _ => ⟨by unfold oe_rg; omega, ?_⟩, fun c => absurd rfl c⟩)
          refine ih (i + 1) 0 (by omega) (by omega) (Or.inr ⟨rfl, fun j hj => ?_⟩)
          by_cases ej : j = i
          · subst ej; rintro (u | u)
            · exact z u
            · exact y u
          · exact hv j (by omega)
  exact one eqs.length 0 0 (by omega) (Nat.zero_le _) (Or.inr ⟨rfl, fun j hj => by omega⟩)
/-- a pair waits, behind the others -/
theorem m_await (hDD : 2 ≤ D) {m : Nat} (hM : MdS sh g m) {ws : List (List Nat × List Nat)} {a b : List Nat} (hw30 : ws.length < 30) (nW : h m 8 = ((ws.length : Nat) : Int)) (V : MW h (m + 4) (m + 5) (m + 6) ws) (ok : eq_ok (a, b)) (A : SD h m 2 a) (B : SD h m 3 b)
    (k : ∀ h', MW h' (m + 4) (m + 5) (m + 6) (ws ++ [(a, b)]) → h' m 8 = ((ws.length + 1 : Nat) : Int) → (∀ c, c ≠ m → c ≠ m + 4 → c ≠ m + 5 → c ≠ m + 6 → h' c = h c) → (∀ j, j ≠ 8 → h' m j = h m j) → Q none (sh, g, h')) : oe_M D 57 [.inr (.inl m)] (sh, g, h) Q := by
  obtain ⟨d, rfl⟩ : ∃ d, D = d + 2 := ⟨D - 2, by omega⟩
  have ac4 := md_9 hM
  have ac5 := md_10 hM
  have ac6 := md_11 hM
  have acS := md_18 hM
  have acN := md_19 hM
  have okx := ok
  obtain ⟨_, qlen, ok1, ok2, _, _⟩ := ok
  dsimp only at qlen ok1 ok2
  have A1 := A.1
  have B1 := B.1
  have loop : ∀ (n i : Nat) (h1 : Nat → Nat → Int), a.length + b.length - i = n → i ≤ a.length + b.length → h1 (m + 5) ws.length = ((a.length : Nat) : Int) → h1 (m + 6) ws.length = ((a.length + b.length : Nat) : Int) → (∀ j, j ≠ ws.length → h1 (m + 5) j = h (m + 5) j ∧ h1 (m + 6) j = h (m + 6) j) → (∀ j, j < i → h1 (m + 4) (20 * ws.length + j) = om ((a ++ b).getD j 0)) → (∀ j, j < 20 * ws.length → h1 (m + 4) j = h (m + 4) j) → (∀ c, c ≠ m + 4 → c ≠ m + 5 → c ≠ m + 6 → h1 c = h c) →
      oe_V (oe_cost 57) 57 (oe_M (d + 1)) none Q 39 [some (.inr (.inl m)), some (.inl (i : Int))] [] (sh, g, h1) 0 0 := by
    intro n
    induction n with
    | zero =>
      intro i h1 hn hi n5 n6 F56 P4 F4 F
      have c8 : h1 m 8 = ((ws.length : Nat) : Int) := by rw [F m (by omega) (by omega) (by omega)]; exact nW
      refine g57_39 ⟨hM.1, m + 6, ac6.1, 30, ac6.2, by omega, by omega, fun _ => ⟨by rw [c8]; unfold oe_rg; omega, fun h2 e2 => ?_⟩, fun c => by rw [c8, Int.toNat_natCast, n6] at c; omega⟩
      rw [c8] at e2
      refine k h2 (fun j hj => ?_) (by rw [e2, up_eq]; omega) (fun c y1 y2 y3 y4 => by rw [e2, up_ne y1]; exact F c y2 y3 y4) (fun j hj => by rw [e2, up_col hj]; exact congrFun (F m (by omega) (by omega) (by omega)) j)
      rw [List.length_append] at hj
      simp only [List.length_cons, List.length_nil] at hj
      have k4 : h2 (m + 4) = h1 (m + 4) := by rw [e2, up_ne (by omega)]
      have k5 : h2 (m + 5) = h1 (m + 5) := by rw [e2, up_ne (by omega)]
      have k6 : h2 (m + 6) = h1 (m + 6) := by rw [e2, up_ne (by omega)]
      rw [og_app]
      by_cases ej : j < ws.length
      · rw [if_pos ej]
        obtain ⟨z1, z2, z3, z4⟩ := V j ej
        have zl := z4.2.1
        refine ⟨by rw [k5, (F56 j (by omega)).1]; exact z1, by rw [k6, (F56 j (by omega)).2]; exact z2, fun p hp => ?_, z4⟩
        rw [k4, F4 _ (by rw [List.length_append] at hp; omega)]; exact z3 p hp
      · rw [if_neg ej, if_pos (by omega)]
        have ej2 : j = ws.length := by omega
        subst ej2
        refine ⟨by rw [k5]; exact n5, by rw [k6]; exact n6, fun p hp => ?_, okx⟩
        rw [k4]
        exact P4 p (by rw [List.length_append] at hp; dsimp only at hp; omega)
    | succ n ih =>
      intro i h1 hn hi n5 n6 F56 P4 F4 F
      have c8 : h1 m 8 = ((ws.length : Nat) : Int) := by rw [F m (by omega) (by omega) (by omega)]; exact nW
      have a2 : h1 (m + 11) 2 = ((a.length : Nat) : Int) := by rw [F _ (by omega) (by omega) (by omega)]; exact A.1
      have e1 : (i : Int) + 1 = ((i + 1 : Nat) : Int) := by omega
      have nxt : ∀ h2 : Nat → Nat → Int, h2 = oe_up h1 (m + 4) (20 * ws.length + i) (om ((a ++ b).getD i 0)) → oe_V (oe_cost 57) 57 (oe_M (d + 1)) none Q 39 [some (.inr (.inl m)), some (.inl ((i + 1 : Nat) : Int))] [] (sh, g, h2) 0 0 := by
        intro h2 e2
        refine ih (i + 1) h2 (by omega) (by omega) (by rw [e2, up_ne (by omega)]; exact n5) (by rw [e2, up_ne (by omega)]; exact n6) (fun j hj => by rw [e2, up_ne (by omega), up_ne (by omega)]; exact F56 j hj) (fun j hj => ?_) (fun j hj => by rw [e2, up_col (by omega)]; exact F4 j hj) (fun c y1 y2 y3 => by rw [e2, up_ne y1]; exact F c y1 y2 y3)
        by_cases ej : j = i
        · subst ej; rw [e2, up_eq]
        · rw [e2, up_col (by omega)]; exact P4 j (by omega)
      refine g57_39 ⟨hM.1, m + 6, ac6.1, 30, ac6.2, by omega, by omega, fun c => by rw [c8, Int.toNat_natCast, n6] at c; omega, fun _ => ⟨m + 4, ac4.1, by unfold oe_rg; omega, by unfold oe_rg; omega, m + 11, acN.1, 6, acN.2, by omega, by omega, fun c => ⟨m + 10, acS.1, by unfold oe_rg; omega, by omega, by omega, by unfold oe_rg; omega, 240, acS.2, by omega, by omega, 600, ac4.2, by omega, by omega, fun h2 e2 => ⟨by unfold oe_rg; omega, ?_⟩⟩, fun c => ⟨m + 10, acS.1, by unfold oe_rg; omega, 240, acS.2, by omega, by omega, 600, ac4.2, by omega, by omega, fun h2 e2 => ⟨by unfold oe_rg; omega, ?_⟩⟩⟩⟩
      · rw [e1]
        refine nxt h2 ?_
        have hb := B.2 (i - a.length) (by omega)
        rw [e2, c8, a2, show (20 * ((ws.length : Nat) : Int) + (i : Int)).toNat = 20 * ws.length + i by omega, show (120 + (i : Int) - ((a.length : Nat) : Int)).toNat = 40 * 3 + (i - a.length) by omega, F (m + 10) (by omega) (by omega) (by omega), hb, ol_getD_app2 (by omega)]
      · rw [e1]
        refine nxt h2 ?_
        have ha := A.2 i (by omega)
        rw [e2, c8, show (20 * ((ws.length : Nat) : Int) + (i : Int)).toNat = 20 * ws.length + i by omega, show (80 + (i : Int)).toNat = 40 * 2 + i by omega, F (m + 10) (by omega) (by omega) (by omega), ha, ol_getD_app1 (by omega)]
  refine g57 ⟨hM.1, m + 5, ac5.1, m + 11, acN.1, 6, acN.2, by omega, by omega, 30, ac5.2, by omega, by omega, fun h1 e1 => ?_⟩
  rw [nW, Int.toNat_natCast, A1] at e1
  have x2 : h1 (m + 11) 2 = ((a.length : Nat) : Int) := by rw [e1, up_ne (by omega)]; exact A1
  have x3 : h1 (m + 11) 3 = ((b.length : Nat) : Int) := by rw [e1, up_ne (by omega)]; exact B1
  have x8 : h1 m 8 = ((ws.length : Nat) : Int) := by rw [e1, up_ne (by omega)]; exact nW
  refine ⟨m + 6, ac6.1, by omega, by omega, by omega, by omega, by rw [x2, x3]; unfold oe_rg; omega, 30, ac6.2, by omega, by omega, fun h2 e2 => ?_⟩
  rw [x8, x2, x3, Int.toNat_natCast] at e2
  refine loop (a.length + b.length) 0 h2 (by omega) (Nat.zero_le _) (by rw [e2, up_ne (by omega), e1, up_eq]) (by rw [e2, up_eq]; omega) (fun j hj => ⟨by rw [e2, up_ne (by omega), e1, up_col hj], by rw [e2, up_col hj, e1, up_ne (by omega)]⟩) (fun j hj => by omega) (fun j hj => by rw [e2, up_ne (by omega), e1, up_ne (by omega)]) (fun c y1 y2 y3 => by rw [e2, up_ne y3, e1, up_ne y2])
end
