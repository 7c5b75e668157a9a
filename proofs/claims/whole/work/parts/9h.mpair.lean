/-! The reference: instances taken down, compared; a new pair. -/
def md_fx (m : Nat) (h h' : Nat → Nat → Int) : Prop := (∀ c, c < m ∨ (m < c ∧ c < m + 13) ∨ (m + 17 < c ∧ c < m + 23) ∨ m + 30 < c → h' c = h c) ∧ ∀ j, j ≠ 22 → j ≠ 24 → j ≠ 36 → j ≠ 40 → h' m j = h m j
theorem md_fx_tr {m : Nat} {h h' h'' : Nat → Nat → Int} (a : md_fx m h h') (b : md_fx m h' h'') : md_fx m h h'' := ⟨fun c z => by rw [b.1 c z, a.1 c z], fun j z1 z2 z3 z4 => by rw [b.2 j z1 z2 z3 z4, a.2 j z1 z2 z3 z4]⟩
theorem md_fo_x {m : Nat} {h h' : Nat → Nat → Int} (a : md_fo m h h') : md_fx m h h' := ⟨fun c z => a.1 c (by omega) (by omega) (by omega) (by omega), fun j _ _ _ z4 => a.2 j z4⟩
theorem md_fu_x {m : Nat} {h h' : Nat → Nat → Int} (a : md_fu m h h') : md_fx m h h' := ⟨fun c z => a.1 c (by omega), fun j _ _ z3 z4 => a.2 j z3 z4⟩
/-- what waits, what is active, how many are lost (reference) -/
def MdC (h : Nat → Nat → Int) (m : Nat) (ws eqs : List (List Nat × List Nat)) (lost : Nat) : Prop := h m 8 = ((ws.length : Nat) : Int) ∧ ws.length ≤ 30 ∧ MW h (m + 4) (m + 5) (m + 6) ws ∧ h m 12 = ((eqs.length : Nat) : Int) ∧ eqs.length ≤ 10 ∧ MW h (m + 7) (m + 8) (m + 9) eqs ∧ h m 16 = (lost : Int)
theorem MdC.kept {h h' : Nat → Nat → Int} {m : Nat} {ws eqs : List (List Nat × List Nat)} {lost : Nat} (H : MdC h m ws eqs lost) (e : ∀ c, m + 4 ≤ c → c ≤ m + 9 → h' c = h c) (e8 : h' m 8 = h m 8) (e12 : h' m 12 = h m 12) (e16 : h' m 16 = h m 16) : MdC h' m ws eqs lost := by
  obtain ⟨a1, a2, a3, a4, a5, a6, a7⟩ := H
  exact ⟨by rw [e8]; exact a1, a2, a3.kept (e _ (by omega) (by omega)) (e _ (by omega) (by omega)) (e _ (by omega) (by omega)), by rw [e12]; exact a4, a5, a6.kept (e _ (by omega) (by omega)) (e _ (by omega) (by omega)) (e _ (by omega) (by omega)), by rw [e16]; exact a7⟩
theorem MdC.fx {h h' : Nat → Nat → Int} {m : Nat} {ws eqs : List (List Nat × List Nat)} {lost : Nat} (H : MdC h m ws eqs lost) (f : md_fx m h h') : MdC h' m ws eqs lost := H.kept (fun c z1 z2 => f.1 c (by omega)) (f.2 8 (by omega) (by omega) (by omega) (by omega)) (f.2 12 (by omega) (by omega) (by omega) (by omega)) (f.2 16 (by omega) (by omega) (by omega) (by omega))
theorem MdC.lost {h h' : Nat → Nat → Int} {m : Nat} {ws eqs : List (List Nat × List Nat)} {lost : Nat} (H : MdC h m ws eqs lost) (e : h' = oe_up h m 16 (h m 16 + 1)) : MdC h' m ws eqs (lost + 1) := by
  obtain ⟨a1, a2, a3, a4, a5, a6, a7⟩ := H
  have f : ∀ c, c ≠ m → h' c = h c := fun c hc => by rw [e, up_ne hc]
  exact ⟨by rw [e, up_col (by omega)]; exact a1, a2, a3.kept (f _ (by omega)) (f _ (by omega)) (f _ (by omega)), by rw [e, up_col (by omega)]; exact a4, a5, a6.kept (f _ (by omega)) (f _ (by omega)) (f _ (by omega)), by rw [e, up_eq, a7]; omega⟩
/-- what keeping and overlapping leave alone (reference) -/
def md_fk (m : Nat) (h h' : Nat → Nat → Int) : Prop := (∀ c, c < m ∨ (m < c ∧ c < m + 4) ∨ m + 30 < c → h' c = h c) ∧ (∀ i, i < 80 → h' (m + 10) i = h (m + 10) i) ∧ (∀ i, i < 2 → h' (m + 11) i = h (m + 11) i) ∧ ∀ j, j < 8 ∨ j = 17 → h' m j = h m j
theorem md_fk_refl (m : Nat) (h : Nat → Nat → Int) : md_fk m h h := ⟨fun _ _ => rfl, fun _ _ => rfl, fun _ _ => rfl, fun _ _ => rfl⟩
theorem md_fk_tr {m : Nat} {h h' h'' : Nat → Nat → Int} (a : md_fk m h h') (b : md_fk m h' h'') : md_fk m h h'' := ⟨fun c z => by rw [b.1 c z, a.1 c z], fun i z => by rw [b.2.1 i z, a.2.1 i z], fun i z => by rw [b.2.2.1 i z, a.2.2.1 i z], fun j z => by rw [b.2.2.2 j z, a.2.2.2 j z]⟩
theorem md_fx_k {m : Nat} {h h' : Nat → Nat → Int} (a : md_fx m h h') : md_fk m h h' := ⟨fun c z => a.1 c (by omega), fun i _ => by rw [a.1 _ (by omega)], fun i _ => by rw [a.1 _ (by omega)], fun j z => a.2 j (by omega) (by omega) (by omega) (by omega)⟩
theorem md_fk_lost {m : Nat} {h h' : Nat → Nat → Int} {x : Int} (e : h' = oe_up h m 16 x) : md_fk m h h' := ⟨fun c z => by rw [e, up_ne (by omega)], fun i _ => by rw [e, up_ne (by omega)], fun i _ => by rw [e, up_ne (by omega)], fun j z => by rw [e, up_col (by omega)]⟩
section
variable {D : Nat} {sh : List (Nat × Nat)} {g : Nat → Nat → Option Nat} {h : Nat → Nat → Int} {Q : oeQ}
theorem m_takeDown (hDD : 6 ≤ D) {m : Nat} {l : List Nat} {σ : Nat → Option oeT} {r : Nat → Nat} (hM : MdS sh g m) (hl : l.length ≤ 64) (ok : ol_ok l) (R : MR h (m + 22) l) (hV : UnV h (m + 23) l σ) (H : ua σ r) (n f t : Nat) (hn : n < 4) (hft : f ≤ t) (ht : t ≤ l.length)
    (k1 : (ou_X σ (ol_rg l f t)).length ≤ 30 → ∀ h', MA h' (m + 29) (32 * n) (ou_X σ (ol_rg l f t)) → h' (m + 30) n = (((ou_X σ (ol_rg l f t)).length : Nat) : Int) → md_fx m h h' → h' (m + 23) = h (m + 23) → (∀ i, i < 32 * n ∨ 32 * n + 32 ≤ i → h' (m + 29) i = h (m + 29) i) → (∀ i, i ≠ n → h' (m + 30) i = h (m + 30) i) → Q (some (.inl 1)) (sh, g, h'))
    (k0 : 30 < (ou_X σ (ol_rg l f t)).length → ∀ h', md_fx m h h' → Q (some (.inl 0)) (sh, g, h')) :
    oe_M D 63 [.inr (.inl m), .inl (n : Int), .inl (f : Int), .inl (t : Int)] (sh, g, h) Q := by
  obtain ⟨d, rfl⟩ : ∃ d, D = d + 2 := ⟨D - 2, by omega⟩
  have ac26 := md_39 hM
  have ac29 := md_43 hM
  have ac30 := md_44 hM
  refine g63 ⟨hM.1, fun h1 e1 => ?_⟩
  have F1 : md_fo m h h1 := ⟨fun c z1 _ _ _ => by rw [e1, up_ne z1], fun j z => by rw [e1, up_col z]⟩
  -- what is put in is copied
  have loop : ∀ (v : Int), (v = 0 ∨ v = 1) → ∀ (out : Nat → Int) (L : Nat), L ≤ 30 → (∀ h' : Nat → Nat → Int, (∀ i, i < L → h' (m + 29) (32 * n + i) = out i) → h' (m + 30) n = (L : Int) → md_fx m h h' → h' (m + 23) = h (m + 23) → (∀ i, i < 32 * n ∨ 32 * n + 32 ≤ i → h' (m + 29) i = h (m + 29) i) → (∀ i, i ≠ n → h' (m + 30) i = h (m + 30) i) → Q (some (.inl v)) (sh, g, h')) →
      ∀ (k i : Nat) (h2 : Nat → Nat → Int), L - i = k → i ≤ L → h2 m 40 = (L : Int) → (∀ j, j < L → h2 (m + 26) j = out j) → (∀ j, j < i → h2 (m + 29) (32 * n + j) = out j) → md_fx m h h2 → h2 (m + 23) = h (m + 23) → (∀ i, i < 32 * n ∨ 32 * n + 32 ≤ i → h2 (m + 29) i = h (m + 29) i) → h2 (m + 30) = h (m + 30) →
      oe_V (oe_cost 63) 63 (oe_M (d + 1)) none Q 18 [some (.inr (.inl m)), some (.inl (n : Int)), none, none, some (.inl v), some (.inl (i : Int))] [] (sh, g, h2) 0 0 := by
    intro v hv out L hL K k
    induction k with
    | zero =>
      intro i h2 hk hi n2 O2 P2 F2 V2 G2 L2
      refine g63_18 ⟨hM.1, fun _ => ⟨m + 30, ac30.1, 4, ac30.2, by omega, by omega, fun h3 e3 => ⟨hv, ?_⟩⟩, fun c => by rw [n2] at c; omega⟩
      rw [Int.toNat_natCast, n2] at e3
      exact K h3 (fun j hj => by rw [e3, up_ne (by omega)]; exact P2 j (by omega)) (by rw [e3, up_eq]) (md_fx_tr F2 ⟨fun c z => by rw [e3, up_ne (by omega)], fun j _ _ _ _ => by rw [e3, up_ne (by omega)]⟩) (by rw [e3, up_ne (by omega)]; exact V2) (fun j z => by rw [e3, up_ne (by omega)]; exact G2 j z) (fun j z => by rw [e3, up_col z, L2])
    | succ k ih =>
      intro i h2 hk hi n2 O2 P2 F2 V2 G2 L2
      refine g63_18 ⟨hM.1, fun c => by rw [n2] at c; omega, fun _ => ⟨m + 29, ac29.1, by unfold oe_rg; omega, by unfold oe_rg; omega, m + 26, ac26.1, 320, ac26.2, by omega, by omega, 128, ac29.2, by omega, by omega, fun h3 e3 => ⟨by unfold oe_rg; omega, ?_⟩⟩⟩
      rw [Int.toNat_natCast, O2 i (by omega), show (32 * (n : Int) + (i : Int)).toNat = 32 * n + i by omega] at e3
      rw [show (i : Int) + 1 = ((i + 1 : Nat) : Int) by omega]
      refine ih (i + 1) h3 (by omega) (by omega) (by rw [e3, up_ne (by omega)]; exact n2) (fun j hj => by rw [e3, up_ne (by omega)]; exact O2 j hj) (fun j hj => ?_) (md_fx_tr F2 ⟨fun c z => by rw [e3, up_ne (by omega)], fun j _ _ _ _ => by rw [e3, up_ne (by omega)]⟩) (by rw [e3, up_ne (by omega)]; exact V2) (fun j z => by rw [e3, up_col (by omega)]; exact G2 j z) (by rw [e3, up_ne (by omega)]; exact L2)
      by_cases ej : j = i
      · subst ej; rw [e3, up_eq]
      · rw [e3, up_col (by omega)]; exact P2 j (by omega)
  refine m_putIn (out := []) (lim := 30) (by omega) hM hl ok (R.kept (F1.1 _ (by omega) (by omega) (by omega) (by omega))) (hV.kept (F1.1 _ (by omega) (by omega) (by omega) (by omega))) H f t (by omega) hft ht (fun i hi => by cases hi) (by rw [e1, up_eq]; rfl) (Nat.zero_le _) (fun a1 h2 C2 n2 F2 => ⟨1, h2, rfl, rfl, ?_⟩) (fun a1 h2 n2 F2 => ⟨0, h2, rfl, rfl, ?_⟩)
  · rw [List.nil_append] at C2 n2
    have a1' : (ou_X σ (ol_rg l f t)).length ≤ 30 := by simpa using a1
    have F := md_fo_tr F1 F2
    exact loop 1 (Or.inr rfl) (fun i => om ((ou_X σ (ol_rg l f t)).getD i 0)) _ a1' (k1 a1') _ 0 h2 rfl (Nat.zero_le _) n2 C2 (fun j hj => by omega) (md_fo_x F) (F.1 _ (by omega) (by omega) (by omega) (by omega)) (fun j _ => by rw [F.1 _ (by omega) (by omega) (by omega) (by omega)]) (F.1 _ (by omega) (by omega) (by omega) (by omega))
  · have a1' : 30 < (ou_X σ (ol_rg l f t)).length := by simpa using a1
    have F := md_fo_tr F1 F2
    exact loop 0 (Or.inl rfl) (fun i => h2 (m + 26) i) 30 (Nat.le_refl _) (fun h' _ _ z _ _ _ => k0 a1' h' z) _ 0 h2 rfl (Nat.zero_le _) n2 (fun _ _ => rfl) (fun j hj => by omega) (md_fo_x F) (F.1 _ (by omega) (by omega) (by omega) (by omega)) (fun j _ => by rw [F.1 _ (by omega) (by omega) (by omega) (by omega)]) (F.1 _ (by omega) (by omega) (by omega) (by omega))
/-- an instance is not less than another -/
theorem m_notLess (hDD : 7 ≤ D) {m a b : Nat} (hM : MdS sh g m) (ha : a < 4) (hb : b < 4) {A B : List Nat} (tA : ol_tm A) (tB : ol_tm B) (lA : A.length ≤ 30) (lB : B.length ≤ 30) (oA : ol_ok A) (oB : ol_ok B) (IA : MA h (m + 29) (32 * a) A) (nA : h (m + 30) a = ((A.length : Nat) : Int)) (IB : MA h (m + 29) (32 * b) B) (nB : h (m + 30) b = ((B.length : Nat) : Int))
    (k1 : (B = A ∨ ol_gt A B) → ∀ h', md_fx m h h' → (∀ c, m + 23 ≤ c → c ≤ m + 30 → h' c = h c) → Q (some (.inl 1)) (sh, g, h')) (k0 : ¬ (B = A ∨ ol_gt A B) → ∀ h', md_fx m h h' → (∀ c, m + 23 ≤ c → c ≤ m + 30 → h' c = h c) → Q (some (.inl 0)) (sh, g, h')) :
    oe_M D 64 [.inr (.inl m), .inl (a : Int), .inl (b : Int)] (sh, g, h) Q := by
  obtain ⟨d, rfl⟩ : ∃ d, D = d + 2 := ⟨D - 2, by omega⟩
  have ac1 := md_21 hM
  have ac2 := md_23 hM
  have ac29 := md_43 hM
  have ac30 := md_44 hM
  obtain ⟨u, hu, fu⟩ := tA
  obtain ⟨w, hw, fw⟩ := tB
  have gi := ol_gt_iff hu hw
  rw [fu, fw] at gi
  -- what is left alone so far
  have two : ∀ (k i : Nat) (v : Int) (h1 : Nat → Nat → Int), B.length - i = k → i ≤ B.length → ((v = 1 ∧ A.length = B.length ∧ ∀ j, j < i → A.getD j 0 = B.getD j 0) ∨ (v = 0 ∧ A ≠ B)) → MR h1 (m + 13) A → h1 m 22 = ((A.length : Nat) : Int) → h1 m 24 = ((B.length : Nat) : Int) → (∀ j, j < i → h1 (m + 14) j = om (B.getD j 0)) → (∀ c, c ≠ m → c ≠ m + 13 → c ≠ m + 14 → h1 c = h c) → (∀ j, j ≠ 22 → j ≠ 24 → h1 m j = h m j) →
      oe_V (oe_cost 64) 64 (oe_M (d + 1)) none Q 77 [some (.inr (.inl m)), none, some (.inl (b : Int)), some (.inl v), some (.inl (i : Int))] [] (sh, g, h1) 0 0 := by
    intro k
    induction k with
    | zero =>
      intro i v h1 hk hi hv F1 n1 n2 S1 fr fo
      have fx : ∀ h2 : Nat → Nat → Int, (∀ c, c ≠ m + 15 → c ≠ m + 16 → c ≠ m + 17 → h2 c = h1 c) → md_fx m h h2 ∧ ∀ c, m + 23 ≤ c → c ≤ m + 30 → h2 c = h c := fun h2 f2 => ⟨⟨fun c z => by rw [f2 c (by omega) (by omega) (by omega)]; exact fr c (by omega) (by omega) (by omega), fun j z1 z2 _ _ => by rw [f2 m (by omega) (by omega) (by omega)]; exact fo j z1 z2⟩, fun c z1 z2 => by rw [f2 c (by omega) (by omega) (by omega)]; exact fr c (by omega) (by omega) (by omega)⟩
      refine g64_77 ⟨hM.1, fun _ => ⟨fun c => ?_, fun c => ?_⟩, fun c => by rw [n2] at c; omega⟩
      · rcases hv with ⟨v1, e1, e2⟩ | ⟨v0, _⟩
        · obtain ⟨x1, x2⟩ := fx h1 (fun _ _ _ _ => rfl)
          exact k1 (Or.inl (ol_ext e1 (fun j hj => e2 j (by omega))).symm) h1 x1 x2
        · exact absurd v0 c
      · rcases hv with ⟨v1, _⟩ | ⟨_, hne⟩
        · rw [c] at v1; exact absurd v1 (by decide)
        · refine m_gt (by omega) hM hu hw fu.symm fw.symm (by omega) (by omega) oA oB F1 (fun j hj => S1 j (by omega)) n1 n2 (fun z h2 f2 => ⟨1, h2, rfl, rfl, fun c => absurd c (by decide), fun _ => ?_⟩) (fun z h2 f2 => ⟨0, h2, rfl, rfl, fun _ => ?_, fun c => absurd rfl c⟩)
          · obtain ⟨x1, x2⟩ := fx h2 f2
            exact k1 (Or.inr (gi.mpr z)) h2 x1 x2
          · obtain ⟨x1, x2⟩ := fx h2 f2
            refine k0 (fun y => ?_) h2 x1 x2
            rcases y with y | y
            · exact hne y.symm
            · exact z (gi.mp y)
    | succ k ih =>
      intro i v h1 hk hi hv F1 n1 n2 S1 fr fo
      have b29 : h1 (m + 29) (32 * b + i) = om (B.getD i 0) := by rw [fr _ (by omega) (by omega) (by omega)]; exact IB i (by omega)
      refine g64_77 ⟨hM.1, fun c => by rw [n2] at c; omega, fun _ => ⟨m + 14, ac2.1, m + 29, ac29.1, by unfold oe_rg; omega, by unfold oe_rg; omega, 128, ac29.2, by omega, by omega, 60, ac2.2, by omega, by omega, fun h2 e2 => ?_⟩⟩
      rw [Int.toNat_natCast, show (32 * (b : Int) + (i : Int)).toNat = 32 * b + i by omega, b29] at e2
      have nxt : ∀ v' : Int, ((v' = 1 ∧ A.length = B.length ∧ ∀ j, j < i + 1 → A.getD j 0 = B.getD j 0) ∨ (v' = 0 ∧ A ≠ B)) → oe_V (oe_cost 64) 64 (oe_M (d + 1)) none Q 77 [some (.inr (.inl m)), none, some (.inl (b : Int)), some (.inl v'), some (.inl ((i : Int) + 1))] [] (sh, g, h2) 0 0 := by
        intro v' hv'
        rw [show (i : Int) + 1 = ((i + 1 : Nat) : Int) by omega]
        refine ih (i + 1) v' h2 (by omega) (by omega) hv' (fun j hj => by rw [e2, up_ne (by omega)]; exact F1 j hj) (by rw [e2, up_ne (by omega)]; exact n1) (by rw [e2, up_ne (by omega)]; exact n2) (fun j hj => ?_) (fun c z1 z2 z3 => by rw [e2, up_ne z3]; exact fr c z1 z2 z3) (fun j z1 z2 => by rw [e2, up_ne (by omega)]; exact fo j z1 z2)
        by_cases ej : j = i
        · subst ej; rw [e2, up_eq]
        · rw [e2, up_col ej]; exact S1 j (by omega)
      refine ⟨fun c => ⟨by unfold oe_rg; omega, ?_⟩, fun c => ⟨m + 13, ac1.1, 60, ac1.2, by omega, by omega, by omega, by omega, ?_⟩⟩
      · rcases hv with ⟨v1, _⟩ | ⟨_, hne⟩
        · rw [c] at v1; exact absurd v1 (by decide)
        · exact nxt 0 (Or.inr ⟨rfl, hne⟩)
      · rcases hv with ⟨v1, l1, l2⟩ | ⟨v0, _⟩
        · have f13 : h2 (m + 13) ((i : Int)).toNat = om (A.getD i 0) := by rw [Int.toNat_natCast, e2, up_ne (by omega)]; exact F1 i (by omega)
          have f14 : h2 (m + 14) ((i : Int)).toNat = om (B.getD i 0) := by rw [Int.toNat_natCast, e2, up_eq]
          rw [f13, f14]
          have inj := om_inj (ol_ok_at oA (i := i) (by omega)) (ol_ok_at oB (i := i) (by omega))
          refine ⟨fun z => ⟨by unfold oe_rg; omega, nxt 0 (Or.inr ⟨rfl, fun e => z (by rw [e])⟩)⟩, fun z => ⟨by unfold oe_rg; omega, nxt 1 (Or.inl ⟨rfl, l1, fun j hj => ?_⟩)⟩⟩
          by_cases ej : j = i
          · subst ej; exact inj.mp z
          · exact l2 j (by omega)
        · exact absurd v0 c
  have one : ∀ (k i : Nat) (v : Int) (h1 : Nat → Nat → Int), A.length - i = k → i ≤ A.length → ((v = 1 ∧ A.length = B.length) ∨ (v = 0 ∧ A ≠ B)) → h1 m 22 = ((A.length : Nat) : Int) → h1 m 24 = ((B.length : Nat) : Int) → (∀ j, j < i → h1 (m + 13) j = om (A.getD j 0)) → (∀ c, c ≠ m → c ≠ m + 13 → h1 c = h c) → (∀ j, j ≠ 22 → j ≠ 24 → h1 m j = h m j) →
      oe_V (oe_cost 64) 64 (oe_M (d + 1)) none Q 40 [some (.inr (.inl m)), some (.inl (a : Int)), some (.inl (b : Int)), some (.inl v), some (.inl (i : Int))] [] (sh, g, h1) 0 0 := by
    intro k
    induction k with
    | zero =>
      intro i v h1 hk hi hv n1 n2 F1 fr fo
      refine g64_40 ⟨hM.1, fun _ => ?_, fun c => by rw [n1] at c; omega⟩
      refine two B.length 0 v h1 (by omega) (Nat.zero_le _) ?_ (fun j hj => F1 j (by omega)) n1 n2 (fun j hj => by omega) (fun c z1 z2 _ => fr c z1 z2) fo
      rcases hv with ⟨v1, l1⟩ | z
      · exact Or.inl ⟨v1, l1, fun j hj => by omega⟩
      · exact Or.inr z
    | succ k ih =>
      intro i v h1 hk hi hv n1 n2 F1 fr fo
      have a29 : h1 (m + 29) (32 * a + i) = om (A.getD i 0) := by rw [fr _ (by omega) (by omega)]; exact IA i (by omega)
      refine g64_40 ⟨hM.1, fun c => by rw [n1] at c; omega, fun _ => ⟨m + 13, ac1.1, m + 29, ac29.1, by unfold oe_rg; omega, by unfold oe_rg; omega, 128, ac29.2, by omega, by omega, 60, ac1.2, by omega, by omega, fun h2 e2 => ⟨by unfold oe_rg; omega, ?_⟩⟩⟩
      rw [Int.toNat_natCast, show (32 * (a : Int) + (i : Int)).toNat = 32 * a + i by omega, a29] at e2
      rw [show (i : Int) + 1 = ((i + 1 : Nat) : Int) by omega]
      refine ih (i + 1) v h2 (by omega) (by omega) hv (by rw [e2, up_ne (by omega)]; exact n1) (by rw [e2, up_ne (by omega)]; exact n2) (fun j hj => ?_) (fun c z1 z2 => by rw [e2, up_ne z2]; exact fr c z1 z2) (fun j z1 z2 => by rw [e2, up_ne (by omega)]; exact fo j z1 z2)
      by_cases ej : j = i
      · subst ej; rw [e2, up_eq]
      · rw [e2, up_col ej]; exact F1 j (by omega)
  refine g64 ⟨hM.1, m + 30, ac30.1, 4, ac30.2, by omega, by omega, fun h1 e1 => ⟨by omega, by omega, fun h2 e2 => ?_⟩⟩
  rw [Int.toNat_natCast, nA] at e1
  rw [Int.toNat_natCast, show h1 (m + 30) b = ((B.length : Nat) : Int) by rw [e1, up_ne (by omega)]; exact nB] at e2
  have x22 : h2 m 22 = ((A.length : Nat) : Int) := by rw [e2, up_col (by omega), e1, up_eq]
  have x24 : h2 m 24 = ((B.length : Nat) : Int) := by rw [e2, up_eq]
  have fr : ∀ c, c ≠ m → c ≠ m + 13 → h2 c = h c := fun c z1 _ => by rw [e2, up_ne z1, e1, up_ne z1]
  have fo : ∀ j, j ≠ 22 → j ≠ 24 → h2 m j = h m j := fun j z1 z2 => by rw [e2, up_col z2, e1, up_col z1]
  rw [x22, x24]
  exact ⟨fun c => one _ 0 0 h2 rfl (Nat.zero_le _) (Or.inr ⟨rfl, fun e => c (by rw [e])⟩) x22 x24 (fun j hj => by omega) fr fo, fun c => one _ 0 1 h2 rfl (Nat.zero_le _) (Or.inl ⟨rfl, by omega⟩) x22 x24 (fun j hj => by omega) fr fo⟩
/-- a new pair, in sides 2 and 3 -/
theorem m_newPair (hDD : 16 ≤ D) {m : Nat} (hM : MdS sh g m) {ws eqs : List (List Nat × List Nat)} {lost : Nat} {q : List Nat × List Nat} (C : MdC h m ws eqs lost) (hlb : lost < 2000000000) (A : SD h m 2 q.1) (B : SD h m 3 q.2) (oA : tm_ok q.1) (oB : tm_ok q.2)
    (k : ∀ h', MdC h' m (ab_keep eqs (ws, lost) (2, q)).1 eqs (ab_keep eqs (ws, lost) (2, q)).2 → md_fk m h h' → Q none (sh, g, h')) : oe_M D 66 [.inr (.inl m)] (sh, g, h) Q := by
  obtain ⟨d, rfl⟩ : ∃ d, D = d + 2 := ⟨D - 2, by omega⟩
  have acN := md_19 hM
  have CC := C
  obtain ⟨c1, c2, c3, c4, c5, c6, c7⟩ := C
  refine g66 ⟨hM.1, m_side (s := 2) (by omega) hM (by omega) oA c5 c4 c6 A (fun h1 o1 S1 N1 G1 F1 J1 => ⟨h1, rfl, rfl, ?_⟩)⟩
  have C1 : MdC h1 m ws eqs lost := CC.kept (fun c z1 z2 => F1 c (by omega) (by omega) (by omega)) (J1 _ (by omega) (by omega) (by omega) (by omega)) (J1 _ (by omega) (by omega) (by omega) (by omega)) (J1 _ (by omega) (by omega) (by omega) (by omega))
  have B1 : SD h1 m 3 q.2 := B.kept (N1 3 (by omega)) (fun i hi => G1 _ (by omega))
  refine m_side (s := 3) (by omega) hM (by omega) oB c5 C1.2.2.2.1 C1.2.2.2.2.2.1 B1 (fun h2 o2 S2 N2 G2 F2 J2 => ⟨h2, rfl, rfl, ?_⟩)
  have C2 : MdC h2 m ws eqs lost := C1.kept (fun c z1 z2 => F2 c (by omega) (by omega) (by omega)) (J2 _ (by omega) (by omega) (by omega) (by omega)) (J2 _ (by omega) (by omega) (by omega) (by omega)) (J2 _ (by omega) (by omega) (by omega) (by omega))
  have ol1 := o1.2.1
  have ol2 := o2.2.1
  have S1' : SD h2 m 2 (ol_low eqs 50 q.1).1 := S1.kept (N2 2 (by omega)) (fun i hi => G2 _ (by omega))
  have K2 : md_fk m h h2 := md_fk_tr (h' := h1) ⟨fun c z => F1 c (by omega) (by omega) (by omega), fun i z => G1 i (by omega), fun i z => N1 i (by omega), fun j z => J1 j (by omega) (by omega) (by omega) (by omega)⟩ ⟨fun c z => F2 c (by omega) (by omega) (by omega), fun i z => G2 i (by omega), fun i z => N2 i (by omega), fun j z => J2 j (by omega) (by omega) (by omega) (by omega)⟩
  unfold ab_keep at k
  rw [if_neg (show ¬ (2, q).1 = 1 from fun c => absurd (show (2 : Nat) = 1 from c) (by decide)), if_pos (show (2, q).1 = 2 from rfl)] at k
  have ex : ab_low eqs q = ((ol_low eqs 50 q.1).1, (ol_low eqs 50 q.2).1) := rfl
  rw [show (2, q).2 = q from rfl, ex] at k
  generalize (ol_low eqs 50 q.1).1 = x at *
  generalize (ol_low eqs 50 q.2).1 = y at *
  have n2 := S1'.1
  have n3 := S2.1
  refine m_sameSide (s := 2) (t := 3) (by omega) hM (by omega) (by omega) o1.2.2 o2.2.2 (by omega) S1' S2 (fun z => ⟨1, rfl, rfl, fun c => absurd c (by decide), fun _ => ?_⟩) (fun z => ⟨0, rfl, rfl, fun _ => ⟨m + 11, acN.1, 6, acN.2, by omega, by omega, by omega, by omega, ?_⟩, fun c => absurd rfl c⟩)
  · rw [if_pos z] at k
    exact k h2 C2 K2
  rw [if_neg z] at k
  rw [n2, n3]
  obtain ⟨y1, y2, y3, y4, y5, y6, y7⟩ := ol_nm_ok (x, y)
  dsimp only at y2 y3 y4 y5 y6 y7
  refine ⟨by unfold oe_rg; omega, fun c => ⟨by rw [C2.2.2.2.2.2.2]; unfold oe_rg; omega, fun h3 e3 => ?_⟩, fun c => ?_⟩
  · rw [if_pos (Or.inr (by unfold ol_w; omega))] at k
    exact k h3 (C2.lost e3) (md_fk_tr K2 (md_fk_lost e3))
  refine m_namePair (by omega) hM o1.2.2 o2.2.2 (by omega) (by omega) S1' S2 (fun h3 A3 B3 F3 G3 H3 => ⟨_, h3, rfl, rfl, fun c3 => ?_, fun c3 => ?_⟩)
  rotate_left
  · have C3 : MdC h3 m ws eqs lost := C2.kept (fun c z1 z2 => F3 c (by omega) (by omega) (by omega)) (by rw [F3 m (by omega) (by omega) (by omega)]) (by rw [F3 m (by omega) (by omega) (by omega)]) (by rw [F3 m (by omega) (by omega) (by omega)])
    have K3 : md_fk m h h3 := md_fk_tr K2 ⟨fun c z => F3 c (by omega) (by omega) (by omega), fun i z => G3 i z, fun i z => H3 i (by omega), fun j z => by rw [F3 m (by omega) (by omega) (by omega)]⟩
    refine ⟨by rw [C3.2.2.2.2.2.2]; unfold oe_rg; omega, fun h4 e4 => ?_⟩
    rw [if_pos (Or.inl (by omega))] at k
    exact k h4 (C3.lost e4) (md_fk_tr K3 (md_fk_lost e4))
  have C3 : MdC h3 m ws eqs lost := C2.kept (fun c z1 z2 => F3 c (by omega) (by omega) (by omega)) (by rw [F3 m (by omega) (by omega) (by omega)]) (by rw [F3 m (by omega) (by omega) (by omega)]) (by rw [F3 m (by omega) (by omega) (by omega)])
  have K3 : md_fk m h h3 := md_fk_tr K2 ⟨fun c z => F3 c (by omega) (by omega) (by omega), fun i z => G3 i z, fun i z => H3 i (by omega), fun j z => by rw [F3 m (by omega) (by omega) (by omega)]⟩
  rw [if_neg (show ¬ (6 < (ol_nm (x, y)).2 ∨ 20 < ol_w (ol_nm (x, y)).1) by unfold ol_w; omega)] at k
  have qok : eq_ok (ol_nm (x, y)).1 := by
    obtain ⟨s, s1, s2⟩ := ol_tm_map y2.symm o1.1
    obtain ⟨t, t1, t2⟩ := ol_tm_map y3.symm o2.1
    refine ⟨⟨s, t, s1, t1, s2, t2⟩, by omega, fun c hc => ?_, fun c hc => ?_, fun c hc hc2 => ?_, fun c hc hc2 => ?_⟩
    · rcases y6 c hc with z | z
      · omega
      · exact o1.2.2 c z.2
    · rcases y7 c hc with z | z
      · omega
      · exact o2.2.2 c z.2
    · rcases y6 c hc with z | z <;> omega
    · rcases y7 c hc with z | z <;> omega
  generalize (ol_nm (x, y)).1 = p at *
  obtain ⟨p1, p2⟩ := p
  dsimp only at A3 B3 y4 y5
  have q1 : ol_ok p1 := qok.2.2.1
  have q2 : ol_ok p2 := qok.2.2.2.1
  have Kn : ∀ h4 : Nat → Nat → Int, md_fn m h3 h4 → MdC h4 m ws eqs lost ∧ md_fk m h h4 ∧ SD h4 m 2 p1 ∧ SD h4 m 3 p2 := fun h4 f4 => ⟨C3.kept (fun c z1 z2 => f4.1 c (by omega) (by omega) (by omega)) (by rw [f4.1 m (by omega) (by omega) (by omega)]) (by rw [f4.1 m (by omega) (by omega) (by omega)]) (by rw [f4.1 m (by omega) (by omega) (by omega)]), md_fk_tr K3 ⟨fun c z => f4.1 c (by omega) (by omega) (by omega), fun i z => f4.2.1 i (by omega), fun i z => f4.2.2 i (by omega), fun j z => by rw [f4.1 m (by omega) (by omega) (by omega)]⟩, A3.kept (f4.2.2 2 (by omega)) (fun i hi => f4.2.1 _ (by omega)), B3.kept (f4.2.2 3 (by omega)) (fun i hi => f4.2.1 _ (by omega))⟩
  refine m_isKnown (w := 1) (by omega) hM c5 c2 C3.2.2.2.1 C3.2.2.2.2.2.1 C3.1 C3.2.2.1 q1 q2 (show p1.length ≤ 40 by omega) (show p2.length ≤ 40 by omega) A3 B3 (fun z h4 f4 => ⟨1, h4, rfl, rfl, fun _ => ?_, fun c => absurd c (by decide)⟩) (fun z h4 f4 => ⟨0, h4, rfl, rfl, fun c => absurd rfl c, fun _ => ?_⟩)
  · obtain ⟨r1, r2, _, _⟩ := Kn h4 f4
    rw [if_pos (show ab_in eqs (p1, p2) ∨ ab_in ws (p1, p2) by rcases z with z | z; exact Or.inl z; exact Or.inr z.2)] at k
    exact k h4 r1 r2
  · obtain ⟨r1, r2, r3, r4⟩ := Kn h4 f4
    rw [if_neg (show ¬ (ab_in eqs (p1, p2) ∨ ab_in ws (p1, p2)) from fun y => z (by rcases y with y | y; exact Or.inl y; exact Or.inr ⟨by decide, y⟩))] at k
    refine ⟨fun c => ?_, fun c => ⟨by rw [r1.2.2.2.2.2.2]; unfold oe_rg; omega, fun h5 e5 => ?_⟩⟩
    · rw [r1.1] at c
      rw [if_neg (show ¬ (ws, lost).1.length = 30 by show ¬ ws.length = 30; omega)] at k
      refine m_await (by omega) hM (by omega) r1.1 r1.2.2.1 qok r3 r4 (fun h5 W5 n5 F5 J5 => ⟨h5, rfl, rfl, ?_⟩)
      refine k h5 ⟨by rw [List.length_append]; simpa using n5, by rw [List.length_append]; simp; omega, W5, by rw [J5 12 (by omega)]; exact r1.2.2.2.1, c5, r1.2.2.2.2.2.1.kept (F5 _ (by omega) (by omega) (by omega) (by omega)) (F5 _ (by omega) (by omega) (by omega) (by omega)) (F5 _ (by omega) (by omega) (by omega) (by omega)), by rw [J5 16 (by omega)]; exact r1.2.2.2.2.2.2⟩ (md_fk_tr r2 ⟨fun c z => F5 c (by omega) (by omega) (by omega) (by omega), fun i z => by rw [F5 _ (by omega) (by omega) (by omega) (by omega)], fun i z => by rw [F5 _ (by omega) (by omega) (by omega) (by omega)], fun j z => J5 j (by omega)⟩)
    · rw [r1.1] at c
      rw [if_pos (show (ws, lost).1.length = 30 by show ws.length = 30; omega)] at k
      exact k h5 (r1.lost e5) (md_fk_tr r2 (md_fk_lost e5))
end
