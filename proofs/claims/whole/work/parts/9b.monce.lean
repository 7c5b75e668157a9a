/-! The reference: reducing. -/
/-- equations that stand in rows of 20 -/
def MW (h : Nat → Nat → Int) (q lf al : Nat) (rows : List (List Nat × List Nat)) : Prop := ∀ i, i < rows.length → h lf i = (((rows.getD i ([], [])).1.length : Nat) : Int) ∧ h al i = (((rows.getD i ([], [])).1.length + (rows.getD i ([], [])).2.length : Nat) : Int) ∧ MA h q (20 * i) ((rows.getD i ([], [])).1 ++ (rows.getD i ([], [])).2) ∧ eq_ok (rows.getD i ([], []))
theorem MW.kept {h h' : Nat → Nat → Int} {q lf al : Nat} {rows : List (List Nat × List Nat)} (H : MW h q lf al rows) (e1 : h' q = h q) (e2 : h' lf = h lf) (e3 : h' al = h al) : MW h' q lf al rows := by
  intro i hi
  obtain ⟨a, b, c, d⟩ := H i hi
  exact ⟨by rw [e2]; exact a, by rw [e3]; exact b, fun j hj => by rw [e1]; exact c j hj, d⟩
theorem MA_1 {h : Nat → Nat → Int} {q f : Nat} {a b : List Nat} (H : MA h q f (a ++ b)) : MA h q f a := fun i hi => by
  have := H i (by rw [List.length_append]; omega)
  rw [ol_getD_app1 hi] at this; exact this
theorem MA_2 {h : Nat → Nat → Int} {q f : Nat} {a b : List Nat} (H : MA h q f (a ++ b)) : MA h q (f + a.length) b := fun i hi => by
  have := H (a.length + i) (by rw [List.length_append]; omega)
  rw [ol_getD_app2 (by omega), Nat.add_sub_cancel_left, ← Nat.add_assoc] at this; exact this
def md_fr (m : Nat) (h h' : Nat → Nat → Int) : Prop := (∀ c, c ≠ m → c < m + 13 ∨ m + 21 < c → h' c = h c) ∧ ∀ j, j ≠ 22 → j ≠ 24 → j ≠ 29 → j ≠ 33 → h' m j = h m j
theorem md_fr_refl (m : Nat) (h : Nat → Nat → Int) : md_fr m h h := ⟨fun _ _ _ => rfl, fun _ _ _ _ _ => rfl⟩
theorem md_fr_tr {m : Nat} {h h' h'' : Nat → Nat → Int} (a : md_fr m h h') (b : md_fr m h' h'') : md_fr m h h'' := ⟨fun c z1 z2 => by rw [b.1 c z1 z2, a.1 c z1 z2], fun j z1 z2 z3 z4 => by rw [b.2 j z1 z2 z3 z4, a.2 j z1 z2 z3 z4]⟩
theorem tm_rw {l : List Nat} (h : tm_ok l) : rw_ok l := by
  obtain ⟨⟨t, ht, hf⟩, _⟩ := h
  intro p hp
  exact ot_every t l 0 ht ⟨[], by rw [hf]; simp⟩ p (Nat.zero_le _) (by rw [hf]; omega)
section
variable {D : Nat} {sh : List (Nat × Nat)} {g : Nat → Nat → Option Nat} {h : Nat → Nat → Int} {Q : oeQ}
set_option maxHeartbeats 1000000 in
theorem m_once (hDD : 10 ≤ D) {m : Nat} (hM : MdS sh g m) {l : List Nat} {eqs : List (List Nat × List Nat)} (hl : tm_ok l) (hn10 : eqs.length ≤ 10) (nA : h m 12 = ((eqs.length : Nat) : Int)) (W : MW h (m + 7) (m + 8) (m + 9) eqs) (R : MR h (m + 18) l) (nl : h m 29 = ((l.length : Nat) : Int))
    (k1 : ∀ l' h', ol_once eqs l = some l' → tm_ok l' → MR h' (m + 18) l' → h' m 29 = ((l'.length : Nat) : Int) → md_fr m h h' → Q (some (.inl 1)) (sh, g, h'))
    (k0 : ol_once eqs l = none → ∀ h', MR h' (m + 18) l → h' m 29 = ((l.length : Nat) : Int) → md_fr m h h' → Q (some (.inl 0)) (sh, g, h')) :
    oe_M D 49 [.inr (.inl m)] (sh, g, h) Q := by
  obtain ⟨d, rfl⟩ : ∃ d, D = d + 2 := ⟨D - 2, by omega⟩
  have hlx := hl
  have rok := tm_rw hl
  obtain ⟨⟨t, ht, hf⟩, hlen, hok⟩ := hl
  have ac8 := md_14 hM
  have ac9 := md_15 hM
  have heq : ∀ i, i < eqs.length → eq_ok (eqs.getD i ([], [])) := fun i hi => (W i hi).2.2.2
  -- one place
  have place : ∀ (p : Nat), p < l.length → ∀ (n e : Nat) (h1 : Nat → Nat → Int), 2 * eqs.length - e = n → e ≤ 2 * eqs.length → (∀ j, j < e → ol_try eqs l p j = none) → (∀ j, j < p → ol_place eqs l j = none) → MR h1 (m + 18) l → h1 m 29 = ((l.length : Nat) : Int) → md_fr m h h1 →
      (∀ h2 : Nat → Nat → Int, ol_place eqs l p = none → MR h2 (m + 18) l → h2 m 29 = ((l.length : Nat) : Int) → md_fr m h h2 → oe_V (oe_cost 49) 49 (oe_M (d + 1)) none Q 2 [some (.inr (.inl m)), some (.inl ((p : Int) + 1)), none, none, none, none, none, none, none, none] [] (sh, g, h2) 0 0) →
      oe_V (oe_cost 49) 49 (oe_M (d + 1)) none Q 18 [some (.inr (.inl m)), some (.inl (p : Int)), some (.inl ((ol_en l p : Nat) : Int)), some (.inl (e : Int)), none, none, none, none, none, none] [] (sh, g, h1) 0 0 := by
    intro p hp n
    have en := ol_en_le (Nat.le_of_lt hp)
    have enl := ol_en_lt hp
    induction n with
    | zero =>
      intro e h1 hn he hj hjp R1 n1 fr1 K
      have w : h1 m 12 = ((eqs.length : Nat) : Int) := by rw [fr1.2 12 (by omega) (by omega) (by omega) (by omega)]; exact nA
      exact g49_18 ⟨hM.1, by rw [w]; unfold oe_rg; omega, fun _ => ⟨by unfold oe_rg; omega, K h1 (fs_none _ (fun j hj' => hj j (by omega))) R1 n1 fr1⟩, fun c => by rw [w] at c; omega⟩
    | succ n ih =>
      intro e h1 hn he hj hjp R1 n1 fr1 K
      have w : h1 m 12 = ((eqs.length : Nat) : Int) := by rw [fr1.2 12 (by omega) (by omega) (by omega) (by omega)]; exact nA
      have ei : e / 2 < eqs.length := by omega
      obtain ⟨q1, q2, q3, qok⟩ := W (e / 2) ei
      obtain ⟨⟨s, o, hs, ho, hfs, hfo⟩, qlen, ok1, ok2, va1, va2⟩ := qok
      have q1' : h1 (m + 8) (e / 2) = _ := (congrFun (fr1.1 (m + 8) (by omega) (by omega)) _).trans q1
      have q2' : h1 (m + 9) (e / 2) = _ := (congrFun (fr1.1 (m + 9) (by omega) (by omega)) _).trans q2
      have q3' : MA h1 (m + 7) (20 * (e / 2)) ((eqs.getD (e / 2) ([], [])).1 ++ (eqs.getD (e / 2) ([], [])).2) := fun j hj => by rw [fr1.1 (m + 7) (by omega) (by omega)]; exact q3 j hj
      have e1 : ((e : Int) + 1) = ((e + 1 : Nat) : Int) := by omega
      have skip : ∀ h2 : Nat → Nat → Int, ol_try eqs l p e = none → MR h2 (m + 18) l → h2 m 29 = ((l.length : Nat) : Int) → md_fr m h h2 → oe_rg ((e : Int) + 1) ∧ oe_V (oe_cost 49) 49 (oe_M (d + 1)) none Q 18 [some (.inr (.inl m)), some (.inl (p : Int)), some (.inl ((ol_en l p : Nat) : Int)), some (.inl ((e : Int) + 1)), none, none, none, none, none, none] [] (sh, g, h2) 0 0 := by
        intro h2 hno R2 n2 fr2
        rw [e1]
        refine ⟨by unfold oe_rg; omega, ih (e + 1) h2 (by omega) (by omega) (fun j hj' => ?_) hjp R2 n2 fr2 K⟩
        by_cases ej : j = e
        · subst ej; exact hno
        · exact hj j (by omega)
      -- matching, putting in, comparing, replacing; a: where the matched side begins, b: the other
      have core : ∀ (sl ol : List Nat) (a c : Nat) (v5 v6 v7 v8 : Int), ol_sides (eqs.getD (e / 2) ([], [])) e = (sl, ol) → MA h1 (m + 7) a sl → MA h1 (m + 7) c ol → a + sl.length ≤ 200 → c + ol.length ≤ 200 → ol_ok sl → ol_ok ol → (∀ x ∈ sl, x < 12 → x < 6) → (∀ x ∈ ol, x < 12 → x < 6) → (∃ w, ot_wf w ∧ ot_fl w = ol) →
          ((v5 = 0 ∧ v6 = (c : Int) ∧ v7 = ((c + ol.length : Nat) : Int)) ∨ (v5 ≠ 0 ∧ v7 = (c : Int) ∧ v8 = ((c + ol.length : Nat) : Int))) →
          oe_V (oe_cost 49) 49 (oe_M (d + 1)) none Q 102 [some (.inr (.inl m)), some (.inl (p : Int)), some (.inl ((ol_en l p : Nat) : Int)), some (.inl (e : Int)), none, some (.inl v5), some (.inl v6), some (.inl v7), some (.inl v8), none] [.inl ((a + sl.length : Nat) : Int), .inl (a : Int), .inr (.inl m)] (sh, g, h1) 0 0 := by
        intro sl ol a c v5 v6 v7 v8 hsides A1 A2 la lc oks oko vs vo otree hv
        refine g49_102 ⟨hM.1, m_matches (by omega) hM (by omega) hok rok n1 R1 la oks vs A1 p (by omega) (fun b h2 hb hbd hbv hbl F2 => ⟨1, h2, rfl, rfl, fun z => absurd z (by decide), fun _ => ?_⟩) (fun hb h2 F2 => ⟨0, h2, rfl, rfl, fun _ => ?_, fun z => absurd rfl z⟩)⟩
        · have R2 : MR h2 (m + 18) l := fun j hj => by rw [F2 _ (by omega) (by omega)]; exact R1 j hj
          have n2 : h2 m 29 = ((l.length : Nat) : Int) := by rw [F2 m (by omega) (by omega)]; exact n1
          have fr2 : md_fr m h h2 := md_fr_tr fr1 ⟨fun x z1 z2 => F2 x (by omega) (by omega), fun j _ _ _ _ => by rw [F2 m (by omega) (by omega)]⟩
          have A2' : MA h2 (m + 7) c ol := fun j hj => by rw [F2 _ (by omega) (by omega)]; exact A2 j hj
          have go : oe_V (oe_cost 49) 49 (oe_M (d + 1)) none Q 134 [some (.inr (.inl m)), some (.inl (p : Int)), some (.inl ((ol_en l p : Nat) : Int)), some (.inl (e : Int)), none, none, none, none, none, none] [.inl ((c + ol.length : Nat) : Int), .inl (c : Int), .inr (.inl m)] (sh, g, h2) 0 0 := by
            have room : (30 : Int) - ((l.length : Nat) : Int) + ((ol_en l p : Nat) : Int) - (p : Int) = ((30 + (ol_en l p - p) - l.length : Nat) : Int) := by omega
            refine g49_134 ⟨hM.1, by rw [n2]; unfold oe_rg; omega, by rw [n2]; unfold oe_rg; omega, by rw [n2]; unfold oe_rg; omega, hM.1, ?_⟩
            rw [n2, room]
            refine m_follows (by omega) hM (by omega) hok R2 lc oko vo A2' b hbd hbv hbl _ (by omega) (fun rep h3 hr B3 nb3 fo3 fr3 => ⟨1, h3, rfl, rfl, fun z => absurd z (by decide), fun _ => ?_⟩) (fun hr h3 fo3 fr3 => ⟨0, h3, rfl, rfl, fun _ => ?_, fun z => absurd rfl z⟩)
            · have R3 : MR h3 (m + 18) l := fun j hj => by rw [fr3 _ (by omega) (by omega)]; exact R2 j hj
              have n3 : h3 m 29 = ((l.length : Nat) : Int) := by rw [fo3 29 (by omega)]; exact n2
              have f3 : md_fr m h h3 := md_fr_tr fr2 ⟨fun x z1 z2 => fr3 x z1 (by omega), fun j _ _ _ z => fo3 j z⟩
              obtain ⟨g1, g2, g3⟩ := ol_fi_eq _ _ _ hr
              rw [List.nil_append] at g1
              have g2 := g2 (Nat.zero_le _)
              obtain ⟨wo, hwo, hfo'⟩ := otree
              have okr : ol_ok rep := by rw [g1]; exact ol_inst_ok hok oko
              rw [← hfo'] at g1 g3
              obtain ⟨v, hv1, hv2⟩ := ol_inst_tree ht hf hwo hbd g3
              rw [← g1] at hv2
              obtain ⟨u, hu, hau⟩ := rok p hp
              have hsub := ot_at_sub hu hau
              have gtiff := ol_gt_iff hu hv1
              rw [← hsub, hv2] at gtiff
              have tryeq : ol_try eqs l p e = @ite _ (ol_gt (ol_sub l p) rep) (Classical.propDecidable _) (some (l.take p ++ rep ++ l.drop (ol_en l p))) none := by
                unfold ol_try
                rw [hsides]
                dsimp only
                rw [hb]
                dsimp only
                rw [hr]
              refine m_isRep (by omega) hM (by omega) hok R3 (by omega) okr B3 nb3 p hu hv1 hau hv2 (fun z h4 fo4 fr4 => ⟨1, h4, rfl, rfl, fun y => absurd y (by decide), fun _ => ?_⟩) (fun z h4 fo4 fr4 => ⟨0, h4, rfl, rfl, fun _ => ?_, fun y => absurd rfl y⟩)
              · rw [if_pos (gtiff.mpr z)] at tryeq
                have R4 : MR h4 (m + 18) l := fun j hj => by rw [fr4 _ (by omega) (by omega)]; exact R3 j hj
                have B4 : MR h4 (m + 21) rep := fun j hj => by rw [fr4 _ (by omega) (by omega)]; exact B3 j hj
                have f4 : md_fr m h h4 := md_fr_tr f3 ⟨fun x z1 z2 => fr4 x z1 (by omega), fun j y1 y2 _ _ => fo4 j y1 y2⟩
                refine m_replace (by omega) hM (by omega) R4 (by rw [fo4 29 (by omega) (by omega)]; exact n3) (by omega) B4 (by rw [fo4 33 (by omega) (by omega)]; exact nb3) p (ol_en l p) (by omega) en (by omega) (fun h5 R5 n5 fo5 fr5 => ⟨h5, rfl, rfl, ?_⟩)
                exact k1 _ h5 (fs_some _ hp hjp (fs_some _ (by omega) hj tryeq)) (ol_try_ok hlx hp heq (by omega) tryeq) R5 n5 (md_fr_tr f4 ⟨fun x z1 z2 => fr5 x z1 (by omega), fun j _ _ y _ => fo5 j y⟩)
              · rw [if_neg (fun y => z (gtiff.mp y))] at tryeq
                exact skip h4 tryeq (fun j hj => by rw [fr4 _ (by omega) (by omega)]; exact R3 j hj) (by rw [fo4 29 (by omega) (by omega)]; exact n3) (md_fr_tr f3 ⟨fun x z1 z2 => fr4 x z1 (by omega), fun j y1 y2 _ _ => fo4 j y1 y2⟩)
            · refine skip h3 ?_ (fun j hj => by rw [fr3 _ (by omega) (by omega)]; exact R2 j hj) (by rw [fo3 29 (by omega)]; exact n2) (md_fr_tr fr2 ⟨fun x z1 z2 => fr3 x z1 (by omega), fun j _ _ _ z => fo3 j z⟩)
              unfold ol_try
              rw [hsides]
              dsimp only
              rw [hb]
              dsimp only
              rw [hr]
          rcases hv with ⟨x1, x2, x3⟩ | ⟨x1, x2, x3⟩
          · exact ⟨fun _ => ⟨fun _ => by rw [x2, x3]; exact go, fun z => absurd x1 z⟩, fun z => absurd x1 z⟩
          · exact ⟨fun z => absurd z x1, fun _ => ⟨fun z => absurd z x1, fun _ => by rw [x2, x3]; exact go⟩⟩
        · refine skip h2 ?_ (fun j hj => by rw [F2 _ (by omega) (by omega)]; exact R1 j hj) (by rw [F2 m (by omega) (by omega)]; exact n1) (md_fr_tr fr1 ⟨fun x z1 z2 => F2 x (by omega) (by omega), fun j _ _ _ _ => by rw [F2 m (by omega) (by omega)]⟩)
          unfold ol_try
          rw [hsides]
          dsimp only
          rw [hb]
      have ix : ((e : Int) / 2) = ((e / 2 : Nat) : Int) := by omega
      have s0 : 20 * ((e / 2 : Nat) : Int) = ((20 * (e / 2) : Nat) : Int) := by omega
      generalize hq : eqs.getD (e / 2) ([], []) = qq at *
      have s1 : ((20 * (e / 2) : Nat) : Int) + ((qq.1.length : Nat) : Int) = ((20 * (e / 2) + qq.1.length : Nat) : Int) := by omega
      have s2 : ((20 * (e / 2) : Nat) : Int) + ((qq.1.length + qq.2.length : Nat) : Int) = ((20 * (e / 2) + qq.1.length + qq.2.length : Nat) : Int) := by omega
      have at44 : ∀ w0 : Int, (w0 = 0 → e % 2 = 1) → (w0 ≠ 0 → e % 2 = 0) → oe_V (oe_cost 49) 49 (oe_M (d + 1)) none Q 44 [some (.inr (.inl m)), some (.inl (p : Int)), some (.inl ((ol_en l p : Nat) : Int)), some (.inl (e : Int)), some (.inl ((e : Int) / 2)), none, none, none, none, none] [.inl w0] (sh, g, h1) 0 0 := by
        intro w0 wz wn
        rw [ix]
        refine g49_44 ⟨by unfold oe_rg; omega, hM.1, m + 8, ac8.1, 10, ac8.2, by omega, by omega, by rw [Int.toNat_natCast, q1']; unfold oe_rg; omega, m + 9, ac9.1, 10, ac9.2, by omega, by omega, by rw [Int.toNat_natCast, q2']; unfold oe_rg; omega, ?_⟩
        rw [Int.toNat_natCast, q1', q2', s0, s1, s2]
        refine ⟨fun z => ⟨fun _ => ?_, fun y => absurd z y⟩, fun z => ⟨fun y => absurd y z, fun _ => ?_⟩⟩
        · exact core qq.2 qq.1 (20 * (e / 2) + qq.1.length) (20 * (e / 2)) w0 _ _ _ (by unfold ol_sides; rw [if_neg (by have := wz z; omega)]) (MA_2 q3') (MA_1 q3') (by omega) (by omega) ok2 ok1 va2 va1 ⟨s, hs, hfs⟩ (Or.inl ⟨z, rfl, rfl⟩)
        · exact core qq.1 qq.2 (20 * (e / 2)) (20 * (e / 2) + qq.1.length) w0 _ _ _ (by unfold ol_sides; rw [if_pos (wn z)]) (MA_1 q3') (MA_2 q3') (by omega) (by omega) ok1 ok2 va1 va2 ⟨o, ho, hfo⟩ (Or.inr ⟨z, rfl, rfl⟩)
      exact g49_18 ⟨hM.1, by rw [w]; unfold oe_rg; omega, fun c => by rw [w] at c; omega, fun _ => ⟨by omega, by omega, fun c => at44 0 (fun _ => by omega) (fun z => absurd rfl z), fun c => at44 1 (fun z => absurd z (by decide)) (fun _ => by omega)⟩⟩
  have outer : ∀ (n p : Nat) (h1 : Nat → Nat → Int), l.length - p = n → p ≤ l.length → (∀ j, j < p → ol_place eqs l j = none) → MR h1 (m + 18) l → h1 m 29 = ((l.length : Nat) : Int) → md_fr m h h1 →
      oe_V (oe_cost 49) 49 (oe_M (d + 1)) none Q 2 [some (.inr (.inl m)), some (.inl (p : Int)), none, none, none, none, none, none, none, none] [] (sh, g, h1) 0 0 := by
    intro n
    induction n with
    | zero =>
      intro p h1 hn hp hj R1 n1 fr1
      exact g49_2 ⟨hM.1, fun _ => k0 (fs_none _ (fun j hj' => hj j (by omega))) h1 R1 n1 fr1, fun c => by rw [n1] at c; omega⟩
    | succ n ih =>
      intro p h1 hn hp hj R1 n1 fr1
      have hp2 : p < l.length := by omega
      obtain ⟨u, hu, hau⟩ := rok p hp2
      refine g49_2 ⟨hM.1, fun c => by rw [n1] at c; omega, fun _ => m_behind (by omega) hM (by omega) hok R1 p hu hau ⟨_, rfl, rfl, ?_⟩⟩
      refine place p hp2 (2 * eqs.length) 0 h1 (by omega) (Nat.zero_le _) (fun j hj' => by omega) hj R1 n1 fr1 (fun h2 hno R2 n2 fr2 => ?_)
      rw [show (p : Int) + 1 = ((p + 1 : Nat) : Int) by omega]
      refine ih (p + 1) h2 (by omega) (by omega) (fun j hj' => ?_) R2 n2 fr2
      by_cases ej : j = p
      · subst ej; exact hno
      · exact hj j (by omega)
  exact g49 (outer l.length 0 h (by omega) (Nat.zero_le _) (fun j hj => by omega) R nl (md_fr_refl m h))
end
