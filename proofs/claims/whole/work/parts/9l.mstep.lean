/-! The reference: a step. -/
section
variable {D : Nat} {sh : List (Nat × Nat)} {g : Nat → Nat → Option Nat} {h : Nat → Nat → Int} {Q : oeQ}
set_option maxHeartbeats 1000000 in
theorem m_one (hDD : 28 ≤ D) {m : Nat} (hM : MdS sh g m) {s : abS} (hK : MdK h m s) (hlb : s.2.2.2 < 1800000000)
    (k : ∀ h', MdK h' m (ab_st s).2 → (ab_st s).2.2.2.2 ≤ s.2.2.2 + 1600 → md_f2 m h h' → Q (some (.inl (((ab_st s).1 : Nat) : Int))) (sh, g, h')) : oe_M D 71 [.inr (.inl m)] (sh, g, h) Q := by
  obtain ⟨d, rfl⟩ : ∃ d, D = d + 2 := ⟨D - 2, by omega⟩
  obtain ⟨ws, eqs, gl, lost⟩ := s
  obtain ⟨C, hG⟩ := hK
  have C : MdC h m ws eqs lost := C
  have hG : MdG h m gl := hG
  have hlb : lost < 1800000000 := hlb
  have ac7 := md_13 hM
  have ac8 := md_14 hM
  have ac9 := md_15 hM
  have acS := md_18 hM
  have acN := md_19 hM
  refine g71 ⟨hM.1, m_proved (by omega) hM hG (fun hp => ⟨1, rfl, rfl, fun c => absurd c (by decide), fun _ => ?_⟩) (fun hp => ⟨0, rfl, rfl, fun _ => ⟨fun c => ?_, fun c => ?_⟩, fun c => absurd rfl c⟩)⟩
  · have e : ab_st (ws, eqs, gl, lost) = (1, (ws, eqs, gl, lost)) := if_pos hp
    rw [e] at k
    exact k h ⟨C, hG⟩ (Nat.le_add_right _ _) (md_f2_refl m h)
  rotate_left
  · have hz : ws.length = 0 := by rw [C.1] at c; omega
    have e : ab_st (ws, eqs, gl, lost) = (0, (ws, eqs, gl, lost)) := by
      unfold ab_st ab_step
      rw [if_neg (show ¬ ab_proved (ws, eqs, gl, lost).2.2.1 from hp), if_pos (show (ws, eqs, gl, lost).1.length = 0 from hz)]
    rw [e] at k
    exact k h ⟨C, hG⟩ (Nat.le_add_right _ _) (md_f2_refl m h)
  have hpos : 0 < ws.length := by rw [C.1] at c; omega
  have e10 := C.2.2.2.2.1
  refine m_lightest (by omega) hM C hpos (fun i0 h1 hLt C1 A1 B1 K1 => ⟨h1, rfl, rfl, ?_⟩)
  have hok := (C.2.2.1 i0 hLt.1).2.2.2
  obtain ⟨q1, q2, q3, q4⟩ := eq_tm hok
  obtain ⟨_, _, ok1, ok2, va1, va2⟩ := hok
  rw [← ab_st_eq (i := i0) (s := (ws, eqs, gl, lost)) (fun _ => hLt)] at k
  unfold ab_step at k
  rw [if_neg (show ¬ ab_proved (ws, eqs, gl, lost).2.2.1 from hp), if_neg (show ¬ (ws, eqs, gl, lost).1.length = 0 by show ¬ ws.length = 0; omega)] at k
  have x1v := ol_low_vars (eqs := eqs) 50 (ws.getD i0 ([], [])).1
  have x2v := ol_low_vars (eqs := eqs) 50 (ws.getD i0 ([], [])).2
  refine m_side (s := 2) (by omega) hM (by omega) ⟨q1, by omega, ok1⟩ e10 C1.2.2.2.1 C1.2.2.2.2.2.1 A1 (fun h2 o1 S2 N2 G2 F2 J2 => ⟨h2, rfl, rfl, ?_⟩)
  have C2 : MdC h2 m (ws.eraseIdx i0) eqs lost := C1.kept (fun c z1 z2 => F2 c (by omega) (by omega) (by omega)) (J2 _ (by omega) (by omega) (by omega) (by omega)) (J2 _ (by omega) (by omega) (by omega) (by omega)) (J2 _ (by omega) (by omega) (by omega) (by omega))
  have B2 : SD h2 m 3 (ws.getD i0 ([], [])).2 := B1.kept (N2 3 (by omega)) (fun i hi => G2 _ (by omega))
  refine m_side (s := 3) (by omega) hM (by omega) ⟨q2, by omega, ok2⟩ e10 C2.2.2.2.1 C2.2.2.2.2.2.1 B2 (fun h3 o2 S3 N3 G3 F3 J3 => ⟨h3, rfl, rfl, ?_⟩)
  have C3 : MdC h3 m (ws.eraseIdx i0) eqs lost := C2.kept (fun c z1 z2 => F3 c (by omega) (by omega) (by omega)) (J3 _ (by omega) (by omega) (by omega) (by omega)) (J3 _ (by omega) (by omega) (by omega) (by omega)) (J3 _ (by omega) (by omega) (by omega) (by omega))
  have ol1 := o1.2.1
  have ol2 := o2.2.1
  have S2' : SD h3 m 2 (ol_low eqs 50 (ws.getD i0 ([], [])).1).1 := S2.kept (N3 2 (by omega)) (fun i hi => G3 _ (by omega))
  have K3 : md_fk m h h3 := md_fk_tr K1 (md_fk_tr (h' := h2) ⟨fun c z => F2 c (by omega) (by omega) (by omega), fun i z => G2 i (by omega), fun i z => N2 i (by omega), fun j z => J2 j (by omega) (by omega) (by omega) (by omega)⟩ ⟨fun c z => F3 c (by omega) (by omega) (by omega), fun i z => G3 i (by omega), fun i z => N3 i (by omega), fun j z => J3 j (by omega) (by omega) (by omega) (by omega)⟩)
  have x1v : ∀ c ∈ (ol_low eqs 50 (ws.getD i0 ([], [])).1).1, c < 12 → c < 6 := fun c hc h12 => va1 c (x1v c hc h12) h12
  have x2v : ∀ c ∈ (ol_low eqs 50 (ws.getD i0 ([], [])).2).1, c < 12 → c < 6 := fun c hc h12 => va2 c (x2v c hc h12) h12
  have ex : ab_low eqs (ws.getD i0 ([], [])) = ((ol_low eqs 50 (ws.getD i0 ([], [])).1).1, (ol_low eqs 50 (ws.getD i0 ([], [])).2).1) := rfl
  dsimp only at k
  rw [ex] at k
  generalize (ol_low eqs 50 (ws.getD i0 ([], [])).1).1 = x at *
  generalize (ol_low eqs 50 (ws.getD i0 ([], [])).2).1 = y at *
  have G3' : MdG h3 m gl := hG.fk K3
  have junk : (x = y ∨ 20 < ol_w (x, y)) → Q (some (.inl 3)) (sh, g, h3) := by
    intro hz
    rw [if_pos hz] at k
    exact k h3 ⟨C3, G3'⟩ (Nat.le_add_right _ _) (md_fk_2 K3)
  refine m_sameSide (s := 2) (t := 3) (by omega) hM (by omega) (by omega) o1.2.2 o2.2.2 (by omega) S2' S3 (fun z => ⟨1, rfl, rfl, fun _ => junk (Or.inl z), fun c => absurd c (by decide)⟩) (fun z => ⟨0, rfl, rfl, fun c => absurd rfl c, fun _ => ⟨m + 11, acN.1, 6, acN.2, by omega, by omega, by omega, by omega, ?_⟩⟩)
  rw [S2'.1, S3.1]
  refine ⟨by unfold oe_rg; omega, fun c3 => ?_, fun c3 => junk (Or.inr (by unfold ol_w; show 20 < x.length + y.length; omega))⟩
  rw [if_neg (show ¬ (x = y ∨ 20 < ol_w (x, y)) by unfold ol_w; intro w; rcases w with w | w; exact z w; have w : 20 < x.length + y.length := w; omega)] at k
  obtain ⟨y1, y2, y3, y4, y5, y6, y7⟩ := ol_nm_ok (x, y)
  dsimp only at y2 y3 y4 y5 y6 y7
  have y8 := ol_nm_6 (q := (x, y)) x1v x2v
  refine m_namePair (by omega) hM o1.2.2 o2.2.2 (by omega) (by omega) S2' S3 (fun h4 A4 B4 F4 G4 H4 => ⟨_, h4, rfl, rfl, ?_⟩)
  have C4 : MdC h4 m (ws.eraseIdx i0) eqs lost := C3.kept (fun c z1 z2 => F4 c (by omega) (by omega) (by omega)) (by rw [F4 m (by omega) (by omega) (by omega)]) (by rw [F4 m (by omega) (by omega) (by omega)]) (by rw [F4 m (by omega) (by omega) (by omega)])
  have K4 : md_fk m h h4 := md_fk_tr K3 ⟨fun c z => F4 c (by omega) (by omega) (by omega), fun i z => G4 i z, fun i z => H4 i (by omega), fun j z => by rw [F4 m (by omega) (by omega) (by omega)]⟩
  have qok : eq_ok (ol_nm (x, y)).1 := by
    obtain ⟨s, s1, s2⟩ := ol_tm_map y2.symm o1.1
    obtain ⟨t, t1, t2⟩ := ol_tm_map y3.symm o2.1
    refine ⟨⟨s, t, s1, t1, s2, t2⟩, by omega, fun c hc => ?_, fun c hc => ?_, fun c hc hc2 => ?_, fun c hc hc2 => ?_⟩
    · rcases y6 c hc with z | z
      · omega
      · exact o1.2.2 c z.2
    · rcases y7 c hc with z | z
      · omega
      · exact o2.2.2 c z.2
    · rcases y6 c hc with z | z <;> omega
    · rcases y7 c hc with z | z <;> omega
  generalize (ol_nm (x, y)).1 = p at *
  obtain ⟨p1, p2⟩ := p
  dsimp only at A4 B4 y4 y5
  have r1 : ol_ok p1 := qok.2.2.1
  have r2 : ol_ok p2 := qok.2.2.2.1
  have Kn : ∀ h5 : Nat → Nat → Int, md_fn m h4 h5 → MdC h5 m (ws.eraseIdx i0) eqs lost ∧ md_fk m h h5 ∧ SD h5 m 2 p1 ∧ SD h5 m 3 p2 := fun h5 f5 => ⟨C4.kept (fun c z1 z2 => f5.1 c (by omega) (by omega) (by omega)) (by rw [f5.1 m (by omega) (by omega) (by omega)]) (by rw [f5.1 m (by omega) (by omega) (by omega)]) (by rw [f5.1 m (by omega) (by omega) (by omega)]), md_fk_tr K4 ⟨fun c z => f5.1 c (by omega) (by omega) (by omega), fun i z => f5.2.1 i (by omega), fun i z => f5.2.2 i (by omega), fun j z => by rw [f5.1 m (by omega) (by omega) (by omega)]⟩, A4.kept (f5.2.2 2 (by omega)) (fun i hi => f5.2.1 _ (by omega)), B4.kept (f5.2.2 3 (by omega)) (fun i hi => f5.2.1 _ (by omega))⟩
  refine m_isKnown (w := 0) (by omega) hM e10 C4.2.1 C4.2.2.2.1 C4.2.2.2.2.2.1 C4.1 C4.2.2.1 r1 r2 (show p1.length ≤ 40 by omega) (show p2.length ≤ 40 by omega) A4 B4 (fun z1 h5 f5 => ⟨1, h5, rfl, rfl, fun c => absurd c (by decide), fun _ => ?_⟩) (fun z1 h5 f5 => ⟨0, h5, rfl, rfl, fun _ => ?_, fun c => absurd rfl c⟩)
  · obtain ⟨t1, t2, _, _⟩ := Kn h5 f5
    rw [if_pos (show ab_in eqs (p1, p2) by rcases z1 with z1 | z1; exact z1; exact absurd rfl z1.1)] at k
    exact k h5 ⟨t1, hG.fk t2⟩ (Nat.le_add_right _ _) (md_fk_2 t2)
  obtain ⟨C5, K5, A5, B5⟩ := Kn h5 f5
  rw [if_neg (show ¬ ab_in eqs (p1, p2) from fun z => z1 (Or.inl z))] at k
  refine ⟨fun c4 => ⟨m + 8, ac8.1, by omega, by omega, 10, ac8.2, by rw [C5.2.2.2.1]; omega, by rw [C5.2.2.2.1] at c4 ⊢; omega, fun h6 e6 => ?_⟩, fun c4 => ?_⟩
  rotate_left
  · rw [C5.2.2.2.1] at c4
    rw [if_pos (show eqs.length = 10 by omega)] at k
    exact k h5 ⟨C5, hG.fk K5⟩ (Nat.le_add_right _ _) (md_fk_2 K5)
  rw [C5.2.2.2.1] at c4
  rw [if_neg (show ¬ eqs.length = 10 by omega)] at k
  -- it becomes active
  rw [C5.2.2.2.1, Int.toNat_natCast, A5.1] at e6
  have x2 : h6 (m + 11) 2 = ((p1.length : Nat) : Int) := by rw [e6, up_ne (by omega)]; exact A5.1
  have x3 : h6 (m + 11) 3 = ((p2.length : Nat) : Int) := by rw [e6, up_ne (by omega)]; exact B5.1
  have x12 : h6 m 12 = ((eqs.length : Nat) : Int) := by rw [e6, up_ne (by omega)]; exact C5.2.2.2.1
  refine ⟨m + 9, ac9.1, by omega, by omega, by omega, by omega, by rw [x2, x3]; unfold oe_rg; omega, 10, ac9.2, by omega, by omega, fun h7 e7 => ?_⟩
  rw [x12, x2, x3, Int.toNat_natCast] at e7
  have plen : p1.length + p2.length ≤ 20 := by omega
  -- all overlaps
  have ds : ∀ (n dd : Nat) (t : List (List Nat × List Nat) × Nat) (h1 : Nat → Nat → Int), eqs.length + 1 - dd = n → dd ≤ eqs.length + 1 → MdC h1 m t.1 (eqs ++ [(p1, p2)]) t.2 → t.2 + 160 * n ≤ lost + 1600 → MdG h1 m gl → md_f2 m h h1 → ab_ds (eqs ++ [(p1, p2)]) eqs.length n dd t = ab_ds (eqs ++ [(p1, p2)]) eqs.length (eqs.length + 1) 0 (ws.eraseIdx i0, lost) →
      oe_V (oe_cost 71) 71 (oe_M (d + 1)) none Q 209 [some (.inr (.inl m)), some (.inl (dd : Int))] [] (sh, g, h1) 0 0 := by
    intro n
    have l4 : (eqs ++ [(p1, p2)]).length = eqs.length + 1 := by rw [List.length_append]; rfl
    induction n with
    | zero =>
      intro dd t h1 hn hd D1 B1 Q1 f1 he
      have he : t = ab_ds (eqs ++ [(p1, p2)]) eqs.length (eqs.length + 1) 0 (ws.eraseIdx i0, lost) := he
      rw [← he] at k
      have n12 : h1 m 12 = ((eqs.length + 1 : Nat) : Int) := by rw [D1.2.2.2.1, l4]
      refine g71_209 ⟨hM.1, fun _ => ?_, fun c => by rw [n12] at c; omega⟩
      refine m_reduceGoal (by omega) hM D1 Q1 (fun h2 D2 Q2 f2 => ⟨h2, rfl, rfl, ?_⟩)
      have f := md_f2_tr f1 f2
      refine m_proved (by omega) hM Q2 (fun z3 => ⟨1, rfl, rfl, fun c => absurd c (by decide), fun _ => ?_⟩) (fun z3 => ⟨0, rfl, rfl, fun _ => ?_, fun c => absurd rfl c⟩)
      · have := k h2 ⟨D2, Q2⟩ (by show t.2 ≤ lost + 1600; omega) f
        rw [if_pos z3] at this
        exact this
      · have := k h2 ⟨D2, Q2⟩ (by show t.2 ≤ lost + 1600; omega) f
        rw [if_neg z3] at this
        exact this
    | succ n ih =>
      intro dd t h1 hn hd D1 B1 Q1 f1 he
      have n12 : h1 m 12 = ((eqs.length + 1 : Nat) : Int) := by rw [D1.2.2.2.1, l4]
      have n12' : h1 m 12 - 1 = ((eqs.length : Nat) : Int) := by omega
      have d1 : ((dd : Int) + 1) = ((dd + 1 : Nat) : Int) := by omega
      have he : ab_ds (eqs ++ [(p1, p2)]) eqs.length n (dd + 1) (ab_turns (eqs ++ [(p1, p2)]) eqs.length dd (if dd = eqs.length then 4 else 8) 0 t) = _ := he
      refine g71_209 ⟨hM.1, fun c => by rw [n12] at c; omega, fun _ => ⟨by rw [n12']; unfold oe_rg; omega, ?_⟩⟩
      rw [n12']
      refine m_overlaps (by omega) hM D1 (by omega) (by rw [l4]; omega) (by rw [l4]; omega) (fun h2 D2 B2 K2 => ⟨h2, rfl, rfl, ?_⟩)
      have m12' : h2 m 12 - 1 = ((eqs.length : Nat) : Int) := by rw [D2.2.2.2.1, l4]; omega
      rw [m12', d1]
      have f2 := md_f2_tr f1 (md_fk_2 K2)
      refine ⟨by unfold oe_rg; omega, fun c => ⟨by unfold oe_rg; omega, ?_⟩, fun c => ⟨by unfold oe_rg; omega, ?_⟩⟩
      · have ed : dd = eqs.length := by omega
        rw [if_pos ed, ab_four_4] at he
        exact ih (dd + 1) _ h2 (by omega) (by omega) D2 (by omega) (Q1.fk K2) f2 he
      · rw [if_neg (show ¬ dd = eqs.length by omega), ab_four_8 _ (by omega)] at he
        refine m_overlaps (by omega) hM D2 (by omega) (by rw [l4]; omega) (by rw [l4]; omega) (fun h3 D3 B3 K3 => ⟨h3, rfl, rfl, by unfold oe_rg; omega, ?_⟩)
        exact ih (dd + 1) _ h3 (by omega) (by omega) D3 (by omega) ((Q1.fk K2).fk K3) (md_f2_tr f2 (md_fk_2 K3)) he
  have loop : ∀ (n i : Nat) (h1 : Nat → Nat → Int), p1.length + p2.length - i = n → i ≤ p1.length + p2.length → h1 (m + 8) eqs.length = ((p1.length : Nat) : Int) → h1 (m + 9) eqs.length = ((p1.length + p2.length : Nat) : Int) → (∀ j, j ≠ eqs.length → h1 (m + 8) j = h5 (m + 8) j ∧ h1 (m + 9) j = h5 (m + 9) j) → (∀ j, j < i → h1 (m + 7) (20 * eqs.length + j) = om ((p1 ++ p2).getD j 0)) → (∀ j, j < 20 * eqs.length → h1 (m + 7) j = h5 (m + 7) j) → (∀ c, c ≠ m + 7 → c ≠ m + 8 → c ≠ m + 9 → h1 c = h5 c) →
      oe_V (oe_cost 71) 71 (oe_M (d + 1)) none Q 126 [some (.inr (.inl m)), some (.inl (i : Int))] [] (sh, g, h1) 0 0 := by
    intro n
    have MWe := C5.2.2.2.2.2.1
    induction n with
    | zero =>
      intro i h1 hn hi n8 n9 F89 P7 F7 F
      have c12 : h1 m 12 = ((eqs.length : Nat) : Int) := by rw [F m (by omega) (by omega) (by omega)]; exact C5.2.2.2.1
      refine g71_126 ⟨hM.1, m + 9, ac9.1, 10, ac9.2, by omega, by omega, fun _ => ⟨by rw [c12]; unfold oe_rg; omega, fun h2 e2 => ?_⟩, fun c => by rw [c12, Int.toNat_natCast, n9] at c; omega⟩
      rw [c12] at e2
      have f2 : ∀ c, c ≠ m → h2 c = h1 c := fun c hc => by rw [e2, up_ne hc]
      have j2 : ∀ j, j ≠ 12 → h2 m j = h5 m j := fun j hj => by rw [e2, up_col hj, F m (by omega) (by omega) (by omega)]
      have g2 : ∀ c, c ≠ m → c ≠ m + 7 → c ≠ m + 8 → c ≠ m + 9 → h2 c = h5 c := fun c z1 z2 z3 z4 => by rw [f2 c z1, F c z2 z3 z4]
      have K2 : md_fk m h5 h2 := ⟨fun c z => g2 c (by omega) (by omega) (by omega) (by omega), fun j _ => by rw [g2 _ (by omega) (by omega) (by omega) (by omega)], fun j _ => by rw [g2 _ (by omega) (by omega) (by omega) (by omega)], fun j z => j2 j (by omega)⟩
      refine ds (eqs.length + 1) 0 (ws.eraseIdx i0, lost) h2 rfl (by omega) ⟨by rw [j2 8 (by omega)]; exact C5.1, C5.2.1, C5.2.2.1.kept (g2 _ (by omega) (by omega) (by omega) (by omega)) (g2 _ (by omega) (by omega) (by omega) (by omega)) (g2 _ (by omega) (by omega) (by omega) (by omega)), by rw [e2, up_eq, List.length_append]; rfl, by rw [List.length_append]; simp; omega, fun j hj => ?_, by rw [j2 16 (by omega)]; exact C5.2.2.2.2.2.2⟩ (by show lost + 160 * (eqs.length + 1) ≤ _; omega) ((hG.fk K5).fk K2) (md_fk_2 (md_fk_tr K5 K2)) rfl
      rw [List.length_append] at hj
      simp only [List.length_cons, List.length_nil] at hj
      rw [og_app]
      by_cases ej : j < eqs.length
      · rw [if_pos ej]
        obtain ⟨z1, z2, z3, z4⟩ := MWe j ej
        have zl := z4.2.1
        refine ⟨by rw [f2 _ (by omega), (F89 j (by omega)).1]; exact z1, by rw [f2 _ (by omega), (F89 j (by omega)).2]; exact z2, fun p hp => ?_, z4⟩
        rw [f2 _ (by omega), F7 _ (by rw [List.length_append] at hp; omega)]; exact z3 p hp
      · rw [if_neg ej, if_pos (by omega)]
        have ej2 : j = eqs.length := by omega
        subst ej2
        refine ⟨by rw [f2 _ (by omega)]; exact n8, by rw [f2 _ (by omega)]; exact n9, fun p hp => ?_, qok⟩
        rw [f2 _ (by omega)]
        exact P7 p (by rw [List.length_append] at hp; dsimp only at hp; omega)
    | succ n ih =>
      intro i h1 hn hi n8 n9 F89 P7 F7 F
      have c12 : h1 m 12 = ((eqs.length : Nat) : Int) := by rw [F m (by omega) (by omega) (by omega)]; exact C5.2.2.2.1
      have a2 : h1 (m + 11) 2 = ((p1.length : Nat) : Int) := by rw [F _ (by omega) (by omega) (by omega)]; exact A5.1
      have e1 : (i : Int) + 1 = ((i + 1 : Nat) : Int) := by omega
      have nxt : ∀ h2 : Nat → Nat → Int, h2 = oe_up h1 (m + 7) (20 * eqs.length + i) (om ((p1 ++ p2).getD i 0)) → oe_V (oe_cost 71) 71 (oe_M (d + 1)) none Q 126 [some (.inr (.inl m)), some (.inl ((i + 1 : Nat) : Int))] [] (sh, g, h2) 0 0 := by
        intro h2 e2
        refine ih (i + 1) h2 (by omega) (by omega) (by rw [e2, up_ne (by omega)]; exact n8) (by rw [e2, up_ne (by omega)]; exact n9) (fun j hj => by rw [e2, up_ne (by omega), up_ne (by omega)]; exact F89 j hj) (fun j hj => ?_) (fun j hj => by rw [e2, up_col (by omega)]; exact F7 j hj) (fun c y1 y2 y3 => by rw [e2, up_ne y1]; exact F c y1 y2 y3)
        by_cases ej : j = i
        · subst ej; rw [e2, up_eq]
        · rw [e2, up_col (by omega)]; exact P7 j (by omega)
      refine g71_126 ⟨hM.1, m + 9, ac9.1, 10, ac9.2, by omega, by omega, fun c => by rw [c12, Int.toNat_natCast, n9] at c; omega, fun _ => ⟨m + 7, ac7.1, by unfold oe_rg; omega, by unfold oe_rg; omega, m + 11, acN.1, 6, acN.2, by omega, by omega, fun c => ⟨m + 10, acS.1, by unfold oe_rg; omega, by omega, by omega, by unfold oe_rg; omega, 240, acS.2, by omega, by omega, 200, ac7.2, by omega, by omega, fun h2 e2 => ⟨by unfold oe_rg; omega, ?_⟩⟩, fun c => ⟨m + 10, acS.1, by unfold oe_rg; omega, 240, acS.2, by omega, by omega, 200, ac7.2, by omega, by omega, fun h2 e2 => ⟨by unfold oe_rg; omega, ?_⟩⟩⟩⟩
      · rw [e1]
        refine nxt h2 ?_
        have hb := B5.2 (i - p1.length) (by omega)
        rw [e2, c12, a2, show (20 * ((eqs.length : Nat) : Int) + (i : Int)).toNat = 20 * eqs.length + i by omega, show (120 + (i : Int) - ((p1.length : Nat) : Int)).toNat = 40 * 3 + (i - p1.length) by omega, F (m + 10) (by omega) (by omega) (by omega), hb, ol_getD_app2 (by omega)]
      · rw [e1]
        refine nxt h2 ?_
        have ha := A5.2 i (by omega)
        rw [e2, c12, show (20 * ((eqs.length : Nat) : Int) + (i : Int)).toNat = 20 * eqs.length + i by omega, show (80 + (i : Int)).toNat = 40 * 2 + i by omega, F (m + 10) (by omega) (by omega) (by omega), ha, ol_getD_app1 (by omega)]
  exact loop (p1.length + p2.length) 0 h7 (by omega) (Nat.zero_le _) (by rw [e7, up_ne (by omega), e6, up_eq]) (by rw [e7, up_eq]; omega) (fun j hj => ⟨by rw [e7, up_ne (by omega), e6, up_col hj], by rw [e7, up_col hj, e6, up_ne (by omega)]⟩) (fun j hj => by omega) (fun j hj => by rw [e7, up_ne (by omega), e6, up_ne (by omega)]) (fun c y1 y2 y3 => by rw [e7, up_ne y3, e6, up_ne y2])
end
