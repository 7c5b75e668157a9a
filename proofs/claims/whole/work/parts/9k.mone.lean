/-! The reference: the goal, the lightest, a step. -/
def MdG (h : Nat → Nat → Int) (m : Nat) (gl : Option (List Nat × List Nat)) : Prop := (gl = none ∧ h m 17 = 0) ∨ ∃ q, gl = some q ∧ h m 17 = 1 ∧ SD h m 0 q.1 ∧ SD h m 1 q.2 ∧ tm_ok q.1 ∧ tm_ok q.2 ∧ ∀ c ∈ q.1 ++ q.2, c < 12 → c < 6
theorem MdG.kept {h h' : Nat → Nat → Int} {m : Nat} {gl : Option (List Nat × List Nat)} (H : MdG h m gl) (e1 : h' m 17 = h m 17) (e2 : ∀ i, i < 80 → h' (m + 10) i = h (m + 10) i) (e3 : ∀ i, i < 2 → h' (m + 11) i = h (m + 11) i) : MdG h' m gl := by
  rcases H with ⟨a, b⟩ | ⟨q, a, b, c, d, x1, x2⟩
  · exact Or.inl ⟨a, by rw [e1]; exact b⟩
  · have l1 := x1.2.1
    have l2 := x2.1.2.1
    exact Or.inr ⟨q, a, by rw [e1]; exact b, c.kept (e3 0 (by omega)) (fun i hi => e2 _ (by omega)), d.kept (e3 1 (by omega)) (fun i hi => e2 _ (by omega)), x1, x2⟩
theorem MdG.fk {h h' : Nat → Nat → Int} {m : Nat} {gl : Option (List Nat × List Nat)} (H : MdG h m gl) (f : md_fk m h h') : MdG h' m gl := H.kept (f.2.2.2 17 (by omega)) f.2.1 f.2.2.1
def MdK (h : Nat → Nat → Int) (m : Nat) (s : abS) : Prop := MdC h m s.1 s.2.1 s.2.2.2 ∧ MdG h m s.2.2.1
def md_f2 (m : Nat) (h h' : Nat → Nat → Int) : Prop := (∀ c, c < m ∨ (m < c ∧ c < m + 4) ∨ m + 30 < c → h' c = h c) ∧ ∀ j, j < 8 → h' m j = h m j
theorem md_f2_refl (m : Nat) (h : Nat → Nat → Int) : md_f2 m h h := ⟨fun _ _ => rfl, fun _ _ => rfl⟩
theorem md_f2_tr {m : Nat} {h h' h'' : Nat → Nat → Int} (a : md_f2 m h h') (b : md_f2 m h' h'') : md_f2 m h h'' := ⟨fun c z => by rw [b.1 c z, a.1 c z], fun j z => by rw [b.2 j z, a.2 j z]⟩
theorem md_fk_2 {m : Nat} {h h' : Nat → Nat → Int} (a : md_fk m h h') : md_f2 m h h' := ⟨a.1, fun j z => a.2.2.2 j (Or.inl z)⟩
section
variable {D : Nat} {sh : List (Nat × Nat)} {g : Nat → Nat → Option Nat} {h : Nat → Nat → Int} {Q : oeQ}
theorem m_proved (hDD : 4 ≤ D) {m : Nat} (hM : MdS sh g m) {gl : Option (List Nat × List Nat)} (hG : MdG h m gl) (k1 : ab_proved gl → Q (some (.inl 1)) (sh, g, h)) (k0 : ¬ ab_proved gl → Q (some (.inl 0)) (sh, g, h)) : oe_M D 68 [.inr (.inl m)] (sh, g, h) Q := by
  obtain ⟨d, rfl⟩ : ∃ d, D = d + 2 := ⟨D - 2, by omega⟩
  rcases hG with ⟨a, b⟩ | ⟨q, a, b, c, d', e1, e2⟩
  · exact g68 ⟨hM.1, fun _ => k0 (fun ⟨q, z, _⟩ => by rw [a] at z; cases z), fun z => absurd b z⟩
  · have l1 := e1.2.1
    refine g68 ⟨hM.1, fun z => by rw [b] at z; exact absurd z (by decide), fun _ => ?_⟩
    refine m_sameSide (s := 0) (t := 1) (by omega) hM (by omega) (by omega) e1.2.2 e2.1.2.2 (by omega) c d' (fun z => ⟨1, rfl, rfl, fun y => absurd y (by decide), fun _ => k1 ⟨q, a, z⟩⟩) (fun z => ⟨0, rfl, rfl, fun _ => k0 (fun ⟨q', z1, z2⟩ => ?_), fun y => absurd rfl y⟩)
    rw [a] at z1
    cases z1
    exact z z2
theorem m_reduceGoal (hDD : 16 ≤ D) {m : Nat} (hM : MdS sh g m) {ws eqs : List (List Nat × List Nat)} {lost : Nat} {gl : Option (List Nat × List Nat)} (C : MdC h m ws eqs lost) (hG : MdG h m gl)
    (k : ∀ h', MdC h' m ws eqs lost → MdG h' m (gl.map (ab_low eqs)) → md_f2 m h h' → Q none (sh, g, h')) : oe_M D 69 [.inr (.inl m)] (sh, g, h) Q := by
  obtain ⟨d, rfl⟩ : ∃ d, D = d + 2 := ⟨D - 2, by omega⟩
  rcases hG with ⟨a, b⟩ | ⟨q, a, b, c, d', e1, e2⟩
  · exact g69 ⟨hM.1, fun _ => k h C (by rw [a]; exact Or.inl ⟨rfl, b⟩) (md_f2_refl m h), fun z => absurd b z⟩
  · refine g69 ⟨hM.1, fun z => by rw [b] at z; exact absurd z (by decide), fun _ => ?_⟩
    refine m_side (s := 0) (by omega) hM (by omega) e1 C.2.2.2.2.1 C.2.2.2.1 C.2.2.2.2.2.1 c (fun h1 o1 S1 N1 G1 F1 J1 => ⟨h1, rfl, rfl, ?_⟩)
    have C1 : MdC h1 m ws eqs lost := C.kept (fun c z1 z2 => F1 c (by omega) (by omega) (by omega)) (J1 _ (by omega) (by omega) (by omega) (by omega)) (J1 _ (by omega) (by omega) (by omega) (by omega)) (J1 _ (by omega) (by omega) (by omega) (by omega))
    have l2 := e2.1.2.1
    have ol1 := o1.2.1
    refine m_side (s := 1) (by omega) hM (by omega) e2.1 C.2.2.2.2.1 C1.2.2.2.1 C1.2.2.2.2.2.1 (d'.kept (N1 1 (by omega)) (fun i hi => G1 _ (by omega))) (fun h2 o2 S2 N2 G2 F2 J2 => ⟨h2, rfl, rfl, ?_⟩)
    refine k h2 (C1.kept (fun c z1 z2 => F2 c (by omega) (by omega) (by omega)) (J2 _ (by omega) (by omega) (by omega) (by omega)) (J2 _ (by omega) (by omega) (by omega) (by omega)) (J2 _ (by omega) (by omega) (by omega) (by omega))) ?_ ⟨fun c z => by rw [F2 c (by omega) (by omega) (by omega), F1 c (by omega) (by omega) (by omega)], fun j z => by rw [J2 j (by omega) (by omega) (by omega) (by omega), J1 j (by omega) (by omega) (by omega) (by omega)]⟩
    rw [a]
    exact Or.inr ⟨ab_low eqs q, rfl, by rw [J2 _ (by omega) (by omega) (by omega) (by omega), J1 _ (by omega) (by omega) (by omega) (by omega)]; exact b, S1.kept (N2 0 (by omega)) (fun i hi => G2 _ (by omega)), S2, o1, o2, fun x hx h12 => e2.2 x (by
      rcases List.mem_append.mp hx with z | z
      · exact List.mem_append_left _ (ol_low_vars 50 q.1 x z h12)
      · exact List.mem_append_right _ (ol_low_vars 50 q.2 x z h12)) h12⟩
set_option maxHeartbeats 1000000 in
theorem m_lightest (hDD : 2 ≤ D) {m : Nat} (hM : MdS sh g m) {ws eqs : List (List Nat × List Nat)} {lost : Nat} (C : MdC h m ws eqs lost) (hpos : 0 < ws.length)
    (k : ∀ i h', ol_light ws i → MdC h' m (ws.eraseIdx i) eqs lost → SD h' m 2 (ws.getD i ([], [])).1 → SD h' m 3 (ws.getD i ([], [])).2 → md_fk m h h' → Q none (sh, g, h')) : oe_M D 70 [.inr (.inl m)] (sh, g, h) Q := by
  obtain ⟨d, rfl⟩ : ∃ d, D = d + 2 := ⟨D - 2, by omega⟩
  have ac4 := md_9 hM
  have ac5 := md_10 hM
  have ac6 := md_11 hM
  have acS := md_18 hM
  have acN := md_19 hM
  obtain ⟨c1, c2, c3, c4, c5, c6, c7⟩ := C
  -- the rows behind it move up
  have shift : ∀ (best : Nat) (h0 : Nat → Nat → Int), ol_light ws best → SD h0 m 2 (ws.getD best ([], [])).1 → SD h0 m 3 (ws.getD best ([], [])).2 → (∀ c, c ≠ m + 10 → c ≠ m + 11 → h0 c = h c) → (∀ i, i < 80 → h0 (m + 10) i = h (m + 10) i) → (∀ i, i < 2 → h0 (m + 11) i = h (m + 11) i) →
      ∀ (n x : Nat) (h1 : Nat → Nat → Int), ws.length - 1 - x = n → best ≤ x → x < ws.length → (∀ j, h1 (m + 5) j = if best ≤ j ∧ j < x then h (m + 5) (j + 1) else h (m + 5) j) → (∀ j, h1 (m + 6) j = if best ≤ j ∧ j < x then h (m + 6) (j + 1) else h (m + 6) j) → (∀ j, h1 (m + 4) j = if 20 * best ≤ j ∧ j < 20 * x then h (m + 4) (j + 20) else h (m + 4) j) → (∀ c, c ≠ m + 4 → c ≠ m + 5 → c ≠ m + 6 → h1 c = h0 c) →
      oe_V (oe_cost 70) 70 (oe_M (d + 1)) none Q 150 [some (.inr (.inl m)), none, some (.inl (x : Int)), none] [] (sh, g, h1) 0 0 := by
    intro best h0 hb S2 S3 F0 G0 H0 n
    induction n with
    | zero =>
      intro x h1 hn hx hx2 L5 L6 L4 F1
      have w8 : h1 m 8 = ((ws.length : Nat) : Int) := by rw [F1 _ (by omega) (by omega) (by omega), F0 _ (by omega) (by omega)]; exact c1
      refine g70_150 ⟨by unfold oe_rg; omega, hM.1, fun _ => ⟨by rw [w8]; unfold oe_rg; omega, fun h2 e2 => ?_⟩, fun c => by rw [w8] at c; omega⟩
      rw [w8] at e2
      have f2 : ∀ c, c ≠ m → h2 c = h1 c := fun c hc => by rw [e2, up_ne hc]
      have j2 : ∀ j, j ≠ 8 → h2 m j = h m j := fun j hj => by rw [e2, up_col hj, F1 _ (by omega) (by omega) (by omega), F0 _ (by omega) (by omega)]
      have el : (ws.eraseIdx best).length = ws.length - 1 := by rw [List.length_eraseIdx, if_pos hb.1]
      refine k best h2 hb ⟨by rw [e2, up_eq, el]; omega, by rw [el]; omega, fun j hj => ?_, by rw [j2 12 (by omega)]; exact c4, c5, c6.kept ?_ ?_ ?_, by rw [j2 16 (by omega)]; exact c7⟩ (S2.kept (by rw [f2 _ (by omega), F1 _ (by omega) (by omega) (by omega)]) (fun i hi => by rw [f2 _ (by omega), F1 _ (by omega) (by omega) (by omega)])) (S3.kept (by rw [f2 _ (by omega), F1 _ (by omega) (by omega) (by omega)]) (fun i hi => by rw [f2 _ (by omega), F1 _ (by omega) (by omega) (by omega)])) ⟨fun c z => by rw [f2 c (by omega), F1 c (by omega) (by omega) (by omega), F0 c (by omega) (by omega)], fun i z => by rw [f2 _ (by omega), F1 _ (by omega) (by omega) (by omega), G0 i z], fun i z => by rw [f2 _ (by omega), F1 _ (by omega) (by omega) (by omega), H0 i z], fun j z => j2 j (by omega)⟩
      · rw [el] at hj
        rw [og_erase]
        by_cases z : j < best
        · rw [if_pos z]
          obtain ⟨r1, r2, r3, r4⟩ := c3 j (by omega)
          have rl := r4.2.1
          refine ⟨?_, ?_, fun p hp => ?_, r4⟩
          · rw [f2 _ (by omega), L5, if_neg (by omega)]; exact r1
          · rw [f2 _ (by omega), L6, if_neg (by omega)]; exact r2
          · rw [List.length_append] at hp
            rw [f2 _ (by omega), L4, if_neg (by omega)]; exact r3 p (by rw [List.length_append]; exact hp)
        · rw [if_neg z]
          obtain ⟨r1, r2, r3, r4⟩ := c3 (j + 1) (by omega)
          have rl := r4.2.1
          refine ⟨?_, ?_, fun p hp => ?_, r4⟩
          · rw [f2 _ (by omega), L5, if_pos (by omega)]; exact r1
          · rw [f2 _ (by omega), L6, if_pos (by omega)]; exact r2
          · rw [List.length_append] at hp
            rw [f2 _ (by omega), L4, if_pos (by omega), show 20 * j + p + 20 = 20 * (j + 1) + p by omega]; exact r3 p (by rw [List.length_append]; exact hp)
      all_goals rw [f2 _ (by omega), F1 _ (by omega) (by omega) (by omega), F0 _ (by omega) (by omega)]
    | succ n ih =>
      intro x h1 hn hx hx2 L5 L6 L4 F1
      have w8 : h1 m 8 = ((ws.length : Nat) : Int) := by rw [F1 _ (by omega) (by omega) (by omega), F0 _ (by omega) (by omega)]; exact c1
      have x1 : (x : Int) + 1 = ((x + 1 : Nat) : Int) := by omega
      have inner : ∀ (n' y : Nat) (h2 : Nat → Nat → Int), 20 - y = n' → y ≤ 20 → (∀ j, h2 (m + 5) j = if best ≤ j ∧ j < x + 1 then h (m + 5) (j + 1) else h (m + 5) j) → (∀ j, h2 (m + 6) j = if best ≤ j ∧ j < x + 1 then h (m + 6) (j + 1) else h (m + 6) j) → (∀ j, h2 (m + 4) j = if 20 * best ≤ j ∧ j < 20 * x + y then h (m + 4) (j + 20) else h (m + 4) j) → (∀ c, c ≠ m + 4 → c ≠ m + 5 → c ≠ m + 6 → h2 c = h0 c) →
          oe_V (oe_cost 70) 70 (oe_M (d + 1)) none Q 190 [some (.inr (.inl m)), none, some (.inl (x : Int)), some (.inl (y : Int))] [] (sh, g, h2) 0 0 := by
        intro n'
        induction n' with
        | zero =>
          intro y h2 hn' hy M5 M6 M4 F2
          refine g70_190 ⟨fun _ => ⟨by unfold oe_rg; omega, ?_⟩, fun c => by omega⟩
          rw [x1]
          have : y = 20 := by omega
          subst this
          exact ih (x + 1) h2 (by omega) (by omega) (by omega) M5 M6 (fun j => by rw [M4 j, show 20 * x + 20 = 20 * (x + 1) by omega]) F2
        | succ n' ih' =>
          intro y h2 hn' hy M5 M6 M4 F2
          refine g70_190 ⟨fun c => by omega, fun _ => ⟨hM.1, m + 4, ac4.1, by unfold oe_rg; omega, by unfold oe_rg; omega, by unfold oe_rg; omega, by unfold oe_rg; omega, by unfold oe_rg; omega, 600, ac4.2, by omega, by omega, by omega, by omega, fun h3 e3 => ⟨by unfold oe_rg; omega, ?_⟩⟩⟩
          rw [show (20 * (x : Int) + (y : Int)).toNat = 20 * x + y by omega, show (20 * (x : Int) + 20 + (y : Int)).toNat = 20 * x + 20 + y by omega, M4 (20 * x + 20 + y), if_neg (by omega)] at e3
          rw [show (y : Int) + 1 = ((y + 1 : Nat) : Int) by omega]
          refine ih' (y + 1) h3 (by omega) (by omega) (fun j => by rw [e3, up_ne (by omega)]; exact M5 j) (fun j => by rw [e3, up_ne (by omega)]; exact M6 j) (fun j => ?_) (fun c z1 z2 z3 => by rw [e3, up_ne z1]; exact F2 c z1 z2 z3)
          by_cases ej : j = 20 * x + y
          · rw [ej, e3, up_eq, if_pos (by omega)]
            rw [show 20 * x + 20 + y = 20 * x + y + 20 by omega]
          · rw [e3, up_col ej, M4 j]
            by_cases z : 20 * best ≤ j ∧ j < 20 * x + y
            · rw [if_pos z, if_pos (by omega)]
            · rw [if_neg z, if_neg (by omega)]
      refine g70_150 ⟨by unfold oe_rg; omega, hM.1, fun c => by rw [w8] at c; omega, fun _ => ⟨m + 5, ac5.1, by unfold oe_rg; omega, 30, ac5.2, by omega, by omega, by omega, by omega, fun h2 e2 => ⟨m + 6, ac6.1, by unfold oe_rg; omega, 30, ac6.2, by omega, by omega, by omega, by omega, fun h3 e3 => ?_⟩⟩⟩
      rw [x1, Int.toNat_natCast, Int.toNat_natCast, L5 (x + 1), if_neg (by omega)] at e2
      rw [x1, Int.toNat_natCast, Int.toNat_natCast, show h2 (m + 6) (x + 1) = h (m + 6) (x + 1) by rw [e2, up_ne (by omega), L6, if_neg (by omega)]] at e3
      refine inner 20 0 h3 rfl (by omega) (fun j => ?_) (fun j => ?_) (fun j => by rw [e3, up_ne (by omega), e2, up_ne (by omega), L4 j]; rfl) (fun c z1 z2 z3 => by rw [e3, up_ne z3, e2, up_ne z2]; exact F1 c z1 z2 z3)
      · rw [e3, up_ne (by omega), e2]
        by_cases ej : j = x
        · rw [ej, up_eq, if_pos (by omega)]
        · rw [up_col ej, L5 j]
          by_cases z : best ≤ j ∧ j < x
          · rw [if_pos z, if_pos (by omega)]
          · rw [if_neg z, if_neg (by omega)]
      · rw [e3]
        by_cases ej : j = x
        · rw [ej, up_eq, if_pos (by omega)]
        · rw [up_col ej, e2, up_ne (by omega), L6 j]
          by_cases z : best ≤ j ∧ j < x
          · rw [if_pos z, if_pos (by omega)]
          · rw [if_neg z, if_neg (by omega)]
  -- its sides are copied
  have copy : ∀ (best : Nat), ol_light ws best → ∀ (n x : Nat) (h1 : Nat → Nat → Int), (ws.getD best ([], [])).1.length + (ws.getD best ([], [])).2.length - x = n → x ≤ (ws.getD best ([], [])).1.length + (ws.getD best ([], [])).2.length → h1 (m + 11) 2 = (((ws.getD best ([], [])).1.length : Nat) : Int) → h1 (m + 11) 3 = (((ws.getD best ([], [])).2.length : Nat) : Int) → (∀ j, j < x → j < (ws.getD best ([], [])).1.length → h1 (m + 10) (80 + j) = om ((ws.getD best ([], [])).1.getD j 0)) → (∀ j, (ws.getD best ([], [])).1.length + j < x → h1 (m + 10) (120 + j) = om ((ws.getD best ([], [])).2.getD j 0)) → (∀ c, c ≠ m + 10 → c ≠ m + 11 → h1 c = h c) → (∀ i, i < 80 → h1 (m + 10) i = h (m + 10) i) → (∀ i, i < 2 → h1 (m + 11) i = h (m + 11) i) →
      oe_V (oe_cost 70) 70 (oe_M (d + 1)) none Q 72 [some (.inr (.inl m)), some (.inl (best : Int)), some (.inl (x : Int)), none] [] (sh, g, h1) 0 0 := by
    intro best hb n
    have hb1 := hb.1
    obtain ⟨r1, r2, r3, r4⟩ := c3 best hb1
    have rl := r4.2.1
    generalize hq : ws.getD best ([], []) = q at *
    induction n with
    | zero =>
      intro x h1 hn hx n2 n3 P2 P3 F1 G1 H1
      have al : h1 (m + 6) best = ((q.1.length + q.2.length : Nat) : Int) := by rw [F1 _ (by omega) (by omega)]; exact r2
      refine g70_72 ⟨hM.1, m + 6, ac6.1, 30, ac6.2, by omega, by omega, fun _ => ?_, fun c => by rw [Int.toNat_natCast, al] at c; omega⟩
      refine shift best h1 hb (by rw [hq]; exact ⟨n2, fun j hj => by rw [show 40 * 2 + j = 80 + j by omega]; exact P2 j (by omega) hj⟩) (by rw [hq]; exact ⟨n3, fun j hj => by rw [show 40 * 3 + j = 120 + j by omega]; exact P3 j (by omega)⟩) F1 G1 H1 _ best h1 rfl (Nat.le_refl _) hb1 (fun j => by rw [if_neg (by omega), F1 _ (by omega) (by omega)]) (fun j => by rw [if_neg (by omega), F1 _ (by omega) (by omega)]) (fun j => by rw [if_neg (by omega), F1 _ (by omega) (by omega)]) (fun _ _ _ _ => rfl)
    | succ n ih =>
      intro x h1 hn hx n2 n3 P2 P3 F1 G1 H1
      have al : h1 (m + 6) best = ((q.1.length + q.2.length : Nat) : Int) := by rw [F1 _ (by omega) (by omega)]; exact r2
      have lf : h1 (m + 5) best = ((q.1.length : Nat) : Int) := by rw [F1 _ (by omega) (by omega)]; exact r1
      have cc : h1 (m + 4) (20 * best + x) = om ((q.1 ++ q.2).getD x 0) := by rw [F1 _ (by omega) (by omega)]; exact r3 x (by rw [List.length_append]; omega)
      have x1 : (x : Int) + 1 = ((x + 1 : Nat) : Int) := by omega
      have px : (20 * (best : Int) + (x : Int)).toNat = 20 * best + x := by omega
      refine g70_72 ⟨hM.1, m + 6, ac6.1, 30, ac6.2, by omega, by omega, fun c => by rw [Int.toNat_natCast, al] at c; omega, fun _ => ⟨m + 5, ac5.1, 30, ac5.2, by omega, by omega, ?_⟩⟩
      rw [Int.toNat_natCast, lf]
      refine ⟨fun c => ⟨m + 10, acS.1, by unfold oe_rg; omega, by omega, by omega, by unfold oe_rg; omega, m + 4, ac4.1, by unfold oe_rg; omega, by unfold oe_rg; omega, 600, ac4.2, by omega, by omega, 240, acS.2, by omega, by omega, fun h2 e2 => ⟨by unfold oe_rg; omega, ?_⟩⟩, fun c => ⟨m + 10, acS.1, by unfold oe_rg; omega, m + 4, ac4.1, by unfold oe_rg; omega, by unfold oe_rg; omega, 600, ac4.2, by omega, by omega, 240, acS.2, by omega, by omega, fun h2 e2 => ⟨by unfold oe_rg; omega, ?_⟩⟩⟩
      · rw [px, cc, ol_getD_app2 (by omega), show (120 + (x : Int) - ((q.1.length : Nat) : Int)).toNat = 120 + (x - q.1.length) by omega] at e2
        rw [x1]
        refine ih (x + 1) h2 (by omega) (by omega) (by rw [e2, up_ne (by omega)]; exact n2) (by rw [e2, up_ne (by omega)]; exact n3) (fun j z1 z2 => by rw [e2, up_col (by omega)]; exact P2 j (by omega) z2) (fun j z => ?_) (fun c z1 z2 => by rw [e2, up_ne z1]; exact F1 c z1 z2) (fun i z => by rw [e2, up_col (by omega)]; exact G1 i z) (fun i z => by rw [e2, up_ne (by omega)]; exact H1 i z)
        by_cases ej : j = x - q.1.length
        · subst ej; rw [e2, up_eq]
        · rw [e2, up_col (by omega)]; exact P3 j (by omega)
      · rw [px, cc, ol_getD_app1 (by omega), show (80 + (x : Int)).toNat = 80 + x by omega] at e2
        rw [x1]
        refine ih (x + 1) h2 (by omega) (by omega) (by rw [e2, up_ne (by omega)]; exact n2) (by rw [e2, up_ne (by omega)]; exact n3) (fun j z1 z2 => ?_) (fun j z => by omega) (fun c z1 z2 => by rw [e2, up_ne z1]; exact F1 c z1 z2) (fun i z => by rw [e2, up_col (by omega)]; exact G1 i z) (fun i z => by rw [e2, up_ne (by omega)]; exact H1 i z)
        by_cases ej : j = x
        · subst ej; rw [e2, up_eq]
        · rw [e2, up_col (by omega)]; exact P2 j (by omega) z2
  have find : ∀ (n best x : Nat), ws.length - x = n → best < x → x ≤ ws.length → (∀ j, j < x → ol_w (ws.getD best ([], [])) ≤ ol_w (ws.getD j ([], []))) → (∀ j, j < best → ol_w (ws.getD best ([], [])) < ol_w (ws.getD j ([], []))) →
      oe_V (oe_cost 70) 70 (oe_M (d + 1)) none Q 4 [some (.inr (.inl m)), some (.inl (best : Int)), some (.inl (x : Int)), none] [] (sh, g, h) 0 0 := by
    intro n
    induction n with
    | zero =>
      intro best x hn hbx hx i1 i2
      have hb : ol_light ws best := ⟨by omega, fun j hj => i1 j (by omega), i2⟩
      obtain ⟨r1, r2, r3, r4⟩ := c3 best hb.1
      have rl := r4.2.1
      refine g70_4 ⟨hM.1, fun _ => ⟨m + 11, acN.1, m + 5, ac5.1, 30, ac5.2, by omega, by omega, 6, acN.2, by omega, by omega, fun h1 e1 => ?_⟩, fun c => by rw [c1] at c; omega⟩
      rw [Int.toNat_natCast, r1] at e1
      have k6 : h1 (m + 6) best = h (m + 6) best := by rw [e1, up_ne (by omega)]
      have k5 : h1 (m + 5) best = h (m + 5) best := by rw [e1, up_ne (by omega)]
      refine ⟨m + 6, ac6.1, 30, ac6.2, by omega, by omega, by omega, by omega, by rw [Int.toNat_natCast, k6, k5, r1, r2]; unfold oe_rg; omega, by omega, by omega, fun h2 e2 => ?_⟩
      rw [Int.toNat_natCast, k6, k5, r1, r2] at e2
      exact copy best hb _ 0 h2 rfl (Nat.zero_le _) (by rw [e2, up_col (by omega), e1]; exact up_eq) (by rw [e2]; exact up_eq.trans (by omega)) (fun j hj => by omega) (fun j hj => by omega) (fun c z1 z2 => by rw [e2, up_ne z2, e1, up_ne z2]) (fun i z => by rw [e2, up_ne (by omega), e1, up_ne (by omega)]) (fun i z => by rw [e2, up_col (by omega), e1, up_col (by omega)])
    | succ n ih =>
      intro best x hn hbx hx i1 i2
      obtain ⟨_, r2, _, r4⟩ := c3 best (by omega)
      obtain ⟨_, s2, _, s4⟩ := c3 x (by omega)
      have x1 : (x : Int) + 1 = ((x + 1 : Nat) : Int) := by omega
      refine g70_4 ⟨hM.1, fun c => by rw [c1] at c; omega, fun _ => ⟨m + 6, ac6.1, 30, ac6.2, by omega, by omega, by omega, by omega, ?_⟩⟩
      rw [Int.toNat_natCast, Int.toNat_natCast, r2, s2, x1]
      refine ⟨fun c => ⟨by unfold oe_rg; omega, ih best (x + 1) (by omega) (by omega) (by omega) (fun j hj => ?_) i2⟩, fun c => ⟨by unfold oe_rg; omega, ih x (x + 1) (by omega) (by omega) (by omega) (fun j hj => ?_) (fun j hj => ?_)⟩⟩
      · by_cases ej : j = x
        · subst ej; unfold ol_w; omega
        · exact i1 j (by omega)
      · by_cases ej : j = x
        · subst ej; exact Nat.le_refl _
        · have := i1 j (by omega)
          unfold ol_w at this ⊢; omega
      · have := i1 j hj
        unfold ol_w at this ⊢; omega
  exact g70 (find (ws.length - 1) 0 1 rfl (by omega) (by omega) (fun j hj => by have : j = 0 := by omega
                                                                                subst this; exact Nat.le_refl _) (fun j hj => by omega))
end
