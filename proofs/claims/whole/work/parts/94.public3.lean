/-! The public methods (class), as far as they don't throw: goal, unify, steps, count, show. -/
noncomputable def ab_unify (x : abF) : Int × abF := match ol_rd true true x.1 0 false 1 [] [] with
  | .inl i => (-1 - (i : Int), ([], x.2))
  | .inr q => match ou 300 (fun _ => none) [(ol_tr q.1, ol_tr q.2)] with
    | none => (-100, ([], x.2))
    | some σ => if 60 < (ou_X σ q.1).length then (-100, ([], x.2)) else ((((ou_X σ q.1).length : Nat) : Int), ([], (ou_X σ q.1).map ab_lt, x.2.2))
noncomputable def ol_li (ws : List (List Nat × List Nat)) : Nat := @dite _ (∃ i, ol_light ws i) (Classical.propDecidable _) (fun h => h.choose) (fun _ => 0)
theorem ol_li_eq {ws : List (List Nat × List Nat)} {i : Nat} (h : ol_light ws i) : ol_li ws = i := by
  unfold ol_li
  have h2 : ∃ i, ol_light ws i := ⟨i, h⟩
  rw [dif_pos h2]
  exact ol_light_uniq h2.choose_spec h
noncomputable def ab_st (s : abS) : Nat × abS := ab_step s (ol_li s.1)
theorem ab_st_eq {s : abS} {i : Nat} (h : 0 < s.1.length → ol_light s.1 i) : ab_step s i = ab_st s := by
  unfold ab_st
  by_cases e : 0 < s.1.length
  · rw [ol_li_eq (h e)]
  · unfold ab_step
    have e0 : s.1.length = 0 := by omega
    simp only [if_pos e0]
noncomputable def ab_more : Nat → Nat × abS → Nat × abS
  | 0, r => r
  | n + 1, r => if r.1 = 0 ∨ r.1 = 1 then r else ab_more n (ab_st r.2)
theorem ab_more_end {r : Nat × abS} (h : r.1 = 0 ∨ r.1 = 1) : ∀ n, ab_more n r = r
  | 0 => rfl
  | n + 1 => if_pos h
theorem st_b3 (i a b c : Nat) (z1 : a ≤ b + 1600) (z2 : b ≤ c + 1600 * i) : a ≤ c + 1600 * (i + 1) := by
  rw [Nat.mul_add, Nat.mul_one]
  exact Nat.le_trans z1 (by rw [← Nat.add_assoc]; exact Nat.add_le_add_right z2 _)
section
variable {D : Nat} {sh : List (Nat × Nat)} {g : Nat → Nat → Option Nat} {h : Nat → Nat → Int} {Q : oeQ}
theorem c_goal (hDD : 72 ≤ D) {π : Nat → Nat} {x : abF} (hO : OeS sh g π) (hF : OeF h π x)
    (k : ∀ h', OeF h' π (ab_goal x).2 → (∀ c, 348 ≤ c → h' c = h c) → Q (some (.inl (ab_goal x).1)) (sh, g, h')) : oe_M D 6 [.inr (.inl 0)] (sh, g, h) Q := by
  obtain ⟨d, rfl⟩ : ∃ d, D = d + 2 := ⟨D - 2, by omega⟩
  have hOO := hO
  obtain ⟨o0, _, ⟨w1, w2⟩, ⟨a1, a2⟩, _, ⟨t1, t2⟩, ⟨r1, r2⟩, _⟩ := hO
  have wp : ∀ i, i < 30 → π i < 30 := fun i hi => (w2.2.2.2.2.1 i hi).1
  have T60 := hF.1.2.1
  unfold ab_goal at k
  refine g6 ⟨o0, c_read (by omega) hOO hF.1 true false (fun i h1 hr t0 fo fr => ?_) (fun q h1 hr C1 E1 t0 fo fr => ?_)⟩
  · rw [hr] at k
    have := rd_lt hr
    exact ⟨_, h1, rfl, rfl, fun c => by omega, fun _ => ⟨by unfold oe_rg; omega, k h1 (rd_kept hOO hF t0 fo fr) (fun c hc => fr c (by omega) (by omega))⟩⟩
  · rw [hr] at k
    try dsimp only at k
    obtain ⟨y1, y2, y3, y4, y5⟩ := rd_all hr
    have y4 := y4 rfl
    have F1 := rd_kept hOO hF t0 fo fr
    have l1 : h1 327 2 = ((q.1.length : Nat) : Int) := C1.1.1
    have l2 : h1 330 2 = ((q.2.length : Nat) : Int) := C1.2.1
    have heavy : (20 < q.1.length ∨ 20 < q.2.length) → Q (some (.inl (-200))) (sh, g, h1) := fun z => by
      rw [if_pos z] at k
      exact k h1 F1 (fun c hc => fr c (by omega) (by omega))
    refine ⟨_, h1, rfl, rfl, fun _ => ⟨326, r1, r2.1, 327, r2.2.1, r2.2.2.2.1.1, fun c2 => heavy (Or.inl (by rw [l1] at c2; omega)), fun c2 => ⟨330, r2.2.2.1, r2.2.2.2.2.1, fun c3 => ⟨319, t1, t2.1, ?_⟩, fun c3 => heavy (Or.inr (by rw [l2] at c3; omega))⟩⟩, fun c => absurd rfl c⟩
    rw [l1] at c2
    rw [l2] at c3
    rw [if_neg (show ¬ (20 < q.1.length ∨ 20 < q.2.length) by omega)] at k
    refine c_ebecome (by omega) t2 r2.2.2.2.1 r2.2.2.2.2 (by omega) (by omega) C1.1 E1.1 C1.2 E1.2 (by omega) (by omega) (by omega) (by omega) (fun h2 C2 E2 F2 => ⟨h2, rfl, rfl, fun h3 e3 => ?_⟩)
    have f3 : ∀ c, c ≠ 0 → c < 320 ∨ 325 < c → h3 c = h1 c := fun c z1 z2 => by rw [e3, up_ne z1, F2 c (by omega)]
    have f30 : ∀ j, j ≠ 9 → h3 0 j = h1 0 j := fun j hj => by rw [e3, up_col hj, F2 0 (by omega)]
    have C3 : EqC h3 319 q := C2.kept (fun c z1 z2 => by rw [e3, up_ne (by omega)])
    have E3 : EqE h3 319 q := E2.kept (fun c z1 z2 => by rw [e3, up_ne (by omega)])
    have A3 : AcC h3 215 x.2.2.2.1 := F1.2.2.2.1.kept (f3 _ (by omega) (by omega)) (f3 _ (by omega) (by omega)) (fun c z1 z2 => f3 c (by omega) (by omega))
    refine c_lowerE (by omega) hOO t2 (by omega) (by omega) A3 C3 E3 ⟨y3, by omega, (rd_tm y1).1⟩ ⟨y4, by omega, (rd_tm y2).1⟩ (fun h4 p1 p2 C4 E4 F4 => ⟨h4, rfl, rfl, ?_⟩)
    have G4 : OeG h4 (some (ab_low x.2.2.2.1 q)) := Or.inr ⟨_, rfl, by rw [F4 0 (by omega) (by omega), e3, up_eq], C4, E4, p1, p2⟩
    have fin : OeF h4 π ([], x.2.1, x.2.2.1, x.2.2.2.1, some (ab_low x.2.2.2.1 q), x.2.2.2.2.2) :=
      ⟨OeT_nil (by rw [F4 0 (by omega) (by omega), f30 1 (by omega)]; exact t0), F1.2.1.kept (by rw [F4 0 (by omega) (by omega), f30 3 (by omega)]) (by rw [F4 2 (by omega) (by omega), f3 2 (by omega) (by omega)]),
       F1.2.2.1.kept wp (by rw [F4 3 (by omega) (by omega), f3 3 (by omega) (by omega)]) (fun c z1 z2 => by rw [F4 c (by omega) (by omega), f3 c (by omega) (by omega)]), A3.kept (F4 _ (by omega) (by omega)) (F4 _ (by omega) (by omega)) (fun c z1 z2 => F4 c (by omega) (by omega)), G4, by rw [F4 0 (by omega) (by omega), f30 7 (by omega)]; exact F1.2.2.2.2.2⟩
    have kk := k h4 fin (fun c hc => by rw [F4 c (by omega) (by omega), f3 c (by omega) (by omega), fr c (by omega) (by omega)])
    refine c_proved (by omega) hOO G4 (fun z => ⟨1, rfl, rfl, fun c => absurd c (by decide), fun _ => ?_⟩) (fun z => ⟨0, rfl, rfl, fun _ => ?_, fun c => absurd rfl c⟩)
    · obtain ⟨q', e1, e2⟩ := z
      cases e1
      rw [if_pos e2] at kk; exact kk
    · rw [if_neg (fun y => z ⟨_, rfl, y⟩)] at kk; exact kk
theorem c_steps (hDD : 78 ≤ D) {π : Nat → Nat} {x : abF} (hO : OeS sh g π) (hF : OeF h π x) (hlb : x.2.2.2.2.2 < 1700000000) (m : Nat) (hm : 1 ≤ m) (hm2 : m ≤ 20)
    (k : ∀ π' g' h', OeS sh g' π' → (∀ c, c ≠ 4 → g' c = g c) → OeF h' π' (x.1, x.2.1, (ab_more (m - 1) (ab_st x.2.2)).2) → (ab_more (m - 1) (ab_st x.2.2)).2.2.2.2 ≤ x.2.2.2.2.2 + 32000 → (∀ c, 348 ≤ c → h' c = h c) → Q (some (.inl (((ab_more (m - 1) (ab_st x.2.2)).1 : Nat) : Int))) (sh, g', h')) : oe_M D 8 [.inr (.inl 0), .inl (m : Int)] (sh, g, h) Q := by
  obtain ⟨d, rfl⟩ : ∃ d, D = d + 2 := ⟨D - 2, by omega⟩
  have loop : ∀ (n i : Nat) (r : Nat × abS) (π1 : Nat → Nat) (g1 : Nat → Nat → Option Nat) (h1 : Nat → Nat → Int), m - i = n → 1 ≤ i → i ≤ m → ab_more n r = ab_more (m - 1) (ab_st x.2.2) → r.2.2.2.2 ≤ x.2.2.2.2.2 + 1600 * i → OeS sh g1 π1 → (∀ c, c ≠ 4 → g1 c = g c) → OeK h1 π1 r.2 → oe_f2 h h1 →
      oe_V (oe_cost 8) 8 (oe_M (d + 1)) none Q 28 [some (.inr (.inl 0)), some (.inl (m : Int)), some (.inl ((r.1 : Nat) : Int)), some (.inl (i : Int))] [] (sh, g1, h1) 0 0 := by
    intro n
    induction n with
    | zero =>
      intro i r π1 g1 h1 hn hi him he hb O1 G1 K1 f1
      have he : r = ab_more (m - 1) (ab_st x.2.2) := he
      refine g8_28 ⟨fun _ => ?_, fun c => by omega⟩
      rw [← he] at k
      exact k π1 g1 h1 O1 G1 ⟨hF.1.kept f1.2.1 (f1.1 1 (by omega)), hF.2.1.kept f1.2.2 (f1.1 2 (by omega)), K1⟩ (by omega) (fun c hc => f1.1 c (by omega))
    | succ n ih =>
      intro i r π1 g1 h1 hn hi him he hb O1 G1 K1 f1
      have stop : (r.1 = 0 ∨ r.1 = 1) → Q (some (.inl ((r.1 : Nat) : Int))) (sh, g1, h1) := by
        intro z
        rw [ab_more_end z] at he
        rw [← he] at k
        exact k π1 g1 h1 O1 G1 ⟨hF.1.kept f1.2.1 (f1.1 1 (by omega)), hF.2.1.kept f1.2.2 (f1.1 2 (by omega)), K1⟩ (by omega) (fun c hc => f1.1 c (by omega))
      refine g8_28 ⟨fun c => by omega, fun _ => ⟨fun c => stop (Or.inl (by omega)), fun c => ⟨fun c2 => stop (Or.inr (by omega)), fun c2 => ⟨O1.1, ?_⟩⟩⟩⟩
      have he : (if r.1 = 0 ∨ r.1 = 1 then r else ab_more n (ab_st r.2)) = ab_more (m - 1) (ab_st x.2.2) := he
      rw [if_neg (by omega)] at he
      refine c_step (by omega) O1 K1 (by omega) (fun j π2 g2 h2 hj O2 G2 K2 b2 f2 => ⟨_, g2, h2, rfl, rfl, by unfold oe_rg; omega, ?_⟩)
      rw [ab_st_eq hj] at K2 b2 ⊢
      have i1 : ((i : Int) + 1) = ((i + 1 : Nat) : Int) := by omega
      rw [i1]
      exact ih (i + 1) (ab_st r.2) π2 g2 h2 (by clear he b2 hb K2 K1; omega) (by clear he b2 hb K2 K1; omega) (by clear he b2 hb K2 K1; omega) he (st_b3 _ _ _ _ b2 hb) O2 (fun c hc => by rw [G2 c hc, G1 c hc]) K2 (oe_f2_tr f1 f2)
  refine g8 ⟨fun c => by omega, fun _ => ⟨fun _ => ⟨hO.1, ?_⟩, fun c => by omega⟩⟩
  refine c_step (by omega) hO hF.2.2 (by omega) (fun j π2 g2 h2 hj O2 G2 K2 b2 f2 => ⟨_, g2, h2, rfl, rfl, ?_⟩)
  rw [ab_st_eq hj] at K2 b2 ⊢
  exact loop (m - 1) 1 (ab_st x.2.2) π2 g2 h2 rfl (by omega) hm rfl (by omega) O2 G2 K2 f2
theorem c_step1 (hDD : 76 ≤ D) {π : Nat → Nat} {x : abF} (hO : OeS sh g π) (hF : OeF h π x) (hlb : x.2.2.2.2.2 < 1700000000)
    (k : ∀ π' g' h', OeS sh g' π' → (∀ c, c ≠ 4 → g' c = g c) → OeF h' π' (x.1, x.2.1, (ab_st x.2.2).2) → (ab_st x.2.2).2.2.2.2 ≤ x.2.2.2.2.2 + 1600 → (∀ c, 348 ≤ c → h' c = h c) → Q (some (.inl (((ab_st x.2.2).1 : Nat) : Int))) (sh, g', h')) : oe_M D 7 [.inr (.inl 0)] (sh, g, h) Q := by
  obtain ⟨d, rfl⟩ : ∃ d, D = d + 2 := ⟨D - 2, by omega⟩
  refine g7 ⟨hO.1, c_step (by omega) hO hF.2.2 (by omega) (fun j π2 g2 h2 hj O2 G2 K2 b2 f2 => ⟨_, g2, h2, rfl, rfl, ?_⟩)⟩
  rw [ab_st_eq hj] at K2 b2 ⊢
  exact k π2 g2 h2 O2 G2 ⟨hF.1.kept f2.2.1 (f2.1 1 (by omega)), hF.2.1.kept f2.2.2 (f2.1 2 (by omega)), K2⟩ b2 (fun c hc => f2.1 c (by omega))
theorem c_count (hDD : 2 ≤ D) {π : Nat → Nat} {x : abF} (hO : OeS sh g π) (hF : OeF h π x) (w : Nat) (hw : w ≤ 2) (k : Q (some (.inl (((if w = 0 then x.2.2.2.1.length else if w = 1 then x.2.2.1.length else x.2.2.2.2.2) : Nat) : Int))) (sh, g, h)) : oe_M D 9 [.inr (.inl 0), .inl (w : Int)] (sh, g, h) Q := by
  obtain ⟨d, rfl⟩ : ∃ d, D = d + 2 := ⟨D - 2, by omega⟩
  obtain ⟨o0, _, ⟨w1, w2⟩, ⟨a1, a2⟩, _⟩ := hO
  obtain ⟨_, _, W, A, _, L⟩ := hF
  refine g9 ⟨fun c => by omega, fun c => ⟨o0, 215, a1, a2.1, ?_⟩, fun c => ⟨o0, 3, w1, w2.1, ?_⟩, fun c => ⟨o0, ?_⟩⟩
  · rw [A.1]
    rw [if_pos (by omega)] at k; exact k
  · rw [W.1]
    rw [if_neg (by omega), if_pos (by omega)] at k; exact k
  · rw [L]
    rw [if_neg (by omega), if_neg (by omega)] at k; exact k
end
