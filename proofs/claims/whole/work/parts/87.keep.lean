/-! The object (class): its rows; keeping a new pair. -/
def OeS (sh : List (Nat × Nat)) (g : Nat → Nat → Option Nat) (π : Nat → Nat) : Prop := sh[0]? = some (5, 14) ∧ (g 0 0 = some 1 ∧ sh[1]? = some (1, 60) ∧ g 0 2 = some 2 ∧ sh[2]? = some (1, 61)) ∧ (g 0 4 = some 3 ∧ WtS sh g 3 π) ∧ (g 0 5 = some 215 ∧ AcS sh g 215) ∧ (g 0 6 = some 292 ∧ OvS sh g 292) ∧ (g 0 8 = some 319 ∧ EqS sh g 319 30) ∧ (g 0 10 = some 326 ∧ EqS sh g 326 60) ∧ (g 0 11 = some 333 ∧ EqS sh g 333 30) ∧ (g 0 12 = some 340 ∧ EqS sh g 340 30) ∧ g 0 13 = some 347 ∧ sh[347]? = some (0, 12)
/-- what keeping and overlapping leave alone -/
def oe_fr (h h' : Nat → Nat → Int) : Prop := (∀ c, (c = 1 ∨ c = 2 ∨ (319 ≤ c ∧ c < 340) ∨ 348 ≤ c) → h' c = h c) ∧ ∀ i, i ≠ 7 → h' 0 i = h 0 i
theorem oe_fr_refl (h : Nat → Nat → Int) : oe_fr h h := ⟨fun _ _ => rfl, fun _ _ => rfl⟩
theorem oe_fr_tr {h h' h'' : Nat → Nat → Int} (a : oe_fr h h') (b : oe_fr h' h'') : oe_fr h h'' := ⟨fun c hc => by rw [b.1 c hc, a.1 c hc], fun i hi => by rw [b.2 i hi, a.2 i hi]⟩
def ab_turn (q : List Nat × List Nat) : List Nat × List Nat := (ol_nm (q.2, q.1)).1
def ab_in (rows : List (List Nat × List Nat)) (q : List Nat × List Nat) : Prop := q ∈ rows ∨ ab_turn q ∈ rows
noncomputable def ab_low (eqs : List (List Nat × List Nat)) (q : List Nat × List Nat) : List Nat × List Nat := ((ol_low eqs 50 q.1).1, (ol_low eqs 50 q.2).1)
/-- a new pair waits, if it is worth it: what waits, and how many are lost -/
noncomputable def ab_keep (eqs : List (List Nat × List Nat)) (s : List (List Nat × List Nat) × Nat) (o : Nat × (List Nat × List Nat)) : List (List Nat × List Nat) × Nat :=
  if o.1 = 1 then (s.1, s.2 + 1) else if o.1 = 2 then
    (if (ab_low eqs o.2).1 = (ab_low eqs o.2).2 then s else
     if 6 < (ol_nm (ab_low eqs o.2)).2 ∨ 20 < ol_w (ol_nm (ab_low eqs o.2)).1 then (s.1, s.2 + 1) else
     @ite _ (ab_in eqs (ol_nm (ab_low eqs o.2)).1 ∨ ab_in s.1 (ol_nm (ab_low eqs o.2)).1) (Classical.propDecidable _) s
       (if s.1.length = 30 then (s.1, s.2 + 1) else (s.1 ++ [(ol_nm (ab_low eqs o.2)).1], s.2)))
  else s
section
variable {D : Nat} {sh : List (Nat × Nat)} {g : Nat → Nat → Option Nat} {h : Nat → Nat → Int} {Q : oeQ}
/-- both sides of an equation are reduced -/
theorem c_low2 {e cap : Nat} {eqs : List (List Nat × List Nat)} {q : List Nat × List Nat} (hA : AcS sh g 215) (hS : EqS sh g e cap) (hcap : 30 ≤ cap) (he : 292 ≤ e) (hE : AcC h 215 eqs) (hC : EqC h e q) (hF : EqE h e q) (ok1 : tm_ok q.1) (ok2 : tm_ok q.2)
    (E : Nat) (hEd : 65 ≤ E) (P : oeQ) (k : ∀ h', tm_ok (ab_low eqs q).1 → tm_ok (ab_low eqs q).2 → EqC h' e (ab_low eqs q) → EqE h' e (ab_low eqs q) → (∀ c, c < e + 1 ∨ e + 6 < c → c < 218 ∨ 221 < c → h' c = h c) → ∃ (x13 : Int) (h12 : Nat → Nat → Int), (some (.inl (((ol_low eqs 50 q.2).2 : Nat) : Int)) : Option oeV) = some (.inl x13) ∧ (sh, g, h') = (sh, g, h12) ∧ P none (sh, g, h12)) :
    oe_M E 88 [.inr (.inl 215), .inr (.inl (e + 1))] (sh, g, h) (fun r hp => ∃ (x8 : Int) (h7 : Nat → Nat → Int), r = some (.inl x8) ∧ hp = (sh, g, h7) ∧ ∃ q10, g e 1 = some q10 ∧ oe_M E 88 [.inr (.inl 215), .inr (.inl q10)] (sh, g, h7) (fun r hp => ∃ (x13 : Int) (h12 : Nat → Nat → Int), r = some (.inl x13) ∧ hp = (sh, g, h12) ∧ P none (sh, g, h12))) := by
  refine c_lower hEd hA hS.2.2.2.1 hcap (by omega) hE hC.1 hF.1 ok1 (fun h1 o1 C1 E1 F1 => ⟨_, h1, rfl, rfl, e + 4, hS.2.2.1, ?_⟩)
  refine c_lower hEd hA hS.2.2.2.2 hcap (by omega) (hE.kept (F1 _ (by omega) (by omega) (by omega) (by omega)) (F1 _ (by omega) (by omega) (by omega) (by omega)) (fun c z1 z2 => F1 c (by omega) (by omega) (by omega) (by omega))) (hC.2.kept (F1 _ (by omega) (by omega) (by omega) (by omega)) (F1 _ (by omega) (by omega) (by omega) (by omega))) (hF.2.kept (F1 _ (by omega) (by omega) (by omega) (by omega))) ok2 (fun h2 o2 C2 E2 F2 => ?_)
  refine k h2 o1 o2 ⟨C1.kept (F2 _ (by omega) (by omega) (by omega) (by omega)) (F2 _ (by omega) (by omega) (by omega) (by omega)), C2⟩ ⟨E1.kept (F2 _ (by omega) (by omega) (by omega) (by omega)), E2⟩ (fun c z1 z2 => by rw [F2 c (by omega) (by omega) (by omega) (by omega), F1 c (by omega) (by omega) (by omega) (by omega)])
theorem c_lowerE (hDD : 67 ≤ D) {π : Nat → Nat} {e cap : Nat} {eqs : List (List Nat × List Nat)} {q : List Nat × List Nat} (hO : OeS sh g π) (hS : EqS sh g e cap) (hcap : 30 ≤ cap) (he : 292 ≤ e) (hE : AcC h 215 eqs) (hC : EqC h e q) (hF : EqE h e q) (ok1 : tm_ok q.1) (ok2 : tm_ok q.2)
    (k : ∀ h', tm_ok (ab_low eqs q).1 → tm_ok (ab_low eqs q).2 → EqC h' e (ab_low eqs q) → EqE h' e (ab_low eqs q) → (∀ c, c < e + 1 ∨ e + 6 < c → c < 218 ∨ 221 < c → h' c = h c) → Q none (sh, g, h')) : oe_M D 22 [.inr (.inl 0), .inr (.inl e)] (sh, g, h) Q := by
  obtain ⟨d, rfl⟩ : ∃ d, D = d + 2 := ⟨D - 2, by omega⟩
  have hA := hO.2.2.2.1
  exact g22 ⟨hO.1, 215, hA.1, hS.1, e + 1, hS.2.1, hA.2.1, c_low2 hA.2 hS hcap he hE hC hF ok1 ok2 (d + 1) (by omega) _ (fun h' a1 a2 a3 a4 a5 => ⟨_, h', rfl, rfl, k h' a1 a2 a3 a4 a5⟩)⟩
theorem c_isProved (hDD : 4 ≤ D) {π : Nat → Nat} {q : List Nat × List Nat} {b : Int} (hO : OeS sh g π) (hb : h 0 9 = b) (hq : b ≠ 0 → EqC h 319 q ∧ EqE h 319 q ∧ tm_ok q.1 ∧ tm_ok q.2)
    (k1 : b ≠ 0 → q.1 = q.2 → Q (some (.inl 1)) (sh, g, h)) (k0 : b = 0 ∨ q.1 ≠ q.2 → Q (some (.inl 0)) (sh, g, h)) : oe_M D 21 [.inr (.inl 0)] (sh, g, h) Q := by
  obtain ⟨d, rfl⟩ : ∃ d, D = d + 2 := ⟨D - 2, by omega⟩
  have hT := hO.2.2.2.2.2.1
  refine g21 ⟨hO.1, fun c => k0 (Or.inl (by omega)), fun c => ⟨319, hT.1, hT.2.1, ?_⟩⟩
  obtain ⟨C, E, o1, o2⟩ := hq (by omega)
  exact c_sides (by omega) hT.2 C E o1.1 o2.1 o1.2.1 o2.2.1 (fun z => ⟨1, rfl, rfl, fun c => absurd c (by decide), fun _ => k1 (by omega) z⟩) (fun z => ⟨0, rfl, rfl, fun _ => k0 (Or.inr z), fun c => absurd rfl c⟩)
theorem c_nameBoth (hDD : 5 ≤ D) {π : Nat → Nat} {e : Nat} {q : List Nat × List Nat} (hO : OeS sh g π) (hS : EqS sh g e 30) (he : e + 7 ≤ 340) (hC : EqC h e q) (hE : EqE h e q) (l1 : q.1.length ≤ 30) (l2 : q.2.length ≤ 30)
    (k : ∀ h', EqC h' e (ol_nm q).1 → EqE h' e (ol_nm q).1 → EqC h' 340 (ab_turn (ol_nm q).1) → EqE h' 340 (ab_turn (ol_nm q).1) → (∀ c, c < e + 1 ∨ e + 6 < c → c < 341 ∨ 347 < c → h' c = h c) → Q (some (.inl (((ol_nm q).2 : Nat) : Int))) (sh, g, h')) : oe_M D 24 [.inr (.inl 0), .inr (.inl e)] (sh, g, h) Q := by
  obtain ⟨d, rfl⟩ : ∃ d, D = d + 2 := ⟨D - 2, by omega⟩
  obtain ⟨o0, _, _, _, _, _, _, _, ⟨t1, t2⟩, n1, n2⟩ := hO
  obtain ⟨y1, y2, y3, y4, y5, y6, y7⟩ := ol_nm_ok q
  refine g24 ⟨o0, 347, n1, hS.1, ?_⟩
  refine c_name (by omega) hS n2 (by omega) hC hE l1 l2 (fun h1 C1 E1 F1 => ⟨_, h1, rfl, rfl, 340, t1, e + 4, hS.2.2.1, e + 1, hS.2.1, t2.1, ?_⟩)
  refine c_ebecome (by omega) t2 hS.2.2.2.2 hS.2.2.2.1 (by omega) (by omega) C1.2 E1.2 C1.1 E1.1 (by omega) (by omega) (by omega) (by omega) (fun h2 C2 E2 F2 => ⟨h2, rfl, rfl, ?_⟩)
  refine c_name (by omega) t2 n2 (by omega) C2 E2 (by show (ol_nm q).1.2.length ≤ 30; omega) (by show (ol_nm q).1.1.length ≤ 30; omega) (fun h3 C3 E3 F3 => ⟨_, h3, rfl, rfl, ?_⟩)
  exact k h3 (C1.kept (fun c z1 z2 => by rw [F3 c (by omega) (by omega), F2 c (by omega)])) (E1.kept (fun c z1 z2 => by rw [F3 c (by omega) (by omega), F2 c (by omega)])) C3 E3 (fun c z1 z2 => by rw [F3 c (by omega) (by omega), F2 c (by omega), F1 c (by omega) (by omega)])
theorem eq_tm {q : List Nat × List Nat} (h : eq_ok q) : ol_tm q.1 ∧ ol_tm q.2 ∧ q.1.length ≤ 20 ∧ q.2.length ≤ 20 := by
  obtain ⟨⟨s, t, x1, x2, x3, x4⟩, y1, _⟩ := h
  exact ⟨⟨s, x1, x3⟩, ⟨t, x2, x4⟩, by omega, by omega⟩
theorem og_mem {α : Type} {x : α} {l : List α} {y : α} : y ∈ l ↔ ∃ i, i < l.length ∧ l.getD i x = y := by
  constructor
  · intro h
    obtain ⟨i, h1, h2⟩ := List.getElem_of_mem h
    exact ⟨i, h1, by rw [List.getD_eq_getElem?_getD, List.getElem?_eq_getElem h1]; exact h2⟩
  · rintro ⟨i, h1, h2⟩
    rw [List.getD_eq_getElem?_getD, List.getElem?_eq_getElem h1] at h2
    rw [← h2]; exact List.getElem_mem h1
theorem c_alike (hDD : 5 ≤ D) {π : Nat → Nat} {e v n : Nat} {rows : List (List Nat × List Nat)} {q : List Nat × List Nat} (hO : OeS sh g π) (hv : sh[v]? = some (4, n)) (hn : rows.length ≤ n) (hn2 : n ≤ 100) (hrows : ∀ i, i < rows.length → ∃ c, g v i = some c ∧ EqS sh g c 20 ∧ EqC h c (rows.getD i ([], [])) ∧ EqE h c (rows.getD i ([], [])) ∧ eq_ok (rows.getD i ([], [])))
    (hS : EqS sh g e 30) (hC : EqC h e q) (hE : EqE h e q) (t1 : ol_tm q.1) (t2 : ol_tm q.2) (l1 : q.1.length ≤ 30) (l2 : q.2.length ≤ 30) (hC' : EqC h 340 (ab_turn q)) (hE' : EqE h 340 (ab_turn q))
    (k1 : ab_in rows q → Q (some (.inl 1)) (sh, g, h)) (k0 : ¬ ab_in rows q → Q (some (.inl 0)) (sh, g, h)) : oe_M D 25 [.inr (.inl 0), .inr (.inl v), .inl ((rows.length : Nat) : Int), .inr (.inl e)] (sh, g, h) Q := by
  obtain ⟨d, rfl⟩ : ∃ d, D = d + 2 := ⟨D - 2, by omega⟩
  obtain ⟨o0, _, _, _, _, _, _, _, ⟨x1, x2⟩, n1, n2⟩ := hO
  obtain ⟨y1, y2, y3, y4, y5, y6, y7⟩ := ol_nm_ok (q.2, q.1)
  have tt1 : ol_tm (ab_turn q).1 := ol_tm_map (y2.symm) t2
  have tt2 : ol_tm (ab_turn q).2 := ol_tm_map (y3.symm) t1
  have tl1 : (ab_turn q).1.length ≤ 30 := by show (ol_nm (q.2, q.1)).1.1.length ≤ 30; rw [y4]; exact l2
  have tl2 : (ab_turn q).2.length ≤ 30 := by show (ol_nm (q.2, q.1)).1.2.length ≤ 30; rw [y5]; exact l1
  have loop : ∀ (m i : Nat), rows.length - i = m → i ≤ rows.length → (∀ j, j < i → rows.getD j ([], []) ≠ q ∧ rows.getD j ([], []) ≠ ab_turn q) → oe_V (oe_cost 25) 25 (oe_M (d + 1)) none Q 3 [some (.inr (.inl 0)), some (.inr (.inl v)), some (.inl ((rows.length : Nat) : Int)), some (.inr (.inl e)), some (.inl (i : Int))] [] (sh, g, h) 0 0 := by
    intro m
    induction m with
    | zero =>
      intro i hm hi hj
      refine g25_3 ⟨fun _ => k0 (fun z => ?_), fun c => by omega⟩
      rcases z with z | z
      · obtain ⟨j, j1, j2⟩ := og_mem (x := ([], [])) |>.mp z
        exact (hj j (by omega)).1 j2
      · obtain ⟨j, j1, j2⟩ := og_mem (x := ([], [])) |>.mp z
        exact (hj j (by omega)).2 j2
    | succ m ih =>
      intro i hm hi hj
      obtain ⟨c, c1, c2, c3, c4, c5⟩ := hrows i (by omega)
      obtain ⟨z1, z2, z3, z4⟩ := eq_tm c5
      refine g25_3 ⟨fun z => by omega, fun _ => ⟨n, hv, fun z => by omega, fun _ => ⟨by omega, by omega, c, by rw [Int.toNat_natCast]; exact c1, c2.1, ?_⟩⟩⟩
      refine c_isSameAs (by omega) c2 c3 c4 z1 z2 z3 z4 hS hC hE t1 t2 l1 l2 (fun w => ⟨1, rfl, rfl, fun _ => k1 (Or.inl (og_mem.mpr ⟨i, by omega, w⟩)), fun w => absurd w (by decide)⟩) (fun w => ⟨0, rfl, rfl, fun w => absurd rfl w, fun _ => ⟨by omega, by omega, c, by rw [Int.toNat_natCast]; exact c1, o0, 340, x1, c2.1, ?_⟩⟩)
      refine c_isSameAs (by omega) c2 c3 c4 z1 z2 z3 z4 x2 hC' hE' tt1 tt2 tl1 tl2 (fun w => ⟨1, rfl, rfl, fun w => absurd w (by decide), fun _ => k1 (Or.inr (og_mem.mpr ⟨i, by omega, w⟩))⟩) (fun w2 => ⟨0, rfl, rfl, fun _ => ⟨by unfold oe_rg; omega, ?_⟩, fun w => absurd rfl w⟩)
      refine ih (i + 1) (by omega) (by omega) (fun j hj2 => ?_)
      by_cases ej : j = i
      · subst ej; exact ⟨w, w2⟩
      · exact hj j (by omega)
  exact g25 (loop _ 0 rfl (Nat.zero_le _) (fun j hj => by omega))
theorem AcC.rows {eqs : List (List Nat × List Nat)} (hA : AcS sh g 215) (H : AcC h 215 eqs) : ∀ i, i < eqs.length → ∃ c, g 216 i = some c ∧ EqS sh g c 20 ∧ EqC h c (eqs.getD i ([], [])) ∧ EqE h c (eqs.getD i ([], [])) ∧ eq_ok (eqs.getD i ([], [])) := by
  intro i hi
  have := H.2.1
  obtain ⟨a1, a2⟩ := hA.2.2.2.2.2.2.2.2.2 i (by omega)
  obtain ⟨b1, b2, b3, _⟩ := H.2.2 i hi
  exact ⟨_, a1, a2, b1, b2, b3⟩
theorem WtC.rows {π : Nat → Nat} {ws : List (List Nat × List Nat)} (hW : WtS sh g 3 π) (H : WtC h 3 π ws) : ∀ i, i < ws.length → ∃ c, g 4 i = some c ∧ EqS sh g c 20 ∧ EqC h c (ws.getD i ([], [])) ∧ EqE h c (ws.getD i ([], [])) ∧ eq_ok (ws.getD i ([], [])) := by
  intro i hi
  have := H.2.1
  obtain ⟨a1, a2⟩ := hW.2.2.2.2.1 i (by omega)
  obtain ⟨b1, b2, b3⟩ := H.2.2 i hi
  exact ⟨_, a2, hW.2.2.2.1 _ a1, b1, b2, b3⟩
set_option maxHeartbeats 1000000 in
theorem c_keep (hDD : 69 ≤ D) {π : Nat → Nat} {ws eqs : List (List Nat × List Nat)} {lost : Nat} (hO : OeS sh g π) (hW : WtC h 3 π ws) (hE : AcC h 215 eqs) (hl : h 0 7 = (lost : Int)) (hlb : lost < 2000000000) (o : Nat × (List Nat × List Nat)) (hp : o.1 = 2 → EqC h 305 o.2 ∧ EqE h 305 o.2 ∧ tm_ok o.2.1 ∧ tm_ok o.2.2)
    (k : ∀ h', WtC h' 3 π (ab_keep eqs (ws, lost) o).1 → AcC h' 215 eqs → h' 0 7 = (((ab_keep eqs (ws, lost) o).2 : Nat) : Int) → oe_fr h h' → Q none (sh, g, h')) : oe_M D 27 [.inr (.inl 0), .inl ((o.1 : Nat) : Int)] (sh, g, h) Q := by
  obtain ⟨d, rfl⟩ : ∃ d, D = d + 2 := ⟨D - 2, by omega⟩
  have hOO := hO
  obtain ⟨o0, _, ⟨w1, w2⟩, ⟨a1, a2⟩, ⟨v1, v2⟩, _, _, _, ⟨x1, x2⟩, n1, n2⟩ := hO
  have wp : ∀ i, i < 30 → π i < 30 := fun i hi => (w2.2.2.2.2.1 i hi).1
  have lostUp : ∀ h1 h2 : Nat → Nat → Int, WtC h1 3 π ws → AcC h1 215 eqs → h1 0 7 = (lost : Int) → oe_fr h h1 → h2 = oe_up h1 0 7 (h1 0 7 + 1) → WtC h2 3 π ws ∧ AcC h2 215 eqs ∧ h2 0 7 = ((lost + 1 : Nat) : Int) ∧ oe_fr h h2 := by
    intro h1 h2 p1 p2 p3 p4 e2
    have f2 : ∀ c, c ≠ 0 → h2 c = h1 c := fun c hc => by rw [e2, up_ne hc]
    exact ⟨p1.kept wp (f2 _ (by omega)) (fun c z1 z2 => f2 c (by omega)), p2.kept (f2 _ (by omega)) (f2 _ (by omega)) (fun c z1 z2 => f2 c (by omega)), by rw [e2, up_eq, p3]; omega, oe_fr_tr p4 ⟨fun c hc => f2 c (by omega), fun i hi => by rw [e2, up_col hi]⟩⟩
  unfold ab_keep at k
  refine g27 ⟨fun c => ?_, fun c => ⟨o0, by rw [hl]; unfold oe_rg; omega, fun h4 e4 => ?_⟩⟩
  · rw [if_neg (show ¬ o.1 = 1 by omega)] at k
    refine g27_15 ⟨fun c2 => ?_, fun c2 => ?_⟩
    · rw [if_pos (show o.1 = 2 by omega)] at k
      obtain ⟨pC, pE, p1, p2⟩ := hp (by omega)
      refine ⟨o0, 292, v1, v2.1, 305, v2.2.2.2.1, 215, a1, v2.2.2.2.2.1.1, 306, v2.2.2.2.2.1.2.1, a2.1, ?_⟩
      have eS := v2.2.2.2.2.1
      refine c_lower (by omega) a2 eS.2.2.2.1 (Nat.le_refl _) (by omega) hE pC.1 pE.1 p1 (fun h1 o1 C1 E1 F1 => ⟨_, h1, rfl, rfl, 309, eS.2.2.1, ?_⟩)
      refine c_lower (by omega) a2 eS.2.2.2.2 (Nat.le_refl _) (by omega) (hE.kept (F1 _ (by omega) (by omega) (by omega) (by omega)) (F1 _ (by omega) (by omega) (by omega) (by omega)) (fun c z1 z2 => F1 c (by omega) (by omega) (by omega) (by omega))) (pC.2.kept (F1 _ (by omega) (by omega) (by omega) (by omega)) (F1 _ (by omega) (by omega) (by omega) (by omega))) (pE.2.kept (F1 _ (by omega) (by omega) (by omega) (by omega))) p2 (fun h2 o2 C2 E2 F2 => ⟨_, h2, rfl, rfl, ?_⟩)
      have F2' : ∀ c, c < 306 ∨ 311 < c → c < 218 ∨ 221 < c → h2 c = h c := fun c z1 z2 => by rw [F2 c (by omega) (by omega) (by omega) (by omega), F1 c (by omega) (by omega) (by omega) (by omega)]
      have qC : EqC h2 305 (ab_low eqs o.2) := ⟨C1.kept (F2 _ (by omega) (by omega) (by omega) (by omega)) (F2 _ (by omega) (by omega) (by omega) (by omega)), C2⟩
      have qE : EqE h2 305 (ab_low eqs o.2) := ⟨E1.kept (F2 _ (by omega) (by omega) (by omega) (by omega)), E2⟩
      have o1 : tm_ok (ab_low eqs o.2).1 := o1
      have o2 : tm_ok (ab_low eqs o.2).2 := o2
      have W2 : WtC h2 3 π ws := hW.kept wp (F2' _ (by omega) (by omega)) (fun c z1 z2 => F2' c (by omega) (by omega))
      have A2 : AcC h2 215 eqs := hE.kept (F2' _ (by omega) (by omega)) (F2' _ (by omega) (by omega)) (fun c z1 z2 => F2' c (by omega) (by omega))
      have fr2 : oe_fr h h2 := ⟨fun c hc => F2' c (by omega) (by omega), fun i _ => by rw [F2' 0 (by omega) (by omega)]⟩
      have L2 : h2 0 7 = (lost : Int) := by rw [F2' 0 (by omega) (by omega)]; exact hl
      generalize ab_low eqs o.2 = x at *
      refine c_sides (by omega) eS qC qE o1.1 o2.1 o1.2.1 o2.2.1 (fun z => ⟨1, rfl, rfl, fun c => absurd c (by decide), fun _ => ?_⟩) (fun z => ⟨0, rfl, rfl, fun _ => ?_, fun c => absurd rfl c⟩)
      · rw [if_pos z] at k
        exact k h2 W2 A2 L2 fr2
      rw [if_neg z] at k
      obtain ⟨y1, y2, y3, y4, y5, y6, y7⟩ := ol_nm_ok x
      have ol1 := o1.2.1
      have ol2 := o2.2.1
      refine c_nameBoth (by omega) hOO eS (by omega) qC qE ol1 ol2 (fun h3 C3 E3 C4 E4 F3 => ⟨_, h3, rfl, rfl, ?_⟩)
      have W3 : WtC h3 3 π ws := W2.kept wp (F3 _ (by omega) (by omega)) (fun c z1 z2 => F3 c (by omega) (by omega))
      have A3 : AcC h3 215 eqs := A2.kept (F3 _ (by omega) (by omega)) (F3 _ (by omega) (by omega)) (fun c z1 z2 => F3 c (by omega) (by omega))
      have fr3 : oe_fr h h3 := oe_fr_tr fr2 ⟨fun c hc => F3 c (by omega) (by omega), fun i _ => by rw [F3 0 (by omega) (by omega)]⟩
      have L3 : h3 0 7 = (lost : Int) := by rw [F3 0 (by omega) (by omega)]; exact L2
      have tq1 : ol_tm (ol_nm x).1.1 := ol_tm_map y2.symm o1.1
      have tq2 : ol_tm (ol_nm x).1.2 := ol_tm_map y3.symm o2.1
      have lst : ∀ h4 : Nat → Nat → Int, (6 < (ol_nm x).2 ∨ 20 < ol_w (ol_nm x).1) → h4 = oe_up h3 0 7 (h3 0 7 + 1) → Q none (sh, g, h4) := by
        intro h4 hz e4
        rw [if_pos hz] at k
        obtain ⟨r1, r2, r3, r4⟩ := lostUp h3 h4 W3 A3 L3 fr3 e4
        exact k h4 r1 r2 r3 r4
      refine ⟨fun c3 => ⟨by rw [L3]; unfold oe_rg; omega, fun h4 e4 => lst h4 (Or.inl (by omega)) e4⟩, fun c3 => ?_⟩
      refine c_weight (by omega) eS C3 (by omega) (by omega) ⟨_, rfl, rfl, fun c4 => ?_, fun c4 => ⟨by rw [L3]; unfold oe_rg; omega, fun h4 e4 => lst h4 (Or.inr (by unfold ol_w; omega)) e4⟩⟩
      rw [if_neg (show ¬ (6 < (ol_nm x).2 ∨ 20 < ol_w (ol_nm x).1) by unfold ol_w; omega)] at k
      have qok : eq_ok (ol_nm x).1 := by
        obtain ⟨s, s1, s2⟩ := tq1
        obtain ⟨t, t1, t2⟩ := tq2
        refine ⟨⟨s, t, s1, t1, s2, t2⟩, by omega, fun c hc => ?_, fun c hc => ?_, fun c hc hc2 => ?_, fun c hc hc2 => ?_⟩
        · rcases y6 c hc with z | z
          · omega
          · exact o1.2.2 c z.2
        · rcases y7 c hc with z | z
          · omega
          · exact o2.2.2 c z.2
        · rcases y6 c hc with z | z <;> omega
        · rcases y7 c hc with z | z <;> omega
      refine ⟨216, a2.2.1, ?_⟩
      rw [A3.1]
      have keepit : ∀ h4 : Nat → Nat → Int, h4 = h3 → (ab_in eqs (ol_nm x).1 ∨ ab_in ws (ol_nm x).1) → Q none (sh, g, h4) := by
        intro h4 e4 hz
        rw [if_pos hz] at k
        rw [e4]
        exact k h3 W3 A3 L3 fr3
      refine c_alike (by omega) hOO a2.2.2.1 (by have := A3.2.1; omega) (by omega) (A3.rows a2) eS C3 E3 tq1 tq2 (by omega) (by omega) C4 E4 (fun z1 => ⟨1, h3, rfl, rfl, fun _ => keepit h3 rfl (Or.inl z1), fun c => absurd c (by decide)⟩) (fun z1 => ⟨0, h3, rfl, rfl, fun c => absurd rfl c, fun _ => ⟨3, w1, w2.1, 4, w2.2.1, ?_⟩⟩)
      rw [W3.1]
      refine c_alike (by omega) hOO w2.2.2.1 W3.2.1 (by omega) (W3.rows w2) eS C3 E3 tq1 tq2 (by omega) (by omega) C4 E4 (fun z2 => ⟨1, h3, rfl, rfl, fun c => absurd c (by decide), fun _ => keepit h3 rfl (Or.inr z2)⟩) (fun z2 => ⟨0, h3, rfl, rfl, fun _ => ?_, fun c => absurd rfl c⟩)
      rw [if_neg (fun z => by rcases z with z | z; exact z1 z; exact z2 z)] at k
      refine c_wFull (by omega) w2 W3 (fun z3 => ⟨0, rfl, rfl, fun _ => ?_, fun c => absurd rfl c⟩) (fun z3 => ⟨1, rfl, rfl, fun c => absurd c (by decide), fun _ => ⟨by rw [L3]; unfold oe_rg; omega, fun h4 e4 => ?_⟩⟩)
      · rw [if_neg (show ¬ (ws, lost).1.length = 30 by show ¬ ws.length = 30; omega)] at k
        refine c_wAppend (by omega) w2 W3 eS (by omega) C3 E3 qok (by omega) z3 (fun h4 W4 F4 => ⟨h4, rfl, rfl, ?_⟩)
        refine k h4 W4 (A3.kept (F4 _ (by omega) (by omega)) (F4 _ (by omega) (by omega)) (fun c z1 z2 => F4 c (by omega) (by omega))) (by rw [F4 0 (by omega) (by omega)]; exact L3) (oe_fr_tr fr3 ⟨fun c hc => F4 c (by omega) (by omega), fun i _ => by rw [F4 0 (by omega) (by omega)]⟩)
      · rw [if_pos (show (ws, lost).1.length = 30 from z3)] at k
        obtain ⟨r1, r2, r3, r4⟩ := lostUp h3 h4 W3 A3 L3 fr3 e4
        exact k h4 r1 r2 r3 r4
    · rw [if_neg (show ¬ o.1 = 2 by omega)] at k
      exact k h hW hE hl (oe_fr_refl h)
  · rw [if_pos (show o.1 = 1 by omega)] at k
    obtain ⟨r1, r2, r3, r4⟩ := lostUp h h4 hW hE hl (oe_fr_refl h) e4
    exact g27_15 ⟨fun c2 => by omega, fun _ => k h4 r1 r2 r3 r4⟩
end
