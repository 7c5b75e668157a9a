/-! The public methods (class), as far as they don't throw: unify, show. -/
/-- what show is asked for -/
def ab_at (s : abS) (w i : Int) : Option (List Nat × List Nat) := if w = 2 then s.2.2.1 else if w = 0 then (if 0 ≤ i ∧ i < ((s.2.1.length : Nat) : Int) then some (s.2.1.getD i.toNat ([], [])) else none) else (if 0 ≤ i ∧ i < ((s.1.length : Nat) : Int) then some (s.1.getD i.toNat ([], [])) else none)
def ab_pg (q : List Nat × List Nat) : List Nat := q.1.map ab_lt ++ [61] ++ q.2.map ab_lt
section
variable {D : Nat} {sh : List (Nat × Nat)} {g : Nat → Nat → Option Nat} {h : Nat → Nat → Int} {Q : oeQ}
theorem c_at (hDD : 2 ≤ D) {π : Nat → Nat} {x : abF} (hO : OeS sh g π) (hF : OeF h π x) (w i : Int) (hw : 0 ≤ w ∧ w ≤ 2) {q : List Nat × List Nat} (hq : ab_at x.2.2 w i = some q)
    (k : ∀ e cap, 3 ≤ e → EqS sh g e cap → EqC h e q → q.1.length ≤ cap → q.2.length ≤ cap → q.1.length ≤ 30 → q.2.length ≤ 30 → ol_ok q.1 → ol_ok q.2 → Q (some (.inr (.inl e))) (sh, g, h)) : oe_M D 20 [.inr (.inl 0), .inl w, .inl i] (sh, g, h) Q := by
  obtain ⟨d, rfl⟩ : ∃ d, D = d + 2 := ⟨D - 2, by omega⟩
  obtain ⟨o0, _, ⟨w1, w2⟩, ⟨a1, a2⟩, _, ⟨t1, t2⟩, _⟩ := hO
  obtain ⟨_, _, W, A, G, L⟩ := hF
  unfold ab_at at hq
  refine g20 ⟨fun c => ⟨fun c2 => ?_, fun c2 => ?_⟩, fun c => ⟨o0, ?_, ?_⟩⟩
  · rw [if_neg c, if_neg c2] at hq
    have hi : 0 ≤ i ∧ i < ((x.2.2.1.length : Nat) : Int) := by
      by_cases z : 0 ≤ i ∧ i < ((x.2.2.1.length : Nat) : Int)
      · exact z
      · rw [if_neg z] at hq; cases hq
    rw [if_pos hi] at hq
    have hil : i.toNat < x.2.2.1.length := by omega
    have l30 := W.2.1
    obtain ⟨b1, b2⟩ := w2.2.2.2.2.1 i.toNat (by omega)
    obtain ⟨e1, e2, e3⟩ := W.2.2 i.toNat hil
    have hqq : x.2.2.1.getD i.toNat ([], []) = q := by injection hq
    rw [hqq] at e1 e3
    obtain ⟨y1, y2, y3, y4⟩ := eq_tm e3
    refine ⟨o0, 3, w1, w2.1, fun z => by omega, fun _ => ⟨fun z => ⟨fun _ => ⟨4, w2.2.1, 30, w2.2.2.1, by omega, by omega, _, b2, k _ 20 (by omega) (w2.2.2.2.1 _ b1) e1 y3 y4 (by omega) (by omega) e3.2.2.1 e3.2.2.2.1⟩, fun z2 => absurd z2 c2⟩, fun z => by rw [W.1] at z; omega⟩⟩
  · rw [if_neg c, if_pos c2] at hq
    have hi : 0 ≤ i ∧ i < ((x.2.2.2.1.length : Nat) : Int) := by
      by_cases z : 0 ≤ i ∧ i < ((x.2.2.2.1.length : Nat) : Int)
      · exact z
      · rw [if_neg z] at hq; cases hq
    rw [if_pos hi] at hq
    have hil : i.toNat < x.2.2.2.1.length := by omega
    have l10 := A.2.1
    obtain ⟨b1, b2⟩ := a2.2.2.2.2.2.2.2.2.2 i.toNat (by omega)
    obtain ⟨e1, e2, e3, _⟩ := A.2.2 i.toNat hil
    have hqq : x.2.2.2.1.getD i.toNat ([], []) = q := by injection hq
    rw [hqq] at e1 e3
    obtain ⟨y1, y2, y3, y4⟩ := eq_tm e3
    refine ⟨o0, 215, a1, a2.1, fun z => by omega, fun _ => ⟨fun z => ⟨fun z2 => absurd c2 z2, fun _ => ⟨216, a2.2.1, 10, a2.2.2.1, by omega, by omega, _, b1, k _ 20 (by omega) b2 e1 y3 y4 (by omega) (by omega) e3.2.2.1 e3.2.2.2.1⟩⟩, fun z => by rw [A.1] at z; omega⟩⟩
  · rw [if_pos c] at hq
    intro z
    rcases G with ⟨g1, g2⟩ | ⟨q', g1, g2, _⟩
    · rw [g1] at hq; cases hq
    · omega
  · rw [if_pos c] at hq
    intro z
    rcases G with ⟨g1, g2⟩ | ⟨q', g1, g2, g3, g4, g5, g6⟩
    · rw [g1] at hq; cases hq
    · rw [g1] at hq
      have hqq : q' = q := by injection hq
      subst hqq
      exact ⟨319, t1, k 319 30 (by omega) t2 g3 g5.2.1 g6.2.1 g5.2.1 g6.2.1 g5.2.2 g6.2.2⟩
theorem c_show (hDD : 12 ≤ D) {π : Nat → Nat} {x : abF} (hO : OeS sh g π) (hF : OeF h π x) (w i : Int) (hw : 0 ≤ w ∧ w ≤ 2) {q : List Nat × List Nat} (hq : ab_at x.2.2 w i = some q)
    (k : ∀ h', OeF h' π (x.1, ab_pg q, x.2.2) → (∀ c, 348 ≤ c → h' c = h c) → Q (some (.inl (((ab_pg q).length : Nat) : Int))) (sh, g, h')) : oe_M D 10 [.inr (.inl 0), .inl w, .inl i] (sh, g, h) Q := by
  obtain ⟨d, rfl⟩ : ∃ d, D = d + 2 := ⟨D - 2, by omega⟩
  have hOO := hO
  obtain ⟨o0, ⟨_, _, p3, p4⟩, ⟨w1, w2⟩, _⟩ := hO
  refine g10 ⟨fun c => by omega, fun _ => ⟨fun _ => ⟨o0, c_at (by omega) hOO hF w i hw hq (fun e cap e3 eS eC l1 l2 l3 l4 k1 k2 => ⟨e, rfl, rfl, fun h1 eh1 => ⟨eS.1, e + 1, eS.2.1, ?_⟩⟩)⟩, fun c => by omega⟩⟩
  have f1 : ∀ c, c ≠ 0 → h1 c = h c := fun c hc => by rw [eh1, up_ne hc]
  refine c_write (P := []) (by omega) hOO eS.2.2.2.1 (by omega) (eC.1.kept (f1 _ (by omega)) (f1 _ (by omega))) l1 k1 ⟨by rw [eh1, up_eq]; rfl, by simp, fun i hi => (by cases hi), fun c hc => (by cases hc)⟩ (by simp; omega) (fun h2 P2 fo2 fr2 => ⟨h2, rfl, rfl, 2, p3, 61, p4, ?_⟩)
  rw [List.nil_append] at P2
  obtain ⟨q1, q2, q3, q4⟩ := P2
  have ml : (q.1.map ab_lt).length = q.1.length := List.length_map ..
  refine ⟨by rw [q1]; omega, by rw [q1]; omega, by omega, by omega, fun h3 e3' => ?_⟩
  rw [q1, Int.toNat_natCast] at e3'
  have n3 : h3 0 3 = (((q.1.map ab_lt).length : Nat) : Int) := by rw [e3', up_ne (by omega)]; exact q1
  refine ⟨by rw [n3]; unfold oe_rg; omega, fun h4 e4 => ⟨e + 4, eS.2.2.1, ?_⟩⟩
  rw [n3] at e4
  have f4 : ∀ c, c ≠ 0 → c ≠ 2 → h4 c = h c := fun c z1 z2 => by rw [e4, up_ne z1, e3', up_ne z2, fr2 c z1 z2, f1 c z1]
  have f40 : ∀ j, j ≠ 3 → h4 0 j = h 0 j := fun j hj => by rw [e4, up_col hj, e3', up_ne (by omega), fo2 j hj, eh1, up_col hj]
  have P4 : OeP h4 (q.1.map ab_lt ++ [61]) := by
    refine ⟨by rw [e4, up_eq, List.length_append]; rfl, by rw [List.length_append, ml]; simp; omega, fun j hj => ?_, fun c hc => ?_⟩
    · rw [List.length_append] at hj
      have hj : j < (q.1.map ab_lt).length + 1 := hj
      rw [e4, up_ne (by omega), e3']
      by_cases ej : j = (q.1.map ab_lt).length
      · subst ej
        rw [up_eq, ol_getD_app2 (Nat.le_refl _), Nat.sub_self]; rfl
      · rw [up_col ej, ol_getD_app1 (by omega)]; exact q3 j (by omega)
    · rcases List.mem_append.mp hc with z | z
      · exact q4 c z
      · rw [List.mem_singleton.mp z]; omega
  refine c_write (by omega) hOO eS.2.2.2.2 (by omega) (eC.2.kept (f4 _ (by omega) (by omega)) (f4 _ (by omega) (by omega))) l2 k2 P4 (by rw [List.length_append, ml]; simp; omega) (fun h5 P5 fo5 fr5 => ⟨h5, rfl, rfl, ?_⟩)
  have lw := P5.1
  rw [lw]
  exact k h5 ⟨hF.1.kept (by rw [fo5 1 (by omega), f40 1 (by omega)]) (by rw [fr5 1 (by omega) (by omega), f4 1 (by omega) (by omega)]), P5, hF.2.2.kept (fun i hi => (w2.2.2.2.2.1 i hi).1) (by rw [fo5 7 (by omega), f40 7 (by omega)]) (by rw [fo5 9 (by omega), f40 9 (by omega)]) (fun c z1 z2 z3 => by rw [fr5 c (by omega) (by omega), f4 c (by omega) (by omega)])⟩ (fun c hc => by rw [fr5 c (by omega) (by omega), f4 c (by omega) (by omega)])
theorem c_unify (hDD : 20 ≤ D) {π : Nat → Nat} {x : abF} (hO : OeS sh g π) (hF : OeF h π x)
    (k : ∀ h', OeF h' π (ab_unify x).2 → (∀ c, 348 ≤ c → h' c = h c) → Q (some (.inl (ab_unify x).1)) (sh, g, h')) : oe_M D 12 [.inr (.inl 0)] (sh, g, h) Q := by
  obtain ⟨d, rfl⟩ : ∃ d, D = d + 2 := ⟨D - 2, by omega⟩
  have hOO := hO
  obtain ⟨o0, _, ⟨w1, w2⟩, _, ⟨v1, v2⟩, _, ⟨r1, r2⟩, _⟩ := hO
  have wp : ∀ i, i < 30 → π i < 30 := fun i hi => (w2.2.2.2.2.1 i hi).1
  have T60 := hF.1.2.1
  unfold ab_unify at k
  refine g12 ⟨o0, c_read (by omega) hOO hF.1 true true (fun i h1 hr t0 fo fr => ?_) (fun q h1 hr C1 E1 t0 fo fr => ?_)⟩
  · rw [hr] at k
    have := rd_lt hr
    exact ⟨_, h1, rfl, rfl, fun c => by omega, fun _ => ⟨by unfold oe_rg; omega, k h1 (rd_kept hOO hF t0 fo fr) (fun c hc => fr c (by omega) (by omega))⟩⟩
  · rw [hr] at k
    try dsimp only at k
    obtain ⟨y1, y2, y3, y4, y5⟩ := rd_all hr
    have y4 := y4 rfl
    have F1 := rd_kept hOO hF t0 fo fr
    have ok1 := (rd_tm y1).1
    have ok2 := (rd_tm y2).1
    obtain ⟨s1, s2⟩ := ol_tr_ok y3
    obtain ⟨s3, s4⟩ := ol_tr_ok y4
    have U := v2.2.2.1
    -- the state, when only the unifier and the read rows have changed
    have keep : ∀ h' : Nat → Nat → Int, (∀ c, c < 293 ∨ (304 < c ∧ c < 326) ∨ 333 ≤ c → h' c = h1 c) → OeF h' π ([], x.2) ∧ ∀ c, 348 ≤ c → h' c = h c := fun h' ff =>
      ⟨⟨OeT_nil (by rw [ff 0 (by omega)]; exact t0), F1.2.1.kept (by rw [ff 0 (by omega)]) (ff 2 (by omega)), F1.2.2.kept wp (by rw [ff 0 (by omega)]) (by rw [ff 0 (by omega)]) (fun c z1 z2 z3 => ff c (by omega))⟩, fun c hc => by rw [ff c (by omega), fr c (by omega) (by omega)]⟩
    refine ⟨_, h1, rfl, rfl, fun _ => ⟨292, v1, v2.1, 293, v2.2.1, U.1, ?_⟩, fun c => absurd rfl c⟩
    refine c_forget (by omega) U (fun h2 C2 F2 => ⟨h2, rfl, rfl, 326, r1, r2.1, 327, r2.2.1, ?_⟩)
    refine c_load (by omega) U r2.2.2.2.1 (by omega) C2 (C1.1.kept (F2 _ (by omega)) (F2 _ (by omega))) (by omega) (by simp; omega) 0 (by omega) (fun c hc => by have := ok1 c hc; omega) (fun h3 R3 F3 => ⟨_, h3, rfl, rfl, 330, r2.2.2.1, ?_⟩)
    rw [ol_shift_0, List.nil_append] at R3
    refine c_load (by omega) U r2.2.2.2.2 (by omega) R3.1 (C1.2.kept (by rw [F3 _ (by omega), F2 _ (by omega)]) (by rw [F3 _ (by omega), F2 _ (by omega)])) (by omega) (by omega) 0 (by omega) (fun c hc => by have := ok2 c hc; omega) (fun h4 R4 F4 => ⟨_, h4, rfl, rfl, ?_⟩)
    rw [ol_shift_0] at R4
    have f4 : ∀ c, c < 293 ∨ 304 < c → h4 c = h1 c := fun c hc => by rw [F4 c (by omega), F3 c (by omega), F2 c (by omega)]
    have at1 : ot_at (q.1 ++ q.2) 0 (ol_tr q.1) := ⟨q.2, by rw [s2]; simp⟩
    have at2 : ot_at (q.1 ++ q.2) q.1.length (ol_tr q.2) := ⟨[], by rw [s4, List.drop_left, List.append_nil]⟩
    have okr : ol_ok (q.1 ++ q.2) := fun c hc => by
      rcases List.mem_append.mp hc with z | z
      · exact ok1 c z
      · exact ok2 c z
    refine c_solve (by omega) U R4 0 q.1.length (ol_tr q.1) (ol_tr q.2) at1 at2 s1 s3 (fun σ r h5 hou H V5 F5 => ⟨1, h5, rfl, rfl, fun c => absurd c (by decide), fun _ => ?_⟩) (fun hou h5 F5 => ⟨0, h5, rfl, rfl, fun _ => ?_, fun c => absurd rfl c⟩)
    · rw [hou] at k
      try dsimp only at k
      have f5 : ∀ c, c < 293 ∨ 304 < c → h5 c = h1 c := fun c hc => by rw [F5 c (by omega) (by omega) (by omega) (by omega) (by omega) (by omega) (by omega) (by omega), f4 c hc]
      have R5 : UnR h5 293 (q.1 ++ q.2) := R4.kept (fun c z1 z2 => F5 c (by omega) (by omega) (by omega) (by omega) (by omega) (by omega) (by omega) (by omega))
      refine c_writeI (by omega) (lim := 60) U R5 V5 H okr r2.2.2.2.1 (by omega) 0 (by omega) (ol_tr q.1) s1 at1 (fun b1 h6 C6 E6 F6 => ⟨1, h6, rfl, rfl, fun _ h7 e7 => ?_, fun c => absurd c (by decide)⟩) (fun b1 h6 F6 => ⟨0, h6, rfl, rfl, fun c => absurd rfl c, fun _ => ?_⟩)
      · rw [s2] at b1 C6 E6
        rw [if_neg (by omega)] at k
        have okX : ol_ok (ou_X σ q.1) := fun c hc => okr c (ou_X_all V5 H (fun c hc => List.mem_append_left _ hc) hc)
        have f6 : ∀ c, c < 293 ∨ (304 < c ∧ c < 326) ∨ 333 ≤ c → h6 c = h1 c := fun c hc => by rw [F6 c (by omega) (by omega) (by omega) (by omega) (by omega), f5 c (by omega)]
        have f7 : ∀ j, j ≠ 3 → h7 0 j = h1 0 j := fun j hj => by rw [e7, up_col hj, f6 0 (by omega)]
        refine c_write (P := []) (by omega) hOO r2.2.2.2.1 (by omega) (C6.kept (by rw [e7, up_ne (by omega)]) (by rw [e7, up_ne (by omega)])) (by omega) okX ⟨by rw [e7, up_eq]; rfl, by simp, fun i hi => (by cases hi), fun c hc => (by cases hc)⟩ (by simp; omega) (fun h8 P8 fo8 fr8 => ⟨h8, rfl, rfl, ?_⟩)
        rw [List.nil_append] at P8
        have lw := P8.1
        rw [List.length_map] at lw
        rw [lw]
        refine k h8 ⟨OeT_nil (by rw [fo8 1 (by omega), f7 1 (by omega)]; exact t0), P8, F1.2.2.kept wp (by rw [fo8 7 (by omega), f7 7 (by omega)]) (by rw [fo8 9 (by omega), f7 9 (by omega)]) (fun c z1 z2 z3 => by rw [fr8 c (by omega) (by omega), e7, up_ne (by omega), f6 c (by omega)])⟩ (fun c hc => by rw [fr8 c (by omega) (by omega), e7, up_ne (by omega), f6 c (by omega), fr c (by omega) (by omega)])
      · rw [s2] at b1
        rw [if_pos (by omega)] at k
        have f6 : ∀ c, c < 293 ∨ (304 < c ∧ c < 326) ∨ 333 ≤ c → h6 c = h1 c := fun c hc => by rw [F6 c (by omega) (by omega) (by omega) (by omega) (by omega), f5 c (by omega)]
        exact k h6 (keep h6 f6).1 (keep h6 f6).2
    · rw [hou] at k
      try dsimp only at k
      have f5 : ∀ c, c < 293 ∨ (304 < c ∧ c < 326) ∨ 333 ≤ c → h5 c = h1 c := fun c hc => by rw [F5 c (by omega) (by omega) (by omega) (by omega) (by omega) (by omega) (by omega) (by omega), f4 c (by omega)]
      exact k h5 (keep h5 f5).1 (keep h5 f5).2
end
