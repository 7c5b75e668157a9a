/-! The public methods (class), as far as they don't throw. -/
def ab_lt (c : Nat) : Nat := (oe_ltOf (c : Int)).toNat
theorem lt_ok : ∀ x : Nat, x < 20 → 0 ≤ oe_ltOf (x : Int) ∧ oe_ltOf (x : Int) < 127 := by decide
def OeP (h : Nat → Nat → Int) (P : List Nat) : Prop := h 0 3 = ((P.length : Nat) : Int) ∧ P.length ≤ 61 ∧ (∀ i, i < P.length → h 2 i = ((P.getD i 0 : Nat) : Int)) ∧ ∀ c ∈ P, c < 127
/-- text, page, and the rest -/
abbrev abF : Type := List Nat × List Nat × abS
def OeF (h : Nat → Nat → Int) (π : Nat → Nat) (x : abF) : Prop := OeT h x.1 ∧ OeP h x.2.1 ∧ OeK h π x.2.2
theorem OeT.kept {h h' : Nat → Nat → Int} {T : List Nat} (H : OeT h T) (e0 : h' 0 1 = h 0 1) (e1 : h' 1 = h 1) : OeT h' T := by
  obtain ⟨a, b, c, d⟩ := H
  exact ⟨by rw [e0]; exact a, b, fun i hi => by rw [e1]; exact c i hi, d⟩
theorem OeP.kept {h h' : Nat → Nat → Int} {P : List Nat} (H : OeP h P) (e0 : h' 0 3 = h 0 3) (e1 : h' 2 = h 2) : OeP h' P := by
  obtain ⟨a, b, c, d⟩ := H
  exact ⟨by rw [e0]; exact a, b, fun i hi => by rw [e1]; exact c i hi, d⟩
theorem OeT_nil {h : Nat → Nat → Int} (e : h 0 1 = 0) : OeT h [] := ⟨e, by simp, fun i hi => (by cases hi), fun c hc => (by cases hc)⟩
theorem OeK.kept {h h' : Nat → Nat → Int} {π : Nat → Nat} {s : abS} (hp : ∀ i, i < 30 → π i < 30) (H : OeK h π s) (e0 : h' 0 7 = h 0 7) (e1 : h' 0 9 = h 0 9) (e : ∀ c, 3 ≤ c → c < 218 ∨ 221 < c → c < 292 ∨ (319 ≤ c ∧ c < 326) → h' c = h c) : OeK h' π s :=
  ⟨H.1.kept hp (e _ (by omega) (by omega) (by omega)) (fun c z1 z2 => e c (by omega) (by omega) (by omega)), H.2.1.kept (e _ (by omega) (by omega) (by omega)) (e _ (by omega) (by omega) (by omega)) (fun c z1 z2 => e c (by omega) (by omega) (by omega)), H.2.2.1.kept e1 (fun c z1 z2 => e c (by omega) (by omega) (by omega)), by rw [e0]; exact H.2.2.2⟩
theorem rd_tm {l : List Nat} (h : rd_ok l) : ol_ok l ∧ ∀ c ∈ l, c < 12 → c < 6 := ⟨fun c hc => by rcases h c hc with z | z <;> omega, fun c hc h12 => by rcases h c hc with z | z <;> omega⟩
/-- what reading gives -/
theorem rd_all {be bv : Bool} {T : List Nat} {q : List Nat × List Nat} (h : ol_rd be bv T 0 false 1 [] [] = .inr q) : rd_ok q.1 ∧ rd_ok q.2 ∧ ol_tm q.1 ∧ (be = true → ol_tm q.2) ∧ q.1.length + q.2.length ≤ T.length := by
  have := ol_rd_ok T 0 false 1 [] [] q.1 q.2 h (fun c hc => by cases hc) (fun c hc => by cases hc) (fun _ => ⟨rfl, rfl⟩) (fun z => by cases z)
  simpa using this
def ab_type (x : abF) (c : Int) : Int × abF := if c < 32 ∨ 126 < c ∨ 60 ≤ x.1.length then (0, x) else (1, (x.1 ++ [c.toNat], x.2))
noncomputable def ab_reduce (x : abF) : Int × abF := match ol_rd false true x.1 0 false 1 [] [] with
  | .inl i => (-1 - (i : Int), ([], x.2))
  | .inr q => if 30 < q.1.length then (-200, ([], x.2)) else (((ol_low x.2.2.2.1 50 q.1).2 : Int), ([], (ol_low x.2.2.2.1 50 q.1).1.map ab_lt, x.2.2))
section
variable {D : Nat} {sh : List (Nat × Nat)} {g : Nat → Nat → Option Nat} {h : Nat → Nat → Int} {Q : oeQ}
theorem c_letter (hDD : 7 ≤ D) (c : Nat) (hc : c < 20) (k : Q (some (.inl (oe_ltOf (c : Int)))) (sh, g, h)) : oe_M D 901 [.inl (c : Int)] (sh, g, h) Q := by
  obtain ⟨d, rfl⟩ : ∃ d, D = d + 1 := ⟨D - 1, by omega⟩
  exact Or.inl ⟨by omega, by omega, by omega, k⟩
theorem c_write (hDD : 9 ≤ D) {π : Nat → Nat} {a ca : Nat} {l P : List Nat} (hO : OeS sh g π) (hS : LtS sh g a ca) (ha : 3 ≤ a) (hC : LtC h a l) (hl : l.length ≤ ca) (ok : ol_ok l) (hP : OeP h P) (hfit : P.length + l.length ≤ 61)
    (k : ∀ h', OeP h' (P ++ l.map ab_lt) → (∀ j, j ≠ 3 → h' 0 j = h 0 j) → (∀ c, c ≠ 0 → c ≠ 2 → h' c = h c) → Q none (sh, g, h')) : oe_M D 19 [.inr (.inl 0), .inr (.inl a)] (sh, g, h) Q := by
  obtain ⟨d, rfl⟩ : ∃ d, D = d + 2 := ⟨D - 2, by omega⟩
  obtain ⟨o0, ⟨_, _, p3, p4⟩, _⟩ := hO
  have hca := hS.2.2.2.2.2
  have loop : ∀ (n i : Nat) (P1 : List Nat) (h1 : Nat → Nat → Int), l.length - i = n → i ≤ l.length → P1.length + (l.length - i) ≤ 61 → P1 ++ (l.drop i).map ab_lt = P ++ l.map ab_lt → OeP h1 P1 → (∀ j, j ≠ 3 → h1 0 j = h 0 j) → (∀ c, c ≠ 0 → c ≠ 2 → h1 c = h c) →
      oe_V (oe_cost 19) 19 (oe_M (d + 1)) none Q 2 [some (.inr (.inl 0)), some (.inr (.inl a)), some (.inl (i : Int))] [] (sh, g, h1) 0 0 := by
    intro n
    induction n with
    | zero =>
      intro i P1 h1 hn hi hf he hP1 fo fr
      have w : h1 a 2 = ((l.length : Nat) : Int) := by rw [fr a (by omega) (by omega)]; exact hC.1
      rw [List.drop_eq_nil_of_le (by omega)] at he
      have he : P1 = P ++ l.map ab_lt := by simpa using he
      exact g19_2 ⟨hS.1, fun _ => k h1 (by rw [← he]; exact hP1) fo fr, fun c => by rw [w] at c; omega⟩
    | succ n ih =>
      intro i P1 h1 hn hi hf he hP1 fo fr
      obtain ⟨q1, q2, q3, q4⟩ := hP1
      have w : h1 a 2 = ((l.length : Nat) : Int) := by rw [fr a (by omega) (by omega)]; exact hC.1
      have cc : h1 (a + 1) ((i : Int)).toNat = ((l.getD i 0 : Nat) : Int) := by rw [Int.toNat_natCast, fr (a + 1) (by omega) (by omega)]; exact hC.2 i (by omega)
      have c20 := ol_ok_at ok (show i < l.length by omega)
      have lt := lt_ok _ c20
      refine g19_2 ⟨hS.1, fun c => by rw [w] at c; omega, fun _ => ⟨o0, 2, p3, 61, p4, fun c => by rw [q1] at c; omega, fun _ => ⟨a + 1, hS.2.1, ca, hS.2.2.2.1, by omega, by omega, ?_⟩⟩⟩
      rw [cc]
      refine c_letter (by omega) _ c20 ⟨_, h1, rfl, rfl, by rw [q1]; omega, by rw [q1]; omega, lt.1, by omega, fun h2 e2 => ?_⟩
      rw [q1, Int.toNat_natCast] at e2
      have n2 : h2 0 3 = ((P1.length : Nat) : Int) := by rw [e2, up_ne (by omega)]; exact q1
      refine ⟨by rw [n2]; unfold oe_rg; omega, fun h3 e3 => ⟨by unfold oe_rg; omega, ?_⟩⟩
      rw [n2] at e3
      have lv : oe_ltOf ((l.getD i 0 : Nat) : Int) = ((ab_lt (l.getD i 0) : Nat) : Int) := by unfold ab_lt; omega
      have i1 : ((i : Int) + 1) = ((i + 1 : Nat) : Int) := by omega
      rw [i1]
      refine ih (i + 1) (P1 ++ [ab_lt (l.getD i 0)]) h3 (by omega) (by omega) (by rw [List.length_append]; simp; omega) ?_ ⟨?_, by rw [List.length_append]; simp; omega, fun j hj => ?_, fun c hc => ?_⟩ (fun j hj => by rw [e3, up_col hj, e2, up_ne (by omega), fo j hj]) (fun c z1 z2 => by rw [e3, up_ne z1, e2, up_ne z2, fr c z1 z2])
      · rw [← he, ol_drop_cons (show i < l.length by omega)]; simp
      · rw [e3, up_eq, List.length_append]; simp
      · rw [List.length_append] at hj
        have hj : j < P1.length + 1 := hj
        rw [e3, up_ne (by omega), e2]
        by_cases ej : j = P1.length
        · subst ej
          rw [up_eq, ol_getD_app2 (Nat.le_refl _), Nat.sub_self]; exact lv
        · rw [up_col ej, ol_getD_app1 (by omega)]; exact q3 j (by omega)
      · rcases List.mem_append.mp hc with z | z
        · exact q4 c z
        · rw [List.mem_singleton.mp z]; omega
  exact g19 (loop l.length 0 P h (by omega) (Nat.zero_le _) (by omega) (by rw [List.drop_zero]) hP (fun j _ => rfl) (fun c _ _ => rfl))
theorem c_type (hDD : 2 ≤ D) {π : Nat → Nat} {x : abF} (hO : OeS sh g π) (hF : OeF h π x) (c : Int)
    (k : ∀ h', OeF h' π (ab_type x c).2 → (∀ c, 348 ≤ c → h' c = h c) → Q (some (.inl (ab_type x c).1)) (sh, g, h')) : oe_M D 3 [.inr (.inl 0), .inl c] (sh, g, h) Q := by
  obtain ⟨d, rfl⟩ : ∃ d, D = d + 2 := ⟨D - 2, by omega⟩
  obtain ⟨o0, ⟨p1, p2, _⟩, ⟨w1, w2⟩, _⟩ := hO
  have hFF := hF
  obtain ⟨⟨t1, t2, t3, t4⟩, hP, hK⟩ := hF
  unfold ab_type at k
  have no : (c < 32 ∨ 126 < c ∨ 60 ≤ x.1.length) → Q (some (.inl 0)) (sh, g, h) := fun z => by
    rw [if_pos z] at k
    exact k h hFF (fun c _ => rfl)
  refine g3 ⟨fun c1 => no (Or.inl c1), fun c1 => ⟨fun c2 => no (Or.inr (Or.inl c2)), fun c2 => ⟨o0, fun c3 => ⟨0 + 1, p1, 60, p2, by rw [t1]; omega, by rw [t1]; rw [t1] at c3; omega, by omega, by omega, fun h1 e1 => ?_⟩, fun c3 => no (Or.inr (Or.inr (by rw [t1] at c3; omega)))⟩⟩⟩
  rw [t1] at c3
  rw [if_neg (show ¬ (c < 32 ∨ 126 < c ∨ 60 ≤ x.1.length) by omega)] at k
  rw [t1, Int.toNat_natCast] at e1
  have n1 : h1 0 1 = ((x.1.length : Nat) : Int) := by rw [e1, up_ne (by omega)]; exact t1
  refine ⟨by rw [n1]; unfold oe_rg; omega, fun h2 e2 => ?_⟩
  rw [n1] at e2
  have f2 : ∀ c, c ≠ 0 → c ≠ 1 → h2 c = h c := fun c z1 z2 => by rw [e2, up_ne z1, e1, up_ne z2]
  have f0 : ∀ j, j ≠ 1 → h2 0 j = h 0 j := fun j hj => by rw [e2, up_col hj, e1, up_ne (by omega)]
  refine k h2 ⟨⟨?_, ?_, fun i hi => ?_, fun y hy => ?_⟩, hP.kept (f0 3 (by omega)) (f2 2 (by omega) (by omega)), hK.kept (fun i hi => (w2.2.2.2.2.1 i hi).1) (f0 7 (by omega)) (f0 9 (by omega)) (fun c z1 z2 z3 => f2 c (by omega) (by omega))⟩ (fun c z => f2 c (by omega) (by omega))
  · show h2 0 1 = (((x.1 ++ [c.toNat]).length : Nat) : Int)
    rw [e2, up_eq, List.length_append]; simp
  · show (x.1 ++ [c.toNat]).length ≤ 60
    rw [List.length_append]; simp; omega
  · have hi : i < (x.1 ++ [c.toNat]).length := hi
    show h2 1 i = (((x.1 ++ [c.toNat]).getD i 0 : Nat) : Int)
    rw [List.length_append] at hi
    have hi : i < x.1.length + 1 := hi
    rw [e2, up_ne (by omega), e1]
    by_cases ei : i = x.1.length
    · subst ei
      rw [up_eq, ol_getD_app2 (Nat.le_refl _), Nat.sub_self]
      show c = ((c.toNat : Nat) : Int)
      omega
    · rw [up_col ei, ol_getD_app1 (by omega)]; exact t3 i (by omega)
  · have hy : y ∈ x.1 ++ [c.toNat] := hy
    rcases List.mem_append.mp hy with z | z
    · exact t4 y z
    · rw [List.mem_singleton.mp z]; omega
theorem c_wipe (hDD : 2 ≤ D) {π : Nat → Nat} {x : abF} (hO : OeS sh g π) (hF : OeF h π x)
    (k : ∀ h', OeF h' π ([], x.2) → (∀ c, 348 ≤ c → h' c = h c) → Q (some (.inl ((x.1.length : Nat) : Int))) (sh, g, h')) : oe_M D 4 [.inr (.inl 0)] (sh, g, h) Q := by
  obtain ⟨d, rfl⟩ : ∃ d, D = d + 2 := ⟨D - 2, by omega⟩
  obtain ⟨o0, _, ⟨w1, w2⟩, _⟩ := hO
  obtain ⟨hT, hP, hK⟩ := hF
  refine g4 ⟨o0, fun h1 e1 => ?_⟩
  rw [hT.1]
  exact k h1 ⟨OeT_nil (by rw [e1, up_eq]), hP.kept (by rw [e1, up_col (by omega)]) (by rw [e1, up_ne (by omega)]), hK.kept (fun i hi => (w2.2.2.2.2.1 i hi).1) (by rw [e1, up_col (by omega)]) (by rw [e1, up_col (by omega)]) (fun c z1 z2 z3 => by rw [e1, up_ne (by omega)])⟩ (fun c z => by rw [e1, up_ne (by omega)])
theorem c_length (hDD : 2 ≤ D) {π : Nat → Nat} {x : abF} (hO : OeS sh g π) (hF : OeF h π x) (k : Q (some (.inl ((x.2.1.length : Nat) : Int))) (sh, g, h)) : oe_M D 14 [.inr (.inl 0)] (sh, g, h) Q := by
  obtain ⟨d, rfl⟩ : ∃ d, D = d + 2 := ⟨D - 2, by omega⟩
  refine g14 ⟨hO.1, ?_⟩
  rw [hF.2.1.1]; exact k
theorem c_charAt (hDD : 2 ≤ D) {π : Nat → Nat} {x : abF} (hO : OeS sh g π) (hF : OeF h π x) (p : Int) (k : Q (some (.inl (if 0 ≤ p ∧ p < ((x.2.1.length : Nat) : Int) then ((x.2.1.getD p.toNat 0 : Nat) : Int) else 32))) (sh, g, h)) : oe_M D 15 [.inr (.inl 0), .inl p] (sh, g, h) Q := by
  obtain ⟨d, rfl⟩ : ∃ d, D = d + 2 := ⟨D - 2, by omega⟩
  obtain ⟨o0, ⟨_, _, p3, p4⟩, _⟩ := hO
  obtain ⟨hT, ⟨q1, q2, q3, q4⟩, hK⟩ := hF
  refine g15 ⟨fun c => ⟨by omega, ?_⟩, fun c => ⟨o0, fun c2 => ⟨2, p3, 61, p4, by omega, by rw [q1] at c2; omega, ?_⟩, fun c2 => ⟨by omega, ?_⟩⟩⟩
  · rw [if_neg (by omega)] at k; exact k
  · rw [q1] at c2
    rw [if_pos ⟨c, c2⟩] at k
    have hi : p.toNat < x.2.1.length := by omega
    have := q4 _ (show x.2.1.getD p.toNat 0 ∈ x.2.1 by rw [List.getD_eq_getElem?_getD, List.getElem?_eq_getElem hi]; exact List.getElem_mem hi)
    rw [q3 _ hi]
    exact ⟨by omega, k⟩
  · rw [q1] at c2
    rw [if_neg (by omega)] at k; exact k
end
