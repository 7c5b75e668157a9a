/-! The reference: letters, reading. -/
def om_cd (c : Int) : Int := if oe_cdOf c = -1 then -1 else om (oe_cdOf c).toNat
set_option maxRecDepth 4000 in
theorem om_cd_tab : ∀ c : Nat, c < 127 → om_cd (c : Int) = (if 117 ≤ c ∧ c ≤ 122 then (c : Int) - 117 else if c = 97 then 24 else if c = 98 then 25 else if c = 99 then 26 else if c = 100 then 27 else if c = 102 then 22 else if c = 103 then 23 else if c = 112 then 20 else if c = 113 then 21 else -1) := by decide
theorem om_lt_tab : ∀ c : Nat, c < 20 → (c < 6 ∨ 12 ≤ c) → oe_ltOf (c : Int) = (if c < 6 then 117 + (c : Int) else if c = 12 then 100 else if c = 13 then 99 else if c = 14 then 98 else if c = 15 then 97 else if c = 16 then 103 else if c = 17 then 102 else if c = 18 then 113 else 112) := by decide
def MdT (h : Nat → Nat → Int) (m : Nat) (T : List Nat) : Prop := h m 1 = ((T.length : Nat) : Int) ∧ T.length ≤ 60 ∧ (∀ i, i < T.length → h (m + 1) i = ((T.getD i 0 : Nat) : Int)) ∧ ∀ c ∈ T, c < 127
def MdP (h : Nat → Nat → Int) (m : Nat) (P : List Nat) : Prop := h m 3 = ((P.length : Nat) : Int) ∧ P.length ≤ 61 ∧ (∀ i, i < P.length → h (m + 2) i = ((P.getD i 0 : Nat) : Int)) ∧ ∀ c ∈ P, c < 127
theorem MdT.kept {h h' : Nat → Nat → Int} {m : Nat} {T : List Nat} (H : MdT h m T) (e0 : h' m 1 = h m 1) (e1 : h' (m + 1) = h (m + 1)) : MdT h' m T := by
  obtain ⟨a, b, c, d⟩ := H
  exact ⟨by rw [e0]; exact a, b, fun i hi => by rw [e1]; exact c i hi, d⟩
theorem MdP.kept {h h' : Nat → Nat → Int} {m : Nat} {P : List Nat} (H : MdP h m P) (e0 : h' m 3 = h m 3) (e1 : h' (m + 2) = h (m + 2)) : MdP h' m P := by
  obtain ⟨a, b, c, d⟩ := H
  exact ⟨by rw [e0]; exact a, b, fun i hi => by rw [e1]; exact c i hi, d⟩
theorem MdT_nil {h : Nat → Nat → Int} {m : Nat} (e : h m 1 = 0) : MdT h m [] := ⟨e, by simp, fun i hi => (by cases hi), fun c hc => (by cases hc)⟩
theorem MdP_nil {h : Nat → Nat → Int} {m : Nat} (e : h m 3 = 0) : MdP h m [] := ⟨e, by simp, fun i hi => (by cases hi), fun c hc => (by cases hc)⟩
section
variable {D : Nat} {sh : List (Nat × Nat)} {g : Nat → Nat → Option Nat} {h : Nat → Nat → Int} {Q : oeQ}
theorem m_letter (hDD : 2 ≤ D) (c : Nat) (hc : c < 127) (k : Q (some (.inl (om_cd (c : Int)))) (sh, g, h)) : oe_M D 32 [.inl (c : Int)] (sh, g, h) Q := by
  obtain ⟨d, rfl⟩ : ∃ d, D = d + 2 := ⟨D - 2, by omega⟩
  have tab := om_cd_tab c hc
  rw [tab] at k
  have none_ : ((c < 97 ∨ 113 < c) ∨ c = 101 ∨ (104 ≤ c ∧ c ≤ 111)) → c < 117 → Q (some (.inl (-1))) (sh, g, h) := fun z1 z2 => by
    rw [if_neg (by omega), if_neg (by omega), if_neg (by omega), if_neg (by omega), if_neg (by omega), if_neg (by omega), if_neg (by omega), if_neg (by omega), if_neg (by omega)] at k; exact k
  have big : 122 < c → Q (some (.inl (-1))) (sh, g, h) := fun z => by
    rw [if_neg (by omega), if_neg (by omega), if_neg (by omega), if_neg (by omega), if_neg (by omega), if_neg (by omega), if_neg (by omega), if_neg (by omega), if_neg (by omega)] at k; exact k
  have vv : 117 ≤ c → c ≤ 122 → Q (some (.inl ((c : Int) - 117))) (sh, g, h) := fun z1 z2 => by
    rw [if_pos ⟨z1, z2⟩] at k; exact k
  have blk : ((c < 97 ∨ 113 < c) ∨ c = 101 ∨ (104 ≤ c ∧ c ≤ 111)) → (((c : Int) < 117 → Q (some (.inl (-1))) (sh, g, h)) ∧ (117 ≤ (c : Int) → (122 < (c : Int) → Q (some (.inl (-1))) (sh, g, h)) ∧ ((c : Int) ≤ 122 → oe_rg ((c : Int) - 117) ∧ Q (some (.inl ((c : Int) - 117))) (sh, g, h)))) := fun z => ⟨fun z2 => none_ z (by omega), fun z2 => ⟨fun z3 => big (by omega), fun z3 => ⟨by unfold oe_rg; omega, vv (by omega) (by omega)⟩⟩⟩
  refine g32 ⟨fun z => blk (by omega), fun z => ?_, fun z => ?_, fun z => ?_, fun z => ?_, fun z => blk (by omega), fun z => ?_, fun z => ?_, fun z => blk (by omega), fun z => blk (by omega), fun z => blk (by omega), fun z => blk (by omega), fun z => blk (by omega), fun z => blk (by omega), fun z => blk (by omega), fun z => blk (by omega), fun z => ?_, fun z => ?_⟩
  · have : c = 97 := by omega
    subst this; exact k
  · have : c = 98 := by omega
    subst this; exact k
  · have : c = 99 := by omega
    subst this; exact k
  · have : c = 100 := by omega
    subst this; exact k
  · have : c = 102 := by omega
    subst this; exact k
  · have : c = 103 := by omega
    subst this; exact k
  · have : c = 112 := by omega
    subst this; exact k
  · have : c = 113 := by omega
    subst this; exact k
theorem m_char (hDD : 2 ≤ D) (c : Nat) (hc : c < 20) (hc6 : c < 12 → c < 6) (k : Q (some (.inl ((ab_lt c : Nat) : Int))) (sh, g, h)) : oe_M D 33 [.inl (om c)] (sh, g, h) Q := by
  obtain ⟨d, rfl⟩ : ∃ d, D = d + 2 := ⟨D - 2, by omega⟩
  have lt := lt_ok c hc
  have lv : ((ab_lt c : Nat) : Int) = oe_ltOf (c : Int) := by unfold ab_lt; omega
  rw [lv, om_lt_tab c hc (by omega)] at k
  by_cases z : c < 12
  · have := hc6 z
    rw [if_pos this] at k
    rw [om_v z]
    refine g33 ⟨fun _ => ⟨by unfold oe_rg; omega, k⟩, fun y => by omega, fun y => by omega, fun y => by omega, fun y => by omega, fun y => by omega, fun y => by omega, fun y => by omega, fun y => by omega⟩
  · rw [om_s (by omega)]
    refine g33 ⟨fun y => by omega, fun y => ?_, fun y => ?_, fun y => ?_, fun y => ?_, fun y => ?_, fun y => ?_, fun y => ?_, fun y => ?_⟩
    · have : c = 19 := by omega
      subst this; exact k
    · have : c = 18 := by omega
      subst this; exact k
    · have : c = 17 := by omega
      subst this; exact k
    · have : c = 16 := by omega
      subst this; exact k
    · have : c = 15 := by omega
      subst this; exact k
    · have : c = 14 := by omega
      subst this; exact k
    · have : c = 13 := by omega
      subst this; exact k
    · have : c = 12 := by omega
      subst this; exact k
theorem m_put (hDD : 2 ≤ D) {m : Nat} (hM : MdS sh g m) {P : List Nat} (hP : MdP h m P) (hl : P.length < 61) (c : Nat) (hc : c < 127)
    (k : ∀ h', MdP h' m (P ++ [c]) → (∀ j, j ≠ 3 → h' m j = h m j) → (∀ c, c ≠ m → c ≠ m + 2 → h' c = h c) → Q none (sh, g, h')) : oe_M D 78 [.inr (.inl m), .inl (c : Int)] (sh, g, h) Q := by
  obtain ⟨d, rfl⟩ : ∃ d, D = d + 2 := ⟨D - 2, by omega⟩
  have ac := md_4 hM
  obtain ⟨p1, p2, p3, p4⟩ := hP
  refine g78 ⟨hM.1, m + 2, ac.1, 70, ac.2, by omega, by omega, fun h1 e1 => ?_⟩
  rw [p1, Int.toNat_natCast] at e1
  have n1 : h1 m 3 = ((P.length : Nat) : Int) := by rw [e1, up_ne (by omega)]; exact p1
  refine ⟨by rw [n1]; unfold oe_rg; omega, fun h2 e2 => ?_⟩
  rw [n1] at e2
  refine k h2 ⟨by rw [e2, up_eq, List.length_append]; rfl, by rw [List.length_append]; simp; omega, fun i hi => ?_, fun x hx => ?_⟩ (fun j hj => by rw [e2, up_col hj, e1, up_ne (by omega)]) (fun x z1 z2 => by rw [e2, up_ne z1, e1, up_ne z2])
  · rw [List.length_append] at hi
    have hi : i < P.length + 1 := hi
    rw [e2, up_ne (by omega), e1]
    by_cases ei : i = P.length
    · subst ei; rw [up_eq, ol_getD_app2 (Nat.le_refl _), Nat.sub_self]; rfl
    · rw [up_col ei, ol_getD_app1 (by omega)]; exact p3 i (by omega)
  · rcases List.mem_append.mp hx with z | z
    · exact p4 x z
    · rw [List.mem_singleton.mp z]; exact hc
set_option maxHeartbeats 1000000 in
theorem m_read (hDD : 6 ≤ D) {m : Nat} (hM : MdS sh g m) {T : List Nat} (hT : MdT h m T) (be bv : Bool) (kd : Int) (hkd : (kd = 0 ∧ be = true ∧ bv = true) ∨ (kd = 1 ∧ be = true ∧ bv = false) ∨ (kd = 2 ∧ be = false ∧ bv = true))
    (kf : ∀ i h', ol_rd be bv T 0 false 1 [] [] = .inl i → h' m 1 = 0 → (∀ j, j ≠ 1 → j ≠ 6 → j ≠ 7 → h' m j = h m j) → (∀ c, c ≠ m → c ≠ m + 3 → h' c = h c) → Q (some (.inl (i : Int))) (sh, g, h'))
    (k : ∀ q h', ol_rd be bv T 0 false 1 [] [] = .inr q → MR h' (m + 3) (q.1 ++ q.2) → h' m 7 = ((q.1.length + q.2.length : Nat) : Int) → (be = true → h' m 6 = ((q.1.length : Nat) : Int)) → (be = false → q.2 = []) → h' m 1 = 0 → (∀ j, j ≠ 1 → j ≠ 6 → j ≠ 7 → h' m j = h m j) → (∀ c, c ≠ m → c ≠ m + 3 → h' c = h c) → Q (some (.inl (-1))) (sh, g, h')) :
    oe_M D 36 [.inr (.inl m), .inl kd] (sh, g, h) Q := by
  obtain ⟨d, rfl⟩ : ∃ d, D = d + 2 := ⟨D - 2, by omega⟩
  have ac1 := md_2 hM
  have ac3 := md_5 hM
  obtain ⟨e0, e1, e2, e3⟩ := hT
  generalize hRD : ol_rd be bv T 0 false 1 [] [] = RD at kf k
  have tlt : ∀ i, i < T.length → T.getD i 0 < 127 := fun i hi => e3 _ (by rw [List.getD_eq_getElem?_getD, List.getElem?_eq_getElem hi]; exact List.getElem_mem hi)
  have loop : ∀ (n i : Nat) (on : Bool) (ms : Nat) (L R : List Nat) (h1 : Nat → Nat → Int), T.length - i = n → i ≤ T.length → ms ≤ 1 + i → L.length + R.length ≤ i → ol_rd be bv (T.drop i) i on ms L R = RD → (on = false → R = []) → (be = false → on = false) → MR h1 (m + 3) (L ++ R) → h1 m 7 = ((L.length + R.length : Nat) : Int) → (on = true → h1 m 6 = ((L.length : Nat) : Int)) → h1 m 1 = 0 → (∀ j, j ≠ 1 → j ≠ 6 → j ≠ 7 → h1 m j = h m j) → (∀ c, c ≠ m → c ≠ m + 3 → h1 c = h c) →
      oe_V (oe_cost 36) 36 (oe_M (d + 1)) none Q 37 [some (.inr (.inl m)), some (.inl kd), some (.inl ((T.length : Nat) : Int)), some (.inl (ms : Int)), some (.inl (b01 (!be || on))), some (.inl (i : Int)), none] [] (sh, g, h1) 0 0 := by
    intro n
    induction n with
    | zero =>
      intro i on ms L R h1 hn hi hms hlen he hR hbe M1 n7 n6 t0 fo fr
      have ei : i = T.length := by omega
      rw [List.drop_eq_nil_of_le (by omega)] at he
      unfold ol_rd at he
      refine g36_37 ⟨fun _ => ⟨fun c => ?_, fun c => ⟨fun c2 => ?_, fun c2 => ?_⟩⟩, fun c => by omega⟩
      · rw [if_pos (Or.inl (by omega))] at he
        rw [← ei]
        exact kf i h1 he.symm t0 fo fr
      · have z : ¬ (0 < ms ∨ (be = true ∧ on = false)) := by
          rintro (z | ⟨z1, z2⟩)
          · omega
          · rw [z1, z2] at c2; exact c2 rfl
        rw [if_neg z] at he
        refine k (L, R) h1 he.symm M1 n7 (fun hb => n6 ?_) (fun hb => hR (hbe hb)) t0 fo fr
        cases on with
        | true => rfl
        | false => exact absurd (Or.inr ⟨hb, rfl⟩) z
      · have z : be = true ∧ on = false := by
          cases be with
          | false => cases on <;> (exact absurd c2 (by decide))
          | true => cases on with
            | false => exact ⟨rfl, rfl⟩
            | true => exact absurd c2 (by decide)
        rw [if_pos (Or.inr z)] at he
        rw [← ei]
        exact kf i h1 he.symm t0 fo fr
    | succ n ih =>
      intro i on ms L R h1 hn hi hms hlen he hR hbe M1 n7 n6 t0 fo fr
      have hi2 : i < T.length := by omega
      have i1 : (i : Int) + 1 = ((i + 1 : Nat) : Int) := by omega
      rw [ol_drop_cons hi2] at he
      have cc : h1 (m + 1) ((i : Int)).toNat = ((T.getD i 0 : Nat) : Int) := by rw [Int.toNat_natCast, fr _ (by omega) (by omega)]; exact e2 i hi2
      have c127 := tlt i hi2
      generalize T.getD i 0 = ch at *
      unfold ol_rd at he
      have cok := cd_ok (ch : Int)
      refine g36_37 ⟨fun c => by omega, fun _ => ⟨fun c => ?_, fun c => ⟨hM.1, m + 1, ac1.1, 60, ac1.2, by omega, by omega, ?_⟩⟩⟩
      · rw [if_pos (show ms = 0 by omega)] at he
        refine ⟨fun c2 => ?_, fun c2 => ⟨hM.1, m + 1, ac1.1, 60, ac1.2, by omega, by omega, ?_⟩⟩
        · rw [if_pos (by
            cases be with
            | false => exact Or.inl rfl
            | true => cases on with
              | false => exact absurd rfl c2
              | true => exact Or.inr (Or.inl rfl))] at he
          exact kf i h1 he.symm t0 fo fr
        · have z : be = true ∧ on = false := by
            cases be with
            | false => cases on <;> (exact absurd c2 (by decide))
            | true => cases on with
              | false => exact ⟨rfl, rfl⟩
              | true => exact absurd c2 (by decide)
          rw [cc]
          refine ⟨fun c3 => ?_, fun c3 h2 eh2 => ⟨by unfold oe_rg; omega, ?_⟩⟩
          · rw [if_pos (Or.inr (Or.inr (by omega)))] at he
            exact kf i h1 he.symm t0 fo fr
          · rw [if_neg (by
              rintro (y | y | y)
              · rw [z.1] at y; cases y
              · rw [z.2] at y; cases y
              · exact y (by omega))] at he
            have hR' := hR z.2
            rw [i1]
            have := ih (i + 1) true 1 L R h2 (by omega) (by omega) (by omega) (by omega) he (fun y => by cases y) (fun y => by rw [z.1] at y; cases y) (M1.kept (by rw [eh2, up_ne (by omega)])) (by rw [eh2, up_col (by omega)]; exact n7) (fun _ => by rw [eh2, up_eq, n7, hR']; rfl) (by rw [eh2, up_col (by omega)]; exact t0) (fun j y1 y2 y3 => by rw [eh2, up_col y2]; exact fo j y1 y2 y3) (fun x y1 y2 => by rw [eh2, up_ne y1]; exact fr x y1 y2)
            rw [z.1] at this
            exact this
      · rw [if_neg (show ¬ ms = 0 by omega)] at he
        rw [cc]
        refine m_letter (by omega) ch c127 ⟨_, h1, rfl, rfl, fun c2 => ?_, fun c2 => ?_⟩
        · unfold om_cd at c2
          split at c2
          · rename_i z
            rw [if_pos (Or.inl z)] at he
            exact kf i h1 he.symm t0 fo fr
          · rename_i z
            have := om_rg (c := (oe_cdOf (ch : Int)).toNat) (by omega)
            omega
        · have z : oe_cdOf (ch : Int) ≠ -1 := fun z => by unfold om_cd at c2; rw [if_pos z] at c2; omega
          have oe : om_cd (ch : Int) = om (oe_cdOf (ch : Int)).toNat := by unfold om_cd; rw [if_neg z]
          have x20 : (oe_cdOf (ch : Int)).toNat < 20 := by omega
          have vv := om_var x20
          have arl := ar_le (oe_cdOf (ch : Int)).toNat
          rw [oe]
          -- a letter is taken
          have take : ¬ (oe_cdOf (ch : Int) = -1 ∨ (bv = false ∧ oe_cdOf (ch : Int) < 12)) → oe_rg ((ms : Int) - 1) ∧ oe_M (d + 1) 34 [.inl (om (oe_cdOf (ch : Int)).toNat)] (sh, g, h1) (fun r hp => ∃ (x37 : Int), r = some (.inl x37) ∧ hp = (sh, g, h1) ∧ oe_rg ((ms : Int) - 1 + x37) ∧ ∃ q39, g m 5 = some q39 ∧ ∃ n42, sh[q39]? = some (0, n42) ∧ 0 ≤ (h1 m 7) ∧ (h1 m 7) < (n42 : Nat) ∧ ∀ h45, h45 = oe_up h1 q39 ((h1 m 7)).toNat (om (oe_cdOf (ch : Int)).toNat) → oe_rg ((h45 m 7) + 1) ∧ ∀ h48, h48 = oe_up h45 m 7 ((h45 m 7) + 1) → oe_rg ((i : Int) + 1) ∧ oe_V (oe_cost 36) 36 (oe_M (d + 1)) none Q 37 [some (.inr (.inl m)), some (.inl kd), some (.inl ((T.length : Nat) : Int)), some (.inl ((ms : Int) - 1 + x37)), some (.inl (b01 (!be || on))), some (.inl ((i : Int) + 1)), none] [] (sh, g, h48) 0 0) := by
            intro ny
            rw [if_neg ny] at he
            refine ⟨by unfold oe_rg; omega, m_args (by omega) x20 ⟨_, rfl, rfl, by unfold oe_rg; omega, m + 3, ac3.1, 60, ac3.2, by omega, by omega, fun h2 eh2 => ?_⟩⟩
            rw [n7, Int.toNat_natCast] at eh2
            have m7 : h2 m 7 = ((L.length + R.length : Nat) : Int) := by rw [eh2, up_ne (by omega)]; exact n7
            refine ⟨by rw [m7]; unfold oe_rg; omega, fun h3 eh3 => ⟨by unfold oe_rg; omega, ?_⟩⟩
            rw [m7] at eh3
            have M3 : MR h3 (m + 3) (L ++ R ++ [(oe_cdOf (ch : Int)).toNat]) := M1.snoc (fun x => by
              rw [eh3, up_ne (by omega), eh2, List.length_append]
              split
              · rename_i y; rw [y, up_eq]
              · rename_i y; rw [up_col y])
            have m73 : h3 m 7 = ((L.length + R.length + 1 : Nat) : Int) := by rw [eh3, up_eq]; omega
            have m63 : h3 m 6 = h1 m 6 := by rw [eh3, up_col (by omega), eh2, up_ne (by omega)]
            have t03 : h3 m 1 = 0 := by rw [eh3, up_col (by omega), eh2, up_ne (by omega)]; exact t0
            have fo3 : ∀ j, j ≠ 1 → j ≠ 6 → j ≠ 7 → h3 m j = h m j := fun j y1 y2 y3 => by rw [eh3, up_col y3, eh2, up_ne (by omega)]; exact fo j y1 y2 y3
            have fr3 : ∀ c, c ≠ m → c ≠ m + 3 → h3 c = h c := fun x y1 y2 => by rw [eh3, up_ne y1, eh2, up_ne y2]; exact fr x y1 y2
            have em : (ms : Int) - 1 + ((ol_ar (oe_cdOf (ch : Int)).toNat : Nat) : Int) = ((ms - 1 + ol_ar (oe_cdOf (ch : Int)).toNat : Nat) : Int) := by omega
            rw [em, i1]
            cases on with
            | true =>
              rw [if_pos rfl] at he
              refine ih (i + 1) true _ L (R ++ [(oe_cdOf (ch : Int)).toNat]) h3 (by omega) (by omega) (by omega) (by rw [List.length_append]; simp; omega) he (fun y => by cases y) hbe (by rw [← List.append_assoc]; exact M3) (by rw [m73, List.length_append]; simp; omega) (fun y => by rw [m63]; exact n6 y) t03 fo3 fr3
            | false =>
              rw [if_neg (fun y => by cases y)] at he
              have hR' := hR rfl
              rw [hR', List.append_nil] at M3
              refine ih (i + 1) false _ (L ++ [(oe_cdOf (ch : Int)).toNat]) R h3 (by omega) (by omega) (by omega) (by rw [List.length_append]; simp; omega) he hR hbe (by rw [hR', List.append_nil]; exact M3) (by rw [m73, List.length_append]; simp; omega) (fun y => by cases y) t03 fo3 fr3
          refine ⟨fun c3 => take ?_, fun c3 => ⟨fun c4 => ?_, fun c4 => take ?_⟩⟩
          · rintro (y | y)
            · exact z y
            · rcases hkd with q | q | q
              · rw [q.2.2] at y; cases y.1
              · exact c3 q.1
              · rw [q.2.2] at y; cases y.1
          · have x12 := vv.mp c4
            rw [if_pos (Or.inr ⟨by
              rcases hkd with q | q | q
              · omega
              · exact q.2.2
              · omega, by omega⟩)] at he
            exact kf i h1 he.symm t0 fo fr
          · rintro (y | y)
            · exact z y
            · have := vv.mpr (show (oe_cdOf (ch : Int)).toNat < 12 by omega)
              omega
  refine g36 ⟨hM.1, fun h1 q1 h2 q2 h3 q3 => ?_⟩
  rw [e0]
  have t3 : h3 m 1 = 0 := by rw [q3, up_col (by omega), q2, up_col (by omega), q1, up_eq]
  have t7 : h3 m 7 = (((([] : List Nat).length + ([] : List Nat).length) : Nat) : Int) := by rw [q3, up_eq]; rfl
  have fo3 : ∀ j, j ≠ 1 → j ≠ 6 → j ≠ 7 → h3 m j = h m j := fun j y1 y2 y3 => by rw [q3, up_col y3, q2, up_col y2, q1, up_col y1]
  have fr3 : ∀ c, c ≠ m → c ≠ m + 3 → h3 c = h c := fun x y1 _ => by rw [q3, up_ne y1, q2, up_ne y1, q1, up_ne y1]
  have start := loop T.length 0 false 1 [] [] h3 rfl (Nat.zero_le _) (by omega) (by simp) hRD (fun _ => rfl) (fun _ => rfl) (fun i hi => by cases hi) t7 (fun y => by cases y) t3 fo3 fr3
  refine ⟨fun c => ?_, fun c => ?_⟩
  · have hb : be = true := by
      rcases hkd with q | q | q
      · exact q.2.1
      · exact q.2.1
      · exact absurd q.1 c
    rw [hb] at start
    exact start
  · have hb : be = false := by
      rcases hkd with q | q | q
      · omega
      · omega
      · exact q.2.1
    rw [hb] at start
    exact start
/-- what was told goes into two sides -/
theorem m_sides (hDD : 2 ≤ D) {m s : Nat} (hM : MdS sh g m) (hs : s + 1 < 6) {q : List Nat × List Nat} (l1 : q.1.length ≤ 40) (l2 : q.2.length ≤ 40) (l3 : q.1.length + q.2.length ≤ 60) (M : MR h (m + 3) (q.1 ++ q.2)) (n7 : h m 7 = ((q.1.length + q.2.length : Nat) : Int)) (n6 : h m 6 = ((q.1.length : Nat) : Int))
    (k : ∀ h', SD h' m s q.1 → SD h' m (s + 1) q.2 → (∀ i, i < 40 * s ∨ 40 * s + 80 ≤ i → h' (m + 10) i = h (m + 10) i) → (∀ i, i ≠ s → i ≠ s + 1 → h' (m + 11) i = h (m + 11) i) → (∀ c, c ≠ m + 10 → c ≠ m + 11 → h' c = h c) → Q none (sh, g, h')) : oe_M D 72 [.inr (.inl m), .inl (s : Int)] (sh, g, h) Q := by
  obtain ⟨d, rfl⟩ : ∃ d, D = d + 2 := ⟨D - 2, by omega⟩
  have ac3 := md_5 hM
  have acS := md_18 hM
  have acN := md_19 hM
  have loop : ∀ (n i : Nat) (h1 : Nat → Nat → Int), q.1.length + q.2.length - i = n → i ≤ q.1.length + q.2.length → h1 (m + 11) s = ((q.1.length : Nat) : Int) → h1 (m + 11) (s + 1) = ((q.2.length : Nat) : Int) → (∀ j, j < i → j < q.1.length → h1 (m + 10) (40 * s + j) = om (q.1.getD j 0)) → (∀ j, q.1.length + j < i → h1 (m + 10) (40 * (s + 1) + j) = om (q.2.getD j 0)) → (∀ i, i < 40 * s ∨ 40 * s + 80 ≤ i → h1 (m + 10) i = h (m + 10) i) → (∀ i, i ≠ s → i ≠ s + 1 → h1 (m + 11) i = h (m + 11) i) → (∀ c, c ≠ m + 10 → c ≠ m + 11 → h1 c = h c) →
      oe_V (oe_cost 72) 72 (oe_M (d + 1)) none Q 29 [some (.inr (.inl m)), some (.inl (s : Int)), some (.inl (i : Int))] [] (sh, g, h1) 0 0 := by
    intro n
    induction n with
    | zero =>
      intro i h1 hn hi a1 a2 p1 p2 f1 f2 f3
      refine g72_29 ⟨hM.1, fun _ => k h1 ⟨a1, fun j hj => p1 j (by omega) hj⟩ ⟨a2, fun j hj => p2 j (by omega)⟩ f1 f2 f3, fun c => by rw [f3 m (by omega) (by omega), n7] at c; omega⟩
    | succ n ih =>
      intro i h1 hn hi a1 a2 p1 p2 f1 f2 f3
      have w6 : h1 m 6 = ((q.1.length : Nat) : Int) := by rw [f3 m (by omega) (by omega)]; exact n6
      have cc : h1 (m + 3) i = om ((q.1 ++ q.2).getD i 0) := by rw [f3 _ (by omega) (by omega)]; exact M i (by rw [List.length_append]; omega)
      have i1 : (i : Int) + 1 = ((i + 1 : Nat) : Int) := by omega
      refine g72_29 ⟨hM.1, fun c => by rw [f3 m (by omega) (by omega), n7] at c; omega, fun _ => ?_⟩
      rw [w6]
      refine ⟨fun c => ⟨m + 10, acS.1, by unfold oe_rg; omega, by unfold oe_rg; omega, by unfold oe_rg; omega, by unfold oe_rg; omega, m + 3, ac3.1, 60, ac3.2, by omega, by omega, 240, acS.2, by omega, by omega, fun h2 e2 => ⟨by unfold oe_rg; omega, ?_⟩⟩, fun c => ⟨m + 10, acS.1, by unfold oe_rg; omega, by unfold oe_rg; omega, m + 3, ac3.1, 60, ac3.2, by omega, by omega, 240, acS.2, by omega, by omega, fun h2 e2 => ⟨by unfold oe_rg; omega, ?_⟩⟩⟩
      · rw [Int.toNat_natCast, cc, ol_getD_app2 (by omega), show (40 * (s : Int) + 40 + (i : Int) - ((q.1.length : Nat) : Int)).toNat = 40 * (s + 1) + (i - q.1.length) by omega] at e2
        rw [i1]
        refine ih (i + 1) h2 (by omega) (by omega) (by rw [e2, up_ne (by omega)]; exact a1) (by rw [e2, up_ne (by omega)]; exact a2) (fun j z1 z2 => by rw [e2, up_col (by omega)]; exact p1 j (by omega) z2) (fun j z => ?_) (fun j z => by rw [e2, up_col (by omega)]; exact f1 j z) (fun j z1 z2 => by rw [e2, up_ne (by omega)]; exact f2 j z1 z2) (fun c z1 z2 => by rw [e2, up_ne z1]; exact f3 c z1 z2)
        by_cases ej : j = i - q.1.length
        · subst ej; rw [e2, up_eq]
        · rw [e2, up_col (by omega)]; exact p2 j (by omega)
      · rw [Int.toNat_natCast, cc, ol_getD_app1 (by omega), show (40 * (s : Int) + (i : Int)).toNat = 40 * s + i by omega] at e2
        rw [i1]
        refine ih (i + 1) h2 (by omega) (by omega) (by rw [e2, up_ne (by omega)]; exact a1) (by rw [e2, up_ne (by omega)]; exact a2) (fun j z1 z2 => ?_) (fun j z => by omega) (fun j z => by rw [e2, up_col (by omega)]; exact f1 j z) (fun j z1 z2 => by rw [e2, up_ne (by omega)]; exact f2 j z1 z2) (fun c z1 z2 => by rw [e2, up_ne z1]; exact f3 c z1 z2)
        by_cases ej : j = i
        · subst ej; rw [e2, up_eq]
        · rw [e2, up_col (by omega)]; exact p1 j (by omega) z2
  refine g72 ⟨hM.1, m + 11, acN.1, 6, acN.2, by omega, by omega, fun h1 e1 => ?_⟩
  rw [n6, Int.toNat_natCast] at e1
  have w7 : h1 m 7 = ((q.1.length + q.2.length : Nat) : Int) := by rw [e1, up_ne (by omega)]; exact n7
  have w6 : h1 m 6 = ((q.1.length : Nat) : Int) := by rw [e1, up_ne (by omega)]; exact n6
  refine ⟨by unfold oe_rg; omega, by rw [w7, w6]; unfold oe_rg; omega, by omega, by omega, fun h2 e2 => ?_⟩
  rw [w7, w6, show ((s : Int) + 1).toNat = s + 1 by omega] at e2
  refine loop _ 0 h2 rfl (Nat.zero_le _) (by rw [e2, up_col (by omega), e1, up_eq]) (by rw [e2, up_eq]; omega) (fun j z => by omega) (fun j z => by omega) (fun j z => by rw [e2, up_ne (by omega), e1, up_ne (by omega)]) (fun j z1 z2 => by rw [e2, up_col z2, e1, up_col z1]) (fun c z1 z2 => by rw [e2, up_ne z2, e1, up_ne z2])
end
