/-! The reference: giving a value; unifying. -/
def md_fg (m : Nat) (h h' : Nat → Nat → Int) : Prop := (∀ c, c ≠ m → c ≠ m + 23 → c ≠ m + 26 → c ≠ m + 27 → c ≠ m + 28 → h' c = h c) ∧ ∀ j, j ≠ 40 → h' m j = h m j
def md_fu (m : Nat) (h h' : Nat → Nat → Int) : Prop := (∀ c, c < m ∨ (m < c ∧ c < m + 23) ∨ m + 28 < c → h' c = h c) ∧ ∀ j, j ≠ 36 → j ≠ 40 → h' m j = h m j
def MK (h : Nat → Nat → Int) (m : Nat) (l : List Nat) : List (oeT × oeT) → Prop
  | [] => True
  | ab :: st => (∃ p q : Nat, h (m + 24) st.length = (p : Int) ∧ h (m + 25) st.length = (q : Int) ∧ ot_at l p ab.1 ∧ ot_at l q ab.2) ∧ MK h m l st
theorem MK.kept {h h' : Nat → Nat → Int} {m : Nat} {l : List Nat} : ∀ {st : List (oeT × oeT)}, MK h m l st → (∀ i, i < st.length → h' (m + 24) i = h (m + 24) i ∧ h' (m + 25) i = h (m + 25) i) → MK h' m l st
  | [], _, _ => trivial
  | ab :: st, H, e => by
    obtain ⟨⟨p, q, h1, h2, h3, h4⟩, H2⟩ := H
    have e1 := e st.length (by simp)
    exact ⟨⟨p, q, by rw [e1.1]; exact h1, by rw [e1.2]; exact h2, h3, h4⟩, H2.kept (fun i hi => e i (by simp; omega))⟩
section
variable {D : Nat} {sh : List (Nat × Nat)} {g : Nat → Nat → Option Nat} {h : Nat → Nat → Int} {Q : oeQ}
theorem m_give (hDD : 6 ≤ D) {m : Nat} {l : List Nat} {σ : Nat → Option oeT} {r : Nat → Nat} (hM : MdS sh g m) (hl : l.length ≤ 64) (ok : ol_ok l) (R : MR h (m + 22) l) (hV : UnV h (m + 23) l σ) (H : ua σ r) (v p : Nat) (t : oeT) (hv : v < 12) (ht : ot_wf t) (hp : ot_at l p t)
    (k1 : ∀ σ' h', ou_give σ v t = some σ' → UnV h' (m + 23) l σ' → md_fg m h h' → Q (some (.inl 1)) (sh, g, h'))
    (k0 : ou_give σ v t = none → ∀ h', md_fg m h h' → Q (some (.inl 0)) (sh, g, h')) :
    oe_M D 61 [.inr (.inl m), .inl (v : Int), .inl (p : Int)] (sh, g, h) Q := by
  obtain ⟨d, rfl⟩ : ∃ d, D = d + 2 := ⟨D - 2, by omega⟩
  have ac23 := md_35 hM
  have ac26 := md_39 hM
  have hpl := ot_at_lt ht hp
  have en := ol_en_le (Nat.le_of_lt hpl)
  have enl := ol_en_lt hpl
  have hsub : ol_rg l p (ol_en l p) = ot_fl t := by rw [ol_rg_sub, ot_at_sub ht hp]
  refine g61 ⟨hM.1, fun h1 e1 => ?_⟩
  have F1 : md_fo m h h1 := ⟨fun c z1 _ _ _ => by rw [e1, up_ne z1], fun j z => by rw [e1, up_col z]⟩
  have R1 : MR h1 (m + 22) l := R.kept (F1.1 _ (by omega) (by omega) (by omega) (by omega))
  have V1 : UnV h1 (m + 23) l σ := hV.kept (F1.1 _ (by omega) (by omega) (by omega) (by omega))
  refine m_behindR (by omega) hM hl ok R1 p ht hp ⟨_, rfl, rfl, ?_⟩
  refine m_putIn (out := []) (lim := 300) (by omega) hM hl ok R1 V1 H p (ol_en l p) (Nat.le_refl _) (by omega) en (fun i hi => by cases hi) (by rw [e1, up_eq]; rfl) (Nat.zero_le _) (fun a1 h2 C2 n2 F2 => ⟨1, h2, rfl, rfl, ?_⟩) (fun a1 h2 n2 F2 => ⟨0, h2, rfl, rfl, ?_⟩)
  · rw [hsub, List.nil_append] at C2 n2
    rw [hsub] at a1
    have a1' : (ou_X σ (ot_fl t)).length ≤ 300 := by simpa using a1
    have F := md_fo_tr F1 F2
    have loop : ∀ (n i : Nat), (ou_X σ (ot_fl t)).length - i = n → i ≤ (ou_X σ (ot_fl t)).length → (∀ j, j < i → (ou_X σ (ot_fl t)).getD j 0 ≠ v) → oe_V (oe_cost 61) 61 (oe_M (d + 1)) none Q 22 [some (.inr (.inl m)), some (.inl (v : Int)), some (.inl (p : Int)), some (.inl 1), some (.inl (i : Int))] [] (sh, g, h2) 0 0 := by
      intro n
      induction n with
      | zero =>
        intro i hn hi hj
        refine g61_22 ⟨fun c => absurd c (by decide), fun _ => ⟨hM.1, fun _ => ⟨fun c => absurd c (by decide), fun _ => ⟨m + 23, ac23.1, 12, ac23.2, by omega, by omega, fun h3 e3 => ⟨Or.inr rfl, ?_⟩⟩⟩, fun c => by rw [n2] at c; omega⟩⟩
        have nm : v ∉ ou_X σ (ot_fl t) := by
          intro z
          obtain ⟨i', i1, i2⟩ := List.getElem_of_mem z
          refine hj i' (by omega) ?_
          rw [List.getD_eq_getElem?_getD, List.getElem?_eq_getElem i1]
          exact i2
        rw [Int.toNat_natCast] at e3
        refine k1 (ou_up σ v t) h3 (by unfold ou_give; exact if_pos ⟨a1', nm⟩) (fun x hx => ?_) ⟨fun c z1 z2 z3 z4 z5 => by rw [e3, up_ne z2, F.1 c z1 z3 z4 z5], fun j z => by rw [e3, up_ne (by omega), F.2 j z]⟩
        unfold ou_up
        by_cases e : x = v
        · right
          refine ⟨p, t, by rw [e3, e, up_eq], hpl, by rw [if_pos e], ht, hp⟩
        · rw [if_neg e, e3, up_col e, F.1 (m + 23) (by omega) (by omega) (by omega) (by omega)]
          exact hV x hx
      | succ n ih =>
        intro i hn hi hj
        have hc : h2 (m + 26) ((i : Int)).toNat = om ((ou_X σ (ot_fl t)).getD i 0) := by rw [Int.toNat_natCast]; exact C2 i (by omega)
        have c20 : (ou_X σ (ot_fl t)).getD i 0 < 20 := by
          refine ok _ (ou_X_all hV H (fun c hc => ot_at_mem hp hc) (w := ot_fl t) ?_)
          rw [List.getD_eq_getElem?_getD, List.getElem?_eq_getElem (by omega)]
          exact List.getElem_mem (by omega)
        have inj := om_inj c20 (show v < 20 by omega)
        rw [om_v hv] at inj
        refine g61_22 ⟨fun c => absurd c (by decide), fun _ => ⟨hM.1, fun c => by rw [n2] at c; omega, fun _ => ⟨m + 26, ac26.1, 320, ac26.2, by omega, by omega, fun c => ⟨by unfold oe_rg; omega, ?_⟩, fun c => ⟨by unfold oe_rg; omega, ?_⟩⟩⟩⟩
        · rw [hc] at c
          refine g61_22 ⟨fun _ => ⟨fun _ => ⟨Or.inl rfl, k0 ?_ h2 ⟨fun c z1 z2 z3 z4 z5 => F.1 c z1 z3 z4 z5, F.2⟩⟩, fun c => absurd rfl c⟩, fun c => absurd rfl c⟩
          unfold ou_give
          refine if_neg (fun z => z.2 ?_)
          rw [← inj.mp c, List.getD_eq_getElem?_getD, List.getElem?_eq_getElem (by omega)]
          exact List.getElem_mem (by omega)
        · rw [hc] at c
          rw [show (i : Int) + 1 = ((i + 1 : Nat) : Int) by omega]
          refine ih (i + 1) (by omega) (by omega) (fun j hj' => ?_)
          by_cases ej : j = i
          · subst ej; exact fun z => c (inj.mpr z)
          · exact hj j (by omega)
    exact loop _ 0 rfl (Nat.zero_le _) (fun j hj => by omega)
  · rw [hsub] at a1
    have F := md_fo_tr F1 F2
    refine g61_22 ⟨fun _ => ⟨fun _ => ⟨Or.inl rfl, k0 ?_ h2 ⟨fun c z1 z2 z3 z4 z5 => F.1 c z1 z3 z4 z5, F.2⟩⟩, fun c => absurd rfl c⟩, fun c => absurd rfl c⟩
    unfold ou_give
    exact if_neg (fun z => by have := z.1; simp at a1; omega)
theorem ou_args_wf {A B : oeT} (wA : ot_wf A) (wB : ot_wf B) (hAB : ot_hd A = ot_hd B) : ∀ x ∈ ou_args A B, ot_wf x.1 ∧ ot_wf x.2 := by
  intro x hx
  cases A with
  | leaf => exact wA.elim
  | inner ca _ _ a1 a2 =>
    cases B with
    | leaf => exact wB.elim
    | inner cb _ _ b1 b2 =>
      have e : ca = cb := hAB
      subst e
      unfold ou_args at hx
      split at hx
      · rename_i z
        rcases List.mem_cons.mp hx with z2 | z2
        · rw [z2]; exact ⟨ot_wf1 wA (Nat.le_trans (by decide) z), ot_wf1 wB (Nat.le_trans (by decide) z)⟩
        · rw [List.mem_singleton.mp z2]; exact ⟨ot_wf2 wA z, ot_wf2 wB z⟩
      · split at hx
        · rename_i z
          rw [List.mem_singleton.mp hx]; exact ⟨ot_wf1 wA z, ot_wf1 wB z⟩
        · cases hx
set_option maxHeartbeats 1000000 in
theorem m_isUnified (hDD : 8 ≤ D) {m : Nat} {l : List Nat} (hM : MdS sh g m) (hl : l.length ≤ 64) (ok : ol_ok l) (R : MR h (m + 22) l) (p0 q0 : Nat) (a0 b0 : oeT) (ha0 : ot_at l p0 a0) (hb0 : ot_at l q0 b0) (wa0 : ot_wf a0) (wb0 : ot_wf b0)
    (k1 : ∀ σ' r' h', ou 300 (fun _ => none) [(a0, b0)] = some σ' → ua σ' r' → UnV h' (m + 23) l σ' → md_fu m h h' → Q (some (.inl 1)) (sh, g, h'))
    (k0 : ou 300 (fun _ => none) [(a0, b0)] = none → ∀ h', md_fu m h h' → Q (some (.inl 0)) (sh, g, h')) :
    oe_M D 62 [.inr (.inl m), .inl (p0 : Int), .inl (q0 : Int)] (sh, g, h) Q := by
  obtain ⟨d, rfl⟩ : ∃ d, D = d + 2 := ⟨D - 2, by omega⟩
  have ac22 := md_34 hM
  have ac23 := md_35 hM
  have ac24 := md_37 hM
  have ac25 := md_38 hM
  have loop : ∀ (n i : Nat) (σ : Nat → Option oeT) (r : Nat → Nat) (st : List (oeT × oeT)) (h1 : Nat → Nat → Int), n + i = 300 → st.length ≤ i + 1 → ou n σ st = ou 300 (fun _ => none) [(a0, b0)] → ua σ r → UnV h1 (m + 23) l σ → (∀ x ∈ st, ot_wf x.1 ∧ ot_wf x.2) → MK h1 m l st → h1 m 36 = (i : Int) → md_fu m h h1 →
      oe_V (oe_cost 62) 62 (oe_M (d + 1)) none Q 42 [some (.inr (.inl m)), none, none, some (.inl ((st.length : Nat) : Int)), none, none, none] [] (sh, g, h1) 0 0 := by
    intro n
    induction n with
    | zero =>
      intro i σ r st h1 hi hl1 he H hV hw hK hn F
      cases st with
      | nil =>
        have he : some σ = ou 300 (fun _ => none) [(a0, b0)] := he
        exact g62_42 ⟨fun _ => k1 σ r h1 he.symm H hV F, fun c => by simp at c⟩
      | cons x st =>
        obtain ⟨s, t⟩ := x
        have he : none = ou 300 (fun _ => none) [(a0, b0)] := he
        have ws := (hw _ List.mem_cons_self).1
        have wt := (hw _ List.mem_cons_self).2
        obtain ⟨⟨p, q, e1, e2, e3, e4⟩, hK'⟩ := hK
        rw [List.length_cons] at hl1 ⊢
        have R1 : MR h1 (m + 22) l := R.kept (F.1 _ (by omega))
        have ls : ((st.length + 1 : Nat) : Int) + -1 = ((st.length : Nat) : Int) := by omega
        refine g62_42 ⟨fun c => by omega, fun _ => ⟨by unfold oe_rg; omega, hM.1, m + 24, ac24.1, 620, ac24.2, by omega, by omega, ?_⟩⟩
        rw [ls, Int.toNat_natCast, e1]
        refine m_seen (by omega) hM hl ok R1 hV H p s ws e3 (fun p' hp' => ⟨_, rfl, rfl, m + 25, ac25.1, 620, ac25.2, by omega, by omega, ?_⟩)
        rw [e2]
        refine m_seen (by omega) hM hl ok R1 hV H q t wt e4 (fun q' hq' => ⟨_, rfl, rfl, by rw [hn]; unfold oe_rg; omega, fun h2 eh2 => ?_⟩)
        rw [hn] at eh2
        have n2 : h2 m 36 = (i : Int) + 1 := by rw [eh2, up_eq]
        have F2 : md_fu m h h2 := ⟨fun c z => by rw [eh2, up_ne (by omega)]; exact F.1 c z, fun j z1 z2 => by rw [eh2, up_col z1]; exact F.2 j z1 z2⟩
        exact ⟨fun c => by omega, fun _ => k0 he.symm h2 F2⟩
    | succ n ih =>
      intro i σ r st h1 hi hl1 he H hV hw hK hn F
      cases st with
      | nil =>
        have he : some σ = ou 300 (fun _ => none) [(a0, b0)] := he
        exact g62_42 ⟨fun _ => k1 σ r h1 he.symm H hV F, fun c => by simp at c⟩
      | cons x st =>
        obtain ⟨s, t⟩ := x
        rw [List.length_cons] at hl1 ⊢
        have ws := (hw _ List.mem_cons_self).1
        have wt := (hw _ List.mem_cons_self).2
        have hw' : ∀ x ∈ st, ot_wf x.1 ∧ ot_wf x.2 := fun x hx => hw x (List.mem_cons_of_mem _ hx)
        obtain ⟨⟨p, q, e1, e2, e3, e4⟩, hK'⟩ := hK
        have R1 : MR h1 (m + 22) l := R.kept (F.1 _ (by omega))
        have ls : ((st.length + 1 : Nat) : Int) + -1 = ((st.length : Nat) : Int) := by omega
        refine g62_42 ⟨fun c => by omega, fun _ => ⟨by unfold oe_rg; omega, hM.1, m + 24, ac24.1, 620, ac24.2, by omega, by omega, ?_⟩⟩
        rw [ls, Int.toNat_natCast, e1]
        refine m_seen (by omega) hM hl ok R1 hV H p s ws e3 (fun p' hp' => ⟨_, rfl, rfl, m + 25, ac25.1, 620, ac25.2, by omega, by omega, ?_⟩)
        rw [e2]
        refine m_seen (by omega) hM hl ok R1 hV H q t wt e4 (fun q' hq' => ⟨_, rfl, rfl, by rw [hn]; unfold oe_rg; omega, fun h2 eh2 => ?_⟩)
        rw [hn] at eh2
        have n2 : h2 m 36 = ((i + 1 : Nat) : Int) := by rw [eh2, up_eq]; omega
        have g2 : ∀ c, c ≠ m → h2 c = h1 c := fun c hc => by rw [eh2, up_ne hc]
        have F2 : md_fu m h h2 := ⟨fun c z => by rw [eh2, up_ne (by omega)]; exact F.1 c z, fun j z1 z2 => by rw [eh2, up_col z1]; exact F.2 j z1 z2⟩
        have R2 : MR h2 (m + 22) l := R.kept (F2.1 _ (by omega))
        have hV2 : UnV h2 (m + 23) l σ := hV.kept (g2 _ (by omega))
        have hK2 : MK h2 m l st := hK'.kept (fun i _ => ⟨by rw [g2 _ (by omega)], by rw [g2 _ (by omega)]⟩)
        have wA := ou_look_wf H 12 s ws
        have wB := ou_look_wf H 12 t wt
        have uA := ou_look12 H ws
        have uB := ou_look12 H wt
        simp only [ou] at he
        generalize ou_look σ 12 s = A at *
        generalize ou_look σ 12 t = B at *
        have lA := ot_at_lt wA hp'
        have lB := ot_at_lt wB hq'
        have gA : l.getD p' 0 = ot_hd A := by
          cases A with
          | leaf => exact wA.elim
          | inner c _ _ _ _ => exact ot_at_c hp'
        have gB : l.getD q' 0 = ot_hd B := by
          cases B with
          | leaf => exact wB.elim
          | inner c _ _ _ _ => exact ot_at_c hq'
        have oA : ot_hd A < 20 := by rw [← gA]; exact ol_ok_at ok lA
        have oB : ot_hd B < 20 := by rw [← gB]; exact ol_ok_at ok lB
        have cA : h2 (m + 22) ((p' : Int)).toNat = om (ot_hd A) := by rw [Int.toNat_natCast, R2 p' lA, gA]
        have cB : h2 (m + 22) ((q' : Int)).toNat = om (ot_hd B) := by rw [Int.toNat_natCast, R2 q' lB, gB]
        have vA := om_var oA
        have vB := om_var oB
        have inj := om_inj oA oB
        have fin : ∀ h3 : Nat → Nat → Int, md_fg m h2 h3 → md_fu m h h3 ∧ h3 m 36 = ((i + 1 : Nat) : Int) ∧ MK h3 m l st := fun h3 F3 => ⟨⟨fun c z => by rw [F3.1 c (by omega) (by omega) (by omega) (by omega) (by omega)]; exact F2.1 c z, fun j z1 z2 => by rw [F3.2 j z2]; exact F2.2 j z1 z2⟩, by rw [F3.2 36 (by omega)]; exact n2, hK2.kept (fun i _ => ⟨by rw [F3.1 _ (by omega) (by omega) (by omega) (by omega) (by omega)], by rw [F3.1 _ (by omega) (by omega) (by omega) (by omega) (by omega)]⟩)⟩
        refine ⟨fun _ => ⟨m + 22, ac22.1, 64, ac22.2, by omega, by omega, ?_⟩, fun c => by omega⟩
        rw [cA, cB]
        refine ⟨fun c1 => ⟨by omega, by omega, by omega, by omega, fun c2 => ?_, fun c2 => ⟨by omega, by omega, ?_⟩⟩, fun c1 => ⟨by omega, by omega, fun c2 => ⟨by omega, by omega, ?_⟩, fun c2 => ⟨by omega, by omega, by omega, by omega, fun c3 => ⟨by omega, by omega, ?_⟩, fun c3 => ?_⟩⟩⟩
        · rw [if_pos (vA.mp c1), if_pos (inj.mp c2)] at he
          exact ih (i + 1) σ r st h2 (by omega) (by omega) he H hV2 hw' hK2 n2 F2
        · have a12 := vA.mp c1
          rw [if_pos a12, if_neg (fun z => c2 (inj.mpr z))] at he
          rw [om_v a12]
          refine m_give (by omega) hM hl ok R2 hV2 H (ot_hd A) q' B a12 wB hq' (fun σ' h3 hg hV3 F3 => ⟨1, h3, rfl, rfl, fun _ => ?_, fun c => absurd c (by decide)⟩) (fun hg h3 F3 => ⟨0, h3, rfl, rfl, fun c => absurd rfl c, fun _ => ?_⟩)
          · rw [hg] at he
            obtain ⟨y1, y2, y3⟩ := ou_give_some hg
            obtain ⟨r', H'⟩ := ua_up H a12 uA wB y3
            rw [← y1] at H'
            obtain ⟨f1, f2, f3⟩ := fin h3 F3
            exact ih (i + 1) σ' r' st h3 (by omega) (by omega) he H' hV3 hw' f3 f2 f1
          · rw [hg] at he
            exact k0 he.symm h3 (fin h3 F3).1
        · have a12 : ¬ ot_hd A < 12 := fun z => by have := vA.mpr z; omega
          have b12 := vB.mp c2
          rw [if_neg a12, if_pos b12] at he
          rw [om_v b12]
          refine m_give (by omega) hM hl ok R2 hV2 H (ot_hd B) p' A b12 wA hp' (fun σ' h3 hg hV3 F3 => ⟨1, h3, rfl, rfl, fun _ => ?_, fun c => absurd c (by decide)⟩) (fun hg h3 F3 => ⟨0, h3, rfl, rfl, fun c => absurd rfl c, fun _ => ?_⟩)
          · rw [hg] at he
            obtain ⟨y1, y2, y3⟩ := ou_give_some hg
            obtain ⟨r', H'⟩ := ua_up H b12 uB wA y3
            rw [← y1] at H'
            obtain ⟨f1, f2, f3⟩ := fin h3 F3
            exact ih (i + 1) σ' r' st h3 (by omega) (by omega) he H' hV3 hw' f3 f2 f1
          · rw [hg] at he
            exact k0 he.symm h3 (fin h3 F3).1
        · have a12 : ¬ ot_hd A < 12 := fun z => by have := vA.mpr z; omega
          have b12 : ¬ ot_hd B < 12 := fun z => by have := vB.mpr z; omega
          have hAB := inj.mp c3
          rw [if_neg a12, if_neg b12, if_pos hAB] at he
          have hwa := ou_args_wf wA wB hAB
          have hw2 : ∀ x ∈ ou_args A B ++ st, ot_wf x.1 ∧ ot_wf x.2 := fun x hx => by
            rcases List.mem_append.mp hx with z | z
            · exact hwa x z
            · exact hw' x z
          refine m_args (by omega) oA ⟨_, rfl, rfl, ?_⟩
          have pn : ((p' : Int) + 1) = ((p' + 1 : Nat) : Int) := by omega
          have qn : ((q' : Int) + 1) = ((q' + 1 : Nat) : Int) := by omega
          have sn : ((st.length : Nat) : Int) + 1 = ((st.length + 1 : Nat) : Int) := by omega
          have sn2 : ((st.length + 1 : Nat) : Int) + 1 = ((st.length + 2 : Nat) : Int) := by omega
          cases A with
          | leaf => exact wA.elim
          | inner ca x1 y1 a1 a2 =>
            cases B with
            | leaf => exact wB.elim
            | inner cb x2 y2 b1 b2 =>
              have e : ca = cb := hAB
              subst e
              have hdv : ot_hd (.inner ca x1 y1 a1 a2) = ca := rfl
              rw [hdv]
              by_cases h18 : 18 ≤ ca
              · have ea : ou_args (.inner ca x1 y1 a1 a2) (.inner ca x2 y2 b1 b2) = [(a1, b1), (a2, b2)] := by unfold ou_args; exact if_pos h18
                rw [ea] at he hw2
                rw [ar_2 h18]
                have w1 := ot_wf1 wA (show 16 ≤ ca by omega)
                have v1 := ot_wf1 wB (show 16 ≤ ca by omega)
                have A1 := ot_at_1 hp'
                have B1 := ot_at_1 hq'
                have A2 := ot_at_2 w1 hp'
                have B2 := ot_at_2 v1 hq'
                have p1 := ot_at_lt w1 A1
                have q1 := ot_at_lt v1 B1
                refine ⟨fun c => absurd rfl c, fun _ => ⟨by unfold oe_rg; omega, ?_⟩⟩
                rw [pn]
                refine m_behindR (by omega) hM hl ok R2 (p' + 1) w1 A1 ⟨_, rfl, rfl, by omega, by omega, fun h3 e3 => ⟨by unfold oe_rg; omega, ?_⟩⟩
                try rw [Int.toNat_natCast] at e3
                rw [qn]
                refine m_behindR (by omega) hM hl ok (R2.kept (by rw [e3, up_ne (by omega)])) (q' + 1) v1 B1 ⟨_, rfl, rfl, by omega, by omega, fun h4 e4 => ⟨by unfold oe_rg; omega, fun c => by omega, fun _ => ⟨by unfold oe_rg; omega, by omega, by omega, fun h5 e5 => ⟨by unfold oe_rg; omega, by omega, by omega, fun h6 e6 => ⟨by unfold oe_rg; omega, ?_⟩⟩⟩⟩⟩
                try rw [Int.toNat_natCast] at e4
                rw [sn, Int.toNat_natCast] at e5 e6
                rw [sn, sn2]
                have o24 : ∀ j, h6 (m + 24) j = if j = st.length + 1 then ((p' + 1 : Nat) : Int) else if j = st.length then ((ol_en l (p' + 1) : Nat) : Int) else h2 (m + 24) j := by
                  intro j
                  rw [e6, up_ne (by omega), e5]
                  by_cases z : j = st.length + 1
                  · rw [if_pos z, z, up_eq]
                  · rw [if_neg z, up_col z, e4, up_ne (by omega), e3]
                    by_cases z2 : j = st.length
                    · rw [if_pos z2, z2, up_eq]
                    · rw [if_neg z2, up_col z2]
                have o25 : ∀ j, h6 (m + 25) j = if j = st.length + 1 then ((q' + 1 : Nat) : Int) else if j = st.length then ((ol_en l (q' + 1) : Nat) : Int) else h2 (m + 25) j := by
                  intro j
                  rw [e6]
                  by_cases z : j = st.length + 1
                  · rw [if_pos z, z, up_eq]
                  · rw [if_neg z, up_col z, e5, up_ne (by omega), e4]
                    by_cases z2 : j = st.length
                    · rw [if_pos z2, z2, up_eq]
                    · rw [if_neg z2, up_col z2, e3, up_ne (by omega)]
                have g6 : ∀ c, c ≠ m + 24 → c ≠ m + 25 → h6 c = h2 c := fun c z1 z2 => by rw [e6, up_ne z2, e5, up_ne z1, e4, up_ne z2, e3, up_ne z1]
                refine ih (i + 1) σ r ((a1, b1) :: (a2, b2) :: st) h6 (by omega) (by simp; omega) he H (hV2.kept (g6 _ (by omega) (by omega))) hw2 ⟨⟨p' + 1, q' + 1, ?_, ?_, A1, B1⟩, ⟨_, _, ?_, ?_, A2, B2⟩, hK2.kept (fun j hj => ⟨?_, ?_⟩)⟩ (by rw [g6 _ (by omega) (by omega)]; exact n2) ⟨fun c z => by rw [g6 c (by omega) (by omega)]; exact F2.1 c z, fun j z1 z2 => by rw [g6 _ (by omega) (by omega)]; exact F2.2 j z1 z2⟩
                · rw [List.length_cons, o24, if_pos rfl]
                · rw [List.length_cons, o25, if_pos rfl]
                · rw [o24, if_neg (by omega), if_pos rfl]
                · rw [o25, if_neg (by omega), if_pos rfl]
                · rw [o24, if_neg (by omega), if_neg (by omega)]
                · rw [o25, if_neg (by omega), if_neg (by omega)]
              · by_cases h16 : 16 ≤ ca
                · have ea : ou_args (.inner ca x1 y1 a1 a2) (.inner ca x2 y2 b1 b2) = [(a1, b1)] := (if_neg h18).trans (if_pos h16)
                  rw [ea] at he hw2
                  rw [ar_1 h16 (by omega)]
                  refine ⟨fun _ => ⟨fun c => by omega, fun _ => ⟨by unfold oe_rg; omega, by omega, by omega, fun h3 e3 => ⟨by unfold oe_rg; omega, by omega, by omega, fun h4 e4 => ⟨by unfold oe_rg; omega, ?_⟩⟩⟩⟩, fun c => by omega⟩
                  try rw [Int.toNat_natCast] at e3 e4
                  rw [sn]
                  have g4 : ∀ c, c ≠ m + 24 → c ≠ m + 25 → h4 c = h2 c := fun c z1 z2 => by rw [e4, up_ne z2, e3, up_ne z1]
                  refine ih (i + 1) σ r ((a1, b1) :: st) h4 (by omega) (by simp; omega) he H (hV2.kept (g4 _ (by omega) (by omega))) hw2 ⟨⟨p' + 1, q' + 1, ?_, ?_, ot_at_1 hp', ot_at_1 hq'⟩, hK2.kept (fun j hj => ⟨?_, ?_⟩)⟩ (by rw [g4 _ (by omega) (by omega)]; exact n2) ⟨fun c z => by rw [g4 c (by omega) (by omega)]; exact F2.1 c z, fun j z1 z2 => by rw [g4 _ (by omega) (by omega)]; exact F2.2 j z1 z2⟩
                  · rw [e4, up_ne (by omega), e3, up_eq]; omega
                  · rw [e4, up_eq]; omega
                  · rw [e4, up_ne (by omega), e3, up_col (by omega)]
                  · rw [e4, up_col (by omega), e3, up_ne (by omega)]
                · have ea : ou_args (.inner ca x1 y1 a1 a2) (.inner ca x2 y2 b1 b2) = [] := (if_neg h18).trans (if_neg h16)
                  rw [ea] at he hw2
                  rw [ar_0 (by omega)]
                  exact ⟨fun _ => ⟨fun _ => ih (i + 1) σ r st h2 (by omega) (by omega) he H hV2 hw' hK2 n2 F2, fun c => by omega⟩, fun c => by omega⟩
        · have a12 : ¬ ot_hd A < 12 := fun z => by have := vA.mpr z; omega
          have b12 : ¬ ot_hd B < 12 := fun z => by have := vB.mpr z; omega
          rw [if_neg a12, if_neg b12, if_neg (fun z => c3 (inj.mpr z))] at he
          exact k0 he.symm h2 F2
  have clear : ∀ (n i : Nat) (h1 : Nat → Nat → Int), 12 - i = n → i ≤ 12 → (∀ j, j < i → h1 (m + 23) j = -1) → (∀ c, c ≠ m + 23 → h1 c = h c) → oe_V (oe_cost 62) 62 (oe_M (d + 1)) none Q 2 [some (.inr (.inl m)), some (.inl (p0 : Int)), some (.inl (q0 : Int)), some (.inl (i : Int)), none, none, none] [] (sh, g, h1) 0 0 := by
    intro n
    induction n with
    | zero =>
      intro i h1 hn hi C1 F1
      refine g62_2 ⟨fun _ => ⟨hM.1, m + 24, ac24.1, 620, ac24.2, by omega, by omega, fun h2 e2 => ⟨m + 25, ac25.1, 620, ac25.2, by omega, by omega, fun h3 e3 h4 e4 => ?_⟩⟩, fun c => by omega⟩
      have w1 : (1 : Int) = (([(a0, b0)] : List (oeT × oeT)).length : Nat) := rfl
      rw [w1]
      refine loop 300 0 (fun _ => none) (fun _ => 0) [(a0, b0)] h4 rfl (by simp) rfl (fun c u hc => by cases hc) (fun v hv => Or.inl ⟨?_, rfl⟩) (fun x hx => ?_) ⟨⟨p0, q0, ?_, ?_, ha0, hb0⟩, trivial⟩ (by rw [e4, up_eq]; rfl) ⟨fun c z => by rw [e4, up_ne (by omega), e3, up_ne (by omega), e2, up_ne (by omega), F1 c (by omega)], fun j z1 z2 => by rw [e4, up_col z1, e3, up_ne (by omega), e2, up_ne (by omega), F1 _ (by omega)]⟩
      · rw [e4, up_ne (by omega), e3, up_ne (by omega), e2, up_ne (by omega)]; exact C1 v (by omega)
      · rw [List.mem_singleton.mp hx]; exact ⟨wa0, wb0⟩
      · rw [e4, up_ne (by omega), e3, up_ne (by omega), e2]; exact up_eq
      · rw [e4, up_ne (by omega), e3]; exact up_eq
    | succ n ih =>
      intro i h1 hn hi C1 F1
      refine g62_2 ⟨fun c => by omega, fun _ => ⟨hM.1, m + 23, ac23.1, 12, ac23.2, by omega, by omega, fun h2 e2 => ⟨by unfold oe_rg; omega, ?_⟩⟩⟩
      rw [Int.toNat_natCast] at e2
      rw [show (i : Int) + 1 = ((i + 1 : Nat) : Int) by omega]
      refine ih (i + 1) h2 (by omega) (by omega) (fun j hj => ?_) (fun c hc => by rw [e2, up_ne hc]; exact F1 c hc)
      by_cases ej : j = i
      · subst ej; rw [e2, up_eq]
      · rw [e2, up_col ej]; exact C1 j (by omega)
  exact g62 (clear 12 0 h rfl (by omega) (fun j hj => by omega) (fun _ _ => rfl))
end
