/-! The reference: the row of an overlap; all overlaps of two equations. -/
theorem shift_len (s : Nat) (w : List Nat) : (ol_shift s w).length = w.length := by unfold ol_shift; rw [List.length_map]
theorem shift_app (s : Nat) (a b : List Nat) : ol_shift s (a ++ b) = ol_shift s a ++ ol_shift s b := by unfold ol_shift; rw [List.map_append]
theorem shift_getD {s : Nat} {w : List Nat} {i : Nat} (h : i < w.length) : (ol_shift s w).getD i 0 = if w.getD i 0 < 12 then w.getD i 0 + s else w.getD i 0 := by
  unfold ol_shift
  rw [List.getD_eq_getElem?_getD, List.getElem?_map, List.getElem?_eq_getElem h, List.getD_eq_getElem?_getD, List.getElem?_eq_getElem h]
  rfl
theorem om_shift {c : Nat} (h : c < 12 → c < 6) : om (if c < 12 then c + 6 else c) = if c < 12 then om c + 6 else om c := by
  by_cases z : c < 12
  · have := h z
    rw [if_pos z, if_pos z, om_v z, om_v (by omega)]; omega
  · rw [if_neg z, if_neg z]
section
variable {D : Nat} {sh : List (Nat × Nat)} {g : Nat → Nat → Option Nat} {h : Nat → Nat → Int} {Q : oeQ}
theorem m_overlap (hDD : 20 ≤ D) {m : Nat} (hM : MdS sh g m) {ws eqs : List (List Nat × List Nat)} {lost : Nat} (C : MdC h m ws eqs lost) (hlb : lost < 2000000000) {a b i j p : Nat} (ha : a < eqs.length) (hb : b < eqs.length) (hi : i < 2) (hj : j < 2) {li it : Int} (hli : li = 1 - (i : Int)) (hit : it = 1 - (j : Int)) (hp : p < (ol_sides (eqs.getD b ([], [])) j).1.length) (hv : ¬ (ol_sides (eqs.getD b ([], [])) j).1.getD p 0 < 12)
    (k : ∀ h', MdC h' m (ab_keep eqs (ws, lost) (ab_o (eqs.getD a ([], [])) i (eqs.getD b ([], [])) j p)).1 eqs (ab_keep eqs (ws, lost) (ab_o (eqs.getD a ([], [])) i (eqs.getD b ([], [])) j p)).2 → md_fk m h h' → Q none (sh, g, h')) :
    oe_M D 65 [.inr (.inl m), .inl (a : Int), .inl (b : Int), .inl li, .inl it, .inl (p : Int)] (sh, g, h) Q := by
  obtain ⟨d, rfl⟩ : ∃ d, D = d + 2 := ⟨D - 2, by omega⟩
  have ac7 := md_13 hM
  have ac8 := md_14 hM
  have ac9 := md_15 hM
  have ac22 := md_34 hM
  have e10 := C.2.2.2.2.1
  have MWe := C.2.2.2.2.2.1
  obtain ⟨a1, a2, a3, oka⟩ := MWe a ha
  obtain ⟨b1, b2, b3, okb⟩ := MWe b hb
  have abo : ab_o (eqs.getD a ([], [])) i (eqs.getD b ([], [])) j p = ol_ov (ol_sides (eqs.getD a ([], [])) i).1 (ol_sides (eqs.getD a ([], [])) i).2 (ol_shift 6 (ol_sides (eqs.getD b ([], [])) j).1) (ol_shift 6 (ol_sides (eqs.getD b ([], [])) j).2) p := by
    unfold ab_o; rw [if_neg hv]
  rw [abo] at k
  have sa := sides_ok oka i
  have sb := sides_ok okb j
  generalize eqs.getD a ([], []) = qa at *
  generalize eqs.getD b ([], []) = qb at *
  obtain ⟨_, qla, oka1, oka2, va1, va2⟩ := oka
  obtain ⟨_, qlb, okb1, okb2, vb1, vb2⟩ := okb
  have okA : ol_ok (qa.1 ++ qa.2) := fun c hc => by
    rcases List.mem_append.mp hc with z | z
    · exact oka1 c z
    · exact oka2 c z
  have okB : ol_ok (qb.1 ++ qb.2) := fun c hc => by
    rcases List.mem_append.mp hc with z | z
    · exact okb1 c z
    · exact okb2 c z
  have vB : ∀ c ∈ qb.1 ++ qb.2, c < 12 → c < 6 := fun c hc => by
    rcases List.mem_append.mp hc with z | z
    · exact vb1 c z
    · exact vb2 c z
  have okrow : ol_ok (qa.1 ++ qa.2 ++ ol_shift 6 (qb.1 ++ qb.2)) := fun c hc => by
    rcases List.mem_append.mp hc with z | z
    · exact okA c z
    · exact ol_shift_ok vB okB c z
  have rlen : (qa.1 ++ qa.2 ++ ol_shift 6 (qb.1 ++ qb.2)).length ≤ 64 := by
    rw [List.length_append, shift_len, List.length_append, List.length_append]; omega
  have rowe : qa.1 ++ qa.2 ++ ol_shift 6 (qb.1 ++ qb.2) = qa.1 ++ qa.2 ++ ol_shift 6 qb.1 ++ ol_shift 6 qb.2 := by rw [shift_app, List.append_assoc (qa.1 ++ qa.2)]
  have g1 : og_seg (qa.1 ++ qa.2 ++ ol_shift 6 (qb.1 ++ qb.2)) 0 qa.1 := ⟨[], qa.2 ++ ol_shift 6 (qb.1 ++ qb.2), by rw [List.nil_append, List.append_assoc], rfl⟩
  have g2 : og_seg (qa.1 ++ qa.2 ++ ol_shift 6 (qb.1 ++ qb.2)) qa.1.length qa.2 := ⟨qa.1, _, rfl, rfl⟩
  have g3 : og_seg (qa.1 ++ qa.2 ++ ol_shift 6 (qb.1 ++ qb.2)) (qa.1.length + qa.2.length) (ol_shift 6 qb.1) := ⟨qa.1 ++ qa.2, ol_shift 6 qb.2, rowe, List.length_append⟩
  have g4 : og_seg (qa.1 ++ qa.2 ++ ol_shift 6 (qb.1 ++ qb.2)) (qa.1.length + qa.2.length + qb.1.length) (ol_shift 6 qb.2) := ⟨qa.1 ++ qa.2 ++ ol_shift 6 qb.1, [], by rw [List.append_nil]; exact rowe, by rw [List.length_append, List.length_append, shift_len]⟩
  -- from the meeting of ways on
  have fin : ∀ (lp rp mp np : Nat) (h1 : Nat → Nat → Int), MR h1 (m + 22) (qa.1 ++ qa.2 ++ ol_shift 6 (qb.1 ++ qb.2)) → (∀ c, c ≠ m + 22 → h1 c = h c) → og_seg (qa.1 ++ qa.2 ++ ol_shift 6 (qb.1 ++ qb.2)) lp (ol_sides qa i).1 → og_seg (qa.1 ++ qa.2 ++ ol_shift 6 (qb.1 ++ qb.2)) rp (ol_sides qa i).2 → og_seg (qa.1 ++ qa.2 ++ ol_shift 6 (qb.1 ++ qb.2)) mp (ol_shift 6 (ol_sides qb j).1) → og_seg (qa.1 ++ qa.2 ++ ol_shift 6 (qb.1 ++ qb.2)) np (ol_shift 6 (ol_sides qb j).2) →
      oe_V (oe_cost 65) 65 (oe_M (d + 1)) none Q 267 [some (.inr (.inl m)), none, none, none, none, some (.inl (p : Int)), none, some (.inl (lp : Int)), some (.inl ((lp + (ol_sides qa i).1.length : Nat) : Int)), some (.inl (rp : Int)), some (.inl ((rp + (ol_sides qa i).2.length : Nat) : Int)), some (.inl (mp : Int)), some (.inl ((mp + (ol_sides qb j).1.length : Nat) : Int)), some (.inl (np : Int)), none, none, none, none] [.inl ((np + (ol_sides qb j).2.length : Nat) : Int)] (sh, g, h1) 0 0 := by
    intro lp rp mp np h1 R1 F1 s1 s2 s3 s4
    have X1 : md_fk m h h1 := ⟨fun c z => F1 c (by omega), fun _ _ => by rw [F1 _ (by omega)], fun _ _ => by rw [F1 _ (by omega)], fun _ _ => by rw [F1 _ (by omega)]⟩
    have C1 : MdC h1 m ws eqs lost := C.kept (fun c z1 z2 => F1 c (by omega)) (by rw [F1 _ (by omega)]) (by rw [F1 _ (by omega)]) (by rw [F1 _ (by omega)])
    have := m_ovA (d := d) (by omega) hM C1 hlb rlen okrow R1 s1 s2 s3 s4 sa.1 sa.2.1 (ol_tm_map (ol_shift_map _ sb.2.2.2.2.2.1) sb.1) (ol_tm_map (ol_shift_map _ sb.2.2.2.2.2.2) sb.2.1) (p := p) (by rw [shift_len]; exact hp) (Q := Q) (fun h' C' K' => k h' C' (md_fk_tr X1 K'))
    rw [shift_len, shift_len] at this
    exact this
  have loopB : ∀ (n x : Nat) (h1 : Nat → Nat → Int), qb.1.length + qb.2.length - x = n → x ≤ qb.1.length + qb.2.length → (∀ y, y < qa.1.length + qa.2.length → h1 (m + 22) y = om ((qa.1 ++ qa.2).getD y 0)) → (∀ y, y < x → h1 (m + 22) (qa.1.length + qa.2.length + y) = om ((ol_shift 6 (qb.1 ++ qb.2)).getD y 0)) → (∀ c, c ≠ m + 22 → h1 c = h c) →
      oe_V (oe_cost 65) 65 (oe_M (d + 1)) none Q 46 [some (.inr (.inl m)), some (.inl (a : Int)), some (.inl (b : Int)), some (.inl li), some (.inl it), some (.inl (p : Int)), some (.inl ((qa.1.length + qa.2.length : Nat) : Int)), some (.inl (x : Int)), none, none, none, none, none, none, none, none, none, none] [] (sh, g, h1) 0 0 := by
    intro n
    induction n with
    | zero =>
      intro x h1 hn hx A1 B1 F1
      have all : h1 (m + 9) b = ((qb.1.length + qb.2.length : Nat) : Int) := by rw [F1 _ (by omega)]; exact b2
      have allA : h1 (m + 9) a = ((qa.1.length + qa.2.length : Nat) : Int) := by rw [F1 _ (by omega)]; exact a2
      have lfa : h1 (m + 8) a = ((qa.1.length : Nat) : Int) := by rw [F1 _ (by omega)]; exact a1
      have lfb : h1 (m + 8) b = ((qb.1.length : Nat) : Int) := by rw [F1 _ (by omega)]; exact b1
      have R1 : MR h1 (m + 22) (qa.1 ++ qa.2 ++ ol_shift 6 (qb.1 ++ qb.2)) := by
        intro y hy
        rw [List.length_append, shift_len, List.length_append, List.length_append] at hy
        by_cases z : y < qa.1.length + qa.2.length
        · rw [ol_getD_app1 (by rw [List.length_append]; exact z)]; exact A1 y z
        · rw [ol_getD_app2 (by rw [List.length_append]; omega), List.length_append]
          have := B1 (y - (qa.1.length + qa.2.length)) (by omega)
          rw [show qa.1.length + qa.2.length + (y - (qa.1.length + qa.2.length)) = y by omega] at this
          exact this
      have jj : ∀ (lp rp : Nat), og_seg (qa.1 ++ qa.2 ++ ol_shift 6 (qb.1 ++ qb.2)) lp (ol_sides qa i).1 → og_seg (qa.1 ++ qa.2 ++ ol_shift 6 (qb.1 ++ qb.2)) rp (ol_sides qa i).2 →
          oe_V (oe_cost 65) 65 (oe_M (d + 1)) none Q 169 [some (.inr (.inl m)), none, some (.inl (b : Int)), none, some (.inl it), some (.inl (p : Int)), some (.inl ((qa.1.length + qa.2.length : Nat) : Int)), some (.inl (lp : Int)), some (.inl ((lp + (ol_sides qa i).1.length : Nat) : Int)), some (.inl (rp : Int)), none, none, none, none, none, none, none, none] [.inl ((rp + (ol_sides qa i).2.length : Nat) : Int)] (sh, g, h1) 0 0 := by
        intro lp rp s1 s2
        by_cases ej : j = 0
        · have i0 : it ≠ 0 := by omega
          have es : ol_sides qb j = (qb.1, qb.2) := by unfold ol_sides; rw [if_pos (by omega)]
          have K := fin lp rp (qa.1.length + qa.2.length) (qa.1.length + qa.2.length + qb.1.length) h1 R1 F1 s1 s2 (by rw [es]; exact g3) (by rw [es]; exact g4)
          rw [es] at K
          refine g65_169 ⟨fun c => absurd c i0, fun _ => ⟨fun c => absurd c i0, fun _ => ⟨hM.1, m + 8, ac8.1, 10, ac8.2, by omega, by omega, by rw [Int.toNat_natCast, lfb]; unfold oe_rg; omega, ?_⟩⟩⟩
          refine g65_218 ⟨fun c => absurd c i0, fun _ => ⟨hM.1, m + 8, ac8.1, 10, ac8.2, by omega, by omega, by rw [Int.toNat_natCast, lfb]; unfold oe_rg; omega, fun c => absurd c i0, fun _ => ⟨m + 9, ac9.1, 10, ac9.2, by omega, by omega, by rw [Int.toNat_natCast, all]; unfold oe_rg; omega, ?_⟩⟩⟩
          rw [Int.toNat_natCast, lfb, all, ← Int.natCast_add, ← Int.natCast_add, ← Nat.add_assoc]
          exact K
        · have i0 : it = 0 := by omega
          have es : ol_sides qb j = (qb.2, qb.1) := by unfold ol_sides; rw [if_neg (by omega)]
          have K := fin lp rp (qa.1.length + qa.2.length + qb.1.length) (qa.1.length + qa.2.length) h1 R1 F1 s1 s2 (by rw [es]; exact g4) (by rw [es]; exact g3)
          rw [es] at K
          refine g65_169 ⟨fun _ => ⟨hM.1, m + 8, ac8.1, 10, ac8.2, by omega, by omega, by rw [Int.toNat_natCast, lfb]; unfold oe_rg; omega, fun _ => ⟨m + 9, ac9.1, 10, ac9.2, by omega, by omega, by rw [Int.toNat_natCast, all]; unfold oe_rg; omega, ?_⟩, fun c => absurd i0 c⟩, fun c => absurd i0 c⟩
          refine g65_218 ⟨fun _ => ⟨fun _ => ⟨hM.1, m + 8, ac8.1, 10, ac8.2, by omega, by omega, by rw [Int.toNat_natCast, lfb]; unfold oe_rg; omega, ?_⟩, fun c => absurd i0 c⟩, fun c => absurd i0 c⟩
          rw [Int.toNat_natCast, lfb, all, ← Int.natCast_add, ← Int.natCast_add, ← Nat.add_assoc]
          exact K
      refine g65_46 ⟨hM.1, m + 9, ac9.1, 10, ac9.2, by omega, by omega, fun _ => ?_, fun c => by rw [Int.toNat_natCast, all] at c; omega⟩
      by_cases ei : i = 0
      · have i0 : li ≠ 0 := by omega
        have es : ol_sides qa i = (qa.1, qa.2) := by unfold ol_sides; rw [if_pos (by omega)]
        have K := jj 0 qa.1.length (by rw [es]; exact g1) (by rw [es]; exact g2)
        rw [es, Nat.zero_add] at K
        refine ⟨fun c => absurd c i0, fun _ => ?_⟩
        refine g65_119 ⟨fun c => absurd c i0, fun _ => ⟨hM.1, m + 8, ac8.1, 10, ac8.2, by omega, by omega, fun c => absurd c i0, fun _ => ⟨by omega, by omega, fun c => absurd c i0, fun _ => ?_⟩⟩⟩
        rw [Int.toNat_natCast, lfa]
        exact K
      · have i0 : li = 0 := by omega
        have es : ol_sides qa i = (qa.2, qa.1) := by unfold ol_sides; rw [if_neg (by omega)]
        have K := jj qa.1.length 0 (by rw [es]; exact g2) (by rw [es]; exact g1)
        rw [es, Nat.zero_add] at K
        refine ⟨fun _ => ⟨m + 8, ac8.1, 10, ac8.2, by omega, by omega, ?_⟩, fun c => absurd i0 c⟩
        refine g65_119 ⟨fun _ => ⟨fun _ => ⟨fun _ => ⟨hM.1, m + 8, ac8.1, 10, ac8.2, by omega, by omega, ?_⟩, fun c => absurd i0 c⟩, fun c => absurd i0 c⟩, fun c => absurd i0 c⟩
        rw [Int.toNat_natCast, lfa]
        exact K
    | succ n ih =>
      intro x h1 hn hx A1 B1 F1
      have all : h1 (m + 9) b = ((qb.1.length + qb.2.length : Nat) : Int) := by rw [F1 _ (by omega)]; exact b2
      have lt : x < (qb.1 ++ qb.2).length := by rw [List.length_append]; omega
      have c7 : h1 (m + 7) (20 * b + x) = om ((qb.1 ++ qb.2).getD x 0) := by rw [F1 _ (by omega)]; exact b3 x lt
      have o20 := ol_ok_at okB lt
      have ov := om_var o20
      have osh := om_shift (c := (qb.1 ++ qb.2).getD x 0) (vB _ (by rw [List.getD_eq_getElem?_getD, List.getElem?_eq_getElem lt]; exact List.getElem_mem lt))
      rw [← shift_getD lt] at osh
      have org := om_rg o20
      have pn : (((qa.1.length + qa.2.length : Nat) : Int) + (x : Int)).toNat = qa.1.length + qa.2.length + x := by omega
      have nxt : ∀ h2 : Nat → Nat → Int, h2 = oe_up h1 (m + 22) (qa.1.length + qa.2.length + x) (om ((ol_shift 6 (qb.1 ++ qb.2)).getD x 0)) → oe_V (oe_cost 65) 65 (oe_M (d + 1)) none Q 46 [some (.inr (.inl m)), some (.inl (a : Int)), some (.inl (b : Int)), some (.inl li), some (.inl it), some (.inl (p : Int)), some (.inl ((qa.1.length + qa.2.length : Nat) : Int)), some (.inl ((x : Int) + 1)), none, none, none, none, none, none, none, none, none, none] [] (sh, g, h2) 0 0 := by
        intro h2 e2
        rw [show (x : Int) + 1 = ((x + 1 : Nat) : Int) by omega]
        refine ih (x + 1) h2 (by omega) (by omega) (fun y hy => by rw [e2, up_col (by omega)]; exact A1 y hy) (fun y hy => ?_) (fun c hc => by rw [e2, up_ne hc]; exact F1 c hc)
        by_cases ey : y = x
        · subst ey; rw [e2, up_eq]
        · rw [e2, up_col (by omega)]; exact B1 y (by omega)
      refine g65_46 ⟨hM.1, m + 9, ac9.1, 10, ac9.2, by omega, by omega, fun c => by rw [Int.toNat_natCast, all] at c; omega, fun _ => ⟨m + 7, ac7.1, by unfold oe_rg; omega, by unfold oe_rg; omega, 200, ac7.2, by omega, by omega, m + 22, ac22.1, by unfold oe_rg; omega, ?_⟩⟩
      rw [show (20 * (b : Int) + (x : Int)).toNat = 20 * b + x by omega, c7, pn]
      refine ⟨fun c => ⟨by unfold oe_rg; omega, 64, ac22.2, by omega, by omega, fun h2 e2 => ⟨by unfold oe_rg; omega, nxt h2 ?_⟩⟩, fun c => ⟨64, ac22.2, by omega, by omega, fun h2 e2 => ⟨by unfold oe_rg; omega, nxt h2 ?_⟩⟩⟩
      · rw [e2, osh, if_pos (ov.mp c)]
      · rw [e2, osh, if_neg (fun z => by have := ov.mpr z; omega)]
  have loopA : ∀ (n x : Nat) (h1 : Nat → Nat → Int), qa.1.length + qa.2.length - x = n → x ≤ qa.1.length + qa.2.length → (∀ y, y < x → h1 (m + 22) y = om ((qa.1 ++ qa.2).getD y 0)) → (∀ c, c ≠ m + 22 → h1 c = h c) →
      oe_V (oe_cost 65) 65 (oe_M (d + 1)) none Q 11 [some (.inr (.inl m)), some (.inl (a : Int)), some (.inl (b : Int)), some (.inl li), some (.inl it), some (.inl (p : Int)), some (.inl ((qa.1.length + qa.2.length : Nat) : Int)), some (.inl (x : Int)), none, none, none, none, none, none, none, none, none, none] [] (sh, g, h1) 0 0 := by
    intro n
    induction n with
    | zero =>
      intro x h1 hn hx A1 F1
      exact g65_11 ⟨fun _ => loopB _ 0 h1 rfl (Nat.zero_le _) (fun y hy => A1 y (by omega)) (fun y hy => by omega) F1, fun c => by omega⟩
    | succ n ih =>
      intro x h1 hn hx A1 F1
      have lt : x < (qa.1 ++ qa.2).length := by rw [List.length_append]; omega
      have c7 : h1 (m + 7) (20 * a + x) = om ((qa.1 ++ qa.2).getD x 0) := by rw [F1 _ (by omega)]; exact a3 x lt
      refine g65_11 ⟨fun c => by omega, fun _ => ⟨hM.1, m + 22, ac22.1, m + 7, ac7.1, by unfold oe_rg; omega, by unfold oe_rg; omega, 200, ac7.2, by omega, by omega, 64, ac22.2, by omega, by omega, fun h2 e2 => ⟨by unfold oe_rg; omega, ?_⟩⟩⟩
      rw [show (20 * (a : Int) + (x : Int)).toNat = 20 * a + x by omega, c7, Int.toNat_natCast] at e2
      rw [show (x : Int) + 1 = ((x + 1 : Nat) : Int) by omega]
      refine ih (x + 1) h2 (by omega) (by omega) (fun y hy => ?_) (fun c hc => by rw [e2, up_ne hc]; exact F1 c hc)
      by_cases ey : y = x
      · subst ey; rw [e2, up_eq]
      · rw [e2, up_col ey]; exact A1 y (by omega)
  refine g65 ⟨hM.1, m + 9, ac9.1, 10, ac9.2, by omega, by omega, ?_⟩
  rw [Int.toNat_natCast, a2]
  exact loopA _ 0 h rfl (Nat.zero_le _) (fun y hy => by omega) (fun _ _ => rfl)
end
/-- four turns of an equation into another -/
noncomputable def ab_four (eqs : List (List Nat × List Nat)) (a b : Nat) : Nat → Nat → List (List Nat × List Nat) × Nat → List (List Nat × List Nat) × Nat
  | 0, _, s => s
  | n + 1, u, s => ab_four eqs a b n (u + 1) (ab_side eqs (eqs.getD a ([], [])) (u / 2) (eqs.getD b ([], [])) (u % 2)
      ((ol_sides (eqs.getD b ([], [])) (u % 2)).1.length - (if a = b ∧ u / 2 = u % 2 then 1 else 0)) (if a = b ∧ u / 2 = u % 2 then 1 else 0) s)
theorem ab_four_4 (eqs : List (List Nat × List Nat)) (f d : Nat) (s : List (List Nat × List Nat) × Nat) : ab_turns eqs f d 4 0 s = ab_four eqs f d 4 0 s := by
  simp [ab_turns, ab_four]
theorem ab_four_8 (eqs : List (List Nat × List Nat)) {f d : Nat} (hne : d ≠ f) (s : List (List Nat × List Nat) × Nat) : ab_turns eqs f d 8 0 s = ab_four eqs d f 4 0 (ab_four eqs f d 4 0 s) := by
  have : f ≠ d := fun z => hne z.symm
  simp [ab_turns, ab_four, hne, this]
section
variable {D : Nat} {sh : List (Nat × Nat)} {g : Nat → Nat → Option Nat} {h : Nat → Nat → Int} {Q : oeQ}
theorem m_overlaps (hDD : 24 ≤ D) {m : Nat} (hM : MdS sh g m) {ws eqs : List (List Nat × List Nat)} {lost : Nat} (C : MdC h m ws eqs lost) (hlb : lost < 1900000000) {a b : Nat} (ha : a < eqs.length) (hb : b < eqs.length)
    (k : ∀ h', MdC h' m (ab_four eqs a b 4 0 (ws, lost)).1 eqs (ab_four eqs a b 4 0 (ws, lost)).2 → (ab_four eqs a b 4 0 (ws, lost)).2 ≤ lost + 80 → md_fk m h h' → Q none (sh, g, h')) :
    oe_M D 67 [.inr (.inl m), .inl (a : Int), .inl (b : Int)] (sh, g, h) Q := by
  obtain ⟨d, rfl⟩ : ∃ d, D = d + 2 := ⟨D - 2, by omega⟩
  have ac7 := md_13 hM
  have ac8 := md_14 hM
  have ac9 := md_15 hM
  have e10 := C.2.2.2.2.1
  have okb := (C.2.2.2.2.2.1 b hb).2.2.2
  have side : ∀ (u i j : Nat) (li it : Int) (off R : Nat), u ≤ 4 → i < 2 → j < 2 → li = 1 - (i : Int) → it = 1 - (j : Int) → off + (ol_sides (eqs.getD b ([], [])) j).1.length ≤ 20 → (∀ (h1 : Nat → Nat → Int) (w : List (List Nat × List Nat)) (lo : Nat), MdC h1 m w eqs lo → MA h1 (m + 7) (20 * b + off) (ol_sides (eqs.getD b ([], [])) j).1) →
      ∀ (n p : Nat) (s : List (List Nat × List Nat) × Nat) (h1 : Nat → Nat → Int), (ol_sides (eqs.getD b ([], [])) j).1.length - p = n → p ≤ (ol_sides (eqs.getD b ([], [])) j).1.length → (a = b ∧ i = j → 1 ≤ p) → MdC h1 m s.1 eqs s.2 → s.2 + n + R ≤ lost + 80 → md_fk m h h1 →
      (∀ h2 : Nat → Nat → Int, MdC h2 m (ab_side eqs (eqs.getD a ([], [])) i (eqs.getD b ([], [])) j n p s).1 eqs (ab_side eqs (eqs.getD a ([], [])) i (eqs.getD b ([], [])) j n p s).2 → (ab_side eqs (eqs.getD a ([], [])) i (eqs.getD b ([], [])) j n p s).2 + R ≤ lost + 80 → md_fk m h h2 →
        oe_V (oe_cost 67) 67 (oe_M (d + 1)) none Q 2 [some (.inr (.inl m)), some (.inl (a : Int)), some (.inl (b : Int)), some (.inl ((u : Int) + 1)), none, none, none, none, none, none] [] (sh, g, h2) 0 0) →
      oe_V (oe_cost 67) 67 (oe_M (d + 1)) none Q 84 [some (.inr (.inl m)), some (.inl (a : Int)), some (.inl (b : Int)), some (.inl (u : Int)), some (.inl li), some (.inl it), some (.inl ((20 * b + off : Nat) : Int)), some (.inl ((20 * b + off + (ol_sides (eqs.getD b ([], [])) j).1.length : Nat) : Int)), some (.inl (p : Int)), none] [] (sh, g, h1) 0 0 := by
    intro u i j li it off R hu hi hj hli hit hoff hA n
    have sok := (sides_ok okb j).2.2.2.1
    induction n with
    | zero =>
      intro p s h1 hn hp hst C1 B1 K1 K
      exact g67_84 ⟨by unfold oe_rg; omega, fun _ => ⟨by unfold oe_rg; omega, K h1 C1 (by show s.2 + R ≤ _; omega) K1⟩, fun c => by omega⟩
    | succ n ih =>
      intro p s h1 hn hp hst C1 B1 K1 K
      have plt : p < (ol_sides (eqs.getD b ([], [])) j).1.length := by omega
      have cc : h1 (m + 7) (20 * b + off + p) = om ((ol_sides (eqs.getD b ([], [])) j).1.getD p 0) := hA h1 _ _ C1 p plt
      have o20 := ol_ok_at sok plt
      have ov := om_var o20
      have pn : (((20 * b + off : Nat) : Int) + (p : Int)).toNat = 20 * b + off + p := by omega
      have kle := ab_keep_le eqs s (ab_o (eqs.getD a ([], [])) i (eqs.getD b ([], [])) j p)
      have p1 : (p : Int) + 1 = ((p + 1 : Nat) : Int) := by omega
      -- a variable: nothing; else an overlap
      have skip : (ol_sides (eqs.getD b ([], [])) j).1.getD p 0 < 12 → oe_V (oe_cost 67) 67 (oe_M (d + 1)) none Q 84 [some (.inr (.inl m)), some (.inl (a : Int)), some (.inl (b : Int)), some (.inl (u : Int)), some (.inl li), some (.inl it), some (.inl ((20 * b + off : Nat) : Int)), some (.inl ((20 * b + off + (ol_sides (eqs.getD b ([], [])) j).1.length : Nat) : Int)), some (.inl ((p : Int) + 1)), none] [] (sh, g, h1) 0 0 := by
        intro z
        rw [p1]
        refine ih (p + 1) s h1 (by omega) (by omega) (fun _ => by omega) C1 (by omega) K1 ?_
        have e : ab_side eqs (eqs.getD a ([], [])) i (eqs.getD b ([], [])) j (n + 1) p s = ab_side eqs (eqs.getD a ([], [])) i (eqs.getD b ([], [])) j n (p + 1) (ab_keep eqs s (ab_o (eqs.getD a ([], [])) i (eqs.getD b ([], [])) j p)) := rfl
        have e0 : ab_o (eqs.getD a ([], [])) i (eqs.getD b ([], [])) j p = (0, ([], [])) := by unfold ab_o; rw [if_pos z]
        rw [e, e0, ab_keep_0] at K
        exact K
      have over : ¬ (ol_sides (eqs.getD b ([], [])) j).1.getD p 0 < 12 → oe_M (d + 1) 65 [.inr (.inl m), .inl (a : Int), .inl (b : Int), .inl li, .inl it, .inl (p : Int)] (sh, g, h1) (fun r hp => ∃ (h62 : Nat → Nat → Int), r = none ∧ hp = (sh, g, h62) ∧ oe_rg ((p : Int) + 1) ∧ oe_V (oe_cost 67) 67 (oe_M (d + 1)) none Q 84 [some (.inr (.inl m)), some (.inl (a : Int)), some (.inl (b : Int)), some (.inl (u : Int)), some (.inl li), some (.inl it), some (.inl ((20 * b + off : Nat) : Int)), some (.inl ((20 * b + off + (ol_sides (eqs.getD b ([], [])) j).1.length : Nat) : Int)), some (.inl ((p : Int) + 1)), none] [] (sh, g, h62) 0 0) := by
        intro z
        refine m_overlap (by omega) hM C1 (by omega) ha hb hi hj hli hit plt z (fun h2 C2 K2 => ⟨h2, rfl, rfl, by unfold oe_rg; omega, ?_⟩)
        rw [p1]
        exact ih (p + 1) (ab_keep eqs s (ab_o (eqs.getD a ([], [])) i (eqs.getD b ([], [])) j p)) h2 (by omega) (by omega) (fun _ => by omega) C2 (by omega) (md_fk_tr K1 K2) K
      have both : ((h1 (m + 7) (((20 * b + off : Nat) : Int) + (p : Int)).toNat < 20 → (ol_sides (eqs.getD b ([], [])) j).1.getD p 0 < 12)) ∧ (20 ≤ h1 (m + 7) (((20 * b + off : Nat) : Int) + (p : Int)).toNat → ¬ (ol_sides (eqs.getD b ([], [])) j).1.getD p 0 < 12) := by
        rw [pn, cc]
        exact ⟨fun z => ov.mp z, fun z y => by have := ov.mpr y; omega⟩
      refine g67_84 ⟨by unfold oe_rg; omega, fun c => by omega, fun _ => ⟨fun c => ⟨hM.1, m + 7, ac7.1, by unfold oe_rg; omega, 200, ac7.2, by omega, by omega, fun z => ⟨by unfold oe_rg; omega, skip (both.1 z)⟩, fun z => over (both.2 z)⟩, fun c => ⟨fun c2 => ⟨hM.1, m + 7, ac7.1, by unfold oe_rg; omega, 200, ac7.2, by omega, by omega, fun z => ⟨by unfold oe_rg; omega, skip (both.1 z)⟩, fun z => over (both.2 z)⟩, fun c2 => ⟨fun c3 => ⟨hM.1, m + 7, ac7.1, by unfold oe_rg; omega, 200, ac7.2, by omega, by omega, fun z => ⟨by unfold oe_rg; omega, skip (both.1 z)⟩, fun z => over (both.2 z)⟩, fun c3 => ?_⟩⟩⟩⟩
      have := hst ⟨by omega, by omega⟩
      omega
  have turns : ∀ (n u : Nat) (s : List (List Nat × List Nat) × Nat) (h1 : Nat → Nat → Int), 4 - u = n → u ≤ 4 → MdC h1 m s.1 eqs s.2 → s.2 + 20 * n ≤ lost + 80 → md_fk m h h1 → ab_four eqs a b n u s = ab_four eqs a b 4 0 (ws, lost) →
      oe_V (oe_cost 67) 67 (oe_M (d + 1)) none Q 2 [some (.inr (.inl m)), some (.inl (a : Int)), some (.inl (b : Int)), some (.inl (u : Int)), none, none, none, none, none, none] [] (sh, g, h1) 0 0 := by
    intro n
    induction n with
    | zero =>
      intro u s h1 hn hu C1 B1 K1 he
      have he : s = ab_four eqs a b 4 0 (ws, lost) := he
      rw [← he] at k
      exact g67_2 ⟨fun _ => k h1 C1 (by omega) K1, fun c => by omega⟩
    | succ n ih =>
      intro u s h1 hn hu C1 B1 K1 he
      have at30 : ∀ (li it : Int), li = 1 - ((u / 2 : Nat) : Int) → it = 1 - ((u % 2 : Nat) : Int) → oe_V (oe_cost 67) 67 (oe_M (d + 1)) none Q 30 [some (.inr (.inl m)), some (.inl (a : Int)), some (.inl (b : Int)), some (.inl (u : Int)), some (.inl li), none, none, none, none, none] [.inl it] (sh, g, h1) 0 0 := by
        intro li it hli hit
        obtain ⟨b1, b2, b3, okb'⟩ := C1.2.2.2.2.2.1 b hb
        have qlb := okb'.2.1
        -- from the first place on
        have go : ∀ (off : Nat), off + (ol_sides (eqs.getD b ([], [])) (u % 2)).1.length ≤ 20 → (∀ (h1 : Nat → Nat → Int) (w : List (List Nat × List Nat)) (lo : Nat), MdC h1 m w eqs lo → MA h1 (m + 7) (20 * b + off) (ol_sides (eqs.getD b ([], [])) (u % 2)).1) →
            oe_V (oe_cost 67) 67 (oe_M (d + 1)) none Q 84 [some (.inr (.inl m)), some (.inl (a : Int)), some (.inl (b : Int)), some (.inl (u : Int)), some (.inl li), some (.inl it), some (.inl ((20 * b + off : Nat) : Int)), some (.inl ((20 * b + off + (ol_sides (eqs.getD b ([], [])) (u % 2)).1.length : Nat) : Int)), some (.inl 0), none] [] (sh, g, h1) 0 0 := by
          intro off hoff hA
          have slen : 1 ≤ (ol_sides (eqs.getD b ([], [])) (u % 2)).1.length := ol_tm_pos (sides_ok okb (u % 2)).1
          have start : ∀ st : Nat, st = (if a = b ∧ u / 2 = u % 2 then 1 else 0) → oe_V (oe_cost 67) 67 (oe_M (d + 1)) none Q 84 [some (.inr (.inl m)), some (.inl (a : Int)), some (.inl (b : Int)), some (.inl (u : Int)), some (.inl li), some (.inl it), some (.inl ((20 * b + off : Nat) : Int)), some (.inl ((20 * b + off + (ol_sides (eqs.getD b ([], [])) (u % 2)).1.length : Nat) : Int)), some (.inl (st : Int)), none] [] (sh, g, h1) 0 0 := by
            intro st est
            have st1 : st ≤ 1 := by rw [est]; split <;> omega
            refine side u (u / 2) (u % 2) li it off (20 * n) hu (by omega) (by omega) hli hit hoff hA ((ol_sides (eqs.getD b ([], [])) (u % 2)).1.length - st) st s h1 rfl (by omega) (fun z => by rw [est, if_pos z]; omega) C1 (by omega) K1 (fun h2 C2 B2 K2 => ?_)
            rw [show (u : Int) + 1 = ((u + 1 : Nat) : Int) by omega]
            refine ih (u + 1) _ h2 (by omega) (by omega) C2 B2 K2 ?_
            rw [est]
            exact he
          by_cases z : a = b ∧ u / 2 = u % 2
          · -- the first place is passed over
            have one := start 1 (by rw [if_pos z])
            have one' : oe_V (oe_cost 67) 67 (oe_M (d + 1)) none Q 84 [some (.inr (.inl m)), some (.inl (a : Int)), some (.inl (b : Int)), some (.inl (u : Int)), some (.inl li), some (.inl it), some (.inl ((20 * b + off : Nat) : Int)), some (.inl ((20 * b + off + (ol_sides (eqs.getD b ([], [])) (u % 2)).1.length : Nat) : Int)), some (.inl (0 + 1)), none] [] (sh, g, h1) 0 0 := one
            exact g67_84 ⟨by unfold oe_rg; omega, fun c => by omega, fun _ => ⟨fun c => absurd (by rw [z.1]) c, fun _ => ⟨fun c => absurd (by rw [hli, hit, z.2]) c, fun _ => ⟨fun c => absurd rfl c, fun _ => ⟨hM.1, m + 7, ac7.1, by unfold oe_rg; omega, 200, ac7.2, by omega, by omega, fun _ => ⟨by unfold oe_rg; omega, one'⟩, fun _ => ⟨by unfold oe_rg; omega, one'⟩⟩⟩⟩⟩⟩
          · exact start 0 (by rw [if_neg z])
        by_cases ej : u % 2 = 0
        · have i0 : it ≠ 0 := by omega
          have es : ol_sides (eqs.getD b ([], [])) (u % 2) = ((eqs.getD b ([], [])).1, (eqs.getD b ([], [])).2) := by unfold ol_sides; rw [if_pos (by omega)]
          have K := go 0 (by rw [es]; show 0 + (eqs.getD b ([], [])).1.length ≤ 20; omega) (fun h2 w lo C2 => by rw [es]; exact MA_1 (C2.2.2.2.2.2.1 b hb).2.2.1)
          rw [es] at K
          refine g67_30 ⟨by unfold oe_rg; omega, fun c => absurd c i0, fun _ => ⟨by unfold oe_rg; omega, by unfold oe_rg; omega, fun c => absurd c i0, fun _ => ⟨hM.1, m + 8, ac8.1, 10, ac8.2, by omega, by omega, by rw [Int.toNat_natCast, b1]; unfold oe_rg; omega, ?_⟩⟩⟩
          rw [Int.toNat_natCast, b1, show 20 * (b : Int) + 0 = ((20 * b + 0 : Nat) : Int) by omega, show 20 * (b : Int) + (((eqs.getD b ([], [])).1.length : Nat) : Int) = ((20 * b + 0 + (eqs.getD b ([], [])).1.length : Nat) : Int) by omega]
          exact K
        · have i0 : it = 0 := by omega
          have es : ol_sides (eqs.getD b ([], [])) (u % 2) = ((eqs.getD b ([], [])).2, (eqs.getD b ([], [])).1) := by unfold ol_sides; rw [if_neg (by omega)]
          have K := go (eqs.getD b ([], [])).1.length (by rw [es]; show (eqs.getD b ([], [])).1.length + (eqs.getD b ([], [])).2.length ≤ 20; omega) (fun h2 w lo C2 => by rw [es]; exact MA_2 (C2.2.2.2.2.2.1 b hb).2.2.1)
          rw [es] at K
          refine g67_30 ⟨by unfold oe_rg; omega, fun _ => ⟨hM.1, m + 8, ac8.1, 10, ac8.2, by omega, by omega, by rw [Int.toNat_natCast, b1]; unfold oe_rg; omega, by unfold oe_rg; omega, fun _ => ⟨m + 9, ac9.1, 10, ac9.2, by omega, by omega, by rw [Int.toNat_natCast, b2]; unfold oe_rg; omega, ?_⟩, fun c => absurd i0 c⟩, fun c => absurd i0 c⟩
          rw [Int.toNat_natCast, b1, b2, show 20 * (b : Int) + (((eqs.getD b ([], [])).1.length : Nat) : Int) = ((20 * b + (eqs.getD b ([], [])).1.length : Nat) : Int) by omega, show 20 * (b : Int) + (((eqs.getD b ([], [])).1.length + (eqs.getD b ([], [])).2.length : Nat) : Int) = ((20 * b + (eqs.getD b ([], [])).1.length + (eqs.getD b ([], [])).2.length : Nat) : Int) by omega]
          exact K
      refine g67_2 ⟨fun c => by omega, fun _ => ⟨fun c => ⟨by omega, fun c2 => at30 0 0 (by omega) (by omega), fun c2 => at30 0 1 (by omega) (by omega)⟩, fun c => ⟨by omega, fun c2 => at30 1 0 (by omega) (by omega), fun c2 => at30 1 1 (by omega) (by omega)⟩⟩⟩
  exact g67 (turns 4 0 (ws, lost) h rfl (by omega) C (by show lost + 20 * 4 ≤ _; omega) (md_fk_refl m h) rfl)
end
