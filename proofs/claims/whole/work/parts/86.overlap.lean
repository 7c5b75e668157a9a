/-! Overlaps: what comes of one, in words of rows; contracts of the class. -/
noncomputable def ol_tr (l : List Nat) : oeT := @dite _ (∃ t, ot_wf t ∧ ot_fl t = l) (Classical.propDecidable _) (fun h => h.choose) (fun _ => .leaf)
theorem ol_tr_ok {l : List Nat} (h : ol_tm l) : ot_wf (ol_tr l) ∧ ot_fl (ol_tr l) = l := by
  unfold ol_tr
  have h2 : ∃ t, ot_wf t ∧ ot_fl t = l := h
  rw [dif_pos h2]
  exact h2.choose_spec
theorem ol_tr_fl {t : oeT} (h : ot_wf t) : ol_tr (ot_fl t) = t := by
  obtain ⟨h1, h2⟩ := ol_tr_ok (l := ot_fl t) ⟨t, h, rfl⟩
  exact ot_fl_inj _ _ [] [] h1 h (by rw [h2])
theorem ol_shift_map (w : List Nat) (hw : ∀ c ∈ w, c < 12 → c < 6) : w.map ol_ar = (ol_shift 6 w).map ol_ar := by
  unfold ol_shift
  rw [List.map_map]
  refine List.map_congr_left (fun c hc => ?_)
  show ol_ar c = ol_ar (if c < 12 then c + 6 else c)
  split
  · rename_i q
    have := hw c hc q
    rw [ar_0 (by omega), ar_0 (by omega)]
  · rfl
theorem ol_shift_ok {w : List Nat} (hw : ∀ c ∈ w, c < 12 → c < 6) (h : ol_ok w) : ol_ok (ol_shift 6 w) := by
  intro c hc
  unfold ol_shift at hc
  obtain ⟨x, hx, rfl⟩ := List.mem_map.mp hc
  have := h x hx
  split
  · rename_i q; have := hw x hx q; omega
  · exact this
/-- the instance of a term is a term -/
theorem ou_x_tm {σ : Nat → Option oeT} {r : Nat → Nat} (H : ua σ r) : ∀ (n : Nat) (t : oeT), ot_wf t → ol_tm (ou_x σ n (ot_fl t)) := by
  intro n
  induction n with
  | zero => intro t ht; exact ⟨t, ht, rfl⟩
  | succ n ih =>
    intro t ht
    have Hx : ∀ c : Nat, ∃ u' : oeT, c < 12 → ot_wf u' ∧ ot_fl u' = ((σ c).map (fun u => ou_x σ n (ot_fl u))).getD [c] := by
      intro c
      by_cases hc : c < 12
      · cases hs : σ c with
        | none => exact ⟨.inner c () () .leaf .leaf, fun _ => ⟨⟨fun _ => ⟨rfl, rfl⟩, fun q => by omega, fun q => by omega, fun q => by omega⟩, by simp [ot_fl]⟩⟩
        | some u =>
          obtain ⟨u', h1, h2⟩ := ih u (H c u hs).2.1
          exact ⟨u', fun _ => ⟨h1, h2⟩⟩
      · exact ⟨.leaf, fun q => absurd q hc⟩
    obtain ⟨τ, hτ⟩ := Classical.skolem.mp Hx
    refine ⟨ot_sb τ t, ot_sb_wf t ht (fun x hx _ => (hτ x hx).1), ?_⟩
    rw [ot_sb_fl t ht, ou_x_succ]
    refine fm_congr (fun c _ => ?_)
    by_cases hc : c < 12
    · rw [if_pos hc, (hτ c hc).2]
    · rw [if_neg hc]
      cases hs : σ c with
      | none => rfl
      | some u => exact absurd (H c u hs).1 hc
theorem ou_X_tm {σ : Nat → Option oeT} {r : Nat → Nat} (H : ua σ r) {l : List Nat} (h : ol_tm l) : ol_tm (ou_X σ l) := by
  obtain ⟨t, h1, h2⟩ := h
  rw [← h2]; exact ou_x_tm H 12 t h1
theorem ot_at_in {x w y : List Nat} {p : Nat} {t : oeT} (hp : p ≤ w.length) (h : ot_at w p t) : ot_at (x ++ w ++ y) (x.length + p) t := by
  obtain ⟨r, hr⟩ := h
  refine ⟨r ++ y, ?_⟩
  rw [List.append_assoc, ← List.drop_drop, List.drop_left, List.drop_append_of_le_length hp, hr, List.append_assoc]
/-- what comes of an overlap: 0 nothing, 1 lost, 2 a new pair -/
noncomputable def ol_ov (l r m n : List Nat) (p : Nat) : Nat × (List Nat × List Nat) :=
  match ou 300 (fun _ => none) [(ol_tr (ol_sub m p), ol_tr l)] with
  | none => (0, ([], []))
  | some σ => @ite _ (30 < (ou_X σ l).length ∨ 30 < (ou_X σ r).length ∨ 30 < (ou_X σ m).length ∨ 30 < (ou_X σ n).length) (Classical.propDecidable _) (1, ([], []))
    (@ite _ ((ou_X σ l = ou_X σ r ∨ ol_gt (ou_X σ r) (ou_X σ l)) ∨ (ou_X σ m = ou_X σ n ∨ ol_gt (ou_X σ n) (ou_X σ m))) (Classical.propDecidable _) (0, ([], []))
      (@ite _ (30 + (ou_X σ l).length < (ou_X σ m).length + (ou_X σ r).length) (Classical.propDecidable _) (1, ([], []))
        (2, (ou_X σ (m.take p) ++ ou_X σ r ++ ou_X σ (m.drop (ol_en m p)), ou_X σ n))))
theorem ol_ov_none {l r m n : List Nat} {p : Nat} (h : ou 300 (fun _ => none) [(ol_tr (ol_sub m p), ol_tr l)] = none) : ol_ov l r m n p = (0, ([], [])) := by
  unfold ol_ov
  rw [h]
theorem ol_ov_some {l r m n : List Nat} {p : Nat} {σ : Nat → Option oeT} (h : ou 300 (fun _ => none) [(ol_tr (ol_sub m p), ol_tr l)] = some σ) : ol_ov l r m n p = @ite _ (30 < (ou_X σ l).length ∨ 30 < (ou_X σ r).length ∨ 30 < (ou_X σ m).length ∨ 30 < (ou_X σ n).length) (Classical.propDecidable _) (1, ([], []))
    (@ite _ ((ou_X σ l = ou_X σ r ∨ ol_gt (ou_X σ r) (ou_X σ l)) ∨ (ou_X σ m = ou_X σ n ∨ ol_gt (ou_X σ n) (ou_X σ m))) (Classical.propDecidable _) (0, ([], []))
      (@ite _ (30 + (ou_X σ l).length < (ou_X σ m).length + (ou_X σ r).length) (Classical.propDecidable _) (1, ([], []))
        (2, (ou_X σ (m.take p) ++ ou_X σ r ++ ou_X σ (m.drop (ol_en m p)), ou_X σ n)))) := by
  unfold ol_ov
  rw [h]
def OvS (sh : List (Nat × Nat)) (g : Nat → Nat → Option Nat) (O : Nat) : Prop := sh[O]? = some (9, 3) ∧ g O 0 = some (O + 1) ∧ UnS sh g (O + 1) ∧ g O 1 = some (O + 13) ∧ EqS sh g (O + 13) 30 ∧ g O 2 = some (O + 20) ∧ EqS sh g (O + 20) 30
theorem ol_gt_iff {u v : oeT} (hu : ot_wf u) (hv : ot_wf v) : ol_gt (ot_fl u) (ot_fl v) ↔ ot_gt u v := by
  constructor
  · rintro ⟨u', v', a1, a2, a3, a4, a5⟩
    have q1 : u' = u := ot_fl_inj u' u [] [] a1 hu (by rw [a3])
    have q2 : v' = v := ot_fl_inj v' v [] [] a2 hv (by rw [a4])
    rw [← q1, ← q2]; exact a5
  · intro q; exact ⟨u, v, hu, hv, rfl, rfl, q⟩
section
variable {D : Nat} {sh : List (Nat × Nat)} {g : Nat → Nat → Option Nat} {h : Nat → Nat → Int} {Q : oeQ}
theorem c_atLeast (hDD : 66 ≤ D) {O e : Nat} {q : List Nat × List Nat} (hS : EqS sh g e 30) (hC : EqC h e q) (hE : EqE h e q) (t1 : ol_tm q.1) (t2 : ol_tm q.2) (h1 : q.1.length ≤ 30) (h2 : q.2.length ≤ 30)
    (k1 : (q.1 = q.2 ∨ ol_gt q.2 q.1) → Q (some (.inl 1)) (sh, g, h)) (k0 : ¬ (q.1 = q.2 ∨ ol_gt q.2 q.1) → Q (some (.inl 0)) (sh, g, h)) : oe_M D 113 [.inr (.inl O), .inr (.inl e)] (sh, g, h) Q := by
  obtain ⟨d, rfl⟩ : ∃ d, D = d + 2 := ⟨D - 2, by omega⟩
  refine g113 ⟨hS.1, ?_⟩
  refine c_sides (by omega) hS hC hE t1 t2 h1 h2 (fun z => ⟨1, rfl, rfl, fun _ => k1 (Or.inl z), fun c => absurd c (by decide)⟩) (fun z => ⟨0, rfl, rfl, fun c => absurd rfl c, fun _ => ⟨e + 4, hS.2.2.1, e + 1, hS.2.1, ?_⟩⟩)
  obtain ⟨u, hu, fu⟩ := t1
  obtain ⟨v, hv, fv⟩ := t2
  have gi := ol_gt_iff hv hu
  rw [fu, fv] at gi
  refine c_gt hS.2.2.2.2 hS.2.2.2.1 hC.2 hE.2 hC.1 hE.1 h2 h1 60 v u 0 0 0 (d + 1) _ (by rw [ot_sz_fl, ot_sz_fl, fu, fv]; omega) (by omega) (by omega) hv hu ⟨[], by rw [fv]; simp⟩ ⟨[], by rw [fu]; simp⟩ (fun z2 => ⟨1, rfl, rfl, fun c => absurd c (by decide), fun _ => k1 (Or.inr (gi.mpr z2))⟩) (fun z2 => ⟨0, rfl, rfl, fun _ => k0 (fun z3 => ?_), fun c => absurd rfl c⟩)
  rcases z3 with z3 | z3
  · exact z z3
  · exact z2 (gi.mp z3)
theorem eq_side {e i cap : Nat} {q : List Nat × List Nat} (hS : EqS sh g e cap) (hi : i < 2) : ∃ sa oa : Nat, LtS sh g sa cap ∧ LtS sh g oa cap ∧ e + 1 ≤ sa ∧ sa ≤ e + 4 ∧ e + 1 ≤ oa ∧ oa ≤ e + 4 ∧ (∀ h2 : Nat → Nat → Int, EqC h2 e q → LtC h2 sa (ol_sides q i).1 ∧ LtC h2 oa (ol_sides q i).2) ∧
    (∀ (E : Nat) (h2 : Nat → Nat → Int) (P : oeQ), 2 ≤ E → P (some (.inr (.inl sa))) (sh, g, h2) → oe_M E 93 [.inr (.inl e), .inl (i : Int)] (sh, g, h2) P) ∧ (∀ (E : Nat) (h2 : Nat → Nat → Int) (P : oeQ), 2 ≤ E → P (some (.inr (.inl oa))) (sh, g, h2) → oe_M E 93 [.inr (.inl e), .inl (1 - (i : Int))] (sh, g, h2) P) := by
  by_cases e0 : i = 0
  · subst e0
    exact ⟨e + 1, e + 4, hS.2.2.2.1, hS.2.2.2.2, by omega, by omega, by omega, by omega, fun h2 z => ⟨z.1, z.2⟩, fun E h2 P hE hP => c_side hE hS _ (fun _ => hP) (fun c => absurd rfl c), fun E h2 P hE hP => c_side hE hS _ (fun c => absurd c (by decide)) (fun _ => hP)⟩
  · have e1 : i = 1 := by omega
    subst e1
    exact ⟨e + 4, e + 1, hS.2.2.2.2, hS.2.2.2.1, by omega, by omega, by omega, by omega, fun h2 z => ⟨z.2, z.1⟩, fun E h2 P hE hP => c_side hE hS _ (fun c => absurd c (by decide)) (fun _ => hP), fun E h2 P hE hP => c_side hE hS _ (fun _ => hP) (fun c => absurd rfl c)⟩
set_option maxHeartbeats 2000000 in
theorem c_workOut (hDD : 68 ≤ D) {O a b i j : Nat} {qa qb : List Nat × List Nat} (hO : OvS sh g O) (hA : EqS sh g a 20) (hB : EqS sh g b 20) (da : a + 7 ≤ O ∨ O + 27 ≤ a) (db : b + 7 ≤ O ∨ O + 27 ≤ b) (hi : i < 2) (hj : j < 2) (ca : EqC h a qa) (cb : EqC h b qb) (oka : eq_ok qa) (okb : eq_ok qb) (p : Nat) (hp : p < (ol_sides qb j).1.length)
    (k : ∀ h', (∀ c, c ≤ O ∨ O + 27 ≤ c → h' c = h c) → ((if (ol_sides qb j).1.getD p 0 < 12 then 0 else (ol_ov (ol_sides qa i).1 (ol_sides qa i).2 (ol_shift 6 (ol_sides qb j).1) (ol_shift 6 (ol_sides qb j).2) p).1) = 2 →
        EqC h' (O + 13) (ol_ov (ol_sides qa i).1 (ol_sides qa i).2 (ol_shift 6 (ol_sides qb j).1) (ol_shift 6 (ol_sides qb j).2) p).2 ∧ EqE h' (O + 13) (ol_ov (ol_sides qa i).1 (ol_sides qa i).2 (ol_shift 6 (ol_sides qb j).1) (ol_shift 6 (ol_sides qb j).2) p).2) →
      Q (some (.inl (((if (ol_sides qb j).1.getD p 0 < 12 then 0 else (ol_ov (ol_sides qa i).1 (ol_sides qa i).2 (ol_shift 6 (ol_sides qb j).1) (ol_shift 6 (ol_sides qb j).2) p).1) : Nat) : Int))) (sh, g, h')) :
    oe_M D 112 [.inr (.inl O), .inr (.inl a), .inl (i : Int), .inr (.inl b), .inl (j : Int), .inl (p : Int)] (sh, g, h) Q := by
  obtain ⟨d, rfl⟩ : ∃ d, D = d + 2 := ⟨D - 2, by omega⟩
  obtain ⟨o0, o1, o2, o3, o4, o5, o6⟩ := hO
  obtain ⟨la, ra, SL, SR, l1, l2, l3, l4, LC, gL, gR⟩ := eq_side (q := qa) hA hi
  obtain ⟨lb, rb, SM, SN, m1, m2, m3, m4, MC, gM, gN⟩ := eq_side (q := qb) hB hj
  -- what is known of the four sides
  have ka : ol_tm (ol_sides qa i).1 ∧ ol_tm (ol_sides qa i).2 ∧ (ol_sides qa i).1.length + (ol_sides qa i).2.length ≤ 20 ∧ ol_ok (ol_sides qa i).1 ∧ ol_ok (ol_sides qa i).2 := by
    obtain ⟨⟨s, t, x1, x2, x3, x4⟩, y1, y2, y3, _, _⟩ := oka
    unfold ol_sides
    split
    · exact ⟨⟨s, x1, x3⟩, ⟨t, x2, x4⟩, y1, y2, y3⟩
    · exact ⟨⟨t, x2, x4⟩, ⟨s, x1, x3⟩, by show qa.2.length + qa.1.length ≤ 20; omega, y3, y2⟩
  have kb : ol_tm (ol_sides qb j).1 ∧ ol_tm (ol_sides qb j).2 ∧ (ol_sides qb j).1.length + (ol_sides qb j).2.length ≤ 20 ∧ ol_ok (ol_sides qb j).1 ∧ ol_ok (ol_sides qb j).2 ∧ (∀ c ∈ (ol_sides qb j).1, c < 12 → c < 6) ∧ (∀ c ∈ (ol_sides qb j).2, c < 12 → c < 6) := by
    obtain ⟨⟨s, t, x1, x2, x3, x4⟩, y1, y2, y3, y4, y5⟩ := okb
    unfold ol_sides
    split
    · exact ⟨⟨s, x1, x3⟩, ⟨t, x2, x4⟩, y1, y2, y3, y4, y5⟩
    · exact ⟨⟨t, x2, x4⟩, ⟨s, x1, x3⟩, by show qb.2.length + qb.1.length ≤ 20; omega, y3, y2, y5, y4⟩
  have cL := (LC h ca).1
  have cM := (MC h cb).1
  generalize (ol_sides qa i).1 = L at *
  generalize (ol_sides qa i).2 = R at *
  generalize (ol_sides qb j).1 = M0 at *
  generalize (ol_sides qb j).2 = N0 at *
  obtain ⟨tL, tR, len1, okL, okR⟩ := ka
  obtain ⟨tM0, tN0, len2, okM0, okN0, vM, vN⟩ := kb
  have mlen : (ol_shift 6 M0).length = M0.length := by unfold ol_shift; rw [List.length_map]
  have nlen : (ol_shift 6 N0).length = N0.length := by unfold ol_shift; rw [List.length_map]
  have tM := ol_tm_map (ol_shift_map M0 vM) tM0
  have tN := ol_tm_map (ol_shift_map N0 vN) tN0
  have okM := ol_shift_ok vM okM0
  have okN := ol_shift_ok vN okN0
  have cp : h (lb + 1) ((p : Int)).toNat = ((M0.getD p 0 : Nat) : Int) := by rw [Int.toNat_natCast]; exact cM.2 p hp
  refine g112 ⟨hB.1, gM (d + 1) h _ (by omega) ⟨lb, rfl, rfl, SM.1, lb + 1, SM.2.1, 20, SM.2.2.2.1, by omega, by omega, ?_⟩⟩
  rw [cp]
  refine ⟨fun c1 => ?_, fun c1 => ?_⟩
  · have e0 : M0.getD p 0 < 12 := by omega
    rw [if_pos e0] at k
    exact k h (fun c _ => rfl) (fun z => by omega)
  rw [if_neg (show ¬ M0.getD p 0 < 12 by omega)] at k
  generalize hMs : ol_shift 6 M0 = M at *
  generalize hNs : ol_shift 6 N0 = N at *
  -- loading the row
  refine ⟨o0, O + 1, o1, o2.1, c_forget (by omega) o2 (fun h1 C1 F1 => ⟨h1, rfl, rfl, hA.1, gL (d + 1) h1 _ (by omega) ⟨la, rfl, rfl, ?_⟩⟩)⟩
  have ok1000 : ∀ {w : List Nat}, ol_ok w → ∀ c ∈ w, c < 1000 := fun hw c hc => by have := hw c hc; omega
  have G1 : ∀ c, c ≤ O ∨ O + 27 ≤ c → h1 c = h c := fun c hc => F1 c (by omega)
  refine c_load (by omega) o2 SL (by omega) C1 (LC h1 (ca.kept (fun c z1 z2 => G1 c (by omega)))).1 (by omega) (by simp; omega) 0 (by omega) (ok1000 okL) (fun h2 R2 F2 => ⟨_, h2, rfl, rfl, by unfold oe_rg; omega, gR (d + 1) h2 _ (by omega) ⟨ra, rfl, rfl, ?_⟩⟩)
  have G2 : ∀ c, c ≤ O ∨ O + 27 ≤ c → h2 c = h c := fun c hc => by rw [F2 c (by omega), G1 c hc]
  rw [ol_shift_0, List.nil_append] at R2
  refine c_load (by omega) o2 SR (by omega) R2.1 (LC h2 (ca.kept (fun c z1 z2 => G2 c (by omega)))).2 (by omega) (by omega) 0 (by omega) (ok1000 okR) (fun h3 R3 F3 => ⟨_, h3, rfl, rfl, gM (d + 1) h3 _ (by omega) ⟨lb, rfl, rfl, ?_⟩⟩)
  have G3 : ∀ c, c ≤ O ∨ O + 27 ≤ c → h3 c = h c := fun c hc => by rw [F3 c (by omega), G2 c hc]
  rw [ol_shift_0] at R3
  refine c_load (by omega) (s := 6) o2 SM (by omega) R3.1 (MC h3 (cb.kept (fun c z1 z2 => G3 c (by omega)))).1 (by omega) (by rw [List.length_append]; omega) (by omega) (ok1000 okM0) (fun h4 R4 F4 => ⟨_, h4, rfl, rfl, by unfold oe_rg; omega, gN (d + 1) h4 _ (by omega) ⟨rb, rfl, rfl, ?_⟩⟩)
  have G4 : ∀ c, c ≤ O ∨ O + 27 ≤ c → h4 c = h c := fun c hc => by rw [F4 c (by omega), G3 c hc]
  rw [hMs] at R4
  refine c_load (by omega) (s := 6) o2 SN (by omega) R4.1 (MC h4 (cb.kept (fun c z1 z2 => G4 c (by omega)))).2 (by omega) (by rw [List.length_append, List.length_append]; omega) (by omega) (ok1000 okN0) (fun h5 R5 F5 => ⟨_, h5, rfl, rfl, ?_⟩)
  have G5 : ∀ c, c ≤ O ∨ O + 27 ≤ c → h5 c = h c := fun c hc => by rw [F5 c (by omega), G4 c hc]
  rw [hNs] at R5
  -- the four terms and the subterm in the row
  obtain ⟨wL, fL⟩ := ol_tr_ok tL
  obtain ⟨wR, fR⟩ := ol_tr_ok tR
  obtain ⟨wM, fM⟩ := ol_tr_ok tM
  obtain ⟨wN, fN⟩ := ol_tr_ok tN
  obtain ⟨S, wS, aS⟩ := ot_every (ol_tr M) M 0 wM ⟨[], by rw [fM]; simp⟩ p (Nat.zero_le _) (by rw [fM]; omega)
  have sS := ot_at_sub wS aS
  have eS := ot_at_en wS aS
  have atL : ot_at (L ++ R ++ M ++ N) 0 (ol_tr L) := ⟨R ++ M ++ N, by rw [fL]; simp⟩
  have atR : ot_at (L ++ R ++ M ++ N) L.length (ol_tr R) := ⟨M ++ N, by rw [fR, List.append_assoc, List.append_assoc, List.drop_left]⟩
  have atM : ot_at (L ++ R ++ M ++ N) (L ++ R).length (ol_tr M) := ⟨N, by rw [fM, List.append_assoc (L ++ R), List.drop_left]⟩
  have atN : ot_at (L ++ R ++ M ++ N) (L ++ R ++ M).length (ol_tr N) := ⟨[], by rw [fN, List.drop_left, List.append_nil]⟩
  have atS : ot_at (L ++ R ++ M ++ N) ((L ++ R).length + p) S := ot_at_in (by omega) aS
  have rlen := R5.2.2
  have llr : (L ++ R).length = L.length + R.length := List.length_append
  have llm : (L ++ R ++ M).length = L.length + R.length + M.length := by rw [List.length_append, llr]
  have llt : (L ++ R ++ M ++ N).length = L.length + R.length + M.length + N.length := by rw [List.length_append, llm]
  have okrow : ol_ok (L ++ R ++ M ++ N) := by
    intro c hc
    rcases List.mem_append.mp hc with z | z
    · rcases List.mem_append.mp z with z | z
      · rcases List.mem_append.mp z with z | z
        · exact okL c z
        · exact okR c z
      · exact okM c z
    · exact okN c z
  have pS : (((L ++ R).length : Nat) : Int) + (p : Int) = (((L ++ R).length + p : Nat) : Int) := by omega
  rw [pS]
  refine ⟨by unfold oe_rg; omega, ?_⟩
  refine c_solve (by omega) o2 R5 _ 0 S (ol_tr L) atS atL wS wL (fun σ r h6 hou H V6 F6 => ⟨1, h6, rfl, rfl, fun _ => ⟨O + 20, o5, o6.1, O + 21, o6.2.1, ?_⟩, fun c => absurd c (by decide)⟩) (fun hou h6 F6 => ⟨0, h6, rfl, rfl, fun c => absurd rfl c, fun _ => ?_⟩)
  rotate_left
  · have ov : ol_ov L R M N p = (0, ([], [])) := ol_ov_none (by rw [sS, ol_tr_fl wS]; exact hou)
    rw [ov] at k
    exact k h6 (fun c hc => by rw [F6 c (by omega) (by omega) (by omega) (by omega) (by omega) (by omega) (by omega) (by omega), G5 c hc]) (fun z => by cases z)
  have G6 : ∀ c, c ≤ O ∨ O + 27 ≤ c → h6 c = h c := fun c hc => by rw [F6 c (by omega) (by omega) (by omega) (by omega) (by omega) (by omega) (by omega) (by omega), G5 c hc]
  have ov := ol_ov_some (r := R) (n := N) (show ou 300 (fun _ => none) [(ol_tr (ol_sub M p), ol_tr L)] = some σ by rw [sS, ol_tr_fl wS]; exact hou)
  have R6 : UnR h6 (O + 1) (L ++ R ++ M ++ N) := R5.kept (fun c z1 z2 => F6 c (by omega) (by omega) (by omega) (by omega) (by omega) (by omega) (by omega) (by omega))
  have XS : ou_X σ (ot_fl S) = ou_X σ L := by
    have := (ou_sound 300 _ σ [(S, ol_tr L)] (fun _ => 0) (fun c u hc => by cases hc) (fun x hx => by rw [List.mem_singleton.mp hx]; exact ⟨wS, wL⟩) hou).2.2 (S, ol_tr L) (List.mem_singleton.mpr rfl)
    rw [show (S, ol_tr L).1 = S from rfl, show (S, ol_tr L).2 = ol_tr L from rfl, fL] at this
    exact this
  have tXL := ou_X_tm H tL
  have tXR := ou_X_tm H tR
  have tXM := ou_X_tm H tM
  have tXN := ou_X_tm H tN
  have lostk : ∀ h' : Nat → Nat → Int, (∀ c, c ≤ O ∨ O + 27 ≤ c → h' c = h c) → (30 < (ou_X σ L).length ∨ 30 < (ou_X σ R).length ∨ 30 < (ou_X σ M).length ∨ 30 < (ou_X σ N).length) → Q (some (.inl 1)) (sh, g, h') := by
    intro h' hG hz
    have ov2 : ol_ov L R M N p = (1, ([], [])) := ov.trans (if_pos hz)
    rw [ov2] at k
    exact k h' hG (fun z => by cases z)
  have w0 : (((0 : Nat)) : Int) = 0 := rfl
  refine c_writeI (by omega) (lim := 30) o2 R6 V6 H okrow o6.2.2.2.1 (by omega) 0 (Nat.le_refl _) (ol_tr L) wL atL (fun b1 h7 C7 E7 F7 => ⟨1, h7, rfl, rfl, fun c => absurd c (by decide), fun _ => ⟨O + 24, o6.2.2.1, ?_⟩⟩) (fun b1 h7 F7 => ⟨0, h7, rfl, rfl, fun _ => lostk h7 (fun c hc => by rw [F7 c (by omega) (by omega) (by omega) (by omega) (by omega), G6 c hc]) (Or.inl (by rw [fL] at b1; exact b1)), fun c => absurd rfl c⟩)
  rw [fL] at b1 C7 E7
  have G7 : ∀ c, c ≤ O ∨ O + 27 ≤ c → h7 c = h c := fun c hc => by rw [F7 c (by omega) (by omega) (by omega) (by omega) (by omega), G6 c hc]
  have R7 : UnR h7 (O + 1) (L ++ R ++ M ++ N) := R6.kept (fun c z1 z2 => F7 c (by omega) (by omega) (by omega) (by omega) (by omega))
  have V7 : UnV h7 (O + 1 + 4) (L ++ R ++ M ++ N) σ := V6.kept (F7 _ (by omega) (by omega) (by omega) (by omega) (by omega))
  refine c_writeI (by omega) (lim := 30) o2 R7 V7 H okrow o6.2.2.2.2 (by omega) L.length (Nat.le_refl _) (ol_tr R) wR atR (fun b2 h8 C8 E8 F8 => ⟨1, h8, rfl, rfl, fun c => absurd c (by decide), fun _ => ⟨O + 13, o3, o4.1, O + 14, o4.2.1, ?_⟩⟩) (fun b2 h8 F8 => ⟨0, h8, rfl, rfl, fun _ => lostk h8 (fun c hc => by rw [F8 c (by omega) (by omega) (by omega) (by omega) (by omega), G7 c hc]) (Or.inr (Or.inl (by rw [fR] at b2; exact b2))), fun c => absurd rfl c⟩)
  rw [fR] at b2 C8 E8
  have G8 : ∀ c, c ≤ O ∨ O + 27 ≤ c → h8 c = h c := fun c hc => by rw [F8 c (by omega) (by omega) (by omega) (by omega) (by omega), G7 c hc]
  have R8 : UnR h8 (O + 1) (L ++ R ++ M ++ N) := R7.kept (fun c z1 z2 => F8 c (by omega) (by omega) (by omega) (by omega) (by omega))
  have V8 : UnV h8 (O + 1 + 4) (L ++ R ++ M ++ N) σ := V7.kept (F8 _ (by omega) (by omega) (by omega) (by omega) (by omega))
  refine c_writeI (by omega) (lim := 30) o2 R8 V8 H okrow o4.2.2.2.1 (by omega) (L ++ R).length (Nat.le_refl _) (ol_tr M) wM atM (fun b3 h9 C9 E9 F9 => ⟨1, h9, rfl, rfl, fun c => absurd c (by decide), fun _ => ⟨O + 17, o4.2.2.1, ?_⟩⟩) (fun b3 h9 F9 => ⟨0, h9, rfl, rfl, fun _ => lostk h9 (fun c hc => by rw [F9 c (by omega) (by omega) (by omega) (by omega) (by omega), G8 c hc]) (Or.inr (Or.inr (Or.inl (by rw [fM] at b3; exact b3)))), fun c => absurd rfl c⟩)
  rw [fM] at b3 C9 E9
  have G9 : ∀ c, c ≤ O ∨ O + 27 ≤ c → h9 c = h c := fun c hc => by rw [F9 c (by omega) (by omega) (by omega) (by omega) (by omega), G8 c hc]
  have R9 : UnR h9 (O + 1) (L ++ R ++ M ++ N) := R8.kept (fun c z1 z2 => F9 c (by omega) (by omega) (by omega) (by omega) (by omega))
  have V9 : UnV h9 (O + 1 + 4) (L ++ R ++ M ++ N) σ := V8.kept (F9 _ (by omega) (by omega) (by omega) (by omega) (by omega))
  refine c_writeI (by omega) (lim := 30) o2 R9 V9 H okrow o4.2.2.2.2 (by omega) (L ++ R ++ M).length (Nat.le_refl _) (ol_tr N) wN atN (fun b4 h10 C10 E10 F10 => ⟨1, h10, rfl, rfl, fun _ => ?_, fun c => absurd c (by decide)⟩) (fun b4 h10 F10 => ⟨0, h10, rfl, rfl, fun c => absurd rfl c, fun _ => lostk h10 (fun c hc => by rw [F10 c (by omega) (by omega) (by omega) (by omega) (by omega), G9 c hc]) (Or.inr (Or.inr (Or.inr (by rw [fN] at b4; exact b4))))⟩)
  rw [fN] at b4 C10 E10
  have G10 : ∀ c, c ≤ O ∨ O + 27 ≤ c → h10 c = h c := fun c hc => by rw [F10 c (by omega) (by omega) (by omega) (by omega) (by omega), G9 c hc]
  have R10 : UnR h10 (O + 1) (L ++ R ++ M ++ N) := R9.kept (fun c z1 z2 => F10 c (by omega) (by omega) (by omega) (by omega) (by omega))
  have V10 : UnV h10 (O + 1 + 4) (L ++ R ++ M ++ N) σ := V9.kept (F10 _ (by omega) (by omega) (by omega) (by omega) (by omega))
  -- the four instances, as they stand now
  have K8 : ∀ c, O + 21 ≤ c → c ≤ O + 26 → h10 c = h8 c := fun c z1 z2 => by rw [F10 c (by omega) (by omega) (by omega) (by omega) (by omega), F9 c (by omega) (by omega) (by omega) (by omega) (by omega)]
  have K7 : ∀ c, O + 21 ≤ c → c ≤ O + 23 → h10 c = h7 c := fun c z1 z2 => by rw [K8 c (by omega) (by omega), F8 c (by omega) (by omega) (by omega) (by omega) (by omega)]
  have uC : EqC h10 (O + 20) (ou_X σ L, ou_X σ R) := ⟨C7.kept (K7 _ (by omega) (by omega)) (K7 _ (by omega) (by omega)), C8.kept (K8 _ (by omega) (by omega)) (K8 _ (by omega) (by omega))⟩
  have uE : EqE h10 (O + 20) (ou_X σ L, ou_X σ R) := ⟨E7.kept (K7 _ (by omega) (by omega)), E8.kept (K8 _ (by omega) (by omega))⟩
  have K9 : ∀ c, O + 14 ≤ c → c ≤ O + 16 → h10 c = h9 c := fun c z1 z2 => F10 c (by omega) (by omega) (by omega) (by omega) (by omega)
  have pC : EqC h10 (O + 13) (ou_X σ M, ou_X σ N) := ⟨C9.kept (K9 _ (by omega) (by omega)) (K9 _ (by omega) (by omega)), C10⟩
  have pE : EqE h10 (O + 13) (ou_X σ M, ou_X σ N) := ⟨E9.kept (K9 _ (by omega) (by omega)), E10⟩
  have ovA := ov.trans (if_neg (by omega))
  have noth : ∀ h' : Nat → Nat → Int, (∀ c, c ≤ O ∨ O + 27 ≤ c → h' c = h c) → ((ou_X σ L = ou_X σ R ∨ ol_gt (ou_X σ R) (ou_X σ L)) ∨ (ou_X σ M = ou_X σ N ∨ ol_gt (ou_X σ N) (ou_X σ M))) → Q (some (.inl 0)) (sh, g, h') := by
    intro h' hG hz
    have ov2 : ol_ov L R M N p = (0, ([], [])) := ovA.trans (if_pos hz)
    rw [ov2] at k
    exact k h' hG (fun z => by cases z)
  refine c_atLeast (by omega) o6 uC uE tXL tXR b1 b2 (fun z => ⟨1, rfl, rfl, fun _ => noth h10 G10 (Or.inl z), fun c => absurd c (by decide)⟩) (fun z1 => ⟨0, rfl, rfl, fun c => absurd rfl c, fun _ => ?_⟩)
  refine c_atLeast (by omega) o4 pC pE tXM tXN b3 b4 (fun z => ⟨1, rfl, rfl, fun c => absurd c (by decide), fun _ => noth h10 G10 (Or.inr z)⟩) (fun z2 => ⟨0, rfl, rfl, fun _ => ⟨o4.2.2.2.1.1, o6.2.2.2.1.1, ?_⟩, fun c => absurd rfl c⟩)
  have ovB := ovA.trans (if_neg (fun z => by rcases z with z | z; exact z1 z; exact z2 z))
  have v1 : h10 (O + 14) 2 = (((ou_X σ M).length : Nat) : Int) := pC.1.1
  have v2 : h10 (O + 21) 2 = (((ou_X σ L).length : Nat) : Int) := uC.1.1
  have v3 : h10 (O + 24) 2 = (((ou_X σ R).length : Nat) : Int) := uC.2.1
  rw [v1, v2, v3]
  refine ⟨by unfold oe_rg; omega, o6.2.2.2.2.1, by unfold oe_rg; omega, fun c2 => ?_, fun c2 => ?_⟩
  rotate_left
  · have ov2 : ol_ov L R M N p = (1, ([], [])) := ovB.trans (if_pos (by omega))
    rw [ov2] at k
    exact k h10 G10 (fun z => by cases z)
  have ovC := ovB.trans (if_neg (by omega))
  refine ⟨by unfold oe_rg; omega, ?_⟩
  have rgM : ol_rg (L ++ R ++ M ++ N) (L ++ R).length ((L ++ R).length + p) = M.take p := by
    unfold ol_rg
    rw [Nat.add_sub_cancel_left, List.append_assoc (L ++ R), List.drop_left, List.take_append_of_le_length (by omega)]
  have Msplit : M = M.take p ++ (ot_fl S ++ M.drop (ol_en M p)) := by
    obtain ⟨rest, hrest⟩ := aS
    rw [eS, ← List.drop_drop, hrest, List.drop_left, ← hrest, List.take_append_drop]
  have XM : ou_X σ M = ou_X σ (M.take p) ++ (ou_X σ (ot_fl S) ++ ou_X σ (M.drop (ol_en M p))) := by
    rw [← ou_X_app, ← ou_X_app, ← Msplit]
  have XMl : (ou_X σ M).length = (ou_X σ (M.take p)).length + ((ou_X σ (ot_fl S)).length + (ou_X σ (M.drop (ol_en M p))).length) := by
    rw [XM, List.length_append, List.length_append]
  rw [XS] at XM XMl
  have posL := ol_tm_pos tXL
  refine c_before (by omega) o2 R10 V10 H (L ++ R).length ((L ++ R).length + p) (by omega) (by omega) (by rw [rgM]; omega) (fun h11 F11 => ⟨_, h11, rfl, rfl, ?_⟩)
  rw [rgM]
  obtain ⟨wXL, fXL⟩ := ol_tr_ok tXL
  have enX : ol_en (ou_X σ M) (ou_X σ (M.take p)).length = (ou_X σ (M.take p)).length + (ou_X σ L).length := by
    have : ot_at (ou_X σ M) (ou_X σ (M.take p)).length (ol_tr (ou_X σ L)) := ⟨ou_X σ (M.drop (ol_en M p)), by rw [fXL, XM, List.drop_left]⟩
    rw [ot_at_en wXL this, fXL]
  have K11 : ∀ c, O + 13 ≤ c → c ≤ O + 26 → h11 c = h10 c := fun c z1 z2 => F11 c (by omega) (by omega) (by omega) (by omega)
  refine c_replace (by omega) o4.2.2.2.1 o6.2.2.2.2 (by omega) (pC.1.kept (K11 _ (by omega) (by omega)) (K11 _ (by omega) (by omega))) (pE.1.kept (K11 _ (by omega) (by omega))) (uC.2.kept (K11 _ (by omega) (by omega)) (K11 _ (by omega) (by omega))) b3 b2 _ (by show _ < (ou_X σ M).length; omega) (by show _ + (ou_X σ R).length + (ou_X σ M).length ≤ 30 + ol_en (ou_X σ M) _; rw [enX]; omega) (fun h12 C12 E12 F12 => ⟨h12, rfl, rfl, ?_⟩)
  have newl : List.take (ou_X σ (M.take p)).length (ou_X σ M) ++ ou_X σ R ++ List.drop (ol_en (ou_X σ M) (ou_X σ (M.take p)).length) (ou_X σ M) = ou_X σ (M.take p) ++ ou_X σ R ++ ou_X σ (M.drop (ol_en M p)) := by
    rw [enX]
    have t1 : List.take (ou_X σ (M.take p)).length (ou_X σ M) = ou_X σ (M.take p) := by rw [XM, List.take_left]
    have t2 : List.drop ((ou_X σ (M.take p)).length + (ou_X σ L).length) (ou_X σ M) = ou_X σ (M.drop (ol_en M p)) := by rw [XM, ← List.drop_drop, List.drop_left, List.drop_left]
    rw [t1, t2]
  have C12' : LtC h12 (O + 14) (ou_X σ (M.take p) ++ ou_X σ R ++ ou_X σ (M.drop (ol_en M p))) := by rw [← newl]; exact C12
  have E12' : LtE h12 (O + 14) (ou_X σ (M.take p) ++ ou_X σ R ++ ou_X σ (M.drop (ol_en M p))) := by rw [← newl]; exact E12
  rw [ovC] at k
  refine k h12 (fun c hc => by rw [F12 c (by omega) (by omega) (by omega), F11 c (by omega) (by omega) (by omega) (by omega), G10 c hc]) (fun _ => ⟨⟨C12', pC.2.kept ?_ ?_⟩, ⟨E12', pE.2.kept ?_⟩⟩)
  all_goals rw [F12 _ (by omega) (by omega) (by omega), K11 _ (by omega) (by omega)]
end
