/-! The public methods (class), as far as they don't throw: those that read. -/
noncomputable def ab_goal (x : abF) : Int × abF := match ol_rd true false x.1 0 false 1 [] [] with
  | .inl i => (-1 - (i : Int), ([], x.2))
  | .inr q => if 20 < q.1.length ∨ 20 < q.2.length then (-200, ([], x.2)) else
    (@ite _ ((ab_low x.2.2.2.1 q).1 = (ab_low x.2.2.2.1 q).2) (Classical.propDecidable _) 1 0, ([], x.2.1, x.2.2.1, x.2.2.2.1, some (ab_low x.2.2.2.1 q), x.2.2.2.2.2))
noncomputable def ab_compare (x : abF) : Int × abF := match ol_rd true true x.1 0 false 1 [] [] with
  | .inl i => (-1 - (i : Int), ([], x.2))
  | .inr q => (@ite _ (q.1 = q.2) (Classical.propDecidable _) 3 (@ite _ (ol_gt q.1 q.2) (Classical.propDecidable _) 1 (@ite _ (ol_gt q.2 q.1) (Classical.propDecidable _) 2 0)), ([], x.2))
def ab_axm (x : abF) : Int × abF := match ol_rd true true x.1 0 false 1 [] [] with
  | .inl i => (-1 - (i : Int), ([], x.2))
  | .inr q => if 20 < ol_w q then (-200, ([], x.2)) else (((x.2.2.1.length + 1 : Nat) : Int), ([], x.2.1, x.2.2.1 ++ [(ol_nm q).1], x.2.2.2))
section
variable {D : Nat} {sh : List (Nat × Nat)} {g : Nat → Nat → Option Nat} {h : Nat → Nat → Int} {Q : oeQ}
/-- after reading: all but the text is as it was -/
theorem rd_kept {π : Nat → Nat} {x : abF} {h' : Nat → Nat → Int} (hO : OeS sh g π) (hF : OeF h π x) (t0 : h' 0 1 = 0) (fo : ∀ j, j ≠ 1 → h' 0 j = h 0 j) (fr : ∀ c, c ≠ 0 → c < 326 ∨ 333 ≤ c → h' c = h c) : OeF h' π ([], x.2) :=
  ⟨OeT_nil t0, hF.2.1.kept (fo 3 (by omega)) (fr 2 (by omega) (by omega)), hF.2.2.kept (fun i hi => (hO.2.2.1.2.2.2.2.2.1 i hi).1) (fo 7 (by omega)) (fo 9 (by omega)) (fun c z1 z2 z3 => fr c (by omega) (by omega))⟩
theorem rd_lt {be bv : Bool} {T : List Nat} : ∀ {i : Nat} {on : Bool} {ms : Nat} {L R : List Nat} {j : Nat}, ol_rd be bv T i on ms L R = .inl j → j ≤ i + T.length := by
  induction T with
  | nil =>
    intro i on ms L R j h
    unfold ol_rd at h
    split at h
    · cases h; simp
    · cases h
  | cons c cs ih =>
    intro i on ms L R j h
    unfold ol_rd at h
    rw [List.length_cons]
    split at h
    · split at h
      · cases h; omega
      · have := ih h; omega
    · split at h
      · cases h; omega
      · split at h
        · have := ih h; omega
        · have := ih h; omega
theorem c_reduce (hDD : 69 ≤ D) {π : Nat → Nat} {x : abF} (hO : OeS sh g π) (hF : OeF h π x)
    (k : ∀ h', OeF h' π (ab_reduce x).2 → (∀ c, 348 ≤ c → h' c = h c) → Q (some (.inl (ab_reduce x).1)) (sh, g, h')) : oe_M D 13 [.inr (.inl 0)] (sh, g, h) Q := by
  obtain ⟨d, rfl⟩ : ∃ d, D = d + 2 := ⟨D - 2, by omega⟩
  have hOO := hO
  obtain ⟨o0, _, ⟨w1, w2⟩, ⟨a1, a2⟩, _, _, ⟨r1, r2⟩, _⟩ := hO
  have T60 := hF.1.2.1
  unfold ab_reduce at k
  refine g13 ⟨o0, c_read (by omega) hOO hF.1 false true (fun i h1 hr t0 fo fr => ?_) (fun q h1 hr C1 E1 t0 fo fr => ?_)⟩
  · rw [hr] at k
    have := rd_lt hr
    exact ⟨_, h1, rfl, rfl, fun c => by omega, fun _ => ⟨by unfold oe_rg; omega, k h1 (rd_kept hOO hF t0 fo fr) (fun c hc => fr c (by omega) (by omega))⟩⟩
  · rw [hr] at k
    obtain ⟨y1, y2, y3, y4, y5⟩ := rd_all hr
    have F1 := rd_kept hOO hF t0 fo fr
    have A1 : AcC h1 215 x.2.2.2.1 := F1.2.2.2.1
    have lw : h1 327 2 = ((q.1.length : Nat) : Int) := C1.1.1
    refine ⟨_, h1, rfl, rfl, fun _ => ⟨326, r1, r2.1, 327, r2.2.1, r2.2.2.2.1.1, fun c2 => ?_, fun c2 => ?_⟩, fun c => absurd rfl c⟩
    · rw [lw] at c2
      try dsimp only at k
      rw [if_neg (show ¬ 30 < q.1.length by omega)] at k
      refine ⟨215, a1, a2.1, ?_⟩
      refine c_lower (by omega) a2 r2.2.2.2.1 (by omega) (by omega) A1 C1.1 E1.1 ⟨y3, by omega, (rd_tm y1).1⟩ (fun h2 o2 C2 E2 F2 => ⟨_, h2, rfl, rfl, fun h3 e3 => ?_⟩)
      have f3 : ∀ c, c ≠ 0 → c ≠ 327 → c ≠ 328 → c ≠ 329 → c < 218 ∨ 221 < c → h3 c = h1 c := fun c z0 z1 z2 z3 z4 => by rw [e3, up_ne z0, F2 c z1 z2 z3 z4]
      have f30 : ∀ j, j ≠ 3 → h3 0 j = h1 0 j := fun j hj => by rw [e3, up_col hj, F2 0 (by omega) (by omega) (by omega) (by omega)]
      have C3 : LtC h3 327 (ol_low x.2.2.2.1 50 q.1).1 := C2.kept (by rw [e3, up_ne (by omega)]) (by rw [e3, up_ne (by omega)])
      have ol2 := o2.2.1
      refine c_write (P := []) (by omega) hOO r2.2.2.2.1 (by omega) C3 (by omega) o2.2.2 ⟨by rw [e3, up_eq]; rfl, by simp, fun i hi => (by cases hi), fun c hc => (by cases hc)⟩ (by simp; omega) (fun h4 P4 fo4 fr4 => ⟨h4, rfl, rfl, ?_⟩)
      rw [List.nil_append] at P4
      refine k h4 ⟨OeT_nil (by rw [fo4 1 (by omega), f30 1 (by omega)]; exact t0), P4, F1.2.2.kept (fun i hi => (w2.2.2.2.2.1 i hi).1) (by rw [fo4 7 (by omega), f30 7 (by omega)]) (by rw [fo4 9 (by omega), f30 9 (by omega)]) (fun c z1 z2 z3 => by rw [fr4 c (by omega) (by omega), f3 c (by omega) (by omega) (by omega) (by omega) z2])⟩ (fun c hc => by rw [fr4 c (by omega) (by omega), f3 c (by omega) (by omega) (by omega) (by omega) (by omega), fr c (by omega) (by omega)])
    · rw [lw] at c2
      try dsimp only at k
      rw [if_pos (show 30 < q.1.length by omega)] at k
      exact k h1 F1 (fun c hc => fr c (by omega) (by omega))
theorem c_compare (hDD : 69 ≤ D) {π : Nat → Nat} {x : abF} (hO : OeS sh g π) (hF : OeF h π x)
    (k : ∀ h', OeF h' π (ab_compare x).2 → (∀ c, 348 ≤ c → h' c = h c) → Q (some (.inl (ab_compare x).1)) (sh, g, h')) : oe_M D 11 [.inr (.inl 0)] (sh, g, h) Q := by
  obtain ⟨d, rfl⟩ : ∃ d, D = d + 2 := ⟨D - 2, by omega⟩
  have hOO := hO
  obtain ⟨o0, _, ⟨w1, w2⟩, ⟨a1, a2⟩, _, _, ⟨r1, r2⟩, _⟩ := hO
  have T60 := hF.1.2.1
  unfold ab_compare at k
  refine g11 ⟨o0, c_read (by omega) hOO hF.1 true true (fun i h1 hr t0 fo fr => ?_) (fun q h1 hr C1 E1 t0 fo fr => ?_)⟩
  · rw [hr] at k
    have := rd_lt hr
    exact ⟨_, h1, rfl, rfl, fun c => by omega, fun _ => ⟨by unfold oe_rg; omega, k h1 (rd_kept hOO hF t0 fo fr) (fun c hc => fr c (by omega) (by omega))⟩⟩
  · rw [hr] at k
    obtain ⟨y1, y2, y3, y4, y5⟩ := rd_all hr
    have y4 := y4 rfl
    have kk := k h1 (rd_kept hOO hF t0 fo fr) (fun c hc => fr c (by omega) (by omega))
    try dsimp only at kk
    obtain ⟨u, hu, fu⟩ := y3
    obtain ⟨v, hv, fv⟩ := y4
    have g1 := ol_gt_iff hu hv
    have g2 := ol_gt_iff hv hu
    rw [fu, fv] at g1 g2
    refine ⟨_, h1, rfl, rfl, fun _ => ⟨326, r1, r2.1, ?_⟩, fun c => absurd rfl c⟩
    refine c_sides (by omega) r2 C1 E1 ⟨u, hu, fu⟩ ⟨v, hv, fv⟩ (by omega) (by omega) (fun z => ⟨1, rfl, rfl, fun c => absurd c (by decide), fun _ => ?_⟩) (fun z => ⟨0, rfl, rfl, fun _ => ⟨327, r2.2.1, 330, r2.2.2.1, ?_⟩, fun c => absurd rfl c⟩)
    · rw [if_pos z] at kk; exact kk
    rw [if_neg z] at kk
    have sz : ot_sz u + ot_sz v ≤ 60 := by rw [ot_sz_fl, ot_sz_fl, fu, fv]; omega
    refine c_gt r2.2.2.2.1 r2.2.2.2.2 C1.1 E1.1 C1.2 E1.2 (by omega) (by omega) 60 u v 0 0 0 (d + 1) _ sz (by omega) (by omega) hu hv ⟨[], by rw [fu]; simp⟩ ⟨[], by rw [fv]; simp⟩ (fun w => ⟨1, rfl, rfl, fun c => absurd c (by decide), fun _ => ?_⟩) (fun w => ⟨0, rfl, rfl, fun _ => ?_, fun c => absurd rfl c⟩)
    · rw [if_pos (g1.mpr w)] at kk; exact kk
    rw [if_neg (fun y => w (g1.mp y))] at kk
    refine c_gt r2.2.2.2.2 r2.2.2.2.1 C1.2 E1.2 C1.1 E1.1 (by omega) (by omega) 60 v u 0 0 0 (d + 1) _ (by omega) (by omega) (by omega) hv hu ⟨[], by rw [fv]; simp⟩ ⟨[], by rw [fu]; simp⟩ (fun w2 => ⟨1, rfl, rfl, fun c => absurd c (by decide), fun _ => ?_⟩) (fun w2 => ⟨0, rfl, rfl, fun _ => ?_, fun c => absurd rfl c⟩)
    · rw [if_pos (g2.mpr w2)] at kk; exact kk
    · rw [if_neg (fun y => w2 (g2.mp y))] at kk; exact kk
theorem c_axm (hDD : 20 ≤ D) {π : Nat → Nat} {x : abF} (hO : OeS sh g π) (hF : OeF h π x) (hfull : x.2.2.1.length < 30)
    (k : ∀ h', OeF h' π (ab_axm x).2 → (∀ c, 348 ≤ c → h' c = h c) → Q (some (.inl (ab_axm x).1)) (sh, g, h')) : oe_M D 5 [.inr (.inl 0)] (sh, g, h) Q := by
  obtain ⟨d, rfl⟩ : ∃ d, D = d + 2 := ⟨D - 2, by omega⟩
  have hOO := hO
  obtain ⟨o0, _, ⟨w1, w2⟩, ⟨a1, a2⟩, _, _, ⟨r1, r2⟩, _, _, n1, n2⟩ := hO
  have wp : ∀ i, i < 30 → π i < 30 := fun i hi => (w2.2.2.2.2.1 i hi).1
  have T60 := hF.1.2.1
  unfold ab_axm at k
  refine g5 ⟨o0, 3, w1, w2.1, c_wFull (by omega) w2 hF.2.2.1 (fun _ => ⟨0, rfl, rfl, fun _ => ?_, fun c => absurd rfl c⟩) (fun c => by omega)⟩
  refine c_read (by omega) hOO hF.1 true true (fun i h1 hr t0 fo fr => ?_) (fun q h1 hr C1 E1 t0 fo fr => ?_)
  · rw [hr] at k
    have := rd_lt hr
    exact ⟨_, h1, rfl, rfl, fun c => by omega, fun _ => ⟨by unfold oe_rg; omega, k h1 (rd_kept hOO hF t0 fo fr) (fun c hc => fr c (by omega) (by omega))⟩⟩
  · rw [hr] at k
    try dsimp only at k
    obtain ⟨y1, y2, y3, y4, y5⟩ := rd_all hr
    have y4 := y4 rfl
    have F1 := rd_kept hOO hF t0 fo fr
    refine ⟨_, h1, rfl, rfl, fun _ => ⟨326, r1, r2.1, ?_⟩, fun c => absurd rfl c⟩
    refine c_weight (by omega) r2 C1 (by omega) (by omega) ⟨_, rfl, rfl, fun c2 => ⟨347, n1, ?_⟩, fun c2 => ?_⟩
    · rw [if_neg (show ¬ 20 < ol_w q by unfold ol_w; omega)] at k
      obtain ⟨z1, z2, z3, z4, z5, z6, z7⟩ := ol_nm_ok q
      have z8 := ol_nm_6 (rd_tm y1).2 (rd_tm y2).2
      refine c_name (by omega) r2 n2 (by omega) C1 E1 (by omega) (by omega) (fun h2 C2 E2 F2 => ⟨_, h2, rfl, rfl, ?_⟩)
      have K2 : OeK h2 π x.2.2 := F1.2.2.kept wp (by rw [F2 0 (by omega) (by omega)]) (by rw [F2 0 (by omega) (by omega)]) (fun c z1 z2 z3 => F2 c (by omega) (by omega))
      have qok : eq_ok (ol_nm q).1 := by
        obtain ⟨s, s1, s2⟩ := ol_tm_map z2.symm y3
        obtain ⟨t, t1, t2⟩ := ol_tm_map z3.symm y4
        refine ⟨⟨s, t, s1, t1, s2, t2⟩, by omega, fun c hc => ?_, fun c hc => ?_, fun c hc hc2 => ?_, fun c hc hc2 => ?_⟩
        · rcases z6 c hc with z | z
          · omega
          · exact (rd_tm y1).1 c z.2
        · rcases z7 c hc with z | z
          · omega
          · exact (rd_tm y2).1 c z.2
        · rcases z6 c hc with z | z <;> omega
        · rcases z7 c hc with z | z <;> omega
      refine c_wAppend (by omega) w2 K2.1 r2 (by omega) C2 E2 qok (by omega) hfull (fun h3 W3 F3 => ⟨h3, rfl, rfl, ?_⟩)
      have lw := W3.1
      rw [List.length_append] at lw
      have lw : h3 3 1 = ((x.2.2.1.length + 1 : Nat) : Int) := lw
      rw [lw]
      refine k h3 ⟨OeT_nil (by rw [F3 0 (by omega) (by omega), F2 0 (by omega) (by omega)]; exact t0), F1.2.1.kept (by rw [F3 0 (by omega) (by omega), F2 0 (by omega) (by omega)]) (by rw [F3 2 (by omega) (by omega), F2 2 (by omega) (by omega)]), W3, K2.2.1.kept (F3 _ (by omega) (by omega)) (F3 _ (by omega) (by omega)) (fun c z1 z2 => F3 c (by omega) (by omega)), K2.2.2.1.kept (by rw [F3 0 (by omega) (by omega)]) (fun c z1 z2 => F3 c (by omega) (by omega)), by rw [F3 0 (by omega) (by omega)]; exact K2.2.2.2⟩ (fun c hc => by rw [F3 c (by omega) (by omega), F2 c (by omega) (by omega), fr c (by omega) (by omega)])
    · rw [if_pos (show 20 < ol_w q by unfold ol_w; omega)] at k
      exact k h1 F1 (fun c hc => fr c (by omega) (by omega))
end
