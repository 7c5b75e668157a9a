/-! The reference: one overlap. -/
def og_seg (row : List Nat) (f : Nat) (w : List Nat) : Prop := ∃ x y, row = x ++ w ++ y ∧ x.length = f
theorem seg_le {row w : List Nat} {f : Nat} (s : og_seg row f w) : f + w.length ≤ row.length := by
  obtain ⟨x, y, rfl, rfl⟩ := s
  rw [List.length_append, List.length_append]; omega
theorem seg_dr {row w : List Nat} {f e : Nat} (s : og_seg row f w) (he : e ≤ w.length) : ∃ y, row.drop (f + e) = w.drop e ++ y := by
  obtain ⟨x, y, rfl, rfl⟩ := s
  exact ⟨y, by rw [List.append_assoc, ← List.drop_drop, List.drop_left, List.drop_append_of_le_length he]⟩
theorem seg_drop {row w : List Nat} {f e : Nat} (s : og_seg row f w) (he : e ≤ w.length) : ol_rg row (f + e) (f + w.length) = w.drop e := by
  obtain ⟨y, hy⟩ := seg_dr s he
  unfold ol_rg
  rw [hy, show f + w.length - (f + e) = (w.drop e).length by rw [List.length_drop]; omega, List.take_left]
theorem seg_rg {row w : List Nat} {f : Nat} (s : og_seg row f w) : ol_rg row f (f + w.length) = w := seg_drop (e := 0) s (Nat.zero_le _)
theorem seg_take {row w : List Nat} {f p : Nat} (s : og_seg row f w) (hp : p ≤ w.length) : ol_rg row f (f + p) = w.take p := by
  obtain ⟨y, hy⟩ := seg_dr (e := 0) s (Nat.zero_le _)
  unfold ol_rg
  rw [show row.drop f = w ++ y from hy, Nat.add_sub_cancel_left, List.take_append_of_le_length hp]
theorem seg_at {row w : List Nat} {f p : Nat} {t : oeT} (s : og_seg row f w) (hp : p ≤ w.length) (h : ot_at w p t) : ot_at row (f + p) t := by
  obtain ⟨x, y, rfl, rfl⟩ := s
  exact ot_at_in hp h
theorem seg_ok {row w : List Nat} {f : Nat} (s : og_seg row f w) (h : ol_ok row) : ol_ok w := by
  obtain ⟨x, y, rfl, rfl⟩ := s
  exact fun c hc => h c (List.mem_append_left _ (List.mem_append_right _ hc))
theorem seg_mem {row w : List Nat} {f : Nat} (s : og_seg row f w) {c : Nat} (hc : c ∈ w) : c ∈ row := by
  obtain ⟨x, y, rfl, rfl⟩ := s
  exact List.mem_append_left _ (List.mem_append_right _ hc)
theorem ab_keep_0 (eqs : List (List Nat × List Nat)) (s : List (List Nat × List Nat) × Nat) (x : List Nat × List Nat) : ab_keep eqs s (0, x) = s := by
  unfold ab_keep
  rw [if_neg (show ¬ ((0, x) : Nat × (List Nat × List Nat)).1 = 1 from fun c => absurd (show (0 : Nat) = 1 from c) (by decide)), if_neg (show ¬ ((0, x) : Nat × (List Nat × List Nat)).1 = 2 from fun c => absurd (show (0 : Nat) = 2 from c) (by decide))]
theorem ab_keep_1 (eqs : List (List Nat × List Nat)) (s : List (List Nat × List Nat) × Nat) (x : List Nat × List Nat) : ab_keep eqs s (1, x) = (s.1, s.2 + 1) := by
  unfold ab_keep
  rw [if_pos (show ((1, x) : Nat × (List Nat × List Nat)).1 = 1 from rfl)]
section
variable {D : Nat} {sh : List (Nat × Nat)} {g : Nat → Nat → Option Nat} {h : Nat → Nat → Int} {Q : oeQ}
set_option maxHeartbeats 2000000 in
theorem m_ovA {d : Nat} (hd : 16 ≤ d) {m : Nat} (hM : MdS sh g m) {ws eqs : List (List Nat × List Nat)} {lost : Nat} (C : MdC h m ws eqs lost) (hlb : lost < 2000000000) {row L R M N : List Nat} (hl : row.length ≤ 64) (ok : ol_ok row) (RR : MR h (m + 22) row) {lp rp mp np p : Nat} (sL : og_seg row lp L) (sR : og_seg row rp R) (sM : og_seg row mp M) (sN : og_seg row np N) (tL : ol_tm L) (tR : ol_tm R) (tM : ol_tm M) (tN : ol_tm N) (hp : p < M.length)
    (k : ∀ h', MdC h' m (ab_keep eqs (ws, lost) (ol_ov L R M N p)).1 eqs (ab_keep eqs (ws, lost) (ol_ov L R M N p)).2 → md_fk m h h' → Q none (sh, g, h')) :
    oe_V (oe_cost 65) 65 (oe_M (d + 1)) none Q 267 [some (.inr (.inl m)), none, none, none, none, some (.inl (p : Int)), none, some (.inl (lp : Int)), some (.inl ((lp + L.length : Nat) : Int)), some (.inl (rp : Int)), some (.inl ((rp + R.length : Nat) : Int)), some (.inl (mp : Int)), some (.inl ((mp + M.length : Nat) : Int)), some (.inl (np : Int)), none, none, none, none] [.inl ((np + N.length : Nat) : Int)] (sh, g, h) 0 0 := by
  have lL := seg_le sL
  have lR := seg_le sR
  have lM := seg_le sM
  have lN := seg_le sN
  have rgL := seg_rg sL
  have rgR := seg_rg sR
  have rgM := seg_rg sM
  have rgN := seg_rg sN
  have acS := md_18 hM
  have acN := md_19 hM
  have ac26 := md_39 hM
  have ac29 := md_43 hM
  have ac30 := md_44 hM
  obtain ⟨wL, fL⟩ := ol_tr_ok tL
  obtain ⟨wM, fM⟩ := ol_tr_ok tM
  obtain ⟨S, wS, aS⟩ := ot_every (ol_tr M) M 0 wM ⟨[], by rw [fM]; simp⟩ p (Nat.zero_le _) (by rw [fM]; omega)
  have sS := ot_at_sub wS aS
  have eS := ot_at_en wS aS
  have atS := seg_at sM (by omega) aS
  have atL : ot_at row lp (ol_tr L) := seg_at (p := 0) sL (Nat.zero_le _) ⟨[], by rw [fL]; simp⟩
  refine g65_267 ⟨by unfold oe_rg; omega, hM.1, ?_⟩
  rw [show (mp : Int) + (p : Int) = ((mp + p : Nat) : Int) by omega]
  refine m_isUnified (by omega) hM hl ok RR (mp + p) lp S (ol_tr L) atS atL wS wL (fun σ r h1 hou H V1 F1 => ⟨1, h1, rfl, rfl, fun _ => ?_, fun c => absurd c (by decide)⟩) (fun hou h1 F1 => ⟨0, h1, rfl, rfl, fun c => absurd rfl c, fun _ => ?_⟩)
  rotate_left
  · have ov : ol_ov L R M N p = (0, ([], [])) := ol_ov_none (by rw [sS, ol_tr_fl wS]; exact hou)
    rw [ov, ab_keep_0] at k
    exact k h1 (C.fx (md_fu_x F1)) (md_fx_k (md_fu_x F1))
  have ov := ol_ov_some (r := R) (n := N) (show ou 300 (fun _ => none) [(ol_tr (ol_sub M p), ol_tr L)] = some σ by rw [sS, ol_tr_fl wS]; exact hou)
  have XS : ou_X σ (ot_fl S) = ou_X σ L := by
    have := (ou_sound 300 _ σ [(S, ol_tr L)] (fun _ => 0) (fun c u hc => by cases hc) (fun x hx => by rw [List.mem_singleton.mp hx]; exact ⟨wS, wL⟩) hou).2.2 (S, ol_tr L) (List.mem_singleton.mpr rfl)
    rw [show (S, ol_tr L).1 = S from rfl, show (S, ol_tr L).2 = ol_tr L from rfl, fL] at this
    exact this
  have X1 := md_fu_x F1
  have tXL := ou_X_tm H tL
  have tXR := ou_X_tm H tR
  have tXM := ou_X_tm H tM
  have tXN := ou_X_tm H tN
  have oX : ∀ {w : List Nat}, (∀ c ∈ w, c ∈ row) → ol_ok (ou_X σ w) := fun hw c hc => ok c (ou_X_all V1 H hw hc)
  have rowk : ∀ {h' : Nat → Nat → Int}, md_fx m h h' → MR h' (m + 22) row := fun f => RR.kept (f.1 _ (by omega))
  -- too heavy
  have lostk : ∀ h' : Nat → Nat → Int, md_fx m h h' → (30 < (ou_X σ L).length ∨ 30 < (ou_X σ R).length ∨ 30 < (ou_X σ M).length ∨ 30 < (ou_X σ N).length) →
      oe_V (oe_cost 65) 65 (oe_M (d + 1)) none Q 341 [some (.inr (.inl m)), none, none, none, none, none, none, none, none, some (.inl (rp : Int)), some (.inl ((rp + R.length : Nat) : Int)), some (.inl (mp : Int)), some (.inl ((mp + M.length : Nat) : Int)), none, none, some (.inl ((mp + p : Nat) : Int)), none, none] [.inl 0] (sh, g, h') 0 0 := by
    intro h' f' hz
    have C' := C.fx f'
    refine g65_341 ⟨fun c => absurd rfl c, fun _ => ⟨hM.1, by rw [C'.2.2.2.2.2.2]; unfold oe_rg; omega, fun h'' e => ?_⟩⟩
    have ov2 : ol_ov L R M N p = (1, ([], [])) := ov.trans (if_pos hz)
    rw [ov2, ab_keep_1] at k
    exact k h'' (C'.lost e) (md_fk_tr (md_fx_k f') (md_fk_lost e))
  refine m_takeDown (n := 0) (by omega) hM hl ok (rowk X1) V1 H lp (lp + L.length) (by omega) (by omega) lL (fun b1 h2 I0 J0 F2 v2 P2 Q2 => ⟨1, h2, rfl, rfl, fun c => absurd c (by decide), fun _ => ?_⟩) (fun b1 h2 F2 => ⟨0, h2, rfl, rfl, fun _ => lostk h2 (md_fx_tr X1 F2) (Or.inl (by rw [rgL] at b1; exact b1)), fun c => absurd rfl c⟩)
  rw [rgL] at b1 I0 J0
  have X2 := md_fx_tr X1 F2
  have V2 : UnV h2 (m + 23) row σ := V1.kept v2
  refine m_takeDown (n := 1) (by omega) hM hl ok (rowk X2) V2 H rp (rp + R.length) (by omega) (by omega) lR (fun b2 h3 I1 J1 F3 v3 P3 Q3 => ⟨1, h3, rfl, rfl, fun c => absurd c (by decide), fun _ => ?_⟩) (fun b2 h3 F3 => ⟨0, h3, rfl, rfl, fun _ => lostk h3 (md_fx_tr X2 F3) (Or.inr (Or.inl (by rw [rgR] at b2; exact b2))), fun c => absurd rfl c⟩)
  rw [rgR] at b2 I1 J1
  have X3 := md_fx_tr X2 F3
  have V3 : UnV h3 (m + 23) row σ := V2.kept v3
  refine m_takeDown (n := 2) (by omega) hM hl ok (rowk X3) V3 H mp (mp + M.length) (by omega) (by omega) lM (fun b3 h4 I2 J2 F4 v4 P4 Q4 => ⟨1, h4, rfl, rfl, fun c => absurd c (by decide), fun _ => ?_⟩) (fun b3 h4 F4 => ⟨0, h4, rfl, rfl, fun _ => lostk h4 (md_fx_tr X3 F4) (Or.inr (Or.inr (Or.inl (by rw [rgM] at b3; exact b3)))), fun c => absurd rfl c⟩)
  rw [rgM] at b3 I2 J2
  have X4 := md_fx_tr X3 F4
  have V4 : UnV h4 (m + 23) row σ := V3.kept v4
  refine m_takeDown (n := 3) (by omega) hM hl ok (rowk X4) V4 H np (np + N.length) (by omega) (by omega) lN (fun b4 h5 I3 J3 F5 v5 P5 Q5 => ⟨1, h5, rfl, rfl, fun c => absurd c (by decide), fun _ => ?_⟩) (fun b4 h5 F5 => ⟨0, h5, rfl, rfl, fun _ => lostk h5 (md_fx_tr X4 F5) (Or.inr (Or.inr (Or.inr (by rw [rgN] at b4; exact b4)))), fun c => absurd rfl c⟩)
  rw [rgN] at b4 I3 J3
  have X5 := md_fx_tr X4 F5
  have V5 : UnV h5 (m + 23) row σ := V4.kept v5
  have oXL := oX (fun c hc => seg_mem sL hc)
  have oXR := oX (fun c hc => seg_mem sR hc)
  have oXM := oX (fun c hc => seg_mem sM hc)
  have oXN := oX (fun c hc => seg_mem sN hc)
  have I0' : MA h5 (m + 29) (32 * 0) (ou_X σ L) := fun i hi => by rw [P5 _ (by omega), P4 _ (by omega), P3 _ (by omega)]; exact I0 i hi
  have I1' : MA h5 (m + 29) (32 * 1) (ou_X σ R) := fun i hi => by rw [P5 _ (by omega), P4 _ (by omega)]; exact I1 i hi
  have I2' : MA h5 (m + 29) (32 * 2) (ou_X σ M) := fun i hi => by rw [P5 _ (by omega)]; exact I2 i hi
  have J0' : h5 (m + 30) 0 = (((ou_X σ L).length : Nat) : Int) := by rw [Q5 _ (by omega), Q4 _ (by omega), Q3 _ (by omega)]; exact J0
  have J1' : h5 (m + 30) 1 = (((ou_X σ R).length : Nat) : Int) := by rw [Q5 _ (by omega), Q4 _ (by omega)]; exact J1
  have J2' : h5 (m + 30) 2 = (((ou_X σ M).length : Nat) : Int) := by rw [Q5 _ (by omega)]; exact J2
  have ovA := ov.trans (if_neg (by omega))
  have noth : ∀ h' : Nat → Nat → Int, md_fx m h h' → ((ou_X σ L = ou_X σ R ∨ ol_gt (ou_X σ R) (ou_X σ L)) ∨ (ou_X σ M = ou_X σ N ∨ ol_gt (ou_X σ N) (ou_X σ M))) → Q none (sh, g, h') := by
    intro h' f' hz
    have ov2 : ol_ov L R M N p = (0, ([], [])) := ovA.trans (if_pos hz)
    rw [ov2, ab_keep_0] at k
    exact k h' (C.fx f') (md_fx_k f')
  refine g65_341 ⟨fun _ => ⟨hM.1, ?_⟩, fun c => absurd c (by decide)⟩
  refine m_notLess (a := 1) (b := 0) (by omega) hM (by omega) (by omega) tXR tXL b2 b1 oXR oXL I1' J1' I0' J0' (fun z h6 F6 G6 => ⟨1, h6, rfl, rfl, fun _ => noth h6 (md_fx_tr X5 F6) (Or.inl z), fun c => absurd c (by decide)⟩) (fun z1 h6 F6 G6 => ⟨0, h6, rfl, rfl, fun c => absurd rfl c, fun _ => ?_⟩)
  have X6 := md_fx_tr X5 F6
  refine m_notLess (a := 3) (b := 2) (by omega) hM (by omega) (by omega) tXN tXM b4 b3 oXN oXM (fun i hi => by rw [G6 _ (by omega) (by omega)]; exact I3 i hi) (by rw [G6 _ (by omega) (by omega)]; exact J3) (fun i hi => by rw [G6 _ (by omega) (by omega)]; exact I2' i hi) (by rw [G6 _ (by omega) (by omega)]; exact J2') (fun z h7 F7 G7 => ⟨1, h7, rfl, rfl, fun c => absurd c (by decide), fun _ => noth h7 (md_fx_tr X6 F7) (Or.inr z)⟩) (fun z2 h7 F7 G7 => ⟨0, h7, rfl, rfl, fun _ h8 e8 => ?_, fun c => absurd rfl c⟩)
  have X7 := md_fx_tr X6 F7
  have ovB := ovA.trans (if_neg (fun z => by rcases z with z | z; exact z1 z; exact z2 z))
  have E8 : md_fo m h7 h8 := ⟨fun c z1 _ _ _ => by rw [e8, up_ne z1], fun j z => by rw [e8, up_col z]⟩
  have X8 := md_fx_tr X7 (md_fo_x E8)
  have V8 : UnV h8 (m + 23) row σ := V5.kept (by rw [E8.1 _ (by omega) (by omega) (by omega) (by omega), G7 _ (by omega) (by omega), G6 _ (by omega) (by omega)])
  have Msplit : M = M.take p ++ (ot_fl S ++ M.drop (ol_en M p)) := by
    obtain ⟨rest, hrest⟩ := aS
    rw [eS, ← List.drop_drop, hrest, List.drop_left, ← hrest, List.take_append_drop]
  have XM : ou_X σ M = ou_X σ (M.take p) ++ (ou_X σ (ot_fl S) ++ ou_X σ (M.drop (ol_en M p))) := by
    rw [← ou_X_app, ← ou_X_app, ← Msplit]
  have XMl : (ou_X σ M).length = (ou_X σ (M.take p)).length + ((ou_X σ (ot_fl S)).length + (ou_X σ (M.drop (ol_en M p))).length) := by
    rw [XM, List.length_append, List.length_append]
  rw [XS] at XMl
  have lost2 : ∀ h' h'' : Nat → Nat → Int, md_fx m h h' → h'' = oe_up h' m 16 (h' m 16 + 1) → 30 + (ou_X σ L).length < (ou_X σ M).length + (ou_X σ R).length → Q none (sh, g, h'') := by
    intro h' h'' f' e hz
    have ov2 : ol_ov L R M N p = (1, ([], [])) := ovB.trans (if_pos hz)
    rw [ov2, ab_keep_1] at k
    exact k h'' ((C.fx f').lost e) (md_fk_tr (md_fx_k f') (md_fk_lost e))
  have rgT := seg_take sM (p := p) (by omega)
  have enM : ol_en M p ≤ M.length := ol_en_le (by omega)
  have rgD := seg_drop sM (e := ol_en M p) enM
  have enR : ol_en row (mp + p) = mp + ol_en M p := by rw [ot_at_en wS atS, eS]; omega
  have lk : ∀ h' : Nat → Nat → Int, md_fx m h h' → oe_rg (h' m 16 + 1) := fun h' f' => by rw [(C.fx f').2.2.2.2.2.2]; unfold oe_rg; omega
  refine m_putIn (out := []) (lim := 30) (by omega) hM hl ok (rowk X8) V8 H mp (mp + p) (by omega) (by omega) (by omega) (fun i hi => by cases hi) (by rw [e8, up_eq]; rfl) (Nat.zero_le _) (fun a1 h9 C9 n9 F9 => ⟨1, h9, rfl, rfl, fun c => absurd c (by decide), fun _ => ?_⟩) (fun a1 h9 n9 F9 => ⟨0, h9, rfl, rfl, fun _ => ⟨lk h9 (md_fx_tr X8 (md_fo_x F9)), fun h10 e10 => lost2 h9 h10 (md_fx_tr X8 (md_fo_x F9)) e10 ?_⟩, fun c => absurd rfl c⟩)
  rotate_left
  · rw [rgT, List.length_nil] at a1; omega
  rw [rgT, List.length_nil] at a1
  rw [rgT, List.nil_append] at C9 n9
  have X9 := md_fx_tr X8 (md_fo_x F9)
  refine m_putIn (lim := 30) (by omega) hM hl ok (rowk X9) (V8.kept (F9.1 _ (by omega) (by omega) (by omega) (by omega))) H rp (rp + R.length) (by omega) (by omega) lR C9 n9 (by omega) (fun a2 h10 C10 n10 F10 => ⟨1, h10, rfl, rfl, fun c => absurd c (by decide), fun _ => ?_⟩) (fun a2 h10 n10 F10 => ⟨0, h10, rfl, rfl, fun _ => ⟨lk h10 (md_fx_tr X9 (md_fo_x F10)), fun h11 e11 => lost2 h10 h11 (md_fx_tr X9 (md_fo_x F10)) e11 ?_⟩, fun c => absurd rfl c⟩)
  rotate_left
  · rw [rgR] at a2; omega
  rw [rgR] at a2 C10 n10
  have X10 := md_fx_tr X9 (md_fo_x F10)
  refine m_behindR (by omega) hM hl ok (rowk X10) (mp + p) wS atS ⟨_, rfl, rfl, ?_⟩
  rw [enR]
  refine m_putIn (lim := 30) (by omega) hM hl ok (rowk X10) (V8.kept (by rw [F10.1 _ (by omega) (by omega) (by omega) (by omega), F9.1 _ (by omega) (by omega) (by omega) (by omega)])) H (mp + ol_en M p) (mp + M.length) (by omega) (by omega) lM C10 n10 (by rw [List.length_append]; exact a2) (fun a3 h11 C11 n11 F11 => ⟨1, h11, rfl, rfl, fun _ => ⟨m + 11, acN.1, 6, acN.2, by omega, by omega, fun h12 e12 => ?_⟩, fun c => absurd c (by decide)⟩) (fun a3 h11 n11 F11 => ⟨0, h11, rfl, rfl, fun c => absurd rfl c, fun _ => ⟨lk h11 (md_fx_tr X10 (md_fo_x F11)), fun h12 e12 => lost2 h11 h12 (md_fx_tr X10 (md_fo_x F11)) e12 ?_⟩⟩)
  rotate_left
  · rw [rgD, List.length_append] at a3; omega
  rw [rgD] at a3 C11 n11
  rw [List.length_append] at a3
  have X11 := md_fx_tr X10 (md_fo_x F11)
  have ovC := ovB.trans (if_neg (by omega))
  have good := ol_ov_ok tL tR tM tN (seg_ok sL ok) (seg_ok sR ok) (seg_ok sM ok) (seg_ok sN ok) hp (by rw [ovC])
  rw [ovC] at good k
  have I3' : MA h11 (m + 29) 96 (ou_X σ N) := fun i hi => by rw [F11.1 _ (by omega) (by omega) (by omega) (by omega), F10.1 _ (by omega) (by omega) (by omega) (by omega), F9.1 _ (by omega) (by omega) (by omega) (by omega), E8.1 _ (by omega) (by omega) (by omega) (by omega), G7 _ (by omega) (by omega), G6 _ (by omega) (by omega)]; exact I3 i hi
  have J3' : h11 (m + 30) 3 = (((ou_X σ N).length : Nat) : Int) := by rw [F11.1 _ (by omega) (by omega) (by omega) (by omega), F10.1 _ (by omega) (by omega) (by omega) (by omega), F9.1 _ (by omega) (by omega) (by omega) (by omega), E8.1 _ (by omega) (by omega) (by omega) (by omega), G7 _ (by omega) (by omega), G6 _ (by omega) (by omega)]; exact J3
  have C11' := C.fx X11
  have K11 := md_fx_k X11
  have plen : (ou_X σ (M.take p) ++ ou_X σ R ++ ou_X σ (M.drop (ol_en M p))).length ≤ 30 := by rw [List.length_append, List.length_append]; omega
  generalize ou_X σ (M.take p) ++ ou_X σ R ++ ou_X σ (M.drop (ol_en M p)) = P at *
  generalize ou_X σ N = XN at *
  have loop2 : ∀ (n i : Nat) (h2 : Nat → Nat → Int), XN.length - i = n → i ≤ XN.length → SD h2 m 2 P → h2 (m + 11) 3 = ((XN.length : Nat) : Int) → (∀ j, j < i → h2 (m + 10) (120 + j) = om (XN.getD j 0)) → (∀ c, c ≠ m + 10 → c ≠ m + 11 → h2 c = h11 c) → (∀ j, j < 80 → h2 (m + 10) j = h11 (m + 10) j) → (∀ j, j < 2 → h2 (m + 11) j = h11 (m + 11) j) →
      oe_V (oe_cost 65) 65 (oe_M (d + 1)) none Q 497 [some (.inr (.inl m)), none, none, none, none, none, none, none, none, none, none, none, none, none, none, none, none, some (.inl (i : Int))] [] (sh, g, h2) 0 0 := by
    intro n
    induction n with
    | zero =>
      intro i h2 hn hi S2 n3 P2 F2 G2 H2
      refine g65_497 ⟨hM.1, m + 11, acN.1, 6, acN.2, by omega, by omega, fun _ => ?_, fun c => by rw [n3] at c; omega⟩
      have C2 : MdC h2 m ws eqs lost := C11'.kept (fun c z1 z2 => F2 c (by omega) (by omega)) (by rw [F2 m (by omega) (by omega)]) (by rw [F2 m (by omega) (by omega)]) (by rw [F2 m (by omega) (by omega)])
      refine m_newPair (q := (P, XN)) (by omega) hM C2 hlb S2 ⟨n3, fun j hj => P2 j (by have hj : j < XN.length := hj; omega)⟩ good.1 good.2 (fun h3 C3 K3 => ⟨h3, rfl, rfl, k h3 C3 (md_fk_tr K11 (md_fk_tr (h' := h2) ⟨fun c z => F2 c (by omega) (by omega), G2, H2, fun j _ => by rw [F2 m (by omega) (by omega)]⟩ K3))⟩)
    | succ n ih =>
      intro i h2 hn hi S2 n3 P2 F2 G2 H2
      have lXN : XN.length ≤ 30 := b4
      refine g65_497 ⟨hM.1, m + 11, acN.1, 6, acN.2, by omega, by omega, fun c => by rw [n3] at c; omega, fun _ => ⟨m + 10, acS.1, by unfold oe_rg; omega, m + 29, ac29.1, by unfold oe_rg; omega, 128, ac29.2, by omega, by omega, 240, acS.2, by omega, by omega, fun h3 e3 => ⟨by unfold oe_rg; omega, ?_⟩⟩⟩
      rw [show (120 + (i : Int)).toNat = 120 + i by omega, show (96 + (i : Int)).toNat = 96 + i by omega, F2 (m + 29) (by omega) (by omega), I3' i (by omega)] at e3
      rw [show (i : Int) + 1 = ((i + 1 : Nat) : Int) by omega]
      refine ih (i + 1) h3 (by omega) (by omega) (S2.kept (by rw [e3, up_ne (by omega)]) (fun j hj => by rw [e3, up_col (by omega)])) (by rw [e3, up_ne (by omega)]; exact n3) (fun j hj => ?_) (fun c z1 z2 => by rw [e3, up_ne z1]; exact F2 c z1 z2) (fun j hj => by rw [e3, up_col (by omega)]; exact G2 j hj) (fun j hj => by rw [e3, up_ne (by omega)]; exact H2 j hj)
      by_cases ej : j = i
      · subst ej; rw [e3, up_eq]
      · rw [e3, up_col (by omega)]; exact P2 j (by omega)
  have loop1 : ∀ (n i : Nat) (h2 : Nat → Nat → Int), P.length - i = n → i ≤ P.length → h2 (m + 11) 2 = ((P.length : Nat) : Int) → (∀ j, j < i → h2 (m + 10) (80 + j) = om (P.getD j 0)) → (∀ c, c ≠ m + 10 → c ≠ m + 11 → h2 c = h11 c) → (∀ j, j < 80 → h2 (m + 10) j = h11 (m + 10) j) → (∀ j, j < 2 → h2 (m + 11) j = h11 (m + 11) j) →
      oe_V (oe_cost 65) 65 (oe_M (d + 1)) none Q 450 [some (.inr (.inl m)), none, none, none, none, none, none, none, none, none, none, none, none, none, none, none, none, some (.inl (i : Int))] [] (sh, g, h2) 0 0 := by
    intro n
    induction n with
    | zero =>
      intro i h2 hn hi n2 P2 F2 G2 H2
      have o2 : h2 m 40 = ((P.length : Nat) : Int) := by rw [F2 m (by omega) (by omega)]; exact n11
      have j2 : h2 (m + 30) 3 = ((XN.length : Nat) : Int) := by rw [F2 _ (by omega) (by omega)]; exact J3'
      refine g65_450 ⟨hM.1, fun _ => ⟨m + 11, acN.1, m + 30, ac30.1, 4, ac30.2, by omega, by omega, 6, acN.2, by omega, by omega, fun h3 e3 => ?_⟩, fun c => by rw [o2] at c; omega⟩
      rw [j2] at e3
      refine loop2 _ 0 h3 rfl (Nat.zero_le _) ⟨by rw [e3, up_col (by omega)]; exact n2, fun j hj => by rw [e3, up_ne (by omega)]; exact P2 j (by omega)⟩ (by rw [e3, up_eq]) (fun j hj => by omega) (fun c z1 z2 => by rw [e3, up_ne z2]; exact F2 c z1 z2) (fun j hj => by rw [e3, up_ne (by omega)]; exact G2 j hj) (fun j hj => by rw [e3, up_col (by omega)]; exact H2 j hj)
    | succ n ih =>
      intro i h2 hn hi n2 P2 F2 G2 H2
      have o2 : h2 m 40 = ((P.length : Nat) : Int) := by rw [F2 m (by omega) (by omega)]; exact n11
      refine g65_450 ⟨hM.1, fun c => by rw [o2] at c; omega, fun _ => ⟨m + 10, acS.1, by unfold oe_rg; omega, m + 26, ac26.1, 320, ac26.2, by omega, by omega, 240, acS.2, by omega, by omega, fun h3 e3 => ⟨by unfold oe_rg; omega, ?_⟩⟩⟩
      rw [show (80 + (i : Int)).toNat = 80 + i by omega, Int.toNat_natCast, F2 (m + 26) (by omega) (by omega), C11 i (by omega)] at e3
      rw [show (i : Int) + 1 = ((i + 1 : Nat) : Int) by omega]
      refine ih (i + 1) h3 (by omega) (by omega) (by rw [e3, up_ne (by omega)]; exact n2) (fun j hj => ?_) (fun c z1 z2 => by rw [e3, up_ne z1]; exact F2 c z1 z2) (fun j hj => by rw [e3, up_col (by omega)]; exact G2 j hj) (fun j hj => by rw [e3, up_ne (by omega)]; exact H2 j hj)
      by_cases ej : j = i
      · subst ej; rw [e3, up_eq]
      · rw [e3, up_col (by omega)]; exact P2 j (by omega)
  rw [n11] at e12
  exact loop1 _ 0 h12 rfl (Nat.zero_le _) (by rw [e12]; exact up_eq) (fun j hj => by omega) (fun c z1 z2 => by rw [e12, up_ne z2]) (fun j hj => by rw [e12, up_ne (by omega)]) (fun j hj => by rw [e12, up_col (by omega)])
end
