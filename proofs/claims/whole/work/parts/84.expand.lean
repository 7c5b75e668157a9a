/-! Contracts of the unifier (class): putting in all values; looking along values. -/
def UnS (sh : List (Nat × Nat)) (g : Nat → Nat → Option Nat) (U : Nat) : Prop := sh[U]? = some (10, 8) ∧ g U 0 = some (U + 1) ∧ LtS sh g (U + 1) 60 ∧ g U 1 = some (U + 4) ∧ sh[U + 4]? = some (0, 12) ∧ g U 2 = some (U + 5) ∧ sh[U + 5]? = some (0, 302) ∧ g U 3 = some (U + 6) ∧ sh[U + 6]? = some (0, 302) ∧ g U 5 = some (U + 7) ∧ LtS sh g (U + 7) 300 ∧ g U 6 = some (U + 10) ∧ sh[U + 10]? = some (0, 13) ∧ g U 7 = some (U + 11) ∧ sh[U + 11]? = some (0, 13)
def UnR (h : Nat → Nat → Int) (U : Nat) (rw_ : List Nat) : Prop := LtC h (U + 1) rw_ ∧ LtE h (U + 1) rw_ ∧ rw_.length ≤ 60
def rw_ok (l : List Nat) : Prop := ∀ p, p < l.length → ∃ t, ot_wf t ∧ ot_at l p t
def UnV (h : Nat → Nat → Int) (V : Nat) (l : List Nat) (σ : Nat → Option oeT) : Prop := ∀ v, v < 12 → (h V v = -1 ∧ σ v = none) ∨ ∃ (p : Nat) (t : oeT), h V v = (p : Int) ∧ p < l.length ∧ σ v = some t ∧ ot_wf t ∧ ot_at l p t
def ol_rg (l : List Nat) (f t : Nat) : List Nat := (l.drop f).take (t - f)
theorem ol_rg_nil (l : List Nat) (f : Nat) : ol_rg l f f = [] := by unfold ol_rg; rw [Nat.sub_self]; simp
theorem ol_rg_cons {l : List Nat} {f t : Nat} (h : f < t) (ht : t ≤ l.length) : ol_rg l f t = l.getD f 0 :: ol_rg l (f + 1) t := by
  unfold ol_rg
  rw [ol_drop_cons (by omega), show t - f = (t - (f + 1)) + 1 by omega, List.take_succ_cons]
theorem ol_rg_sub (l : List Nat) (p : Nat) : ol_rg l p (ol_en l p) = ol_sub l p := by
  unfold ol_rg ol_sub ol_en
  rw [Nat.add_sub_cancel_left]
theorem xb1 {K T o lim B : Nat} (h : T + K * (lim - o + 1) < B) (ho : o < lim) (hK : 1 ≤ K) : T + 1 + K * (lim - (o + 1) + 1) < B := by
  rw [show lim - o + 1 = (lim - (o + 1) + 1) + 1 by omega, Nat.mul_add K (lim - (o + 1) + 1) 1, Nat.mul_one] at h
  omega
theorem xb2 {n T x B : Nat} (h : T + (2 * (n + 1) + 1) * (x + 1) < B) : T + 1 + (2 * n + 1) * (x + 1) < B := by
  rw [show 2 * (n + 1) + 1 = (2 * n + 1) + 2 by omega, Nat.add_mul] at h
  omega
theorem xb3 {n T T1 a : Nat} (h : T1 ≤ T + 1 + (2 * n + 1) * a) (ha : 1 ≤ a) : T1 + 1 ≤ T + (2 * (n + 1) + 1) * a := by
  rw [show 2 * (n + 1) + 1 = (2 * n + 1) + 2 by omega, Nat.add_mul]
  omega
theorem xb4 {K T T1 a o lim B : Nat} (h : T1 ≤ T + K * a) (hb : T + K * (lim - o + 1) < B) (ho : o + a ≤ lim) : T1 + K * (lim - (o + a) + 1) < B := by
  rw [show lim - o + 1 = (lim - (o + a) + 1) + a by omega, Nat.mul_add K (lim - (o + a) + 1) a] at hb
  omega
section
variable {D : Nat} {sh : List (Nat × Nat)} {g : Nat → Nat → Option Nat} {h : Nat → Nat → Int} {Q : oeQ}
set_option maxHeartbeats 1000000 in
theorem x_run {d0 : Nat} (hd : 1 ≤ d0) {U : Nat} {l : List Nat} {σ : Nat → Option oeT} {r : Nat → Nat} (hS : UnS sh g U) (hR : UnR h U l) (hV : UnV h (U + 4) l σ) (H : ua σ r) (lim : Nat) (hlim : lim ≤ 300) : ∀ (n m f t d T : Nat) (out : List Nat) (h1 : Nat → Nat → Int), t - f = m → f ≤ t → t ≤ l.length → n + d = 12 → (∀ c ∈ ol_rg l f t, ∀ u, σ c = some u → r c < n) → LtC h1 (U + 7) out → out.length ≤ lim → T + (2 * n + 1) * (lim - out.length + 1) < 900000 → h1 (U + 10) d = (f : Int) → h1 (U + 11) d = (t : Int) → (∀ c, c ≠ U + 7 → c ≠ U + 8 → c ≠ U + 10 → c ≠ U + 11 → h1 c = h c) →
    (∀ (h2 : Nat → Nat → Int) (T' : Nat), out.length + (ou_X σ (ol_rg l f t)).length ≤ lim → LtC h2 (U + 7) (out ++ ou_X σ (ol_rg l f t)) → h2 (U + 10) d = (t : Int) → h2 (U + 11) d = (t : Int) → (∀ j, j < d → h2 (U + 10) j = h1 (U + 10) j ∧ h2 (U + 11) j = h1 (U + 11) j) → (∀ c, c ≠ U + 7 → c ≠ U + 8 → c ≠ U + 10 → c ≠ U + 11 → h2 c = h c) → T' ≤ T + (2 * n + 1) * (ou_X σ (ol_rg l f t)).length →
      oe_V (oe_cost 124) 124 (oe_M (d0 + 1)) none Q 27 [some (.inr (.inl U)), none, none, some (.inl (lim : Int)), some (.inl (d : Int)), some (.inl (T' : Int)), none, none] [] (sh, g, h2) 0 0) →
    (lim < out.length + (ou_X σ (ol_rg l f t)).length → ∀ h2 : Nat → Nat → Int, (∀ c, c ≠ U + 7 → c ≠ U + 8 → c ≠ U + 10 → c ≠ U + 11 → h2 c = h c) → Q (some (.inl 0)) (sh, g, h2)) →
    oe_V (oe_cost 124) 124 (oe_M (d0 + 1)) none Q 27 [some (.inr (.inl U)), none, none, some (.inl (lim : Int)), some (.inl (d : Int)), some (.inl (T : Int)), none, none] [] (sh, g, h1) 0 0 := by
  obtain ⟨s0, s1, s2, s3, s4, s5, s6, s7, s8, s9, s10, s11, s12, s13, s14⟩ := hS
  obtain ⟨rC, rE, r60⟩ := hR
  intro n
  induction n with
  | zero =>
    -- no variable with a value is left
    intro m
    induction m with
    | zero =>
      intro f t d T out h1 hm hf ht hn hr hC ho hb e1 e2 hF K1 K0
      have : f = t := by omega
      subst this
      rw [ol_rg_nil, ou_X_nil] at K1
      exact K1 h1 T (by simpa using ho) (by simpa using hC) e1 e2 (fun j _ => ⟨rfl, rfl⟩) hF (by simp)
    | succ m ihm =>
      intro f t d T out h1 hm hf ht hn hr hC ho hb e1 e2 hF K1 K0
      have hft : f < t := by omega
      have hc := ol_rg_cons hft ht
      rw [hc] at hr K1 K0
      rw [ou_X_cons] at K1 K0
      have ec : h1 (U + 2) f = ((l.getD f 0 : Nat) : Int) := by rw [hF (U + 2) (by omega) (by omega) (by omega) (by omega)]; exact rC.2 f (by omega)
      generalize hcc : l.getD f 0 = c at *
      have hun : σ c = none := by
        cases hs : σ c with
        | none => rfl
        | some u => have := hr c List.mem_cons_self u hs; omega
      rw [ou_X_0 hun] at K1 K0
      have at109 : ∀ h2 : Nat → Nat → Int, h2 = oe_up h1 (U + 10) d ((f : Int) + 1) → oe_V (oe_cost 124) 124 (oe_M (d0 + 1)) none Q 109 [some (.inr (.inl U)), none, none, some (.inl (lim : Int)), some (.inl (d : Int)), some (.inl (T : Int)), some (.inl (c : Int)), none] [.inl (-1)] (sh, g, h2) 0 0 := by
        intro h2 he
        have hC2 : LtC h2 (U + 7) out := hC.kept (by rw [he, up_ne (by omega)]) (by rw [he, up_ne (by omega)])
        have hF2 : ∀ c, c ≠ U + 7 → c ≠ U + 8 → c ≠ U + 10 → c ≠ U + 11 → h2 c = h c := fun c b1 b2 b3 b4 => by rw [he, up_ne b3, hF c b1 b2 b3 b4]
        refine g124_109 ⟨fun _ => ⟨s0, U + 7, s9, s10.1, fun c1 => ?_, fun c1 => ?_⟩, fun q => absurd rfl q⟩
        · rw [hC2.1] at c1
          have hol : out.length < lim := by omega
          refine c_append (by omega) s10 hC2 (by omega) c (fun h3 hC3 hF3 => ⟨h3, rfl, rfl, by unfold oe_rg; omega, ?_⟩)
          have T1 : ((T : Int) + 1) = ((T + 1 : Nat) : Int) := by omega
          rw [T1]
          refine ihm (f + 1) t d (T + 1) (out ++ [c]) h3 (by omega) (by omega) ht hn (fun x hx => hr x (List.mem_cons_of_mem _ hx)) hC3 (by simp; omega) (by
            rw [List.length_append]; exact xb1 hb hol (by omega)) ?_ ?_ (fun x b1 b2 b3 b4 => by rw [hF3 x b1 b2, hF2 x b1 b2 b3 b4]) (fun h4 T' a1 a2 a3 a4 a5 a6 a7 => ?_) (fun a1 h4 a2 => ?_)
          · rw [hF3 _ (by omega) (by omega), he, up_eq]; omega
          · rw [hF3 _ (by omega) (by omega), he, up_ne (by omega)]; exact e2
          · rw [List.length_append] at a1
            refine K1 h4 T' (by rw [List.length_append]; simp at a1 ⊢; omega) (by rw [← List.append_assoc]; exact a2) a3 a4 (fun j hj => ?_) a6 (by
              rw [List.length_append]; simp; simp at a7; omega)
            obtain ⟨b1, b2⟩ := a5 j hj
            rw [b1, b2, hF3 _ (by omega) (by omega), hF3 _ (by omega) (by omega), he, up_col (by omega), up_ne (by omega)]
            exact ⟨rfl, rfl⟩
          · rw [List.length_append] at a1
            exact K0 (by rw [List.length_append]; simp at a1 ⊢; omega) h4 a2
        · rw [hC2.1] at c1
          exact K0 (by rw [List.length_append]; simp; omega) h2 hF2
      have tf : (h1 (U + 10) ((d : Int)).toNat) = (f : Int) := by rw [Int.toNat_natCast]; exact e1
      have tt : (h1 (U + 11) ((d : Int)).toNat) = (t : Int) := by rw [Int.toNat_natCast]; exact e2
      refine g124_27 ⟨fun c1 => by omega, fun _ => ⟨fun c1 => by omega, fun _ => ⟨s0, U + 10, s11, 13, s12, by omega, by omega, U + 11, s13, 13, s14, by omega, by omega, fun _ => ?_, fun c1 => by rw [tf, tt] at c1; omega⟩⟩⟩
      rw [tf]
      refine ⟨U + 1, s1, s2.1, U + 2, s2.2.1, by omega, by omega, 60, s2.2.2.2.1, by omega, by omega, by omega, by omega, by unfold oe_rg; omega, by omega, by omega, fun h2 he => ?_⟩
      rw [Int.toNat_natCast] at he
      rw [Int.toNat_natCast, ec]
      refine ⟨fun c1 => ⟨U + 4, s3, 12, s4, by omega, by omega, ?_⟩, fun c1 => at109 h2 he⟩
      have hv : h2 (U + 4) ((c : Int)).toNat = -1 := by
        rw [he, up_ne (by omega), Int.toNat_natCast, hF _ (by omega) (by omega) (by omega) (by omega)]
        rcases hV c (by omega) with q | ⟨p, u, q1, q2, q3, q4⟩
        · exact q.1
        · rw [hun] at q3; cases q3
      rw [hv]
      exact at109 h2 he
  | succ n ih =>
    intro m
    induction m with
    | zero =>
      intro f t d T out h1 hm hf ht hn hr hC ho hb e1 e2 hF K1 K0
      have : f = t := by omega
      subst this
      rw [ol_rg_nil, ou_X_nil] at K1
      exact K1 h1 T (by simpa using ho) (by simpa using hC) e1 e2 (fun j _ => ⟨rfl, rfl⟩) hF (by simp)
    | succ m ihm =>
      intro f t d T out h1 hm hf ht hn hr hC ho hb e1 e2 hF K1 K0
      have hft : f < t := by omega
      have hc := ol_rg_cons hft ht
      rw [hc] at hr K1 K0
      rw [ou_X_cons] at K1 K0
      have ec : h1 (U + 2) f = ((l.getD f 0 : Nat) : Int) := by rw [hF (U + 2) (by omega) (by omega) (by omega) (by omega)]; exact rC.2 f (by omega)
      generalize hcc : l.getD f 0 = c at *
      have tf : (h1 (U + 10) ((d : Int)).toNat) = (f : Int) := by rw [Int.toNat_natCast]; exact e1
      have tt : (h1 (U + 11) ((d : Int)).toNat) = (t : Int) := by rw [Int.toNat_natCast]; exact e2
      refine g124_27 ⟨fun c1 => by omega, fun _ => ⟨fun c1 => by omega, fun _ => ⟨s0, U + 10, s11, 13, s12, by omega, by omega, U + 11, s13, 13, s14, by omega, by omega, fun _ => ?_, fun c1 => by rw [tf, tt] at c1; omega⟩⟩⟩
      rw [tf]
      refine ⟨U + 1, s1, s2.1, U + 2, s2.2.1, by omega, by omega, 60, s2.2.2.2.1, by omega, by omega, by omega, by omega, by unfold oe_rg; omega, by omega, by omega, fun h2 he => ?_⟩
      rw [Int.toNat_natCast] at he
      rw [Int.toNat_natCast, ec]
      have hC2 : LtC h2 (U + 7) out := hC.kept (by rw [he, up_ne (by omega)]) (by rw [he, up_ne (by omega)])
      have hF2 : ∀ c, c ≠ U + 7 → c ≠ U + 8 → c ≠ U + 10 → c ≠ U + 11 → h2 c = h c := fun c b1 b2 b3 b4 => by rw [he, up_ne b3, hF c b1 b2 b3 b4]
      have at109 : σ c = none → oe_V (oe_cost 124) 124 (oe_M (d0 + 1)) none Q 109 [some (.inr (.inl U)), none, none, some (.inl (lim : Int)), some (.inl (d : Int)), some (.inl (T : Int)), some (.inl (c : Int)), none] [.inl (-1)] (sh, g, h2) 0 0 := by
        intro hun
        rw [ou_X_0 hun] at K1 K0
        refine g124_109 ⟨fun _ => ⟨s0, U + 7, s9, s10.1, fun c1 => ?_, fun c1 => ?_⟩, fun q => absurd rfl q⟩
        · rw [hC2.1] at c1
          have hol : out.length < lim := by omega
          refine c_append (by omega) s10 hC2 (by omega) c (fun h3 hC3 hF3 => ⟨h3, rfl, rfl, by unfold oe_rg; omega, ?_⟩)
          have T1 : ((T : Int) + 1) = ((T + 1 : Nat) : Int) := by omega
          rw [T1]
          refine ihm (f + 1) t d (T + 1) (out ++ [c]) h3 (by omega) (by omega) ht hn (fun x hx => hr x (List.mem_cons_of_mem _ hx)) hC3 (by simp; omega) (by
            rw [List.length_append]; exact xb1 hb hol (by omega)) ?_ ?_ (fun x b1 b2 b3 b4 => by rw [hF3 x b1 b2, hF2 x b1 b2 b3 b4]) (fun h4 T' a1 a2 a3 a4 a5 a6 a7 => ?_) (fun a1 h4 a2 => ?_)
          · rw [hF3 _ (by omega) (by omega), he, up_eq]; omega
          · rw [hF3 _ (by omega) (by omega), he, up_ne (by omega)]; exact e2
          · rw [List.length_append] at a1
            refine K1 h4 T' (by rw [List.length_append]; simp at a1 ⊢; omega) (by rw [← List.append_assoc]; exact a2) a3 a4 (fun j hj => ?_) a6 (by
              rw [List.length_append, Nat.mul_add]; simp; omega)
            obtain ⟨b1, b2⟩ := a5 j hj
            rw [b1, b2, hF3 _ (by omega) (by omega), hF3 _ (by omega) (by omega), he, up_col (by omega), up_ne (by omega)]
            exact ⟨rfl, rfl⟩
          · rw [List.length_append] at a1
            exact K0 (by rw [List.length_append]; simp at a1 ⊢; omega) h4 a2
        · rw [hC2.1] at c1
          exact K0 (by rw [List.length_append]; simp; omega) h2 hF2
      refine ⟨fun c1 => ⟨U + 4, s3, 12, s4, by omega, by omega, ?_⟩, fun c1 => at109 ?_⟩
      · have hv0 : h2 (U + 4) ((c : Int)).toNat = h (U + 4) c := by
          rw [he, up_ne (by omega), Int.toNat_natCast, hF _ (by omega) (by omega) (by omega) (by omega)]
        rw [hv0]
        rcases hV c (by omega) with q | ⟨p, u, q1, q2, q3, q4, q5⟩
        · rw [q.1]; exact at109 q.2
        · -- a value: one level deeper
          rw [q1]
          have rc := hr c List.mem_cons_self u q3
          have hX := ou_X_1 H q3
          have hsub : ol_rg l p (ol_en l p) = ot_fl u := by rw [ol_rg_sub, ot_at_sub q4 q5]
          have en := ol_en_le (Nat.le_of_lt q2)
          have enl := ol_en_lt q2
          rw [hX] at K1 K0
          have hXl : 1 ≤ (ou_X σ (ot_fl u)).length := by
            have a1 := ou_x_len H 12 (ot_fl u)
            have a2 := ot_fl_pos q4
            show 1 ≤ (ou_x σ 12 (ot_fl u)).length
            omega
          refine g124_109 ⟨fun q => by omega, fun _ => ⟨fun q => by omega, fun _ => ⟨by unfold oe_rg; omega, s0, U + 10, s11, 13, s12, by omega, by omega, fun h3 e3 => ⟨U + 11, s13, U + 1, s1, s2.1, U + 3, s2.2.2.1, 60, s2.2.2.2.2.1, by omega, by omega, 13, s14, by omega, by omega, fun h4 e4 => ⟨by unfold oe_rg; omega, ?_⟩⟩⟩⟩⟩
          have d1 : ((d : Int) + 1) = ((d + 1 : Nat) : Int) := by omega
          have T1 : ((T : Int) + 1) = ((T + 1 : Nat) : Int) := by omega
          rw [d1, Int.toNat_natCast] at e3
          rw [d1, Int.toNat_natCast, Int.toNat_natCast] at e4
          have he3 : h3 (U + 3) p = ((ol_en l p : Nat) : Int) := by rw [e3, up_ne (by omega), hF2 _ (by omega) (by omega) (by omega) (by omega)]; exact rE p q2
          rw [he3] at e4
          have hC4 : LtC h4 (U + 7) out := hC2.kept (by rw [e4, up_ne (by omega), e3, up_ne (by omega)]) (by rw [e4, up_ne (by omega), e3, up_ne (by omega)])
          have hF4 : ∀ c, c ≠ U + 7 → c ≠ U + 8 → c ≠ U + 10 → c ≠ U + 11 → h4 c = h c := fun c b1 b2 b3 b4 => by rw [e4, up_ne b4, e3, up_ne b3, hF2 c b1 b2 b3 b4]
          rw [d1, T1]
          refine ih (ol_en l p - p) p (ol_en l p) (d + 1) (T + 1) out h4 rfl (by omega) en (by omega) (fun y hy w hw => ?_) hC4 ho (xb2 hb) ?_ ?_ hF4 (fun h5 T' a1 a2 a3 a4 a5 a6 a7 => ?_) (fun a1 h5 a2 => ?_)
          · rw [hsub] at hy
            have := (H c u q3).2.2.2 y hy w hw
            omega
          · rw [e4, up_ne (by omega), e3, up_eq]
          · rw [e4, up_eq]
          · rw [hsub] at a1 a2 a7
            have T2 := xb3 a7 hXl
            obtain ⟨j1, j2⟩ := a5 d (by omega)
            have f5 : h5 (U + 10) d = ((f + 1 : Nat) : Int) := by rw [j1, e4, up_ne (by omega), e3, up_col (by omega), he, up_eq]; omega
            have f6 : h5 (U + 11) d = (t : Int) := by rw [j2, e4, up_col (by omega), e3, up_ne (by omega), he, up_ne (by omega)]; exact e2
            have bud := xb4 T2 hb a1
            -- the level is left
            refine g124_27 ⟨fun c1 => by omega, fun _ => ⟨fun c1 => by omega, fun _ => ⟨s0, U + 10, s11, 13, s12, by omega, by omega, U + 11, s13, 13, s14, by omega, by omega, fun c1 => by rw [Int.toNat_natCast, a3, a4] at c1; omega, fun _ => ⟨by unfold oe_rg; omega, by unfold oe_rg; omega, ?_⟩⟩⟩⟩
            have d2 : (((d + 1 : Nat) : Int) + -1) = (d : Int) := by omega
            have T3 : ((T' : Int) + 1) = ((T' + 1 : Nat) : Int) := by omega
            rw [d2, T3]
            refine ihm (f + 1) t d (T' + 1) (out ++ ou_X σ (ot_fl u)) h5 (by omega) (by omega) ht hn (fun x hx => hr x (List.mem_cons_of_mem _ hx)) a2 (by rw [List.length_append]; exact a1) (by rw [List.length_append]; exact bud) f5 f6 a6 (fun h6 T'' x1 x2 x3 x4 x5 x6 x7 => ?_) (fun x1 h6 x2 => ?_)
            · rw [List.length_append] at x1
              refine K1 h6 T'' (by rw [List.length_append]; omega) (by rw [← List.append_assoc]; exact x2) x3 x4 (fun j hj => ?_) x6 (by
                rw [List.length_append, Nat.mul_add]; omega)
              obtain ⟨b1, b2⟩ := x5 j hj
              obtain ⟨b3, b4⟩ := a5 j (by omega)
              rw [b1, b2, b3, b4, e4, up_ne (by omega), up_col (by omega), e3, up_col (by omega), up_ne (by omega), he, up_col (by omega), up_ne (by omega)]
              exact ⟨rfl, rfl⟩
            · rw [List.length_append] at x1
              exact K0 (by rw [List.length_append]; omega) h6 x2
          · rw [hsub] at a1
            exact K0 (by rw [List.length_append]; omega) h5 a2
      · cases hs : σ c with
        | none => rfl
        | some u => have := (H c u hs).1; omega
theorem c_expand (hDD : 3 ≤ D) {U : Nat} {l : List Nat} {σ : Nat → Option oeT} {r : Nat → Nat} (hS : UnS sh g U) (hR : UnR h U l) (hV : UnV h (U + 4) l σ) (H : ua σ r) (lim f t : Nat) (hlim : lim ≤ 300) (hft : f ≤ t) (ht : t ≤ l.length)
    (k1 : (ou_X σ (ol_rg l f t)).length ≤ lim → ∀ h', LtC h' (U + 7) (ou_X σ (ol_rg l f t)) → (∀ c, c ≠ U + 7 → c ≠ U + 8 → c ≠ U + 10 → c ≠ U + 11 → h' c = h c) → Q (some (.inl 1)) (sh, g, h'))
    (k0 : lim < (ou_X σ (ol_rg l f t)).length → ∀ h', (∀ c, c ≠ U + 7 → c ≠ U + 8 → c ≠ U + 10 → c ≠ U + 11 → h' c = h c) → Q (some (.inl 0)) (sh, g, h')) :
    oe_M D 124 [.inr (.inl U), .inl (f : Int), .inl (t : Int), .inl (lim : Int)] (sh, g, h) Q := by
  obtain ⟨d, rfl⟩ : ∃ d, D = d + 2 := ⟨D - 2, by omega⟩
  have hSS := hS
  obtain ⟨s0, s1, s2, s3, s4, s5, s6, s7, s8, s9, s10, s11, s12, s13, s14⟩ := hS
  refine g124 ⟨s0, U + 7, s9, s10.1, c_empty (by omega) s10 (fun h1 e1 => ⟨h1, rfl, rfl, U + 10, s11, 13, s12, by omega, by omega, fun h2 e2 => ⟨U + 11, s13, 13, s14, by omega, by omega, fun h3 e3 => ?_⟩⟩)⟩
  have hF3 : ∀ c, c ≠ U + 7 → c ≠ U + 8 → c ≠ U + 10 → c ≠ U + 11 → h3 c = h c := fun c b1 b2 b3 b4 => by rw [e3, up_ne b4, e2, up_ne b3, e1, up_ne b1]
  have hC3 : LtC h3 (U + 7) [] := ⟨by rw [e3, up_ne (by omega), e2, up_ne (by omega), e1, up_eq]; rfl, fun i hi => by cases hi⟩
  refine x_run (by omega) hSS hR hV H lim hlim 12 (t - f) f t 0 0 [] h3 rfl hft ht rfl (fun c hc u hu => by have := (H c u hu).2.2.1; omega) hC3 (Nat.zero_le _) (by simp; omega) (by rw [e3, up_ne (by omega), e2, up_eq]) (by rw [e3, up_eq]) hF3 (fun h4 T' a1 a2 a3 a4 a5 a6 a7 => ?_) (fun a1 h4 a2 => k0 (by simpa using a1) h4 a2)
  have a1' : (ou_X σ (ol_rg l f t)).length ≤ lim := by simpa using a1
  have a2' : LtC h4 (U + 7) (ou_X σ (ol_rg l f t)) := by simpa using a2
  refine g124_27 ⟨fun c => by omega, fun _ => ⟨fun c => absurd c (by omega), fun _ => ⟨s0, U + 10, s11, 13, s12, by omega, by omega, U + 11, s13, 13, s14, by omega, by omega, fun c1 => by rw [Int.toNat_natCast, a3, a4] at c1; omega, fun _ => ⟨by unfold oe_rg; omega, by unfold oe_rg; omega, ?_⟩⟩⟩⟩
  exact g124_27 ⟨fun _ => ⟨fun c => by omega, fun _ => k1 a1' h4 a2' a6⟩, fun _ => ⟨fun _ => ⟨fun c => by omega, fun _ => k1 a1' h4 a2' a6⟩, fun c => by omega⟩⟩
theorem c_look (hDD : 2 ≤ D) {U : Nat} {l : List Nat} {σ : Nat → Option oeT} {r : Nat → Nat} (hS : UnS sh g U) (hR : UnR h U l) (hV : UnV h (U + 4) l σ) (H : ua σ r) (p : Nat) (t : oeT) (ht : ot_wf t) (hp : ot_at l p t)
    (k : ∀ p' : Nat, ot_at l p' (ou_look σ 12 t) → Q (some (.inl (p' : Int))) (sh, g, h)) : oe_M D 120 [.inr (.inl U), .inl (p : Int)] (sh, g, h) Q := by
  obtain ⟨d, rfl⟩ : ∃ d, D = d + 2 := ⟨D - 2, by omega⟩
  obtain ⟨s0, s1, s2, s3, s4, _⟩ := hS
  obtain ⟨rC, rE, r60⟩ := hR
  have loop : ∀ (n i p : Nat) (t' : oeT), n + i = 12 → ot_wf t' → ot_at l p t' → ou_look σ n t' = ou_look σ 12 t → oe_V (oe_cost 120) 120 (oe_M (d + 1)) none Q 4 [some (.inr (.inl U)), none, some (.inl (p : Int)), some (.inl (i : Int)), none] [] (sh, g, h) 0 0 := by
    intro n
    induction n with
    | zero =>
      intro i p t' hi ht' hp' e
      exact g120_4 ⟨fun _ => k p (by rw [← e]; exact hp'), fun c => by omega⟩
    | succ n ih =>
      intro i p t' hi ht' hp' e
      have hpl := ot_at_lt ht' hp'
      cases t' with
      | leaf => exact ht'.elim
      | inner c a b t1 t2 =>
        have hc := ot_at_c hp'
        have ec : h (U + 2) ((p : Int)).toNat = (c : Int) := by rw [Int.toNat_natCast, show U + 2 = U + 1 + 1 by omega, rC.2 p hpl, hc]
        have e : ((σ c).map (fun u => ou_look σ n u)).getD (.inner c a b t1 t2) = ou_look σ 12 t := e
        refine g120_4 ⟨fun q => by omega, fun _ => ⟨s0, U + 1, s1, s2.1, U + 2, s2.2.1, 60, s2.2.2.2.1, by omega, by omega, ?_⟩⟩
        rw [ec]
        refine ⟨fun c1 => ⟨U + 4, s3, 12, s4, by omega, by omega, ?_⟩, fun c1 => ?_⟩
        · rw [Int.toNat_natCast]
          rcases hV c (by omega) with q | ⟨p2, u, q1, q2, q3, q4, q5⟩
          · rw [q.1]
            refine ⟨fun z => absurd rfl z, fun _ => k p ?_⟩
            rw [q.2] at e
            rw [← e]; exact hp'
          · rw [q1]
            refine ⟨fun _ => ⟨by omega, by omega, by unfold oe_rg; omega, ?_⟩, fun z => by omega⟩
            rw [q3] at e
            exact ih (i + 1) p2 u (by omega) q4 q5 e
        · have : σ c = none := by
            cases hs : σ c with
            | none => rfl
            | some u => have := (H c u hs).1; omega
          rw [this] at e
          refine k p ?_
          rw [← e]; exact hp'
  exact g120 (loop 12 0 p t rfl ht hp rfl)
end
