/-! The reference: sides that are the same; naming; what is known. -/
theorem om_v {c : Nat} (h : c < 12) : om c = (c : Int) := by unfold om; rw [if_pos h]
theorem om_s {c : Nat} (h : 12 ≤ c) : om c = 39 - (c : Int) := by unfold om; rw [if_neg (by omega)]
section
variable {D : Nat} {sh : List (Nat × Nat)} {g : Nat → Nat → Option Nat} {h : Nat → Nat → Int} {Q : oeQ}
theorem m_sameSide (hDD : 2 ≤ D) {m s t : Nat} (hM : MdS sh g m) (hs : s < 6) (ht : t < 6) {a b : List Nat} (oa : ol_ok a) (ob : ol_ok b) (la : a.length ≤ 40) (A : SD h m s a) (B : SD h m t b)
    (k1 : a = b → Q (some (.inl 1)) (sh, g, h)) (k0 : a ≠ b → Q (some (.inl 0)) (sh, g, h)) : oe_M D 52 [.inr (.inl m), .inl (s : Int), .inl (t : Int)] (sh, g, h) Q := by
  obtain ⟨d, rfl⟩ : ∃ d, D = d + 2 := ⟨D - 2, by omega⟩
  have acS := md_18 hM
  have acN := md_19 hM
  have no : ∀ (i : Int), a ≠ b → oe_V (oe_cost 52) 52 (oe_M (d + 1)) none Q 24 [some (.inr (.inl m)), some (.inl (s : Int)), some (.inl (t : Int)), some (.inl 0), some (.inl i)] [] (sh, g, h) 0 0 := fun i hab => g52_24 ⟨fun _ => ⟨Or.inl rfl, k0 hab⟩, fun c => absurd rfl c⟩
  have loop : ∀ (n i : Nat), a.length - i = n → i ≤ a.length → a.length = b.length → (∀ j, j < i → a.getD j 0 = b.getD j 0) → oe_V (oe_cost 52) 52 (oe_M (d + 1)) none Q 24 [some (.inr (.inl m)), some (.inl (s : Int)), some (.inl (t : Int)), some (.inl 1), some (.inl (i : Int))] [] (sh, g, h) 0 0 := by
    intro n
    induction n with
    | zero =>
      intro i hn hi hl hj
      refine g52_24 ⟨fun c => absurd c (by decide), fun _ => ⟨hM.1, m + 11, acN.1, 6, acN.2, by omega, by omega, fun _ => ⟨Or.inr rfl, k1 (ol_ext hl (fun j hj' => hj j (by omega)))⟩, fun c => ?_⟩⟩
      rw [Int.toNat_natCast, A.1] at c; omega
    | succ n ih =>
      intro i hn hi hl hj
      refine g52_24 ⟨fun c => absurd c (by decide), fun _ => ⟨hM.1, m + 11, acN.1, 6, acN.2, by omega, by omega, fun c => ?_, fun _ => ⟨m + 10, acS.1, by unfold oe_rg; omega, by unfold oe_rg; omega, 240, acS.2, by omega, by omega, by unfold oe_rg; omega, by unfold oe_rg; omega, by omega, by omega, ?_⟩⟩⟩
      · rw [Int.toNat_natCast, A.1] at c; omega
      · rw [show (40 * (s : Int) + (i : Int)).toNat = 40 * s + i by omega, show (40 * (t : Int) + (i : Int)).toNat = 40 * t + i by omega, A.2 i (by omega), B.2 i (by omega), show (i : Int) + 1 = ((i + 1 : Nat) : Int) by omega]
        have inj := om_inj (ol_ok_at oa (i := i) (by omega)) (ol_ok_at ob (i := i) (by omega))
        refine ⟨fun c => ⟨by unfold oe_rg; omega, no _ (fun e => c (by rw [e]))⟩, fun c => ⟨by unfold oe_rg; omega, ih (i + 1) (by omega) (by omega) hl (fun j hj' => ?_)⟩⟩
        by_cases ej : j = i
        · subst ej; exact inj.mp c
        · exact hj j (by omega)
  refine g52 ⟨hM.1, m + 11, acN.1, 6, acN.2, by omega, by omega, by omega, by omega, ?_⟩
  rw [Int.toNat_natCast, Int.toNat_natCast, A.1, B.1]
  exact ⟨fun c => no _ (fun e => c (by rw [e])), fun c => loop _ 0 rfl (Nat.zero_le _) (by omega) (fun j hj => by omega)⟩
theorem m_nameAs (hDD : 2 ≤ D) {m s t : Nat} (hM : MdS sh g m) (hs : s < 4) (ht : t < 4) {a b : List Nat} (oa : ol_ok a) (ob : ol_ok b) (la : a.length ≤ 40) (lb : b.length ≤ 40) (A : SD h m s a) (B : SD h m t b)
    (k : ∀ h', SD h' m 4 (ol_nm (a, b)).1.1 → SD h' m 5 (ol_nm (a, b)).1.2 → (∀ c, c ≠ m + 10 → c ≠ m + 11 → c ≠ m + 12 → h' c = h c) → (∀ i, i < 160 → h' (m + 10) i = h (m + 10) i) → (∀ i, i < 4 → h' (m + 11) i = h (m + 11) i) → Q (some (.inl (((ol_nm (a, b)).2 : Nat) : Int))) (sh, g, h')) : oe_M D 53 [.inr (.inl m), .inl (s : Int), .inl (t : Int)] (sh, g, h) Q := by
  obtain ⟨d, rfl⟩ : ∃ d, D = d + 2 := ⟨D - 2, by omega⟩
  have acS := md_18 hM
  have acN := md_19 hM
  have acW := md_20 hM
  have pass : ∀ (w f : Nat) (l : List Nat) (nm : Nat → Int) (u : Nat) (h1 : Nat → Nat → Int), w < 2 → f < 4 → ol_ok l → l.length ≤ 40 → rn_ok nm u → SD h1 m f l → (∀ v, v < 12 → h1 (m + 12) v = nm v) →
      (∀ h2 : Nat → Nat → Int, (∀ v, v < 12 → h2 (m + 12) v = (ol_ren l nm u).2.1 v) → MA h2 (m + 10) (160 + 40 * w) (ol_ren l nm u).1 → (∀ c, c ≠ m + 10 → c ≠ m + 12 → h2 c = h1 c) → (∀ i, i < 160 + 40 * w → h2 (m + 10) i = h1 (m + 10) i) →
        oe_V (oe_cost 53) 53 (oe_M (d + 1)) none Q 26 [some (.inr (.inl m)), some (.inl (s : Int)), some (.inl (t : Int)), some (.inl (((ol_ren l nm u).2.2 : Nat) : Int)), some (.inl ((w : Int) + 1)), none, none, none] [] (sh, g, h2) 0 0) →
      oe_V (oe_cost 53) 53 (oe_M (d + 1)) none Q 63 [some (.inr (.inl m)), some (.inl (s : Int)), some (.inl (t : Int)), some (.inl (u : Int)), some (.inl (w : Int)), some (.inl (f : Int)), some (.inl 0), none] [] (sh, g, h1) 0 0 := by
    intro w f l nm u h1 hw hf ol ll rn S1 N1 K
    have loop : ∀ (n i : Nat) (h2 : Nat → Nat → Int), l.length - i = n → i ≤ l.length → (∀ v, v < 12 → h2 (m + 12) v = (ol_ren (l.take i) nm u).2.1 v) → (∀ j, j < i → h2 (m + 10) (160 + 40 * w + j) = om ((ol_ren (l.take i) nm u).1.getD j 0)) → (∀ c, c ≠ m + 10 → c ≠ m + 12 → h2 c = h1 c) → (∀ i, i < 160 + 40 * w → h2 (m + 10) i = h1 (m + 10) i) →
        oe_V (oe_cost 53) 53 (oe_M (d + 1)) none Q 63 [some (.inr (.inl m)), some (.inl (s : Int)), some (.inl (t : Int)), some (.inl (((ol_ren (l.take i) nm u).2.2 : Nat) : Int)), some (.inl (w : Int)), some (.inl (f : Int)), some (.inl (i : Int)), none] [] (sh, g, h2) 0 0 := by
      intro n
      induction n with
      | zero =>
        intro i h2 hn hi N2 A2 F2 G2
        have wl : h2 (m + 11) f = ((l.length : Nat) : Int) := by rw [F2 _ (by omega) (by omega)]; exact S1.1
        refine g53_63 ⟨hM.1, m + 11, acN.1, 6, acN.2, by omega, by omega, fun _ => ⟨by unfold oe_rg; omega, ?_⟩, fun c => by rw [Int.toNat_natCast, wl] at c; omega⟩
        rw [List.take_of_length_le (by omega)] at N2 A2 ⊢
        exact K h2 N2 (fun j hj => A2 j (by rw [ol_ren_len] at hj; omega)) F2 G2
      | succ n ih =>
        intro i h2 hn hi N2 A2 F2 G2
        have hlen : (ol_ren (l.take i) nm u).1.length = i := by rw [ol_ren_len, List.length_take]; omega
        have wl : h2 (m + 11) f = ((l.length : Nat) : Int) := by rw [F2 _ (by omega) (by omega)]; exact S1.1
        have cc : h2 (m + 10) (40 * f + i) = om (l.getD i 0) := by rw [G2 _ (by omega)]; exact S1.2 i (by omega)
        have stp : ol_ren (l.take (i + 1)) nm u = ((ol_ren (l.take i) nm u).1 ++ (ol_ren [l.getD i 0] (ol_ren (l.take i) nm u).2.1 (ol_ren (l.take i) nm u).2.2).1, (ol_ren [l.getD i 0] (ol_ren (l.take i) nm u).2.1 (ol_ren (l.take i) nm u).2.2).2) := by
          rw [ol_take_succ (by omega), ol_ren_app]
        rw [ol_ren_one] at stp
        have rn2 := (ol_ren_ok (l.take i) nm u rn).1
        have u12 := rn_ok_12 rn2
        have x20 := ol_ok_at ol (i := i) (by omega)
        have nx := ih (i + 1)
        rw [stp] at nx
        generalize ol_ren (l.take i) nm u = R at *
        obtain ⟨r1, nm1, u1⟩ := R
        dsimp only at *
        have row : ∀ (y : Nat) (h3 : Nat → Nat → Int), h3 (m + 10) = (oe_up h2 (m + 10) (160 + 40 * w + i) (om y)) (m + 10) → (∀ j, j < i + 1 → h3 (m + 10) (160 + 40 * w + j) = om ((r1 ++ [y]).getD j 0)) ∧ (∀ i, i < 160 + 40 * w → h3 (m + 10) i = h1 (m + 10) i) := by
          intro y h3 e3
          refine ⟨fun j hj => ?_, fun j hj => by rw [e3, up_col (by omega)]; exact G2 j hj⟩
          rw [e3]
          by_cases ej : j = i
          · subst ej; rw [up_eq, ol_getD_app2 (by omega), hlen, Nat.sub_self]; rfl
          · rw [up_col (by omega), ol_getD_app1 (by omega)]; exact A2 j (by omega)
        refine g53_63 ⟨hM.1, m + 11, acN.1, 6, acN.2, by omega, by omega, fun c => by rw [Int.toNat_natCast, wl] at c; omega, fun _ => ⟨m + 10, acS.1, by unfold oe_rg; omega, by unfold oe_rg; omega, 240, acS.2, by omega, by omega, ?_⟩⟩
        rw [show (40 * (f : Int) + (i : Int)).toNat = 40 * f + i by omega, cc, show (160 + 40 * (w : Int) + (i : Int)).toNat = 160 + 40 * w + i by omega, show (i : Int) + 1 = ((i + 1 : Nat) : Int) by omega]
        by_cases hx : l.getD i 0 < 12
        · rw [om_v hx] at cc ⊢
          rw [if_pos hx] at nx
          rw [Int.toNat_natCast]
          have v1 := rn2.2 (l.getD i 0)
          refine ⟨fun _ => ⟨m + 12, acW.1, 12, acW.2, by omega, by omega, ?_⟩, fun c => by omega⟩
          rw [N2 _ hx]
          refine ⟨fun c2 => ⟨by omega, by omega, by unfold oe_rg; omega, by unfold oe_rg; omega, by unfold oe_rg; omega, by omega, by omega, fun h3 e3 => ⟨by unfold oe_rg; omega, ?_⟩⟩, fun c2 => ⟨by omega, by omega, fun h3 e3 => ⟨by unfold oe_rg; omega, by omega, by omega, by unfold oe_rg; omega, by unfold oe_rg; omega, by unfold oe_rg; omega, by omega, by omega, fun h4 e4 => ⟨by unfold oe_rg; omega, ?_⟩⟩⟩⟩
          · rw [if_neg (by omega)] at nx
            have e3' : h3 = oe_up h2 (m + 10) (160 + 40 * w + i) (om (nm1 (l.getD i 0)).toNat) := by rw [e3, om_v (by omega), Int.toNat_of_nonneg c2]
            obtain ⟨z1, z2⟩ := row _ h3 (by rw [e3'])
            exact nx h3 (by omega) (by omega) (fun v hv => by rw [e3, up_ne (by omega)]; exact N2 v hv) z1 (fun c y1 y2 => by rw [e3, up_ne y1]; exact F2 c y1 y2) z2
          · rw [if_pos (by omega)] at nx
            have e3' : ∀ v, h3 (m + 12) v = if v = l.getD i 0 then (u1 : Int) else h2 (m + 12) v := by
              intro v
              rw [e3]
              split
              · rename_i q; rw [q, up_eq]
              · rename_i q; rw [up_col q]
            rw [e3' (l.getD i 0), if_pos rfl] at e4
            obtain ⟨z1, z2⟩ := row u1 h4 (by
              have hu : u1 < 12 := by
                have := rn_ok_12 (rn_ok_upd rn2 hx (by omega)); omega
              rw [e4, om_v hu]
              funext j
              by_cases ej : j = 160 + 40 * w + i
              · rw [ej, up_eq, up_eq]
              · rw [up_col ej, up_col ej, e3, up_ne (by omega)])
            refine nx h4 (by omega) (by omega) (fun v hv => ?_) z1 (fun c y1 y2 => by rw [e4, up_ne y1, e3, up_ne y2]; exact F2 c y1 y2) z2
            rw [e4, up_ne (by omega), e3' v]
            dsimp only
            split
            · rfl
            · exact N2 v hv
        · have o1 : om (l.getD i 0) = 39 - ((l.getD i 0 : Nat) : Int) := om_s (by omega)
          rw [if_neg hx] at nx
          refine ⟨fun c => by omega, fun _ => ⟨by unfold oe_rg; omega, by unfold oe_rg; omega, by unfold oe_rg; omega, by omega, by omega, fun h3 e3 => ⟨by unfold oe_rg; omega, ?_⟩⟩⟩
          obtain ⟨z1, z2⟩ := row _ h3 (by rw [e3])
          exact nx h3 (by omega) (by omega) (fun v hv => by rw [e3, up_ne (by omega)]; exact N2 v hv) z1 (fun c y1 y2 => by rw [e3, up_ne y1]; exact F2 c y1 y2) z2
    exact loop l.length 0 h1 (by omega) (Nat.zero_le _) N1 (fun j hj => by omega) (fun _ _ _ => rfl) (fun _ _ => rfl)
  have clear : ∀ (n i : Nat) (h1 : Nat → Nat → Int), 12 - i = n → i ≤ 12 → (∀ j, j < i → h1 (m + 12) j = -1) → (∀ c, c ≠ m + 12 → h1 c = h c) → oe_V (oe_cost 53) 53 (oe_M (d + 1)) none Q 2 [some (.inr (.inl m)), some (.inl (s : Int)), some (.inl (t : Int)), some (.inl (i : Int)), none, none, none, none] [] (sh, g, h1) 0 0 := by
    intro n
    induction n with
    | zero =>
      intro i h1 hn hi C1 F1
      refine g53_2 ⟨fun _ => ?_, fun c => by omega⟩
      refine g53_26 ⟨fun c => by omega, fun _ => ⟨fun c => absurd rfl c, fun _ => ⟨hM.1, m + 11, acN.1, by unfold oe_rg; omega, 6, acN.2, by omega, by omega, by omega, by omega, fun h2 e2 => ?_⟩⟩⟩
      rw [Int.toNat_natCast, F1 (m + 11) (by omega), A.1, show ((4 : Int) + 0).toNat = 4 by decide] at e2
      refine pass 0 s a (fun _ => -1) 0 h2 (by omega) hs oa la rn_ok_start (A.kept (by rw [e2, up_col (by omega), F1 _ (by omega)]) (fun j _ => by rw [e2, up_ne (by omega), F1 _ (by omega)])) (fun v hv => by rw [e2, up_ne (by omega)]; exact C1 v (by omega)) (fun h3 N3 A3 F3 G3 => ?_)
      have rn3 := (ol_ren_ok a (fun _ => -1) 0 rn_ok_start).1
      refine g53_26 ⟨fun c => by omega, fun _ => ⟨fun _ => ⟨hM.1, m + 11, acN.1, by unfold oe_rg; omega, 6, acN.2, by omega, by omega, by omega, by omega, fun h4 e4 => ?_⟩, fun c => by omega⟩⟩
      have b3 : h3 (m + 11) t = ((b.length : Nat) : Int) := by rw [F3 _ (by omega) (by omega), e2, up_col (by omega), F1 _ (by omega)]; exact B.1
      rw [Int.toNat_natCast, b3, show ((4 : Int) + (((0 : Nat) : Int) + 1)).toNat = 5 by decide] at e4
      rw [show (((0 : Nat) : Int) + 1) = ((1 : Nat) : Int) by decide]
      refine pass 1 t b _ _ h4 (by omega) ht ob lb rn3 ⟨by rw [e4, up_col (by omega)]; exact b3, fun j hj => by rw [e4, up_ne (by omega), G3 _ (by omega), e2, up_ne (by omega), F1 _ (by omega)]; exact B.2 j hj⟩ (fun v hv => by rw [e4, up_ne (by omega)]; exact N3 v hv) (fun h5 N5 A5 F5 G5 => ?_)
      refine g53_26 ⟨fun _ => ?_, fun c => by omega⟩
      have K := k h5
      have la' : (ol_nm (a, b)).1.1.length = a.length := ol_ren_len _ _ _
      have lb' : (ol_nm (a, b)).1.2.length = b.length := ol_ren_len _ _ _
      refine K ⟨?_, fun j hj => ?_⟩ ⟨?_, A5⟩ (fun c y1 y2 y3 => ?_) (fun j hj => ?_) (fun j hj => ?_)
      · rw [F5 _ (by omega) (by omega), e4, up_col (by omega), F3 _ (by omega) (by omega), e2, up_eq, la']
      · rw [G5 _ (by omega), e4, up_ne (by omega)]; exact A3 j hj
      · rw [F5 _ (by omega) (by omega), e4, up_eq, lb']
      · rw [F5 _ y1 y3, e4, up_ne y2, F3 _ y1 y3, e2, up_ne y2, F1 _ y3]
      · rw [G5 _ (by omega), e4, up_ne (by omega), G3 _ (by omega), e2, up_ne (by omega), F1 _ (by omega)]
      · rw [F5 _ (by omega) (by omega), e4, up_col (by omega), F3 _ (by omega) (by omega), e2, up_col (by omega), F1 _ (by omega)]
    | succ n ih =>
      intro i h1 hn hi C1 F1
      refine g53_2 ⟨fun c => by omega, fun _ => ⟨hM.1, m + 12, acW.1, 12, acW.2, by omega, by omega, fun h2 e2 => ⟨by unfold oe_rg; omega, ?_⟩⟩⟩
      rw [Int.toNat_natCast] at e2
      rw [show (i : Int) + 1 = ((i + 1 : Nat) : Int) by omega]
      refine ih (i + 1) h2 (by omega) (by omega) (fun j hj => ?_) (fun c hc => by rw [e2, up_ne hc]; exact F1 c hc)
      by_cases ej : j = i
      · subst ej; rw [e2, up_eq]
      · rw [e2, up_col ej]; exact C1 j (by omega)
  exact g53 (clear 12 0 h rfl (by omega) (fun j hj => by omega) (fun _ _ => rfl))
end
