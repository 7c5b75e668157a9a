/-! The reference: matching. -/
/-- a row stands in a bigger one, from a place on -/
def MA (h : Nat → Nat → Int) (q f : Nat) (l : List Nat) : Prop := ∀ i, i < l.length → h q (f + i) = om (l.getD i 0)
section
variable {D : Nat} {sh : List (Nat × Nat)} {g : Nat → Nat → Option Nat} {h : Nat → Nat → Int} {Q : oeQ}
theorem m_samePart (hDD : 2 ≤ D) {m : Nat} (hM : MdS sh g m) {l : List Nat} (hl : l.length ≤ 64) (ok : ol_ok l) (R : MR h (m + 18) l) (a la b lb : Nat) (ha : a + la ≤ l.length) (hb : b + lb ≤ l.length)
    (k1 : la = lb → (∀ j, j < la → l.getD (a + j) 0 = l.getD (b + j) 0) → Q (some (.inl 1)) (sh, g, h)) (k0 : ¬ (la = lb ∧ ∀ j, j < la → l.getD (a + j) 0 = l.getD (b + j) 0) → Q (some (.inl 0)) (sh, g, h)) :
    oe_M D 45 [.inr (.inl m), .inl (a : Int), .inl (la : Int), .inl (b : Int), .inl (lb : Int)] (sh, g, h) Q := by
  obtain ⟨d, rfl⟩ : ∃ d, D = d + 2 := ⟨D - 2, by omega⟩
  have acc := md_28 hM
  have loop : la = lb → ∀ (n j : Nat), la - j = n → j ≤ la → (∀ i, i < j → l.getD (a + i) 0 = l.getD (b + i) 0) → oe_V (oe_cost 45) 45 (oe_M (d + 1)) none Q 16 [some (.inr (.inl m)), some (.inl (a : Int)), some (.inl (la : Int)), some (.inl (b : Int)), none, some (.inl 1), some (.inl (j : Int))] [] (sh, g, h) 0 0 := by
    intro hab n
    induction n with
    | zero =>
      intro j hn hj hi
      exact g45_16 ⟨fun c => absurd c (by decide), fun _ => ⟨fun _ => ⟨Or.inr rfl, k1 hab (fun i q => hi i (by omega))⟩, fun c => by omega⟩⟩
    | succ n ih =>
      intro j hn hj hi
      have e1 : h (m + 18) ((a : Int) + (j : Int)).toNat = om (l.getD (a + j) 0) := by rw [show ((a : Int) + (j : Int)).toNat = a + j by omega]; exact R _ (by omega)
      have e2 : h (m + 18) ((b : Int) + (j : Int)).toNat = om (l.getD (b + j) 0) := by rw [show ((b : Int) + (j : Int)).toNat = b + j by omega]; exact R _ (by omega)
      have oi := om_inj (ol_ok_at ok (show a + j < l.length by omega)) (ol_ok_at ok (show b + j < l.length by omega))
      refine g45_16 ⟨fun c => absurd c (by decide), fun _ => ⟨fun c => by omega, fun _ => ⟨hM.1, m + 18, acc.1, by unfold oe_rg; omega, 64, acc.2, by omega, by omega, by unfold oe_rg; omega, by omega, by omega, ?_⟩⟩⟩
      rw [e1, e2]
      refine ⟨fun c => ⟨by unfold oe_rg; omega, ?_⟩, fun c => ⟨by unfold oe_rg; omega, ?_⟩⟩
      · exact g45_16 ⟨fun _ => ⟨Or.inl rfl, k0 (fun z => c (oi.mpr (z.2 j (by omega))))⟩, fun c => absurd rfl c⟩
      · rw [show (j : Int) + 1 = ((j + 1 : Nat) : Int) by omega]
        refine ih (j + 1) (by omega) (by omega) (fun i hi2 => ?_)
        by_cases e : i = j
        · subst e; exact oi.mp c
        · exact hi i (by omega)
  refine g45 ⟨fun c => ?_, fun c => loop (by omega) la 0 (by omega) (Nat.zero_le _) (fun i hi => by omega)⟩
  exact g45_16 ⟨fun _ => ⟨Or.inl rfl, k0 (fun z => c (by omega))⟩, fun c => absurd rfl c⟩
set_option maxHeartbeats 1000000 in
theorem m_matches (hDD : 4 ≤ D) {m f : Nat} (hM : MdS sh g m) {l sd : List Nat} (hl : l.length ≤ 60) (ok : ol_ok l) (rok : rw_ok l) (T : h m 29 = ((l.length : Nat) : Int)) (R : MR h (m + 18) l) (hf : f + sd.length ≤ 200) (ok2 : ol_ok sd) (v6 : ∀ c ∈ sd, c < 12 → c < 6) (S : MA h (m + 7) f sd) (at_ : Nat) (hat : at_ ≤ 60)
    (k1 : ∀ b h', ol_mt l sd at_ (fun _ => -1) = some b → bd_ok b l.length → (∀ v, v < 6 → h' (m + 19) v = b v) → (∀ v, v < 6 → b v ≠ -1 → h' (m + 20) v = ((ol_en l (b v).toNat : Nat) : Int) - b v) → (∀ c, c ≠ m + 19 → c ≠ m + 20 → h' c = h c) → Q (some (.inl 1)) (sh, g, h'))
    (k0 : ol_mt l sd at_ (fun _ => -1) = none → ∀ h', (∀ c, c ≠ m + 19 → c ≠ m + 20 → h' c = h c) → Q (some (.inl 0)) (sh, g, h')) :
    oe_M D 44 [.inr (.inl m), .inl (f : Int), .inl ((f + sd.length : Nat) : Int), .inl (at_ : Int)] (sh, g, h) Q := by
  obtain ⟨d, rfl⟩ : ∃ d, D = d + 2 := ⟨D - 2, by omega⟩
  have acA := md_13 hM
  have acT := md_28 hM
  have acB := md_30 hM
  have acL := md_31 hM
  have loop : ∀ (n i pl : Nat) (b : Nat → Int) (h1 : Nat → Nat → Int), sd.length - i = n → i ≤ sd.length → pl ≤ 60 → ol_mt l (sd.drop i) pl b = ol_mt l sd at_ (fun _ => -1) → bd_ok b l.length → (∀ v, v < 6 → h1 (m + 19) v = b v) → (∀ v, v < 6 → b v ≠ -1 → h1 (m + 20) v = ((ol_en l (b v).toNat : Nat) : Int) - b v) → (∀ c, c ≠ m + 19 → c ≠ m + 20 → h1 c = h c) →
      oe_V (oe_cost 44) 44 (oe_M (d + 1)) none Q 30 [some (.inr (.inl m)), none, some (.inl ((f + sd.length : Nat) : Int)), none, some (.inl (pl : Int)), some (.inl ((f + i : Nat) : Int)), none, none] [] (sh, g, h1) 0 0 := by
    intro n
    induction n with
    | zero =>
      intro i pl b h1 hn hi hpl hR hbd hb hbl hF
      rw [List.drop_eq_nil_of_le (by omega)] at hR
      exact g44_30 ⟨fun _ => k1 b h1 hR.symm hbd hb hbl hF, fun c => by omega⟩
    | succ n ih =>
      intro i pl b h1 hn hi hpl hR hbd hb hbl hF
      have il : i < sd.length := by omega
      have w : h1 m 29 = ((l.length : Nat) : Int) := by rw [hF m (by omega) (by omega)]; exact T
      have cc : h1 (m + 7) (((f + i : Nat) : Int)).toNat = om (sd.getD i 0) := by rw [Int.toNat_natCast, hF _ (by omega) (by omega)]; exact S i il
      have hmem : sd.getD i 0 ∈ sd := by rw [List.getD_eq_getElem?_getD, List.getElem?_eq_getElem il]; exact List.getElem_mem il
      have c20 := ok2 _ hmem
      have c6 := v6 _ hmem
      rw [ol_drop_cons il] at hR
      simp only [ol_mt] at hR
      have i1 : ((f + i : Nat) : Int) + 1 = ((f + (i + 1) : Nat) : Int) := by omega
      have R1 : MR h1 (m + 18) l := fun j hj => by rw [hF _ (by omega) (by omega)]; exact R j hj
      refine g44_30 ⟨fun c => by omega, fun _ => ⟨hM.1, m + 7, acA.1, 200, acA.2, by omega, by omega, fun c1 => ?_, fun c1 => ?_⟩⟩
      · rw [w] at c1
        have hpl2 : pl < l.length := by omega
        rw [if_neg (by omega)] at hR
        rw [cc]
        refine ⟨fun c2 => ?_, fun c2 => ?_⟩
        · have cv := (om_var c20).mp c2
          have c6 := c6 cv
          have omv : om (sd.getD i 0) = ((sd.getD i 0 : Nat) : Int) := by unfold om; rw [if_pos cv]
          rw [if_pos cv] at hR
          rw [omv]
          obtain ⟨t, wt, at1⟩ := rok pl hpl2
          have en := ol_en_le (Nat.le_of_lt hpl2)
          have enl := ol_en_lt hpl2
          refine m_behind (by omega) hM (by omega) ok R1 pl wt at1 ⟨_, rfl, rfl, by unfold oe_rg; omega, m + 19, acB.1, 6, acB.2, by omega, by omega, ?_⟩
          rw [Int.toNat_natCast, hb _ c6]
          have nx : (pl : Int) + (((ol_en l pl : Nat) : Int) - (pl : Int)) = ((ol_en l pl : Nat) : Int) := by omega
          rw [nx, i1]
          rcases hbd (sd.getD i 0) with q | q
          · rw [if_pos q] at hR
            refine ⟨fun _ => ⟨by omega, by omega, fun h2 e2 => ⟨m + 20, acL.1, 6, acL.2, by omega, by omega, fun h3 e3 => ⟨by unfold oe_rg; omega, by unfold oe_rg; omega, ?_⟩⟩⟩, fun c3 => by omega⟩
            refine ih (i + 1) (ol_en l pl) _ h3 (by omega) (by omega) (by omega) hR (bd_ok_upd hbd hpl2) (fun v hv => ?_) (fun v hv hvb => ?_) (fun c z1 z2 => by rw [e3, up_ne z2, e2, up_ne z1, hF c z1 z2])
            · rw [e3, up_ne (by omega), e2]
              try dsimp only
              split
              · rename_i z; rw [z, up_eq]
              · rename_i z; rw [up_col z]; exact hb v hv
            · revert hvb
              try dsimp only
              split
              · rename_i z
                intro _
                rw [e3, z, up_eq, Int.toNat_natCast]
              · rename_i z
                intro hvb
                rw [e3, up_col z, e2, up_ne (by omega)]
                exact hbl v hv hvb
          · rw [if_neg (by omega)] at hR
            refine ⟨fun c3 => by omega, fun _ => ⟨by omega, by omega, m + 20, acL.1, 6, acL.2, by omega, by omega, ?_⟩⟩
            rw [hbl _ c6 (by omega)]
            obtain ⟨p0, hp0⟩ : ∃ p0 : Nat, b (sd.getD i 0) = (p0 : Int) := ⟨(b (sd.getD i 0)).toNat, by omega⟩
            rw [hp0] at hR q ⊢
            rw [Int.toNat_natCast] at hR ⊢
            have hp1 : p0 < l.length := by omega
            have en0 := ol_en_le (Nat.le_of_lt hp1)
            have enl0 := ol_en_lt hp1
            rw [show ((ol_en l p0 : Nat) : Int) - (p0 : Int) = ((ol_en l p0 - p0 : Nat) : Int) by omega, show ((ol_en l pl : Nat) : Int) - (pl : Int) = ((ol_en l pl - pl : Nat) : Int) by omega]
            refine m_samePart (by omega) hM (by omega) ok R1 p0 (ol_en l p0 - p0) pl (ol_en l pl - pl) (by omega) (by omega) (fun z1 z2 => ⟨1, rfl, rfl, fun _ => ⟨by unfold oe_rg; omega, by unfold oe_rg; omega, ?_⟩, fun c => absurd c (by decide)⟩) (fun z => ⟨0, rfl, rfl, fun c => absurd rfl c, fun _ => ?_⟩)
            · rw [if_pos (ol_sub_eq.mpr ⟨z1, z2⟩)] at hR
              exact ih (i + 1) (ol_en l pl) b h1 (by omega) (by omega) (by omega) hR hbd hb hbl hF
            · rw [if_neg (fun y => z (ol_sub_eq.mp y))] at hR
              exact k0 hR.symm h1 hF
        · have cv : ¬ sd.getD i 0 < 12 := fun z => by have := (om_var c20).mpr z; omega
          rw [if_neg cv] at hR
          have ct : h1 (m + 18) ((pl : Int)).toNat = om (l.getD pl 0) := by rw [Int.toNat_natCast]; exact R1 pl hpl2
          have oi := om_inj (ol_ok_at ok hpl2) c20
          refine ⟨m + 18, acT.1, 64, acT.2, by omega, by omega, ?_⟩
          rw [ct]
          refine ⟨fun c3 => ⟨by unfold oe_rg; omega, by unfold oe_rg; omega, ?_⟩, fun c3 => ?_⟩
          · rw [if_pos (oi.mp c3)] at hR
            rw [i1]
            exact ih (i + 1) (pl + 1) b h1 (by omega) (by omega) (by omega) hR hbd hb hbl hF
          · rw [if_neg (fun y => c3 (oi.mpr y))] at hR
            exact k0 hR.symm h1 hF
      · rw [w] at c1
        rw [if_pos (by omega)] at hR
        exact k0 hR.symm h1 hF
  have fill : ∀ (n v : Nat) (h1 : Nat → Nat → Int), 6 - v = n → v ≤ 6 → (∀ u, u < v → h1 (m + 19) u = -1) → (∀ c, c ≠ m + 19 → c ≠ m + 20 → h1 c = h c) → oe_V (oe_cost 44) 44 (oe_M (d + 1)) none Q 3 [some (.inr (.inl m)), some (.inl (f : Int)), some (.inl ((f + sd.length : Nat) : Int)), some (.inl (at_ : Int)), some (.inl (v : Int)), none, none, none] [] (sh, g, h1) 0 0 := by
    intro n
    induction n with
    | zero =>
      intro v h1 hn hv hu hF
      refine g44_3 ⟨fun _ => ?_, fun c => by omega⟩
      exact loop sd.length 0 at_ (fun _ => -1) h1 (by omega) (Nat.zero_le _) hat rfl (fun v => Or.inl rfl) (fun v hv => hu v (by omega)) (fun v _ z => absurd rfl z) hF
    | succ n ih =>
      intro v h1 hn hv hu hF
      refine g44_3 ⟨fun c => by omega, fun _ => ⟨hM.1, m + 19, acB.1, 6, acB.2, by omega, by omega, fun h2 e2 => ⟨by unfold oe_rg; omega, ?_⟩⟩⟩
      rw [Int.toNat_natCast] at e2
      rw [show (v : Int) + 1 = ((v + 1 : Nat) : Int) by omega]
      refine ih (v + 1) h2 (by omega) (by omega) (fun u hu2 => ?_) (fun c z1 z2 => by rw [e2, up_ne z1, hF c z1 z2])
      by_cases e : u = v
      · subst e; rw [e2, up_eq]
      · rw [e2, up_col e]; exact hu u (by omega)
  exact g44 (fill 6 0 h rfl (by omega) (fun u hu => by omega) (fun c _ _ => rfl))
end
