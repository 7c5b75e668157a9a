/-! The reference: putting in. -/
section
variable {D : Nat} {sh : List (Nat × Nat)} {g : Nat → Nat → Option Nat} {h : Nat → Nat → Int} {Q : oeQ}
set_option maxHeartbeats 1000000 in
theorem m_follows (hDD : 2 ≤ D) {m f : Nat} (hM : MdS sh g m) {l sd : List Nat} (hl : l.length ≤ 60) (ok : ol_ok l) (R : MR h (m + 18) l) (hf : f + sd.length ≤ 200) (ok2 : ol_ok sd) (v6 : ∀ c ∈ sd, c < 12 → c < 6) (S : MA h (m + 7) f sd) (b : Nat → Int) (hbd : bd_ok b l.length) (hb : ∀ v, v < 6 → h (m + 19) v = b v) (hbl : ∀ v, v < 6 → b v ≠ -1 → h (m + 20) v = ((ol_en l (b v).toNat : Nat) : Int) - b v) (room : Nat) (hroom : room ≤ 60)
    (k1 : ∀ rep h', ol_fi l b room sd [] = some rep → MR h' (m + 21) rep → h' m 33 = ((rep.length : Nat) : Int) → (∀ j, j ≠ 33 → h' m j = h m j) → (∀ c, c ≠ m → c ≠ m + 21 → h' c = h c) → Q (some (.inl 1)) (sh, g, h'))
    (k0 : ol_fi l b room sd [] = none → ∀ h', (∀ j, j ≠ 33 → h' m j = h m j) → (∀ c, c ≠ m → c ≠ m + 21 → h' c = h c) → Q (some (.inl 0)) (sh, g, h')) :
    oe_M D 46 [.inr (.inl m), .inl (f : Int), .inl ((f + sd.length : Nat) : Int), .inl (room : Int)] (sh, g, h) Q := by
  obtain ⟨d, rfl⟩ : ∃ d, D = d + 2 := ⟨D - 2, by omega⟩
  have acA := md_13 hM
  have acT := md_28 hM
  have acB := md_30 hM
  have acL := md_31 hM
  have acC := md_32 hM
  have loop : ∀ (n i : Nat) (acc : List Nat) (h1 : Nat → Nat → Int), sd.length - i = n → i ≤ sd.length → acc.length ≤ room → ol_fi l b room (sd.drop i) acc = ol_fi l b room sd [] → MR h1 (m + 21) acc → h1 m 33 = ((acc.length : Nat) : Int) → (∀ j, j ≠ 33 → h1 m j = h m j) → (∀ c, c ≠ m → c ≠ m + 21 → h1 c = h c) →
      oe_V (oe_cost 46) 46 (oe_M (d + 1)) none Q 8 [some (.inr (.inl m)), none, some (.inl ((f + sd.length : Nat) : Int)), some (.inl (room : Int)), some (.inl ((f + i : Nat) : Int)), none, none, none] [] (sh, g, h1) 0 0 := by
    intro n
    induction n with
    | zero =>
      intro i acc h1 hn hi hacc hR hA hw fo fr
      rw [List.drop_eq_nil_of_le (by omega)] at hR
      exact g46_8 ⟨fun _ => k1 acc h1 hR.symm hA hw fo fr, fun c => by omega⟩
    | succ n ih =>
      intro i acc h1 hn hi hacc hR hA hw fo fr
      have il : i < sd.length := by omega
      have cc : h1 (m + 7) (((f + i : Nat) : Int)).toNat = om (sd.getD i 0) := by rw [Int.toNat_natCast, fr _ (by omega) (by omega)]; exact S i il
      have hmem : sd.getD i 0 ∈ sd := by rw [List.getD_eq_getElem?_getD, List.getElem?_eq_getElem il]; exact List.getElem_mem il
      have c20 := ok2 _ hmem
      have c6 := v6 _ hmem
      rw [ol_drop_cons il] at hR
      simp only [ol_fi] at hR
      have i1 : ((f + i : Nat) : Int) + 1 = ((f + (i + 1) : Nat) : Int) := by omega
      -- the piece is copied
      have copy : ∀ (piece : List Nat) (x : Int), acc.length + piece.length ≤ room → ol_fi l b room (sd.drop (i + 1)) (acc ++ piece) = ol_fi l b room sd [] →
          ((20 ≤ x ∧ ∃ c : Nat, x = om c ∧ piece = [c]) ∨ (∃ v q : Nat, x = (v : Int) ∧ v < 6 ∧ b v = (q : Int) ∧ q + piece.length ≤ l.length ∧ ∀ k, k < piece.length → piece.getD k 0 = l.getD (q + k) 0)) →
          ∀ (mm k : Nat) (h2 : Nat → Nat → Int), piece.length - k = mm → k ≤ piece.length → MR h2 (m + 21) (acc ++ piece.take k) → h2 m 33 = ((acc.length + k : Nat) : Int) → (∀ j, j ≠ 33 → h2 m j = h m j) → (∀ c, c ≠ m → c ≠ m + 21 → h2 c = h c) →
          oe_V (oe_cost 46) 46 (oe_M (d + 1)) none Q 80 [some (.inr (.inl m)), none, some (.inl ((f + sd.length : Nat) : Int)), some (.inl (room : Int)), some (.inl ((f + i : Nat) : Int)), some (.inl x), some (.inl ((piece.length : Nat) : Int)), some (.inl (k : Int))] [] (sh, g, h2) 0 0 := by
        intro piece x hfit hR2 hsrc mm
        induction mm with
        | zero =>
          intro k h2 hm hk hA2 hw2 fo2 fr2
          rw [List.take_of_length_le (by omega)] at hA2
          have hk2 : k = piece.length := by omega
          refine g46_80 ⟨fun _ => ⟨by unfold oe_rg; omega, ?_⟩, fun c => by omega⟩
          rw [i1]
          exact ih (i + 1) (acc ++ piece) h2 (by clear hsrc; omega) (by clear hsrc; omega) (by rw [List.length_append]; exact hfit) hR2 hA2 (by rw [List.length_append, hw2, hk2]) fo2 fr2
        | succ mm ihm =>
          intro k h2 hm hk hA2 hw2 fo2 fr2
          have al : (acc ++ piece.take k).length = acc.length + k := by rw [List.length_append, List.length_take]; omega
          have nx : acc ++ piece.take k ++ [piece.getD k 0] = acc ++ piece.take (k + 1) := by rw [ol_take_succ (by omega), List.append_assoc]
          -- one letter is put down
          have put : ∀ (y : Int) (h3 h4 : Nat → Nat → Int), y = om (piece.getD k 0) → h3 = oe_up h2 (m + 21) (h2 m 33).toNat y → h4 = oe_up h3 m 33 (h3 m 33 + 1) → oe_V (oe_cost 46) 46 (oe_M (d + 1)) none Q 80 [some (.inr (.inl m)), none, some (.inl ((f + sd.length : Nat) : Int)), some (.inl (room : Int)), some (.inl ((f + i : Nat) : Int)), some (.inl x), some (.inl ((piece.length : Nat) : Int)), some (.inl ((k : Int) + 1))] [] (sh, g, h4) 0 0 := by
            intro y h3 h4 hy e3 e4
            rw [hw2, Int.toNat_natCast] at e3
            have w3 : h3 m 33 = ((acc.length + k : Nat) : Int) := by rw [e3, up_ne (by omega)]; exact hw2
            rw [w3] at e4
            rw [show (k : Int) + 1 = ((k + 1 : Nat) : Int) by omega]
            refine ihm (k + 1) h4 (by omega) (by omega) (fun j hj => ?_) (by rw [e4, up_eq]; omega) (fun j hj => by rw [e4, up_col hj, e3, up_ne (by omega), fo2 j hj]) (fun c z1 z2 => by rw [e4, up_ne z1, e3, up_ne z2, fr2 c z1 z2])
            rw [← nx] at hj ⊢
            rw [List.length_append, al] at hj
            have hj : j < acc.length + k + 1 := hj
            rw [e4, up_ne (by omega), e3]
            by_cases ej : j = acc.length + k
            · rw [ej, up_eq, ol_getD_app2 (by omega), al, Nat.sub_self]; exact hy
            · rw [up_col ej, ol_getD_app1 (by omega)]; exact hA2 j (by omega)
          refine g46_80 ⟨fun c => by omega, fun _ => ⟨hM.1, m + 21, acC.1, fun c1 => ?_, fun c1 => ?_⟩⟩
          · rcases hsrc with ⟨z, _⟩ | ⟨v, q, e1, e2, e3, e4, e5⟩
            · omega
            · have bq : h2 (m + 19) x.toNat = (q : Int) := by rw [e1, Int.toNat_natCast, fr2 _ (by omega) (by omega), hb v e2, e3]
              have ct : h2 (m + 18) ((q : Int) + (k : Int)).toNat = om (piece.getD k 0) := by rw [show ((q : Int) + (k : Int)).toNat = q + k by omega, fr2 _ (by omega) (by omega), R _ (by omega), e5 k (by omega)]
              refine ⟨m + 18, acT.1, m + 19, acB.1, 6, acB.2, by omega, by omega, ?_⟩
              rw [bq]
              refine ⟨by unfold oe_rg; omega, 64, acT.2, by omega, by omega, 64, acC.2, by rw [hw2]; omega, by rw [hw2]; omega, fun h3 e3' => ⟨?_, fun h4 e4' => ⟨by unfold oe_rg; omega, put _ h3 h4 ct e3' e4'⟩⟩⟩
              rw [e3', up_ne (by omega), hw2]; unfold oe_rg; omega
          · rcases hsrc with ⟨z, c, e1, e2⟩ | ⟨v, q, e1, e2, _⟩
            · have hk0 : k = 0 := by rw [e2] at hm hk; simp at hm hk; omega
              refine ⟨64, acC.2, by rw [hw2]; omega, by rw [hw2]; omega, fun h3 e3' => ⟨?_, fun h4 e4' => ⟨by unfold oe_rg; omega, put _ h3 h4 (by rw [e1, e2, hk0]; rfl) e3' e4'⟩⟩⟩
              rw [e3', up_ne (by omega), hw2]; unfold oe_rg; omega
            · omega
      have start : ∀ (piece : List Nat) (x : Int) (ln : Int), ln = ((piece.length : Nat) : Int) → acc.length + piece.length ≤ room → ol_fi l b room (sd.drop (i + 1)) (acc ++ piece) = ol_fi l b room sd [] →
          ((20 ≤ x ∧ ∃ c : Nat, x = om c ∧ piece = [c]) ∨ (∃ v q : Nat, x = (v : Int) ∧ v < 6 ∧ b v = (q : Int) ∧ q + piece.length ≤ l.length ∧ ∀ k, k < piece.length → piece.getD k 0 = l.getD (q + k) 0)) →
          oe_V (oe_cost 46) 46 (oe_M (d + 1)) none Q 80 [some (.inr (.inl m)), none, some (.inl ((f + sd.length : Nat) : Int)), some (.inl (room : Int)), some (.inl ((f + i : Nat) : Int)), some (.inl x), some (.inl ln), some (.inl 0)] [] (sh, g, h1) 0 0 := by
        intro piece x ln hln z1 z2 z3
        rw [hln]
        exact copy piece x z1 z2 z3 piece.length 0 h1 (by omega) (Nat.zero_le _) (by rw [List.take_zero, List.append_nil]; exact hA) (by rw [hw]; rfl) fo fr
      refine g46_8 ⟨fun c => by omega, fun _ => ⟨hM.1, m + 7, acA.1, 200, acA.2, by omega, by omega, ?_⟩⟩
      rw [cc]
      refine ⟨fun c2 => ?_, fun c2 => ⟨fun c3 => by omega, fun _ => ?_⟩⟩
      · have cv := (om_var c20).mp c2
        have c6 := c6 cv
        have omv : om (sd.getD i 0) = ((sd.getD i 0 : Nat) : Int) := by unfold om; rw [if_pos cv]
        rw [if_pos cv] at hR
        rw [omv]
        have b1 : h1 (m + 19) (((sd.getD i 0 : Nat) : Int)).toNat = b (sd.getD i 0) := by rw [Int.toNat_natCast, fr _ (by omega) (by omega)]; exact hb _ c6
        refine ⟨m + 19, acB.1, 6, acB.2, by omega, by omega, ?_⟩
        rw [b1]
        rcases hbd (sd.getD i 0) with q | q
        · rw [if_pos q] at hR
          exact ⟨fun z => by omega, fun _ => k0 hR.symm h1 fo fr⟩
        · rw [if_neg (by omega)] at hR
          obtain ⟨p0, hp0⟩ : ∃ p0 : Nat, b (sd.getD i 0) = (p0 : Int) := ⟨(b (sd.getD i 0)).toNat, by omega⟩
          have bl : h1 (m + 20) (((sd.getD i 0 : Nat) : Int)).toNat = ((ol_en l p0 - p0 : Nat) : Int) := by
            rw [Int.toNat_natCast, fr _ (by omega) (by omega), hbl _ c6 (by omega), hp0, Int.toNat_natCast]
            have := ol_en_lt (l := l) (i := p0) (by omega)
            omega
          have hp1 : p0 < l.length := by omega
          have en0 := ol_en_le (Nat.le_of_lt hp1)
          have enl0 := ol_en_lt hp1
          rw [hp0, Int.toNat_natCast, ol_sub_len2] at hR
          refine ⟨fun _ => ⟨fun _ => ⟨m + 20, acL.1, 6, acL.2, by omega, by omega, ?_⟩, fun z => by omega⟩, fun z => by omega⟩
          rw [bl, hw]
          refine ⟨by unfold oe_rg; omega, fun c4 => ?_, fun c4 => ?_⟩
          · rw [if_neg (by omega)] at hR
            exact start (ol_sub l p0) _ _ (by rw [ol_sub_len2]) (by rw [ol_sub_len2]; omega) hR (Or.inr ⟨sd.getD i 0, p0, rfl, c6, hp0, by rw [ol_sub_len2]; omega, fun k hk => ol_sub_at hk⟩)
          · rw [if_pos (by omega)] at hR
            exact k0 hR.symm h1 fo fr
      · have cv : ¬ sd.getD i 0 < 12 := fun z => by have := (om_var c20).mpr z; omega
        rw [if_neg cv] at hR
        rw [hw]
        refine ⟨by unfold oe_rg; omega, fun c4 => ?_, fun c4 => ?_⟩
        · rw [if_neg (by omega)] at hR
          exact start [sd.getD i 0] _ 1 rfl (by simp; omega) hR (Or.inl ⟨c2, _, rfl, rfl⟩)
        · rw [if_pos (by omega)] at hR
          exact k0 hR.symm h1 fo fr
  refine g46 ⟨hM.1, fun h1 e1 => ?_⟩
  exact loop sd.length 0 [] h1 (by omega) (Nat.zero_le _) (Nat.zero_le _) rfl (fun j hj => by cases hj) (by rw [e1, up_eq]; rfl) (fun j hj => by rw [e1, up_col hj]) (fun c z1 z2 => by rw [e1, up_ne z1])
end
