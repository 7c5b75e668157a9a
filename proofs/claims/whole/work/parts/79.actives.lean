/-! Contracts of the active equations (class): matching and putting in. -/
def EqS (sh : List (Nat × Nat)) (g : Nat → Nat → Option Nat) (e cap : Nat) : Prop := sh[e]? = some (7, 2) ∧ g e 0 = some (e + 1) ∧ g e 1 = some (e + 4) ∧ LtS sh g (e + 1) cap ∧ LtS sh g (e + 4) cap
def EqC (h : Nat → Nat → Int) (e : Nat) (q : List Nat × List Nat) : Prop := LtC h (e + 1) q.1 ∧ LtC h (e + 4) q.2
def EqE (h : Nat → Nat → Int) (e : Nat) (q : List Nat × List Nat) : Prop := LtE h (e + 1) q.1 ∧ LtE h (e + 4) q.2
def AcS (sh : List (Nat × Nat)) (g : Nat → Nat → Option Nat) (A : Nat) : Prop := sh[A]? = some (6, 5) ∧ g A 0 = some (A + 1) ∧ sh[A + 1]? = some (4, 10) ∧ g A 2 = some (A + 2) ∧ sh[A + 2]? = some (2, 20) ∧ g A 3 = some (A + 3) ∧ sh[A + 3]? = some (0, 12) ∧ g A 4 = some (A + 4) ∧ LtS sh g (A + 4) 30 ∧ ∀ i, i < 10 → g (A + 1) i = some (A + 7 + 7 * i) ∧ EqS sh g (A + 7 + 7 * i) 20
section
variable {D : Nat} {sh : List (Nat × Nat)} {g : Nat → Nat → Option Nat} {h : Nat → Nat → Int} {Q : oeQ}
theorem c_matches (hDD : 3 ≤ D) {A s cs a ca : Nat} {sd l : List Nat} (hA : AcS sh g A) (hS : LtS sh g s cs) (hT : LtS sh g a ca) (dS : A + 3 < s ∨ s + 2 < A + 3) (dT : A + 3 < a ∨ a + 2 < A + 3) (hC : LtC h s sd) (hC2 : LtC h a l) (hE2 : LtE h a l) (hl : sd.length ≤ cs) (hr : l.length ≤ ca) (at_ : Nat) (hat : at_ ≤ 300)
    (k1 : ∀ b h', ol_mt l sd at_ (fun _ => -1) = some b → (∀ v, v < 12 → h' (A + 3) v = b v) → bd_ok b l.length → (∀ c, c ≠ A + 3 → h' c = h c) → Q (some (.inl 1)) (sh, g, h'))
    (k0 : ol_mt l sd at_ (fun _ => -1) = none → ∀ h', (∀ c, c ≠ A + 3 → h' c = h c) → Q (some (.inl 0)) (sh, g, h')) :
    oe_M D 90 [.inr (.inl A), .inr (.inl s), .inr (.inl a), .inl (at_ : Int)] (sh, g, h) Q := by
  obtain ⟨d, rfl⟩ : ∃ d, D = d + 2 := ⟨D - 2, by omega⟩
  obtain ⟨A0, A1, A2, A3, A4, A5, A6, A7, A8, A9⟩ := hA
  have hca := hT.2.2.2.2.2
  have hcs := hS.2.2.2.2.2
  have loop : ∀ (n i pl : Nat) (b : Nat → Int) (h1 : Nat → Nat → Int), sd.length - i = n → i ≤ sd.length → pl ≤ 300 → ol_mt l (sd.drop i) pl b = ol_mt l sd at_ (fun _ => -1) → (∀ v, v < 12 → h1 (A + 3) v = b v) → bd_ok b l.length → (∀ c, c ≠ A + 3 → h1 c = h c) →
      oe_V (oe_cost 90) 90 (oe_M (d + 1)) none Q 14 [some (.inr (.inl A)), some (.inr (.inl s)), some (.inr (.inl a)), none, some (.inl (pl : Int)), some (.inl (i : Int)), none] [] (sh, g, h1) 0 0 := by
    intro n
    induction n with
    | zero =>
      intro i pl b h1 hn hi hpl hR hb hbd hF
      have w : h1 s 2 = ((sd.length : Nat) : Int) := by rw [hF s (by omega), hC.1]
      refine g90_14 ⟨hS.1, fun _ => ?_, fun c => by rw [w] at c; omega⟩
      rw [List.drop_eq_nil_of_le (by omega)] at hR
      exact k1 b h1 hR.symm hb hbd hF
    | succ n ih =>
      intro i pl b h1 hn hi hpl hR hb hbd hF
      have w : h1 s 2 = ((sd.length : Nat) : Int) := by rw [hF s (by omega), hC.1]
      have w2 : h1 a 2 = ((l.length : Nat) : Int) := by rw [hF a (by omega), hC2.1]
      have cc : h1 (s + 1) ((i : Int)).toNat = ((sd.getD i 0 : Nat) : Int) := by rw [Int.toNat_natCast, hF (s + 1) (by omega), hC.2 i (by omega)]
      rw [ol_drop_cons (by omega)] at hR
      simp only [ol_mt] at hR
      refine g90_14 ⟨hS.1, fun c => by rw [w] at c; omega, fun _ => ⟨s + 1, hS.2.1, cs, hS.2.2.2.1, by omega, by omega, hT.1, fun c1 => ?_, fun c1 => ?_⟩⟩
      · rw [w2] at c1
        have hpl2 : pl < l.length := by omega
        rw [if_neg (by omega)] at hR
        have en : h1 (a + 2) ((pl : Int)).toNat = ((ol_en l pl : Nat) : Int) := by rw [Int.toNat_natCast, hF (a + 2) (by omega), hE2 pl hpl2]
        have enl := ol_en_le (Nat.le_of_lt hpl2)
        rw [cc]
        refine ⟨fun c2 => ?_, fun c2 => ?_⟩
        · rw [if_pos (by omega)] at hR
          have hbv := hb (sd.getD i 0) (by omega)
          have hok := hbd (sd.getD i 0)
          refine ⟨A0, A + 3, A5, 12, A6, by omega, by omega, ?_⟩
          rw [Int.toNat_natCast, hbv]
          refine ⟨fun c3 => ?_, fun c3 => ?_⟩
          · rw [if_neg c3] at hR
            have hp : 0 ≤ b (sd.getD i 0) ∧ b (sd.getD i 0) < (l.length : Nat) := by
              rcases hok with q | q
              · exact absurd q c3
              · exact q
            refine ⟨by omega, by omega, ?_⟩
            have eb : b (sd.getD i 0) = (((b (sd.getD i 0)).toNat : Nat) : Int) := by omega
            rw [eb]
            have C1 : LtC h1 a l := hC2.kept (hF a (by omega)) (hF (a + 1) (by omega))
            have E1 : LtE h1 a l := hE2.kept (hF (a + 2) (by omega))
            refine c_isSame (by omega) hT hT C1 E1 C1 E1 hr hr _ pl (by omega) hpl2 (fun q => ⟨1, rfl, rfl, fun _ => ⟨a + 2, hT.2.2.1, ca, hT.2.2.2.2.1, by omega, by omega, by unfold oe_rg; omega, ?_⟩, fun c => absurd c (by decide)⟩) (fun q => ⟨0, rfl, rfl, fun c => absurd rfl c, fun _ => ?_⟩)
            · rw [if_pos q] at hR
              rw [en]
              exact ih (i + 1) (ol_en l pl) b h1 (by omega) (by omega) (by omega) hR hb hbd hF
            · rw [if_neg q] at hR
              exact k0 hR.symm h1 hF
          · rw [if_pos c3] at hR
            refine ⟨by omega, by omega, fun h2 e2 => ⟨a + 2, hT.2.2.1, ca, hT.2.2.2.2.1, by omega, by omega, by unfold oe_rg; omega, ?_⟩⟩
            have e3 : h2 (a + 2) ((pl : Int)).toNat = ((ol_en l pl : Nat) : Int) := by rw [e2, up_ne (by omega)]; exact en
            rw [e3]
            refine ih (i + 1) (ol_en l pl) _ h2 (by omega) (by omega) (by omega) hR (fun v hv => ?_) (bd_ok_upd hbd hpl2) (fun c hc => by rw [e2, up_ne hc, hF c hc])
            rw [e2]
            try dsimp only
            split
            · rename_i q; rw [q, up_eq]
            · rename_i q; rw [up_col q]; exact hb v hv
        · rw [if_neg (by omega)] at hR
          have ct : h1 (a + 1) ((pl : Int)).toNat = ((l.getD pl 0 : Nat) : Int) := by rw [Int.toNat_natCast, hF (a + 1) (by omega), hC2.2 pl hpl2]
          refine ⟨a + 1, hT.2.1, ca, hT.2.2.2.1, by omega, by omega, ?_⟩
          rw [ct]
          refine ⟨fun c3 => ⟨by unfold oe_rg; omega, by unfold oe_rg; omega, ?_⟩, fun c3 => ?_⟩
          · rw [if_pos (by omega)] at hR
            exact ih (i + 1) (pl + 1) b h1 (by omega) (by omega) (by omega) hR hb hbd hF
          · rw [if_neg (by omega)] at hR
            exact k0 hR.symm h1 hF
      · rw [w2] at c1
        rw [if_pos (by omega)] at hR
        exact k0 hR.symm h1 hF
  refine g90 ⟨A0, A + 3, A5, ?_⟩
  refine c_fill (by omega) A6 (by omega) (-1) (fun h1 hv hF => ⟨h1, rfl, rfl, ?_⟩)
  exact loop sd.length 0 at_ (fun _ => -1) h1 (by omega) (Nat.zero_le _) hat rfl (fun v hv' => hv v hv') (fun v => Or.inl rfl) hF
set_option maxHeartbeats 1000000 in
theorem c_fillR (hDD : 4 ≤ D) {A s cs a ca : Nat} {sd l : List Nat} (hA : AcS sh g A) (hS : LtS sh g s cs) (hT : LtS sh g a ca) (dS : A + 6 < s ∨ s + 2 < A + 3) (dT : A + 6 < a ∨ a + 2 < A + 3) (hC : LtC h s sd) (hC2 : LtC h a l) (hE2 : LtE h a l) (hl : sd.length ≤ cs) (hr : l.length ≤ ca) (b : Nat → Int) (hb : ∀ v, v < 12 → h (A + 3) v = b v) (hbd : bd_ok b l.length) (hall : ∀ c ∈ sd, c < 12 → b c ≠ -1) (room : Nat) (hroom : room ≤ 30)
    (k1 : ∀ rep h', ol_fi l b room sd [] = some rep → LtC h' (A + 4) rep → LtE h' (A + 4) rep → (∀ c, c ≠ A + 4 → c ≠ A + 5 → c ≠ A + 6 → h' c = h c) → Q (some (.inl 1)) (sh, g, h'))
    (k0 : ol_fi l b room sd [] = none → ∀ h', (∀ c, c ≠ A + 4 → c ≠ A + 5 → c ≠ A + 6 → h' c = h c) → Q (some (.inl 0)) (sh, g, h')) :
    oe_M D 91 [.inr (.inl A), .inr (.inl s), .inr (.inl a), .inl (room : Int)] (sh, g, h) Q := by
  obtain ⟨d, rfl⟩ : ∃ d, D = d + 2 := ⟨D - 2, by omega⟩
  obtain ⟨A0, A1, A2, A3, A4, A5, A6, A7, A8, A9⟩ := hA
  have hca := hT.2.2.2.2.2
  have hcs := hS.2.2.2.2.2
  have loop : ∀ (n i : Nat) (acc : List Nat) (h1 : Nat → Nat → Int), sd.length - i = n → i ≤ sd.length → acc.length ≤ room → ol_fi l b room (sd.drop i) acc = ol_fi l b room sd [] → LtC h1 (A + 4) acc → (∀ c, c ≠ A + 4 → c ≠ A + 5 → c ≠ A + 6 → h1 c = h c) →
      oe_V (oe_cost 91) 91 (oe_M (d + 1)) none Q 10 [some (.inr (.inl A)), some (.inr (.inl s)), some (.inr (.inl a)), some (.inl (room : Int)), some (.inl (i : Int)), none, none, none, none] [] (sh, g, h1) 0 0 := by
    intro n
    induction n with
    | zero =>
      intro i acc h1 hn hi hacc hR hCa hF
      have w : h1 s 2 = ((sd.length : Nat) : Int) := by rw [hF s (by omega) (by omega) (by omega), hC.1]
      refine g91_10 ⟨hS.1, fun _ => ⟨A0, A + 4, A7, A8.1, ?_⟩, fun c => by rw [w] at c; omega⟩
      rw [List.drop_eq_nil_of_le (by omega)] at hR
      refine c_close (by omega) A8 hCa (by omega) (fun h2 hC3 hE3 hF3 => ⟨h2, rfl, rfl, ?_⟩)
      exact k1 acc h2 hR.symm hC3 hE3 (fun c a1 a2 a3 => by rw [hF3 c a3, hF c a1 a2 a3])
    | succ n ih =>
      intro i acc h1 hn hi hacc hR hCa hF
      have w : h1 s 2 = ((sd.length : Nat) : Int) := by rw [hF s (by omega) (by omega) (by omega), hC.1]
      have wr : h1 (A + 4) 2 = ((acc.length : Nat) : Int) := hCa.1
      have cc : h1 (s + 1) ((i : Int)).toNat = ((sd.getD i 0 : Nat) : Int) := by rw [Int.toNat_natCast, hF (s + 1) (by omega) (by omega) (by omega), hC.2 i (by omega)]
      rw [ol_drop_cons (by omega)] at hR
      simp only [ol_fi] at hR
      have hmem : sd.getD i 0 ∈ sd := by
        rw [List.getD_eq_getElem?_getD, List.getElem?_eq_getElem (by omega)]; exact List.getElem_mem (by omega)
      -- the piece is copied, letter by letter
      have copy : ∀ (piece : List Nat) (v5 v6 : Int), acc.length + piece.length ≤ room → ol_fi l b room (sd.drop (i + 1)) (acc ++ piece) = ol_fi l b room sd [] →
          ((v6 = -1 ∧ ∃ x : Nat, v5 = (x : Int) ∧ piece = [x]) ∨ (∃ q : Nat, v6 = (q : Int) ∧ q + piece.length ≤ l.length ∧ ∀ k, k < piece.length → piece.getD k 0 = l.getD (q + k) 0)) →
          oe_V (oe_cost 91) 91 (oe_M (d + 1)) none Q 90 [some (.inr (.inl A)), some (.inr (.inl s)), some (.inr (.inl a)), some (.inl (room : Int)), some (.inl (i : Int)), some (.inl v5), some (.inl v6), some (.inl ((piece.length : Nat) : Int)), some (.inl 0)] [] (sh, g, h1) 0 0 := by
        intro piece v5 v6 hfit hR2 hsrc
        have lp : ∀ (m k : Nat) (h2 : Nat → Nat → Int), piece.length - k = m → k ≤ piece.length → LtC h2 (A + 4) (acc ++ piece.take k) → (∀ c, c ≠ A + 4 → c ≠ A + 5 → c ≠ A + 6 → h2 c = h c) →
            oe_V (oe_cost 91) 91 (oe_M (d + 1)) none Q 90 [some (.inr (.inl A)), some (.inr (.inl s)), some (.inr (.inl a)), some (.inl (room : Int)), some (.inl (i : Int)), some (.inl v5), some (.inl v6), some (.inl ((piece.length : Nat) : Int)), some (.inl (k : Int))] [] (sh, g, h2) 0 0 := by
          intro m
          induction m with
          | zero =>
            intro k h2 hm hk hC4 hF4
            refine g91_90 ⟨fun _ => ⟨by unfold oe_rg; omega, ?_⟩, fun c => by omega⟩
            rw [List.take_of_length_le (by omega)] at hC4
            exact ih (i + 1) (acc ++ piece) h2 (by clear hsrc; omega) (by clear hsrc; omega) (by rw [List.length_append]; exact hfit) hR2 hC4 hF4
          | succ m ihm =>
            intro k h2 hm hk hC4 hF4
            have hlt : (acc ++ piece.take k).length < 30 := by rw [List.length_append, List.length_take]; omega
            have nx : acc ++ piece.take k ++ [piece.getD k 0] = acc ++ piece.take (k + 1) := by rw [ol_take_succ (by omega), List.append_assoc]
            refine g91_90 ⟨fun c => by omega, fun _ => ⟨A0, A + 4, A7, fun c3 => ?_, fun c3 => ?_⟩⟩
            · rcases hsrc with ⟨e6, _⟩ | ⟨q, e6, hq, hpc⟩
              · exact absurd e6 c3
              · have ct : h2 (a + 1) (v6 + (k : Int)).toNat = ((piece.getD k 0 : Nat) : Int) := by
                  rw [e6, show ((q : Int) + (k : Int)).toNat = q + k by omega, hF4 (a + 1) (by omega) (by omega) (by omega), hC2.2 (q + k) (by omega), hpc k (by omega)]
                refine ⟨hT.1, a + 1, hT.2.1, by rw [e6]; unfold oe_rg; omega, ca, hT.2.2.2.1, by omega, by omega, A8.1, ?_⟩
                rw [ct]
                refine c_append (by omega) A8 hC4 hlt (piece.getD k 0) (fun h3 hC5 hF5 => ⟨h3, rfl, rfl, by unfold oe_rg; omega, ?_⟩)
                rw [nx] at hC5
                exact ihm (k + 1) h3 (by omega) (by omega) hC5 (fun c a1 a2 a3 => by rw [hF5 c a1 a2, hF4 c a1 a2 a3])
            · rcases hsrc with ⟨e6, x, e5, ep⟩ | ⟨q, e6, _⟩
              · have hk0 : k = 0 := by rw [ep] at hm hk; simp at hm hk; omega
                subst hk0
                have ex : piece.getD 0 0 = x := by rw [ep]; rfl
                refine ⟨A8.1, ?_⟩
                subst e5
                refine c_append (by omega) A8 hC4 hlt x (fun h3 hC5 hF5 => ⟨h3, rfl, rfl, by unfold oe_rg; omega, ?_⟩)
                rw [← ex, nx] at hC5
                exact ihm 1 h3 (by omega) (by omega) hC5 (fun c a1 a2 a3 => by rw [hF5 c a1 a2, hF4 c a1 a2 a3])
              · omega
        refine lp piece.length 0 h1 (by omega) (Nat.zero_le _) ?_ hF
        rw [List.take_zero, List.append_nil]
        exact hCa
      refine g91_10 ⟨hS.1, fun c => by rw [w] at c; omega, fun _ => ⟨s + 1, hS.2.1, cs, hS.2.2.2.1, by omega, by omega, fun c1 => ?_, fun c1 => ?_⟩⟩
      · rw [cc] at c1 ⊢
        rw [if_pos (by omega)] at hR
        have hbv : h1 (A + 3) (((sd.getD i 0 : Nat) : Int)).toNat = b (sd.getD i 0) := by rw [Int.toNat_natCast, hF (A + 3) (by omega) (by omega) (by omega), hb _ (by omega)]
        have hne := hall _ hmem (by omega)
        have hp : 0 ≤ b (sd.getD i 0) ∧ b (sd.getD i 0) < (l.length : Nat) := by
          rcases hbd (sd.getD i 0) with q | q
          · exact absurd q hne
          · exact q
        rw [if_neg hne] at hR
        refine ⟨A0, A + 3, A5, 12, A6, by omega, by omega, ?_⟩
        rw [hbv]
        refine ⟨fun c3 => ?_, fun c3 => absurd c3 hne⟩
        obtain ⟨q, hq⟩ : ∃ q : Nat, b (sd.getD i 0) = (q : Int) := ⟨(b (sd.getD i 0)).toNat, by omega⟩
        rw [hq] at hR hp ⊢
        rw [Int.toNat_natCast] at hR
        have hq1 : q < l.length := by omega
        have en : h1 (a + 2) ((q : Int)).toNat = ((ol_en l q : Nat) : Int) := by rw [Int.toNat_natCast, hF (a + 2) (by omega) (by omega) (by omega), hE2 q hq1]
        have e1 := ol_en_le (Nat.le_of_lt hq1)
        have e2 := ol_en_lt hq1
        rw [ol_sub_len2] at hR
        refine ⟨hT.1, a + 2, hT.2.2.1, ca, hT.2.2.2.2.1, by omega, by omega, by rw [en]; unfold oe_rg; omega, A + 4, A7, A8.1, by rw [en, wr]; unfold oe_rg; omega, fun c4 => ?_, fun c4 => ?_⟩
        · rw [en, wr] at c4
          rw [if_neg (by omega)] at hR
          have cp := copy (ol_sub l q) ((sd.getD i 0 : Nat) : Int) (q : Int) (by rw [ol_sub_len2]; omega) hR (Or.inr ⟨q, rfl, by rw [ol_sub_len2]; omega, fun k hk => ol_sub_at hk⟩)
          rw [ol_sub_len2, show ((ol_en l q - q : Nat) : Int) = ((ol_en l q : Nat) : Int) - (q : Int) by omega] at cp
          rw [en]
          exact cp
        · rw [en, wr] at c4
          rw [if_pos (by omega)] at hR
          exact k0 hR.symm h1 hF
      · rw [cc] at c1 ⊢
        rw [if_neg (by omega)] at hR
        refine ⟨A0, A + 4, A7, A8.1, by rw [wr]; unfold oe_rg; omega, fun c4 => ?_, fun c4 => ?_⟩
        · rw [wr] at c4
          rw [if_neg (by omega)] at hR
          exact copy [sd.getD i 0] ((sd.getD i 0 : Nat) : Int) (-1) (by simp; omega) hR (Or.inl ⟨rfl, _, rfl, rfl⟩)
        · rw [wr] at c4
          rw [if_pos (by omega)] at hR
          exact k0 hR.symm h1 hF
  refine g91 ⟨A0, A + 4, A7, A8.1, ?_⟩
  refine c_empty (by omega) A8 (fun h1 e1 => ⟨h1, rfl, rfl, ?_⟩)
  refine loop sd.length 0 [] h1 (by omega) (Nat.zero_le _) (Nat.zero_le _) rfl ⟨by rw [e1, up_eq]; rfl, fun i hi => by cases hi⟩ (fun c a1 _ _ => by rw [e1, up_ne a1])
end
