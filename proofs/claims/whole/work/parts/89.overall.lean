/-! All overlaps of a new equation (class): the walk. -/
theorem ab_o_1 (qa : List Nat × List Nat) (i : Nat) (qb : List Nat × List Nat) (j p : Nat) : (if (ol_sides qb j).1.getD p 0 < 12 then 0 else (ol_ov (ol_sides qa i).1 (ol_sides qa i).2 (ol_shift 6 (ol_sides qb j).1) (ol_shift 6 (ol_sides qb j).2) p).1) = (ab_o qa i qb j p).1 := by
  unfold ab_o
  split <;> rfl
theorem ab_o_2 {qa : List Nat × List Nat} {i : Nat} {qb : List Nat × List Nat} {j p : Nat} (h : (ab_o qa i qb j p).1 = 2) : (ol_ov (ol_sides qa i).1 (ol_sides qa i).2 (ol_shift 6 (ol_sides qb j).1) (ol_shift 6 (ol_sides qb j).2) p).2 = (ab_o qa i qb j p).2 := by
  unfold ab_o at h ⊢
  split at h
  · cases h
  · rename_i c; rw [if_neg c]
section
variable {D : Nat} {sh : List (Nat × Nat)} {g : Nat → Nat → Option Nat} {h : Nat → Nat → Int} {Q : oeQ}
set_option maxHeartbeats 1000000 in
theorem c_overlapAll (hDD : 72 ≤ D) {π : Nat → Nat} {ws eqs : List (List Nat × List Nat)} {lost : Nat} (hO : OeS sh g π) (hW : WtC h 3 π ws) (hE : AcC h 215 eqs) (hl : h 0 7 = (lost : Int)) (hlb : lost < 1900000000) (f : Nat) (hf : f < eqs.length)
    (k : ∀ h', WtC h' 3 π (ab_ds eqs f (f + 1) 0 (ws, lost)).1 → AcC h' 215 eqs → h' 0 7 = (((ab_ds eqs f (f + 1) 0 (ws, lost)).2 : Nat) : Int) → (ab_ds eqs f (f + 1) 0 (ws, lost)).2 ≤ lost + 1600 → oe_fr h h' → Q none (sh, g, h')) : oe_M D 26 [.inr (.inl 0), .inl (f : Int)] (sh, g, h) Q := by
  obtain ⟨d, rfl⟩ : ∃ d, D = d + 2 := ⟨D - 2, by omega⟩
  have hOO := hO
  obtain ⟨o0, _, ⟨w1, w2⟩, ⟨a1, a2⟩, ⟨v1, v2⟩, _, _, _, ⟨x1, x2⟩, n1, n2⟩ := hO
  have wp : ∀ i, i < 30 → π i < 30 := fun i hi => (w2.2.2.2.2.1 i hi).1
  have e10 := hE.2.1
  have eqok : ∀ i, i < eqs.length → eq_ok (eqs.getD i ([], [])) := fun i hi => (hE.2.2 i hi).2.2.1
  have row : ∀ i, i < eqs.length → g 216 i = some (222 + 7 * i) ∧ EqS sh g (222 + 7 * i) 20 := fun i hi => a2.2.2.2.2.2.2.2.2.2 i (by omega)
  -- the places of one side
  have side : ∀ (u dd tn a b i j : Nat) (R : Nat), a < eqs.length → b < eqs.length → i < 2 → j < 2 → ∀ (n p : Nat) (s : List (List Nat × List Nat) × Nat) (h1 : Nat → Nat → Int), (ol_sides (eqs.getD b ([], [])) j).1.length - p = n → WtC h1 3 π s.1 → AcC h1 215 eqs → h1 0 7 = ((s.2 : Nat) : Int) → s.2 + n + R ≤ lost + 1600 → oe_fr h h1 → u ≤ 8 →
      (∀ h2 : Nat → Nat → Int, WtC h2 3 π (ab_side eqs (eqs.getD a ([], [])) i (eqs.getD b ([], [])) j n p s).1 → AcC h2 215 eqs → h2 0 7 = (((ab_side eqs (eqs.getD a ([], [])) i (eqs.getD b ([], [])) j n p s).2 : Nat) : Int) → (ab_side eqs (eqs.getD a ([], [])) i (eqs.getD b ([], [])) j n p s).2 + R ≤ lost + 1600 → oe_fr h h2 →
        oe_V (oe_cost 26) 26 (oe_M (d + 1)) none Q 22 [some (.inr (.inl 0)), some (.inl (f : Int)), some (.inl (dd : Int)), some (.inl (tn : Int)), some (.inl ((u : Int) + 1)), none, none, none, none, none, none, none] [] (sh, g, h2) 0 0) →
      oe_V (oe_cost 26) 26 (oe_M (d + 1)) none Q 105 [some (.inr (.inl 0)), some (.inl (f : Int)), some (.inl (dd : Int)), some (.inl (tn : Int)), some (.inl (u : Int)), some (.inl (a : Int)), none, some (.inl (i : Int)), some (.inl (j : Int)), none, some (.inr (.inl (222 + 7 * b))), some (.inl (p : Int))] [] (sh, g, h1) 0 0 := by
    intro u dd tn a b i j R ha hb hi hj n
    obtain ⟨ga, Sa⟩ := row a ha
    obtain ⟨gb, Sb⟩ := row b hb
    obtain ⟨lb, rb, SM, SN, m1, m2, m3, m4, MC, gM, gN⟩ := eq_side (q := eqs.getD b ([], [])) Sb hj
    have slen := (sides_ok (eqok b hb) j).2.2.1
    induction n with
    | zero =>
      intro p s h1 hn W1 A1 L1 B1 fr1 hu K
      have cb := (A1.2.2 b hb).1
      have wl : h1 lb 2 = (((ol_sides (eqs.getD b ([], [])) j).1.length : Nat) : Int) := (MC h1 cb).1.1
      refine g26_105 ⟨Sb.1, gM (d + 1) h1 _ (by omega) ⟨lb, rfl, rfl, SM.1, fun _ => ⟨by unfold oe_rg; omega, K h1 W1 A1 L1 (by show s.2 + R ≤ _; omega) fr1⟩, fun c => by rw [wl] at c; omega⟩⟩
    | succ n ih =>
      intro p s h1 hn W1 A1 L1 B1 fr1 hu K
      have ca := (A1.2.2 a ha).1
      have cb := (A1.2.2 b hb).1
      have wl : h1 lb 2 = (((ol_sides (eqs.getD b ([], [])) j).1.length : Nat) : Int) := (MC h1 cb).1.1
      have hp : p < (ol_sides (eqs.getD b ([], [])) j).1.length := by omega
      refine g26_105 ⟨Sb.1, gM (d + 1) h1 _ (by omega) ⟨lb, rfl, rfl, SM.1, fun c => by rw [wl] at c; omega, fun _ => ⟨o0, 292, v1, 215, a1, a2.1, 216, a2.2.1, 10, a2.2.2.1, by omega, by omega, 222 + 7 * a, by rw [Int.toNat_natCast]; exact ga, v2.1, ?_⟩⟩⟩
      refine c_workOut (by omega) v2 Sa Sb (by omega) (by omega) hi hj ca cb (eqok a ha) (eqok b hb) p hp (fun h2 F2 P2 => ⟨_, h2, rfl, rfl, ?_⟩)
      rw [ab_o_1] at P2 ⊢
      have W2 : WtC h2 3 π s.1 := W1.kept wp (F2 _ (by omega)) (fun c z1 z2 => F2 c (by omega))
      have A2 : AcC h2 215 eqs := A1.kept (F2 _ (by omega)) (F2 _ (by omega)) (fun c z1 z2 => F2 c (by omega))
      have fr2 : oe_fr h h2 := oe_fr_tr fr1 ⟨fun c hc => F2 c (by omega), fun i _ => by rw [F2 0 (by omega)]⟩
      have kle := ab_keep_le eqs s (ab_o (eqs.getD a ([], [])) i (eqs.getD b ([], [])) j p)
      refine c_keep (by omega) (ws := s.1) (lost := s.2) hOO W2 A2 (by rw [F2 0 (by omega)]; exact L1) (by omega) (ab_o (eqs.getD a ([], [])) i (eqs.getD b ([], [])) j p) (fun z => ?_) (fun h3 W3 A3 L3 fr3 => ⟨h3, rfl, rfl, by unfold oe_rg; omega, ?_⟩)
      · obtain ⟨q1, q2⟩ := P2 z
        rw [ab_o_2 z] at q1 q2
        obtain ⟨q3, q4⟩ := ab_o_ok (eqok a ha) (eqok b hb) hp z
        exact ⟨q1, q2, q3, q4⟩
      · exact ih (p + 1) (ab_keep eqs s (ab_o (eqs.getD a ([], [])) i (eqs.getD b ([], [])) j p)) h3 (by omega) W3 A3 L3 (by omega) (oe_fr_tr fr2 fr3) hu K
  -- the turns of one pair of equations
  have turns : ∀ (dd tn : Nat) (R : Nat), dd ≤ f → tn ≤ 8 → (dd = f → tn ≤ 4) → ∀ (n u : Nat) (s : List (List Nat × List Nat) × Nat) (h1 : Nat → Nat → Int), tn - u = n → u ≤ tn → WtC h1 3 π s.1 → AcC h1 215 eqs → h1 0 7 = ((s.2 : Nat) : Int) → s.2 + 20 * n + R ≤ lost + 1600 → oe_fr h h1 →
      (∀ h2 : Nat → Nat → Int, WtC h2 3 π (ab_turns eqs f dd n u s).1 → AcC h2 215 eqs → h2 0 7 = (((ab_turns eqs f dd n u s).2 : Nat) : Int) → (ab_turns eqs f dd n u s).2 + R ≤ lost + 1600 → oe_fr h h2 →
        oe_V (oe_cost 26) 26 (oe_M (d + 1)) none Q 2 [some (.inr (.inl 0)), some (.inl (f : Int)), some (.inl ((dd : Int) + 1)), none, none, none, none, none, none, none, none, none] [] (sh, g, h2) 0 0) →
      oe_V (oe_cost 26) 26 (oe_M (d + 1)) none Q 22 [some (.inr (.inl 0)), some (.inl (f : Int)), some (.inl (dd : Int)), some (.inl (tn : Int)), some (.inl (u : Int)), none, none, none, none, none, none, none] [] (sh, g, h1) 0 0 := by
    intro dd tn R hd ht htf n
    induction n with
    | zero =>
      intro u s h1 hn hu W1 A1 L1 B1 fr1 K
      exact g26_22 ⟨fun _ => ⟨by unfold oe_rg; omega, K h1 W1 A1 L1 (by show s.2 + R ≤ _; omega) fr1⟩, fun c => by omega⟩
    | succ n ih =>
      intro u s h1 hn hu W1 A1 L1 B1 fr1 K
      have u1 : ((u : Int) + 1) = ((u + 1 : Nat) : Int) := by omega
      have ia : ((u : Int) / 2) % 2 = ((u / 2 % 2 : Nat) : Int) := by omega
      have ja : (u : Int) % 2 = ((u % 2 : Nat) : Int) := by omega
      -- the meeting of ways, at the pair that this turn takes
      have at52 : ∀ (a b : Nat), a < eqs.length → b < eqs.length → a = (if u < 4 then f else dd) → b = (if u < 4 then dd else f) →
          oe_V (oe_cost 26) 26 (oe_M (d + 1)) none Q 52 [some (.inr (.inl 0)), some (.inl (f : Int)), some (.inl (dd : Int)), some (.inl (tn : Int)), some (.inl (u : Int)), some (.inl (a : Int)), none, none, none, none, none, none] [.inl (b : Int)] (sh, g, h1) 0 0 := by
        intro a b ha hb ea eb
        have slen := (sides_ok (eqok b hb) (u % 2)).2.2.1
        obtain ⟨gb, Sb⟩ := row b hb
        have abf : (a = b) ↔ (f = dd) := by
          rw [ea, eb]
          split <;> omega
        have go : ∀ st : Nat, st = (if f = dd ∧ u / 2 % 2 = u % 2 then 1 else 0) → oe_V (oe_cost 26) 26 (oe_M (d + 1)) none Q 105 [some (.inr (.inl 0)), some (.inl (f : Int)), some (.inl (dd : Int)), some (.inl (tn : Int)), some (.inl (u : Int)), some (.inl (a : Int)), none, some (.inl (((u : Int) / 2) % 2)), some (.inl ((u : Int) % 2)), none, some (.inr (.inl (222 + 7 * b))), some (.inl (st : Int))] [] (sh, g, h1) 0 0 := by
          intro st est
          rw [ia, ja]
          refine side u dd tn a b (u / 2 % 2) (u % 2) (20 * n + R) ha hb (by omega) (by omega) ((ol_sides (eqs.getD b ([], [])) (u % 2)).1.length - st) st s h1 rfl W1 A1 L1 (by omega) fr1 (by omega) (fun h2 W2 A2 L2 B2 fr2 => ?_)
          rw [u1]
          refine ih (u + 1) (ab_side eqs (eqs.getD a ([], [])) (u / 2 % 2) (eqs.getD b ([], [])) (u % 2) ((ol_sides (eqs.getD b ([], [])) (u % 2)).1.length - st) st s) h2 (by omega) (by omega) W2 A2 L2 (by omega) fr2 ?_
          rw [est, ea, eb]
          exact K
        refine g26_52 ⟨by omega, by omega, by omega, fun c => ⟨o0, 215, a1, a2.1, 216, a2.2.1, 10, a2.2.2.1, by omega, by omega, 222 + 7 * b, by rw [Int.toNat_natCast]; exact gb, ?_⟩, fun c => ⟨fun c2 => ⟨o0, 215, a1, a2.1, 216, a2.2.1, 10, a2.2.2.1, by omega, by omega, 222 + 7 * b, by rw [Int.toNat_natCast]; exact gb, ?_⟩, fun c2 => ⟨o0, 215, a1, a2.1, 216, a2.2.1, 10, a2.2.2.1, by omega, by omega, 222 + 7 * b, by rw [Int.toNat_natCast]; exact gb, ?_⟩⟩⟩
        · exact go 0 (by rw [if_neg (fun z => by have := abf.mpr z.1; omega)])
        · exact go 0 (by rw [if_neg (fun z => by have := z.2; omega)])
        · exact go 1 (by rw [if_pos ⟨abf.mp (by omega), by omega⟩])
      refine g26_22 ⟨fun c => by omega, fun _ => ⟨fun c => ⟨fun _ => ?_, fun c2 => by omega⟩, fun c => ⟨fun c2 => by omega, fun _ => ?_⟩⟩⟩
      · exact at52 dd f (by omega) hf (by rw [if_neg (by omega)]) (by rw [if_neg (by omega)])
      · exact at52 f dd hf (by omega) (by rw [if_pos (by omega)]) (by rw [if_pos (by omega)])
  have ds : ∀ (n dd : Nat) (s : List (List Nat × List Nat) × Nat) (h1 : Nat → Nat → Int), f + 1 - dd = n → dd ≤ f + 1 → WtC h1 3 π s.1 → AcC h1 215 eqs → h1 0 7 = ((s.2 : Nat) : Int) → s.2 + 160 * n ≤ lost + 1600 → oe_fr h h1 → ab_ds eqs f n dd s = ab_ds eqs f (f + 1) 0 (ws, lost) →
      oe_V (oe_cost 26) 26 (oe_M (d + 1)) none Q 2 [some (.inr (.inl 0)), some (.inl (f : Int)), some (.inl (dd : Int)), none, none, none, none, none, none, none, none, none] [] (sh, g, h1) 0 0 := by
    intro n
    induction n with
    | zero =>
      intro dd s h1 hn hd W1 A1 L1 B1 fr1 he
      have he : s = ab_ds eqs f (f + 1) 0 (ws, lost) := he
      rw [← he] at k
      exact g26_2 ⟨fun _ => k h1 W1 A1 L1 (by omega) fr1, fun c => by omega⟩
    | succ n ih =>
      intro dd s h1 hn hd W1 A1 L1 B1 fr1 he
      have d1 : ((dd : Int) + 1) = ((dd + 1 : Nat) : Int) := by omega
      have he : ab_ds eqs f n (dd + 1) (ab_turns eqs f dd (if dd = f then 4 else 8) 0 s) = ab_ds eqs f (f + 1) 0 (ws, lost) := he
      refine g26_2 ⟨fun c => by omega, fun _ => ⟨fun c => ?_, fun c => ?_⟩⟩
      · rw [if_neg (show ¬ dd = f by omega)] at he
        refine turns dd 8 (160 * n) (by omega) (by omega) (fun z => by omega) 8 0 s h1 rfl (by omega) W1 A1 L1 (by omega) fr1 (fun h2 W2 A2 L2 B2 fr2 => ?_)
        rw [d1]
        exact ih (dd + 1) _ h2 (by omega) (by omega) W2 A2 L2 B2 fr2 he
      · rw [if_pos (show dd = f by omega)] at he
        refine turns dd 4 (160 * n) (by omega) (by omega) (fun z => by omega) 4 0 s h1 rfl (by omega) W1 A1 L1 (by omega) fr1 (fun h2 W2 A2 L2 B2 fr2 => ?_)
        rw [d1]
        exact ih (dd + 1) _ h2 (by omega) (by omega) W2 A2 L2 B2 fr2 he
  exact g26 (ds (f + 1) 0 (ws, lost) h (by omega) (by omega) hW hE hl (by show lost + 160 * (f + 1) ≤ _; omega) (oe_fr_refl h) rfl)
end
