/-! The reference: reducing a term, a side. -/
def SD (h : Nat → Nat → Int) (m s : Nat) (w : List Nat) : Prop := h (m + 11) s = ((w.length : Nat) : Int) ∧ MA h (m + 10) (40 * s) w
theorem SD.kept {h h' : Nat → Nat → Int} {m s : Nat} {w : List Nat} (H : SD h m s w) (e1 : h' (m + 11) s = h (m + 11) s) (e2 : ∀ i, i < w.length → h' (m + 10) (40 * s + i) = h (m + 10) (40 * s + i)) : SD h' m s w :=
  ⟨by rw [e1]; exact H.1, fun i hi => by rw [e2 i hi]; exact H.2 i hi⟩
section
variable {D : Nat} {sh : List (Nat × Nat)} {g : Nat → Nat → Option Nat} {h : Nat → Nat → Int} {Q : oeQ}
theorem m_low (hDD : 12 ≤ D) {m : Nat} (hM : MdS sh g m) {l : List Nat} {eqs : List (List Nat × List Nat)} (hl : tm_ok l) (hn10 : eqs.length ≤ 10) (nA : h m 12 = ((eqs.length : Nat) : Int)) (W : MW h (m + 7) (m + 8) (m + 9) eqs) (R : MR h (m + 18) l) (nl : h m 29 = ((l.length : Nat) : Int))
    (k : ∀ h', tm_ok (ol_low eqs 50 l).1 → MR h' (m + 18) (ol_low eqs 50 l).1 → h' m 29 = (((ol_low eqs 50 l).1.length : Nat) : Int) → md_fr m h h' → Q (some (.inl (((ol_low eqs 50 l).2 : Nat) : Int))) (sh, g, h')) : oe_M D 50 [.inr (.inl m)] (sh, g, h) Q := by
  obtain ⟨d, rfl⟩ : ∃ d, D = d + 2 := ⟨D - 2, by omega⟩
  have loop : ∀ (n i : Nat) (w : List Nat) (h1 : Nat → Nat → Int), i + n = 50 → tm_ok w → MR h1 (m + 18) w → h1 m 29 = ((w.length : Nat) : Int) → md_fr m h h1 → (ol_low eqs 50 l).1 = (ol_low eqs n w).1 → (ol_low eqs 50 l).2 = i + (ol_low eqs n w).2 →
      oe_V (oe_cost 50) 50 (oe_M (d + 1)) none Q 2 [some (.inr (.inl m)), some (.inl (i : Int))] [] (sh, g, h1) 0 0 := by
    intro n
    induction n with
    | zero =>
      intro i w h1 hi hw R1 n1 fr1 r1 r2
      have f1 : (ol_low eqs 50 l).1 = w := r1
      have f2 : (ol_low eqs 50 l).2 = i := r2
      have K := k h1 (by rw [f1]; exact hw) (by rw [f1]; exact R1) (by rw [f1]; exact n1) fr1
      rw [f2] at K
      exact g50_2 ⟨fun _ => K, fun c => by omega⟩
    | succ n ih =>
      intro i w h1 hi hw R1 n1 fr1 r1 r2
      have step : ol_low eqs (n + 1) w = (match ol_once eqs w with | none => (w, 0) | some l' => ((ol_low eqs n l').1, (ol_low eqs n l').2 + 1)) := rfl
      refine g50_2 ⟨fun c => by omega, fun _ => ⟨hM.1, ?_⟩⟩
      refine m_once (by omega) hM hw hn10 (by rw [fr1.2 12 (by omega) (by omega) (by omega) (by omega)]; exact nA) (W.kept (fr1.1 _ (by omega) (by omega)) (fr1.1 _ (by omega) (by omega)) (fr1.1 _ (by omega) (by omega))) R1 n1 (fun l' h2 he hok R2 n2 fr2 => ⟨1, h2, rfl, rfl, fun c => absurd c (by decide), fun _ => ⟨by unfold oe_rg; omega, ?_⟩⟩) (fun he h2 R2 n2 fr2 => ⟨0, h2, rfl, rfl, fun _ => ?_, fun c => absurd rfl c⟩)
      · rw [step, he] at r1 r2
        rw [show (i : Int) + 1 = ((i + 1 : Nat) : Int) by omega]
        exact ih (i + 1) l' h2 (by omega) hok R2 n2 (md_fr_tr fr1 fr2) r1 (by have r3 : (ol_low eqs 50 l).2 = i + ((ol_low eqs n l').2 + 1) := r2; omega)
      · rw [step, he] at r1 r2
        have f1 : (ol_low eqs 50 l).1 = w := r1
        have f2 : (ol_low eqs 50 l).2 = i := r2
        have K := k h2 (by rw [f1]; exact hw) (by rw [f1]; exact R2) (by rw [f1]; exact n2) (md_fr_tr fr1 fr2)
        rw [f2] at K
        exact K
  exact g50 (loop 50 0 l h rfl hl R nl (md_fr_refl m h) rfl (by omega))
/-- a side is reduced; the other sides stay -/
theorem m_side (hDD : 14 ≤ D) {m s : Nat} (hM : MdS sh g m) (hs : s < 6) {w : List Nat} {eqs : List (List Nat × List Nat)} (hl : tm_ok w) (hn10 : eqs.length ≤ 10) (nA : h m 12 = ((eqs.length : Nat) : Int)) (W : MW h (m + 7) (m + 8) (m + 9) eqs) (S : SD h m s w)
    (k : ∀ h', tm_ok (ol_low eqs 50 w).1 → SD h' m s (ol_low eqs 50 w).1 → (∀ i, i ≠ s → h' (m + 11) i = h (m + 11) i) → (∀ i, i < 40 * s ∨ 40 * s + 40 ≤ i → h' (m + 10) i = h (m + 10) i) → (∀ c, c ≠ m → c < m + 10 ∨ m + 11 < c → c < m + 13 ∨ m + 21 < c → h' c = h c) → (∀ j, j ≠ 22 → j ≠ 24 → j ≠ 29 → j ≠ 33 → h' m j = h m j) → Q none (sh, g, h')) : oe_M D 51 [.inr (.inl m), .inl (s : Int)] (sh, g, h) Q := by
  obtain ⟨d, rfl⟩ : ∃ d, D = d + 2 := ⟨D - 2, by omega⟩
  have acS := md_18 hM
  have acN := md_19 hM
  have acT := md_28 hM
  have wl := hl.2.1
  have back : ∀ (v : List Nat), v.length ≤ 30 → tm_ok v → v = (ol_low eqs 50 w).1 → ∀ (n i : Nat) (h1 : Nat → Nat → Int), v.length - i = n → i ≤ v.length → MR h1 (m + 18) v → h1 m 29 = ((v.length : Nat) : Int) → h1 (m + 11) s = ((v.length : Nat) : Int) → (∀ j, j < i → h1 (m + 10) (40 * s + j) = om (v.getD j 0)) → (∀ i, i ≠ s → h1 (m + 11) i = h (m + 11) i) → (∀ i, i < 40 * s ∨ 40 * s + 40 ≤ i → h1 (m + 10) i = h (m + 10) i) → (∀ c, c ≠ m → c < m + 10 ∨ m + 11 < c → c < m + 13 ∨ m + 21 < c → h1 c = h c) → (∀ j, j ≠ 22 → j ≠ 24 → j ≠ 29 → j ≠ 33 → h1 m j = h m j) →
      oe_V (oe_cost 51) 51 (oe_M (d + 1)) none Q 60 [some (.inr (.inl m)), some (.inl (s : Int)), some (.inl (i : Int))] [] (sh, g, h1) 0 0 := by
    intro v v30 vok hv n
    induction n with
    | zero =>
      intro i h1 hn hi R1 n1 s1 P1 q1 q2 q3 q4
      rw [← hv] at k
      exact g51_60 ⟨hM.1, fun _ => k h1 vok ⟨s1, fun j hj => P1 j (by omega)⟩ q1 q2 q3 q4, fun c => by rw [n1] at c; omega⟩
    | succ n ih =>
      intro i h1 hn hi R1 n1 s1 P1 q1 q2 q3 q4
      refine g51_60 ⟨hM.1, fun c => by rw [n1] at c; omega, fun _ => ⟨m + 10, acS.1, by unfold oe_rg; omega, by unfold oe_rg; omega, m + 18, acT.1, 64, acT.2, by omega, by omega, 240, acS.2, by omega, by omega, fun h2 e2 => ⟨by unfold oe_rg; omega, ?_⟩⟩⟩
      rw [Int.toNat_natCast, R1 i (by omega), show (40 * (s : Int) + (i : Int)).toNat = 40 * s + i by omega] at e2
      rw [show (i : Int) + 1 = ((i + 1 : Nat) : Int) by omega]
      refine ih (i + 1) h2 (by omega) (by omega) (fun j hj => by rw [e2, up_ne (by omega)]; exact R1 j hj) (by rw [e2, up_ne (by omega)]; exact n1) (by rw [e2, up_ne (by omega)]; exact s1) (fun j hj => ?_) (fun j hj => by rw [e2, up_ne (by omega)]; exact q1 j hj) (fun j hj => by rw [e2, up_col (by omega)]; exact q2 j hj) (fun c z1 z2 z3 => by rw [e2, up_ne (by omega), q3 c z1 z2 z3]) (fun j a b c e => by rw [e2, up_ne (by omega)]; exact q4 j a b c e)
      by_cases ej : j = i
      · subst ej; rw [e2, up_eq]
      · rw [e2, up_col (by omega)]; exact P1 j (by omega)
  have fwd : ∀ (n i : Nat) (h1 : Nat → Nat → Int), w.length - i = n → i ≤ w.length → h1 m 29 = ((w.length : Nat) : Int) → (∀ j, j < i → h1 (m + 18) j = om (w.getD j 0)) → (∀ c, c ≠ m → c ≠ m + 18 → h1 c = h c) → (∀ j, j ≠ 29 → h1 m j = h m j) →
      oe_V (oe_cost 51) 51 (oe_M (d + 1)) none Q 12 [some (.inr (.inl m)), some (.inl (s : Int)), some (.inl (i : Int))] [] (sh, g, h1) 0 0 := by
    intro n
    induction n with
    | zero =>
      intro i h1 hn hi n1 P1 q1 q2
      refine g51_12 ⟨hM.1, fun _ => ?_, fun c => by rw [n1] at c; omega⟩
      refine m_low (by omega) hM hl hn10 (by rw [q2 12 (by omega)]; exact nA) (W.kept (q1 _ (by omega) (by omega)) (q1 _ (by omega) (by omega)) (q1 _ (by omega) (by omega))) (fun j hj => P1 j (by omega)) n1 (fun h2 o2 R2 n2 fr2 => ⟨_, h2, rfl, rfl, m + 11, acN.1, 6, acN.2, by omega, by omega, fun h3 e3 => ?_⟩)
      rw [n2, Int.toNat_natCast] at e3
      have ol2 := o2.2.1
      refine back _ ol2 o2 rfl _ 0 h3 rfl (Nat.zero_le _) (fun j hj => by rw [e3, up_ne (by omega)]; exact R2 j hj) (by rw [e3, up_ne (by omega)]; exact n2) (by rw [e3, up_eq]) (fun j hj => by omega) (fun j hj => by rw [e3, up_col hj, fr2.1 _ (by omega) (by omega), q1 _ (by omega) (by omega)]) (fun j hj => by rw [e3, up_ne (by omega), fr2.1 _ (by omega) (by omega), q1 _ (by omega) (by omega)]) (fun c z1 z2 z3 => by rw [e3, up_ne (by omega), fr2.1 c z1 (by omega), q1 c z1 (by omega)]) (fun j a b c e => by rw [e3, up_ne (by omega), fr2.2 j a b c e, q2 j c])
    | succ n ih =>
      intro i h1 hn hi n1 P1 q1 q2
      refine g51_12 ⟨hM.1, fun c => by rw [n1] at c; omega, fun _ => ⟨m + 18, acT.1, m + 10, acS.1, by unfold oe_rg; omega, by unfold oe_rg; omega, 240, acS.2, by omega, by omega, 64, acT.2, by omega, by omega, fun h2 e2 => ⟨by unfold oe_rg; omega, ?_⟩⟩⟩
      rw [Int.toNat_natCast, show (40 * (s : Int) + (i : Int)).toNat = 40 * s + i by omega, q1 (m + 10) (by omega) (by omega), S.2 i (by omega)] at e2
      rw [show (i : Int) + 1 = ((i + 1 : Nat) : Int) by omega]
      refine ih (i + 1) h2 (by omega) (by omega) (by rw [e2, up_ne (by omega)]; exact n1) (fun j hj => ?_) (fun c z1 z2 => by rw [e2, up_ne z2, q1 c z1 z2]) (fun j hj => by rw [e2, up_ne (by omega)]; exact q2 j hj)
      by_cases ej : j = i
      · subst ej; rw [e2, up_eq]
      · rw [e2, up_col ej]; exact P1 j (by omega)
  refine g51 ⟨hM.1, m + 11, acN.1, 6, acN.2, by omega, by omega, fun h1 e1 => ?_⟩
  rw [Int.toNat_natCast, S.1] at e1
  exact fwd w.length 0 h1 (by omega) (Nat.zero_le _) (by rw [e1, up_eq]) (fun j hj => by omega) (fun c z1 z2 => by rw [e1, up_ne z1]) (fun j hj => by rw [e1, up_col hj])
end
