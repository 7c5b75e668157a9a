/-! The reference: replacing. -/
section
variable {D : Nat} {sh : List (Nat × Nat)} {g : Nat → Nat → Option Nat} {h : Nat → Nat → Int} {Q : oeQ}
set_option maxHeartbeats 1000000 in
theorem m_replace (hDD : 2 ≤ D) {m : Nat} (hM : MdS sh g m) {l rep : List Nat} (hl : l.length ≤ 60) (R : MR h (m + 18) l) (nl : h m 29 = ((l.length : Nat) : Int)) (hr : rep.length ≤ 60) (B : MR h (m + 21) rep) (nb : h m 33 = ((rep.length : Nat) : Int)) (p e : Nat) (hpe : p ≤ e) (he : e ≤ l.length) (hfit : p + rep.length + (l.length - e) ≤ 60)
    (k : ∀ h', MR h' (m + 18) (l.take p ++ rep ++ l.drop e) → h' m 29 = (((l.take p ++ rep ++ l.drop e).length : Nat) : Int) → (∀ j, j ≠ 29 → h' m j = h m j) → (∀ c, c ≠ m → c ≠ m + 18 → h' c = h c) → Q none (sh, g, h')) :
    oe_M D 48 [.inr (.inl m), .inl (p : Int), .inl (e : Int)] (sh, g, h) Q := by
  obtain ⟨d, rfl⟩ : ∃ d, D = d + 2 := ⟨D - 2, by omega⟩
  have acT := md_28 hM
  have acC := md_32 hM
  have nlen : (l.take p ++ rep ++ l.drop e).length = p + rep.length + (l.length - e) := by rw [List.length_append, List.length_append, List.length_take, List.length_drop]; omega
  have copy : ∀ (n i : Nat) (h1 : Nat → Nat → Int), rep.length - i = n → i ≤ rep.length → (∀ j, j < p → h1 (m + 18) j = om (l.getD j 0)) → (∀ j, j < i → h1 (m + 18) (p + j) = om (rep.getD j 0)) → (∀ t, t < l.length - e → h1 (m + 18) (p + rep.length + t) = om (l.getD (e + t) 0)) → (∀ c, c ≠ m + 18 → h1 c = h c) →
      oe_V (oe_cost 48) 48 (oe_M (d + 1)) none Q 100 [some (.inr (.inl m)), some (.inl (p : Int)), none, some (.inl (((l.length : Nat) : Int) - (e : Int))), none, some (.inl (i : Int))] [] (sh, g, h1) 0 0 := by
    intro n
    induction n with
    | zero =>
      intro i h1 hn hi P1 P2 P3 fr
      have w : h1 m 33 = ((rep.length : Nat) : Int) := by rw [fr m (by omega)]; exact nb
      refine g48_100 ⟨hM.1, fun _ => ?_, fun c => by rw [w] at c; omega⟩
      rw [w]
      refine ⟨by unfold oe_rg; omega, by unfold oe_rg; omega, fun h2 e2 => k h2 (fun j hj => ?_) (by rw [e2, up_eq, nlen]; omega) (fun j hj => by rw [e2, up_col hj, fr m (by omega)]) (fun c z1 z2 => by rw [e2, up_ne z1, fr c z2])⟩
      rw [nlen] at hj
      rw [e2, up_ne (by omega)]
      by_cases c1 : j < p
      · rw [P1 j c1, List.append_assoc, ol_getD_app1 (by rw [List.length_take]; omega)]
        rw [List.getD_eq_getElem?_getD, List.getD_eq_getElem?_getD, List.getElem?_take_of_lt c1]
      · by_cases c2 : j < p + rep.length
        · have := P2 (j - p) (by omega)
          rw [show p + (j - p) = j by omega] at this
          rw [this, ol_getD_app1 (by rw [List.length_append, List.length_take]; omega), ol_getD_app2 (by rw [List.length_take]; omega), List.length_take, show min p l.length = p by omega]
        · have := P3 (j - (p + rep.length)) (by omega)
          rw [show p + rep.length + (j - (p + rep.length)) = j by omega] at this
          rw [this, ol_getD_app2 (by rw [List.length_append, List.length_take]; omega), List.length_append, List.length_take, show min p l.length = p by omega]
          rw [List.getD_eq_getElem?_getD, List.getD_eq_getElem?_getD, List.getElem?_drop]
    | succ n ih =>
      intro i h1 hn hi P1 P2 P3 fr
      have w : h1 m 33 = ((rep.length : Nat) : Int) := by rw [fr m (by omega)]; exact nb
      refine g48_100 ⟨hM.1, fun c => by rw [w] at c; omega, fun _ => ⟨m + 18, acT.1, by unfold oe_rg; omega, m + 21, acC.1, 64, acC.2, by omega, by omega, 64, acT.2, by omega, by omega, fun h2 e2 => ⟨by unfold oe_rg; omega, ?_⟩⟩⟩
      rw [Int.toNat_natCast, fr (m + 21) (by omega), B i (by omega), show ((p : Int) + (i : Int)).toNat = p + i by omega] at e2
      rw [show (i : Int) + 1 = ((i + 1 : Nat) : Int) by omega]
      refine ih (i + 1) h2 (by omega) (by omega) (fun j hj => by rw [e2, up_col (by omega)]; exact P1 j hj) (fun j hj => ?_) (fun t ht => by rw [e2, up_col (by omega)]; exact P3 t ht) (fun c z => by rw [e2, up_ne z, fr c z])
      by_cases ej : j = i
      · subst ej; rw [e2, up_eq]
      · rw [e2, up_col (by omega)]; exact P2 j (by omega)
  have sh1 : (p : Int) + ((rep.length : Nat) : Int) - (e : Int) = ((p + rep.length : Nat) : Int) - (e : Int) := by omega
  have down : p + rep.length ≤ e → ∀ (n i : Nat) (h1 : Nat → Nat → Int), l.length - e - i = n → i ≤ l.length - e → (∀ j, j < p → h1 (m + 18) j = om (l.getD j 0)) → (∀ t, t < i → h1 (m + 18) (p + rep.length + t) = om (l.getD (e + t) 0)) → (∀ t, i ≤ t → t < l.length - e → h1 (m + 18) (e + t) = om (l.getD (e + t) 0)) → (∀ c, c ≠ m + 18 → h1 c = h c) →
      oe_V (oe_cost 48) 48 (oe_M (d + 1)) none Q 65 [some (.inr (.inl m)), some (.inl (p : Int)), none, some (.inl (((l.length : Nat) : Int) - (e : Int))), some (.inl ((p : Int) + ((rep.length : Nat) : Int) - (e : Int))), some (.inl ((e + i : Nat) : Int))] [] (sh, g, h1) 0 0 := by
    intro hle n
    induction n with
    | zero =>
      intro i h1 hn hi P1 P2 P3 fr
      have w : h1 m 29 = ((l.length : Nat) : Int) := by rw [fr m (by omega)]; exact nl
      exact g48_65 ⟨hM.1, fun _ => copy rep.length 0 h1 (by omega) (Nat.zero_le _) P1 (fun j hj => by omega) (fun t ht => P2 t (by omega)) fr, fun c => by rw [w] at c; omega⟩
    | succ n ih =>
      intro i h1 hn hi P1 P2 P3 fr
      have w : h1 m 29 = ((l.length : Nat) : Int) := by rw [fr m (by omega)]; exact nl
      refine g48_65 ⟨hM.1, fun c => by rw [w] at c; omega, fun _ => ⟨m + 18, acT.1, by unfold oe_rg; omega, 64, acT.2, by omega, by omega, by omega, by omega, fun h2 e2 => ⟨by unfold oe_rg; omega, ?_⟩⟩⟩
      rw [Int.toNat_natCast, P3 i (by omega) (by omega), show (((e + i : Nat) : Int) + ((p : Int) + ((rep.length : Nat) : Int) - (e : Int))).toNat = p + rep.length + i by omega] at e2
      rw [show ((e + i : Nat) : Int) + 1 = ((e + (i + 1) : Nat) : Int) by omega]
      refine ih (i + 1) h2 (by omega) (by omega) (fun j hj => by rw [e2, up_col (by omega)]; exact P1 j hj) (fun t ht => ?_) (fun t t1 t2 => by rw [e2, up_col (by omega)]; exact P3 t (by omega) t2) (fun c z => by rw [e2, up_ne z, fr c z])
      by_cases ej : t = i
      · subst ej; rw [e2, up_eq]
      · rw [e2, up_col (by omega)]; exact P2 t (by omega)
  have up : e < p + rep.length → ∀ (i : Nat) (v : Int) (h1 : Nat → Nat → Int), v = ((e + i : Nat) : Int) - 1 → i ≤ l.length - e → (∀ j, j < p → h1 (m + 18) j = om (l.getD j 0)) → (∀ t, i ≤ t → t < l.length - e → h1 (m + 18) (p + rep.length + t) = om (l.getD (e + t) 0)) → (∀ t, t < i → h1 (m + 18) (e + t) = om (l.getD (e + t) 0)) → (∀ c, c ≠ m + 18 → h1 c = h c) →
      oe_V (oe_cost 48) 48 (oe_M (d + 1)) none Q 30 [some (.inr (.inl m)), some (.inl (p : Int)), some (.inl (e : Int)), some (.inl (((l.length : Nat) : Int) - (e : Int))), some (.inl ((p : Int) + ((rep.length : Nat) : Int) - (e : Int))), some (.inl v)] [] (sh, g, h1) 0 0 := by
    intro hlt i
    induction i with
    | zero =>
      intro v h1 hv hi P1 P2 P3 fr
      exact g48_30 ⟨fun _ => copy rep.length 0 h1 (by omega) (Nat.zero_le _) P1 (fun j hj => by omega) (fun t ht => P2 t (by omega) ht) fr, fun c => by omega⟩
    | succ i ih =>
      intro v h1 hv hi P1 P2 P3 fr
      obtain rfl : v = ((e + i : Nat) : Int) := by omega
      refine g48_30 ⟨fun c => by omega, fun _ => ⟨hM.1, m + 18, acT.1, by unfold oe_rg; omega, 64, acT.2, by omega, by omega, by omega, by omega, fun h2 e2 => ⟨by unfold oe_rg; omega, ?_⟩⟩⟩
      rw [Int.toNat_natCast, P3 i (by omega), show (((e + i : Nat) : Int) + ((p : Int) + ((rep.length : Nat) : Int) - (e : Int))).toNat = p + rep.length + i by omega] at e2
      refine ih _ h2 (by omega) (by omega) (fun j hj => by rw [e2, up_col (by omega)]; exact P1 j hj) (fun t t1 t2 => ?_) (fun t ht => by rw [e2, up_col (by omega)]; exact P3 t (by omega)) (fun c z => by rw [e2, up_ne z, fr c z])
      by_cases ej : t = i
      · subst ej; rw [e2, up_eq]
      · rw [e2, up_col (by omega)]; exact P2 t (by omega) t2
  refine g48 ⟨hM.1, by rw [nl]; unfold oe_rg; omega, by rw [nb]; unfold oe_rg; omega, by rw [nb]; unfold oe_rg; omega, fun c => ?_, fun c => ⟨by rw [nl]; unfold oe_rg; omega, ?_⟩⟩
  · rw [nb] at c
    rw [nl, nb]
    exact down (by omega) (l.length - e) 0 h (by omega) (by omega) (fun j hj => R j (by omega)) (fun t ht => by omega) (fun t t1 t2 => R _ (by omega)) (fun c _ => rfl)
  · rw [nb] at c
    rw [nl, nb]
    exact up (by omega) (l.length - e) _ h (by omega) (by omega) (fun j hj => R j (by omega)) (fun t t1 t2 => by omega) (fun t ht => R _ (by omega)) (fun c _ => rfl)
end
