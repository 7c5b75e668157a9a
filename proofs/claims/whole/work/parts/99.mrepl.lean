/-! The reference: whether a subterm is replaced. -/
section
variable {D : Nat} {sh : List (Nat × Nat)} {g : Nat → Nat → Option Nat} {h : Nat → Nat → Int} {Q : oeQ}
theorem m_isRep (hDD : 7 ≤ D) {m : Nat} (hM : MdS sh g m) {l rep : List Nat} (hl : l.length ≤ 60) (ok : ol_ok l) (R : MR h (m + 18) l) (hr : rep.length ≤ 60) (ok2 : ol_ok rep) (B : MR h (m + 21) rep) (nb : h m 33 = ((rep.length : Nat) : Int)) (p : Nat) {u v : oeT} (hu : ot_wf u) (hv : ot_wf v) (hp : ot_at l p u) (fv : ot_fl v = rep)
    (k1 : ot_gt u v → ∀ h', (∀ j, j ≠ 22 → j ≠ 24 → h' m j = h m j) → (∀ c, c ≠ m → c < m + 13 ∨ m + 17 < c → h' c = h c) → Q (some (.inl 1)) (sh, g, h')) (k0 : ¬ ot_gt u v → ∀ h', (∀ j, j ≠ 22 → j ≠ 24 → h' m j = h m j) → (∀ c, c ≠ m → c < m + 13 ∨ m + 17 < c → h' c = h c) → Q (some (.inl 0)) (sh, g, h')) :
    oe_M D 47 [.inr (.inl m), .inl (p : Int), .inl ((ol_en l p : Nat) : Int)] (sh, g, h) Q := by
  obtain ⟨d, rfl⟩ : ∃ d, D = d + 2 := ⟨D - 2, by omega⟩
  have ac1 := md_21 hM
  have ac2 := md_23 hM
  have acT := md_28 hM
  have acC := md_32 hM
  have hpl := ot_at_lt hu hp
  have en := ol_en_le (Nat.le_of_lt hpl)
  have enl := ol_en_lt hpl
  have hsub := ot_at_sub hu hp
  have sl := ol_sub_len2 (l := l) (i := p)
  have oks : ol_ok (ol_sub l p) := fun c hc => by unfold ol_sub at hc; exact ok c (List.mem_of_mem_drop (List.mem_of_mem_take hc))
  -- the second row
  have second : ∀ (n i : Nat) (h1 : Nat → Nat → Int), rep.length - i = n → i ≤ rep.length → MR h1 (m + 13) (ol_sub l p) → h1 m 22 = (((ol_sub l p).length : Nat) : Int) → h1 m 24 = ((rep.length : Nat) : Int) → (∀ j, j < i → h1 (m + 14) j = om (rep.getD j 0)) → (∀ j, j ≠ 22 → j ≠ 24 → h1 m j = h m j) → (∀ c, c ≠ m → c < m + 13 ∨ m + 17 < c → h1 c = h c) →
      oe_V (oe_cost 47) 47 (oe_M (d + 1)) none Q 44 [some (.inr (.inl m)), none, none, some (.inl (i : Int))] [] (sh, g, h1) 0 0 := by
    intro n
    induction n with
    | zero =>
      intro i h1 hn hi F1 n1 n2 S1 fo fr
      have w : h1 m 33 = ((rep.length : Nat) : Int) := by rw [fo 33 (by omega) (by omega)]; exact nb
      refine g47_44 ⟨hM.1, fun _ => ?_, fun c => by rw [w] at c; omega⟩
      refine m_gt (by omega) hM hu hv hsub fv.symm (by omega) hr oks ok2 F1 (fun j hj => S1 j (by omega)) n1 n2 (fun z h2 f2 => ⟨1, h2, rfl, rfl, Or.inr rfl, k1 z h2 (fun j a b => by rw [f2 m (by omega) (by omega) (by omega)]; exact fo j a b) (fun c z1 z2 => by rw [f2 c (by omega) (by omega) (by omega), fr c z1 z2])⟩) (fun z h2 f2 => ⟨0, h2, rfl, rfl, Or.inl rfl, k0 z h2 (fun j a b => by rw [f2 m (by omega) (by omega) (by omega)]; exact fo j a b) (fun c z1 z2 => by rw [f2 c (by omega) (by omega) (by omega), fr c z1 z2])⟩)
    | succ n ih =>
      intro i h1 hn hi F1 n1 n2 S1 fo fr
      have w : h1 m 33 = ((rep.length : Nat) : Int) := by rw [fo 33 (by omega) (by omega)]; exact nb
      refine g47_44 ⟨hM.1, fun c => by rw [w] at c; omega, fun _ => ⟨m + 14, ac2.1, m + 21, acC.1, 64, acC.2, by omega, by omega, 60, ac2.2, by omega, by omega, fun h2 e2 => ⟨by unfold oe_rg; omega, ?_⟩⟩⟩
      rw [Int.toNat_natCast, fr (m + 21) (by omega) (by omega), B i (by omega)] at e2
      rw [show (i : Int) + 1 = ((i + 1 : Nat) : Int) by omega]
      refine ih (i + 1) h2 (by omega) (by omega) (fun j hj => by rw [e2, up_ne (by omega)]; exact F1 j hj) (by rw [e2, up_ne (by omega)]; exact n1) (by rw [e2, up_ne (by omega)]; exact n2) (fun j hj => ?_) (fun j a b => by rw [e2, up_ne (by omega)]; exact fo j a b) (fun c z1 z2 => by rw [e2, up_ne (by omega), fr c z1 z2])
      by_cases ej : j = i
      · subst ej; rw [e2, up_eq]
      · rw [e2, up_col ej]; exact S1 j (by omega)
  have first : ∀ (n i : Nat) (h1 : Nat → Nat → Int), ol_en l p - (p + i) = n → p + i ≤ ol_en l p → h1 m 22 = (((ol_sub l p).length : Nat) : Int) → (∀ j, j < i → h1 (m + 13) j = om (l.getD (p + j) 0)) → (∀ j, j ≠ 22 → j ≠ 24 → h1 m j = h m j) → (∀ c, c ≠ m → c < m + 13 ∨ m + 17 < c → h1 c = h c) →
      oe_V (oe_cost 47) 47 (oe_M (d + 1)) none Q 9 [some (.inr (.inl m)), some (.inl (p : Int)), some (.inl ((ol_en l p : Nat) : Int)), some (.inl ((p + i : Nat) : Int))] [] (sh, g, h1) 0 0 := by
    intro n
    induction n with
    | zero =>
      intro i h1 hn hi n1 F1 fo fr
      have w : h1 m 33 = ((rep.length : Nat) : Int) := by rw [fo 33 (by omega) (by omega)]; exact nb
      refine g47_9 ⟨fun _ => ⟨hM.1, fun h2 e2 => ?_⟩, fun c => by omega⟩
      rw [w] at e2
      refine second rep.length 0 h2 (by omega) (Nat.zero_le _) (fun j hj => ?_) (by rw [e2, up_col (by omega)]; exact n1) (by rw [e2, up_eq]) (fun j hj => by omega) (fun j a b => by rw [e2, up_col b]; exact fo j a b) (fun c z1 z2 => by rw [e2, up_ne z1, fr c z1 z2])
      have hj2 := hj
      rw [sl] at hj2
      rw [e2, up_ne (by omega), F1 j (by omega), ol_sub_at hj]
    | succ n ih =>
      intro i h1 hn hi n1 F1 fo fr
      refine g47_9 ⟨fun c => by omega, fun _ => ⟨hM.1, m + 13, ac1.1, by unfold oe_rg; omega, m + 18, acT.1, 64, acT.2, by omega, by omega, 60, ac1.2, by omega, by omega, fun h2 e2 => ⟨by unfold oe_rg; omega, ?_⟩⟩⟩
      rw [Int.toNat_natCast, fr (m + 18) (by omega) (by omega), R (p + i) (by omega), show (((p + i : Nat) : Int) - (p : Int)).toNat = i by omega] at e2
      rw [show ((p + i : Nat) : Int) + 1 = ((p + (i + 1) : Nat) : Int) by omega]
      refine ih (i + 1) h2 (by omega) (by omega) (by rw [e2, up_ne (by omega)]; exact n1) (fun j hj => ?_) (fun j a b => by rw [e2, up_ne (by omega)]; exact fo j a b) (fun c z1 z2 => by rw [e2, up_ne (by omega), fr c z1 z2])
      by_cases ej : j = i
      · subst ej; rw [e2, up_eq]
      · rw [e2, up_col ej]; exact F1 j (by omega)
  refine g47 ⟨by unfold oe_rg; omega, hM.1, fun h1 e1 => ?_⟩
  have := first (ol_en l p - p) 0 h1 (by omega) (by omega) (by rw [e1, up_eq, sl]; omega) (fun j hj => by omega) (fun j a b => by rw [e1, up_col a]) (fun c z1 z2 => by rw [e1, up_ne z1])
  exact this
end
