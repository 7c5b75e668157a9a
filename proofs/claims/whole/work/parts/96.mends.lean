/-! The reference: ends of terms, the same parts. -/
def ol_fs : Nat → List Nat → Prop
  | 0, _ => True
  | n + 1, w => ∃ t r, ot_wf t ∧ w = ot_fl t ++ r ∧ ol_fs n r
theorem ol_fs_step {n : Nat} {w : List Nat} (h : ol_fs (n + 1) w) : ∃ c w', w = c :: w' ∧ ol_fs (n + ol_ar c) w' := by
  obtain ⟨t, r, h1, h2, h3⟩ := h
  cases t with
  | leaf => exact h1.elim
  | inner c a b l q =>
    refine ⟨c, ot_fl l ++ ot_fl q ++ r, by rw [h2]; rfl, ?_⟩
    by_cases h18 : 18 ≤ c
    · rw [ar_2 h18]
      exact ⟨l, ot_fl q ++ r, ot_wf1 h1 (by omega), by rw [List.append_assoc], q, r, ot_wf2 h1 h18, rfl, h3⟩
    · by_cases h16 : 16 ≤ c
      · rw [ar_1 h16 (by omega)]
        have hq : q = .leaf := h1.2.2.1 h16 (by omega)
        subst hq
        exact ⟨l, r, ot_wf1 h1 h16, by simp [ot_fl], h3⟩
      · rw [ar_0 (by omega)]
        have := h1.1 (by omega)
        rw [this.1, this.2]
        simpa [ot_fl] using h3
section
variable {D : Nat} {sh : List (Nat × Nat)} {g : Nat → Nat → Option Nat} {h : Nat → Nat → Int} {Q : oeQ}
theorem m_behind (hDD : 2 ≤ D) {m : Nat} (hM : MdS sh g m) {l : List Nat} (hl : l.length ≤ 64) (ok : ol_ok l) (R : MR h (m + 18) l) (p : Nat) {t : oeT} (ht : ot_wf t) (hp : ot_at l p t)
    (k : Q (some (.inl ((ol_en l p : Nat) : Int))) (sh, g, h)) : oe_M D 43 [.inr (.inl m), .inl (p : Int)] (sh, g, h) Q := by
  obtain ⟨d, rfl⟩ : ∃ d, D = d + 2 := ⟨D - 2, by omega⟩
  have acc := md_28 hM
  have loop : ∀ (s n i : Nat), ol_tl n (l.drop i) = s → i + s = ol_en l p → n ≤ 64 + 2 * i → i ≤ l.length → ol_fs n (l.drop i) → oe_V (oe_cost 43) 43 (oe_M (d + 1)) none Q 4 [some (.inr (.inl m)), none, some (.inl (n : Int)), some (.inl (i : Int))] [] (sh, g, h) 0 0 := by
    intro s
    induction s with
    | zero =>
      intro n i hs he hn hi hf
      cases n with
      | zero =>
        have : i = ol_en l p := by omega
        subst this
        exact g43_4 ⟨fun _ => k, fun c => by omega⟩
      | succ n =>
        obtain ⟨c, w', h1, h2⟩ := ol_fs_step hf
        rw [h1] at hs
        simp only [ol_tl] at hs
        omega
    | succ s ih =>
      intro n i hs he hn hi hf
      cases n with
      | zero => rw [ol_tl_0] at hs; omega
      | succ n =>
        obtain ⟨c, w', h1, h2⟩ := ol_fs_step hf
        have il : i < l.length := by
          by_cases z : i < l.length
          · exact z
          · rw [List.drop_eq_nil_of_le (by omega)] at h1; cases h1
        have h3 := h1
        rw [ol_drop_cons il] at h3
        injection h3 with e1 e2
        rw [h1] at hs
        simp only [ol_tl] at hs
        have arc := ar_le c
        have c20 := ol_ok_at ok il
        rw [e1] at c20
        have hc : h (m + 18) ((i : Int)).toNat = om c := by rw [Int.toNat_natCast, R i il, e1]
        refine g43_4 ⟨fun z => by omega, fun _ => ⟨by unfold oe_rg; omega, hM.1, m + 18, acc.1, 64, acc.2, by omega, by omega, ?_⟩⟩
        rw [hc]
        refine m_args (by omega) c20 ⟨_, rfl, rfl, by unfold oe_rg; omega, by unfold oe_rg; omega, ?_⟩
        rw [show ((n + 1 : Nat) : Int) - 1 + ((ol_ar c : Nat) : Int) = ((n + ol_ar c : Nat) : Int) by omega, show (i : Int) + 1 = ((i + 1 : Nat) : Int) by omega]
        exact ih (n + ol_ar c) (i + 1) (by rw [e2]; omega) (by omega) (by omega) (by omega) (by rw [e2]; exact h2)
  have hpl := ot_at_lt ht hp
  refine g43 (loop (ol_tl 1 (l.drop p)) 1 p rfl rfl (by omega) (by omega) ?_)
  obtain ⟨r, hr⟩ := hp
  exact ⟨t, r, ht, hr, trivial⟩
theorem m_behindR (hDD : 2 ≤ D) {m : Nat} (hM : MdS sh g m) {l : List Nat} (hl : l.length ≤ 64) (ok : ol_ok l) (R : MR h (m + 22) l) (p : Nat) {t : oeT} (ht : ot_wf t) (hp : ot_at l p t)
    (k : Q (some (.inl ((ol_en l p : Nat) : Int))) (sh, g, h)) : oe_M D 59 [.inr (.inl m), .inl (p : Int)] (sh, g, h) Q := by
  obtain ⟨d, rfl⟩ : ∃ d, D = d + 2 := ⟨D - 2, by omega⟩
  have acc := md_34 hM
  have loop : ∀ (s n i : Nat), ol_tl n (l.drop i) = s → i + s = ol_en l p → n ≤ 64 + 2 * i → i ≤ l.length → ol_fs n (l.drop i) → oe_V (oe_cost 59) 59 (oe_M (d + 1)) none Q 4 [some (.inr (.inl m)), none, some (.inl (n : Int)), some (.inl (i : Int))] [] (sh, g, h) 0 0 := by
    intro s
    induction s with
    | zero =>
      intro n i hs he hn hi hf
      cases n with
      | zero =>
        have : i = ol_en l p := by omega
        subst this
        exact g59_4 ⟨fun _ => k, fun c => by omega⟩
      | succ n =>
        obtain ⟨c, w', h1, h2⟩ := ol_fs_step hf
        rw [h1] at hs
        simp only [ol_tl] at hs
        omega
    | succ s ih =>
      intro n i hs he hn hi hf
      cases n with
      | zero => rw [ol_tl_0] at hs; omega
      | succ n =>
        obtain ⟨c, w', h1, h2⟩ := ol_fs_step hf
        have il : i < l.length := by
          by_cases z : i < l.length
          · exact z
          · rw [List.drop_eq_nil_of_le (by omega)] at h1; cases h1
        have h3 := h1
        rw [ol_drop_cons il] at h3
        injection h3 with e1 e2
        rw [h1] at hs
        simp only [ol_tl] at hs
        have arc := ar_le c
        have c20 := ol_ok_at ok il
        rw [e1] at c20
        have hc : h (m + 22) ((i : Int)).toNat = om c := by rw [Int.toNat_natCast, R i il, e1]
        refine g59_4 ⟨fun z => by omega, fun _ => ⟨by unfold oe_rg; omega, hM.1, m + 22, acc.1, 64, acc.2, by omega, by omega, ?_⟩⟩
        rw [hc]
        refine m_args (by omega) c20 ⟨_, rfl, rfl, by unfold oe_rg; omega, by unfold oe_rg; omega, ?_⟩
        rw [show ((n + 1 : Nat) : Int) - 1 + ((ol_ar c : Nat) : Int) = ((n + ol_ar c : Nat) : Int) by omega, show (i : Int) + 1 = ((i + 1 : Nat) : Int) by omega]
        exact ih (n + ol_ar c) (i + 1) (by rw [e2]; omega) (by omega) (by omega) (by omega) (by rw [e2]; exact h2)
  have hpl := ot_at_lt ht hp
  refine g59 (loop (ol_tl 1 (l.drop p)) 1 p rfl rfl (by omega) (by omega) ?_)
  obtain ⟨r, hr⟩ := hp
  exact ⟨t, r, ht, hr, trivial⟩
end
