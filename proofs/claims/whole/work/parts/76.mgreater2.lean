/-! The reference's order, its table filled from the right. -/
section
variable {D : Nat} {sh : List (Nat × Nat)} {g : Nat → Nat → Option Nat} {h : Nat → Nat → Int} {Q : oeQ} {m : Nat} {l r : List Nat}
theorem MR.kept {h' : Nat → Nat → Int} {q : Nat} (H : MR h q l) (e : h' q = h q) : MR h' q l := by
  unfold MR
  rw [e]
  exact H
theorem ME.kept {h' : Nat → Nat → Int} {q : Nat} (H : ME h q l) (e : h' q = h q) : ME h' q l := by
  unfold ME
  rw [e]
  exact H
set_option maxHeartbeats 2000000 in
theorem m_gt (hDD : 5 ≤ D) (hM : MdS sh g m) {s t : oeT} (hs : ot_wf s) (ht : ot_wf t) (el : l = ot_fl s) (er : r = ot_fl t) (hl : l.length ≤ 60) (hr : r.length ≤ 60) (ol : ol_ok l) (or_ : ol_ok r) (F : MR h (m + 13) l) (S : MR h (m + 14) r) (nf : h m 22 = ((l.length : Nat) : Int)) (ns : h m 24 = ((r.length : Nat) : Int))
    (k1 : ot_gt s t → ∀ h', (∀ b, b ≠ m + 15 → b ≠ m + 16 → b ≠ m + 17 → h' b = h b) → Q (some (.inl 1)) (sh, g, h')) (k0 : ¬ ot_gt s t → ∀ h', (∀ b, b ≠ m + 15 → b ≠ m + 16 → b ≠ m + 17 → h' b = h b) → Q (some (.inl 0)) (sh, g, h')) : oe_M D 42 [.inr (.inl m)] (sh, g, h) Q := by
  obtain ⟨d, rfl⟩ : ∃ d, D = d + 2 := ⟨D - 2, by omega⟩
  have as : ot_at l 0 s := ⟨[], by rw [el]; simp⟩
  have at_ : ot_at r 0 t := ⟨[], by rw [er]; simp⟩
  have evl : ∀ p, p < l.length → ∃ u, ot_wf u ∧ ot_at l p u := fun p hp => ot_every s l 0 hs as p (Nat.zero_le _) (by rw [← el]; omega)
  have evr : ∀ p, p < r.length → ∃ u, ot_wf u ∧ ot_at r p u := fun p hp => ot_every t r 0 ht at_ p (Nat.zero_le _) (by rw [← er]; omega)
  -- the ends of a row, c arguments being passed
  have enc : ∀ (w : List Nat) (p c : Nat), p < w.length → ∀ u, ot_wf u → ot_at w p u → c < ol_ar (w.getD p 0) → p + 1 + ol_tl c (w.drop (p + 1)) < w.length ∧ ol_en w (p + 1 + ol_tl c (w.drop (p + 1))) = p + 1 + ol_tl (c + 1) (w.drop (p + 1)) := by
    intro w p c hp u hu ha hc
    have e2 : ol_en w (p + 1 + ol_tl c (w.drop (p + 1))) = p + 1 + ol_tl (c + 1) (w.drop (p + 1)) := by
      unfold ol_en
      rw [ol_tl_add (w.drop (p + 1)) c 1, List.drop_drop]
      omega
    refine ⟨?_, e2⟩
    cases u with
    | leaf => exact hu.elim
    | inner x ua ub u1 u2 =>
      rw [ot_at_c ha] at hc
      have x1 : 16 ≤ x := by
        rcases Nat.lt_or_ge x 16 with q | q
        · rw [ar_0 q] at hc; omega
        · exact q
      have a1 := ot_at_1 ha
      have w1 := ot_wf1 hu x1
      match c, hc with
      | 0, _ => rw [ol_tl_0]; exact ot_at_lt w1 a1
      | 1, hc =>
        have x2 : 18 ≤ x := by
          rcases Nat.lt_or_ge x 18 with q | q
          · rw [ar_1 x1 q] at hc; omega
          · exact q
        have := ot_at_lt (ot_wf2 hu x2) (ot_at_2 w1 ha)
        unfold ol_en at this
        exact this
      | c + 2, hc => have := ar_le x; omega
  have tab : ∀ (n : Nat) (v : Int) (h1 : Nat → Nat → Int), v = (n : Int) - 1 → n ≤ l.length → MR h1 (m + 13) l → MR h1 (m + 14) r → ME h1 (m + 15) l → ME h1 (m + 16) r → h1 m 22 = ((l.length : Nat) : Int) → h1 m 24 = ((r.length : Nat) : Int) → (∀ b, b ≠ m + 15 → b ≠ m + 16 → b ≠ m + 17 → h1 b = h b) →
      (∀ p q, p < l.length → q < r.length → n ≤ p → MT h1 m l r p q) → oe_V (oe_cost 42) 42 (oe_M (d + 1)) none Q 119 [some (.inr (.inl m)), some (.inl v), none, none] [] (sh, g, h1) 0 0 := by
    intro n
    induction n with
    | zero =>
      intro v h1 hv hn F1 S1 FE SE n1 n2 hF T
      have t0 := MT_if hs ht as at_ (T 0 0 (ot_at_lt hs as) (ot_at_lt ht at_) (Nat.zero_le _))
      have e0 : 60 * 0 + 0 = 0 := rfl
      rw [e0] at t0
      refine g42_119 ⟨fun _ => ⟨hM.1, m + 17, (md_27 hM).1, 3600, (md_27 hM).2, by omega, by omega, ?_, ?_⟩, fun c => by omega⟩
      · exact t0.elim (fun q => Or.inr q.1) (fun q => Or.inl q.1)
      · rcases t0 with ⟨a, b⟩ | ⟨a, b⟩
        · rw [a]; exact k1 b h1 hF
        · rw [a]; exact k0 b h1 hF
    | succ i ih =>
      intro v h1 hv hn F1 S1 FE SE n1 n2 hF T
      obtain rfl : v = (i : Int) := by omega
      obtain ⟨u, hu, au⟩ := evl i (by omega)
      have inner : ∀ (q : Nat) (v2 : Int) (h2 : Nat → Nat → Int), v2 = (q : Int) - 1 → q ≤ r.length → MR h2 (m + 13) l → MR h2 (m + 14) r → ME h2 (m + 15) l → ME h2 (m + 16) r → h2 m 22 = ((l.length : Nat) : Int) → h2 m 24 = ((r.length : Nat) : Int) → (∀ b, b ≠ m + 15 → b ≠ m + 16 → b ≠ m + 17 → h2 b = h b) →
          (∀ p y, p < l.length → y < r.length → (i < p ∨ (p = i ∧ q ≤ y)) → MT h2 m l r p y) → oe_V (oe_cost 42) 42 (oe_M (d + 1)) none Q 130 [some (.inr (.inl m)), some (.inl (i : Int)), some (.inl v2), none] [] (sh, g, h2) 0 0 := by
        intro q
        induction q with
        | zero =>
          intro v2 h2 hv2 hq F2 S2 FE2 SE2 n3 n4 hF2 T2
          refine g42_130 ⟨fun _ => ⟨by unfold oe_rg; omega, ?_⟩, fun c => by omega⟩
          exact ih _ h2 (by omega) (by omega) F2 S2 FE2 SE2 n3 n4 hF2 (fun p y hp hy hip => T2 p y hp hy (by omega))
        | succ j ih2 =>
          intro v2 h2 hv2 hq F2 S2 FE2 SE2 n3 n4 hF2 T2
          obtain rfl : v2 = (j : Int) := by omega
          obtain ⟨w, hw, aw⟩ := evr j (by omega)
          have ix : ((60 * (i : Int)) + (j : Int)).toNat = 60 * i + j := by omega
          refine g42_130 ⟨fun c => by omega, fun _ => ⟨hM.1, m + 17, (md_27 hM).1, by unfold oe_rg; omega, by unfold oe_rg; omega, ?_⟩⟩
          have nxt : ∀ (x : Int) (h3 : Nat → Nat → Int), ((x = 1 ∧ ot_G l r i j) ∨ (x = 0 ∧ ¬ ot_G l r i j)) → h3 = oe_up h2 (m + 17) ((60 * (i : Int)) + (j : Int)).toNat x → oe_rg ((j : Int) + (-1)) ∧ oe_V (oe_cost 42) 42 (oe_M (d + 1)) none Q 130 [some (.inr (.inl m)), some (.inl (i : Int)), some (.inl ((j : Int) + (-1))), none] [] (sh, g, h3) 0 0 := by
            intro x h3 hx e3
            rw [ix] at e3
            refine ⟨by unfold oe_rg; omega, ih2 _ h3 (by omega) (by omega) (F2.kept (by rw [e3, up_ne (by omega)])) (S2.kept (by rw [e3, up_ne (by omega)])) (FE2.kept (by rw [e3, up_ne (by omega)])) (SE2.kept (by rw [e3, up_ne (by omega)])) (by rw [e3, up_ne (by omega)]; exact n3) (by rw [e3, up_ne (by omega)]; exact n4) (fun b b1 b2 b3 => by rw [e3, up_ne b3]; exact hF2 b b1 b2 b3) (fun p y hp hy hc => ?_)⟩
            by_cases e : p = i ∧ y = j
            · obtain ⟨rfl, rfl⟩ := e
              unfold MT
              rw [e3, up_eq]
              exact hx
            · have old := T2 p y hp hy (by omega)
              unfold MT at old ⊢
              rw [e3, up_col (by omega)]
              exact old
          refine m_isAbove (by omega) hM hl hr ol or_ F2 S2 FE2 SE2 i j hu hw au aw (fun p y hp hy hc => T2 p y hp hy (by omega)) (fun gq => ⟨1, rfl, rfl, 3600, (md_27 hM).2, by omega, by omega, Or.inr rfl, fun h3 e3 => ?_⟩) (fun gq => ⟨0, rfl, rfl, 3600, (md_27 hM).2, by omega, by omega, Or.inl rfl, fun h3 e3 => ?_⟩)
          · exact nxt 1 h3 (Or.inl ⟨rfl, (ot_G_iff hu hw au aw).mpr gq⟩) e3
          · exact nxt 0 h3 (Or.inr ⟨rfl, fun z => gq ((ot_G_iff hu hw au aw).mp z)⟩) e3
      refine g42_119 ⟨fun c => by omega, fun _ => ⟨hM.1, by rw [n2]; unfold oe_rg; omega, ?_⟩⟩
      exact inner r.length _ h1 (by rw [n2]) (Nat.le_refl _) F1 S1 FE SE n1 n2 hF (fun p y hp hy hc => T p y hp hy (by omega))
  have secE : ∀ (n : Nat) (v : Int) (h1 : Nat → Nat → Int), v = (n : Int) - 1 → n ≤ r.length → MR h1 (m + 13) l → MR h1 (m + 14) r → ME h1 (m + 15) l → (∀ i, n ≤ i → i < r.length → h1 (m + 16) i = ((ol_en r i : Nat) : Int)) → h1 m 22 = ((l.length : Nat) : Int) → h1 m 24 = ((r.length : Nat) : Int) → (∀ b, b ≠ m + 15 → b ≠ m + 16 → b ≠ m + 17 → h1 b = h b) →
      oe_V (oe_cost 42) 42 (oe_M (d + 1)) none Q 63 [some (.inr (.inl m)), some (.inl v), none, none] [] (sh, g, h1) 0 0 := by
    intro n
    induction n with
    | zero =>
      intro v h1 hv hn F1 S1 FE SE n1 n2 hF
      refine g42_63 ⟨fun _ => ⟨hM.1, by rw [n1]; unfold oe_rg; omega, ?_⟩, fun c => by omega⟩
      exact tab l.length _ h1 (by rw [n1]) (Nat.le_refl _) F1 S1 FE (fun i hi => SE i (Nat.zero_le _) hi) n1 n2 hF (fun p q hp hq hc => by omega)
    | succ i ih =>
      intro v h1 hv hn F1 S1 FE SE n1 n2 hF
      obtain rfl : v = (i : Int) := by omega
      obtain ⟨u, hu, au⟩ := evr i (by omega)
      have cx : h1 (m + 14) ((i : Int)).toNat = om (r.getD i 0) := by rw [Int.toNat_natCast, S1 i (by omega)]
      have walk : ∀ (q c : Nat), ol_ar (r.getD i 0) - c = q → c ≤ ol_ar (r.getD i 0) → oe_V (oe_cost 42) 42 (oe_M (d + 1)) none Q 73 [some (.inr (.inl m)), some (.inl (i : Int)), some (.inl ((i + 1 + ol_tl c (r.drop (i + 1)) : Nat) : Int)), some (.inl (c : Int))] [] (sh, g, h1) 0 0 := by
        have arr := ar_le (r.getD i 0)
        intro q
        induction q with
        | zero =>
          intro c hq hc
          refine g42_73 ⟨hM.1, m + 14, (md_23 hM).1, 60, (md_23 hM).2, by omega, by omega, ?_⟩
          rw [cx]
          refine m_args (by omega) (ol_ok_at or_ (by omega)) ⟨_, rfl, rfl, fun _ => ⟨m + 16, (md_26 hM).1, 60, (md_26 hM).2, by omega, by omega, fun h2 e2 => ⟨by unfold oe_rg; omega, ?_⟩⟩, fun z => by omega⟩
          rw [Int.toNat_natCast] at e2
          refine ih _ h2 (by omega) (by omega) (F1.kept (by rw [e2, up_ne (by omega)])) (S1.kept (by rw [e2, up_ne (by omega)])) (FE.kept (by rw [e2, up_ne (by omega)])) (fun x hx hx2 => ?_) (by rw [e2, up_ne (by omega)]; exact n1) (by rw [e2, up_ne (by omega)]; exact n2) (fun b b1 b2 b3 => by rw [e2, up_ne b2]; exact hF b b1 b2 b3)
          by_cases e : x = i
          · subst e
            rw [e2, up_eq, ol_en_step (by omega), show c = ol_ar (r.getD x 0) by omega]
          · rw [e2, up_col e]; exact SE x (by omega) hx2
        | succ q ihq =>
          intro c hq hc
          obtain ⟨b1, b2⟩ := enc r i c (by omega) u hu au (by omega)
          refine g42_73 ⟨hM.1, m + 14, (md_23 hM).1, 60, (md_23 hM).2, by omega, by omega, ?_⟩
          rw [cx]
          refine m_args (by omega) (ol_ok_at or_ (by omega)) ⟨_, rfl, rfl, fun z => by omega, fun _ => ⟨m + 16, (md_26 hM).1, 60, (md_26 hM).2, by omega, by omega, by unfold oe_rg; omega, ?_⟩⟩
          rw [Int.toNat_natCast, SE _ (by omega) b1, b2]
          exact ihq (c + 1) (by omega) (by omega)
      refine g42_63 ⟨fun c => by omega, fun _ => ⟨by unfold oe_rg; omega, ?_⟩⟩
      have w0 := walk _ 0 rfl (Nat.zero_le _)
      rw [ol_tl_0, Nat.add_zero] at w0
      exact w0
  have firE : ∀ (n : Nat) (v : Int) (h1 : Nat → Nat → Int), v = (n : Int) - 1 → n ≤ l.length → MR h1 (m + 13) l → MR h1 (m + 14) r → (∀ i, n ≤ i → i < l.length → h1 (m + 15) i = ((ol_en l i : Nat) : Int)) → h1 m 22 = ((l.length : Nat) : Int) → h1 m 24 = ((r.length : Nat) : Int) → (∀ b, b ≠ m + 15 → b ≠ m + 16 → b ≠ m + 17 → h1 b = h b) →
      oe_V (oe_cost 42) 42 (oe_M (d + 1)) none Q 7 [some (.inr (.inl m)), some (.inl v), none, none] [] (sh, g, h1) 0 0 := by
    intro n
    induction n with
    | zero =>
      intro v h1 hv hn F1 S1 FE n1 n2 hF
      refine g42_7 ⟨fun _ => ⟨hM.1, by rw [n2]; unfold oe_rg; omega, ?_⟩, fun c => by omega⟩
      exact secE r.length _ h1 (by rw [n2]) (Nat.le_refl _) F1 S1 (fun i hi => FE i (Nat.zero_le _) hi) (fun i a b => by omega) n1 n2 hF
    | succ i ih =>
      intro v h1 hv hn F1 S1 FE n1 n2 hF
      obtain rfl : v = (i : Int) := by omega
      obtain ⟨u, hu, au⟩ := evl i (by omega)
      have cx : h1 (m + 13) ((i : Int)).toNat = om (l.getD i 0) := by rw [Int.toNat_natCast, F1 i (by omega)]
      have walk : ∀ (q c : Nat), ol_ar (l.getD i 0) - c = q → c ≤ ol_ar (l.getD i 0) → oe_V (oe_cost 42) 42 (oe_M (d + 1)) none Q 17 [some (.inr (.inl m)), some (.inl (i : Int)), some (.inl ((i + 1 + ol_tl c (l.drop (i + 1)) : Nat) : Int)), some (.inl (c : Int))] [] (sh, g, h1) 0 0 := by
        have arr := ar_le (l.getD i 0)
        intro q
        induction q with
        | zero =>
          intro c hq hc
          refine g42_17 ⟨hM.1, m + 13, (md_21 hM).1, 60, (md_21 hM).2, by omega, by omega, ?_⟩
          rw [cx]
          refine m_args (by omega) (ol_ok_at ol (by omega)) ⟨_, rfl, rfl, fun _ => ⟨m + 15, (md_25 hM).1, 60, (md_25 hM).2, by omega, by omega, fun h2 e2 => ⟨by unfold oe_rg; omega, ?_⟩⟩, fun z => by omega⟩
          rw [Int.toNat_natCast] at e2
          refine ih _ h2 (by omega) (by omega) (F1.kept (by rw [e2, up_ne (by omega)])) (S1.kept (by rw [e2, up_ne (by omega)])) (fun x hx hx2 => ?_) (by rw [e2, up_ne (by omega)]; exact n1) (by rw [e2, up_ne (by omega)]; exact n2) (fun b b1 b2 b3 => by rw [e2, up_ne b1]; exact hF b b1 b2 b3)
          by_cases e : x = i
          · subst e
            rw [e2, up_eq, ol_en_step (by omega), show c = ol_ar (l.getD x 0) by omega]
          · rw [e2, up_col e]; exact FE x (by omega) hx2
        | succ q ihq =>
          intro c hq hc
          obtain ⟨b1, b2⟩ := enc l i c (by omega) u hu au (by omega)
          refine g42_17 ⟨hM.1, m + 13, (md_21 hM).1, 60, (md_21 hM).2, by omega, by omega, ?_⟩
          rw [cx]
          refine m_args (by omega) (ol_ok_at ol (by omega)) ⟨_, rfl, rfl, fun z => by omega, fun _ => ⟨m + 15, (md_25 hM).1, 60, (md_25 hM).2, by omega, by omega, by unfold oe_rg; omega, ?_⟩⟩
          rw [Int.toNat_natCast, FE _ (by omega) b1, b2]
          exact ihq (c + 1) (by omega) (by omega)
      refine g42_7 ⟨fun c => by omega, fun _ => ⟨by unfold oe_rg; omega, ?_⟩⟩
      have w0 := walk _ 0 rfl (Nat.zero_le _)
      rw [ol_tl_0, Nat.add_zero] at w0
      exact w0
  refine g42 ⟨hM.1, by rw [nf]; unfold oe_rg; omega, ?_⟩
  exact firE l.length _ h (by rw [nf]) (Nat.le_refl _) F S (fun i a b => by omega) nf ns (fun b _ _ _ => rfl)
end
