/-! Contracts of the rows of letters (class), more. -/
theorem cpy_ne {h : Nat → Nat → Int} {a sp b dp n c : Nat} (e : c ≠ b) : oe_cpy h a sp b dp n c = h c := by unfold oe_cpy va_up; rw [if_neg e]
theorem cpy_eq {h : Nat → Nat → Int} {a sp b dp n k : Nat} : oe_cpy h a sp b dp n b k = if dp ≤ k ∧ k < dp + n then h a (sp + (k - dp)) else h b k := by
  unfold oe_cpy va_up va_cpy
  rw [if_pos rfl]
/-- naming variables in turn -/
def ol_ren : List Nat → (Nat → Int) → Nat → List Nat × (Nat → Int) × Nat
  | [], nm, u => ([], nm, u)
  | c :: l, nm, u => if c < 12 then
      (if nm c = -1 then (u :: (ol_ren l (fun v => if v = c then (u : Int) else nm v) (u + 1)).1, (ol_ren l (fun v => if v = c then (u : Int) else nm v) (u + 1)).2)
       else ((nm c).toNat :: (ol_ren l nm u).1, (ol_ren l nm u).2))
    else (c :: (ol_ren l nm u).1, (ol_ren l nm u).2)
def ol_shift (s : Nat) (l : List Nat) : List Nat := l.map (fun c => if c < 12 then c + s else c)
section
variable {D : Nat} {sh : List (Nat × Nat)} {g : Nat → Nat → Option Nat} {h : Nat → Nat → Int} {Q : oeQ}
theorem c_close (hDD : 2 ≤ D) {a cap : Nat} {l : List Nat} (hS : LtS sh g a cap) (hC : LtC h a l) (hl : l.length ≤ cap)
    (k : ∀ h', LtC h' a l → LtE h' a l → (∀ b, b ≠ a + 2 → h' b = h b) → Q none (sh, g, h')) : oe_M D 103 [.inr (.inl a)] (sh, g, h) Q := by
  obtain ⟨d, rfl⟩ : ∃ d, D = d + 2 := ⟨D - 2, by omega⟩
  obtain ⟨s0, p0, p1, s1, s2, hca⟩ := hS
  have loop : ∀ (n : Nat) (v : Int) (h1 : Nat → Nat → Int), v = (n : Int) - 1 → n ≤ l.length → LtC h1 a l → (∀ i, n ≤ i → i < l.length → h1 (a + 2) i = ((ol_en l i : Nat) : Int)) → (∀ b, b ≠ a + 2 → h1 b = h b) →
      oe_V (oe_cost 103) 103 (oe_M (d + 1)) none Q 7 [some (.inr (.inl a)), some (.inl v), none] [] (sh, g, h1) 0 0 := by
    intro n
    induction n with
    | zero =>
      intro v h1 hv hn hC1 hE1 hF
      exact g103_7 ⟨fun _ => k h1 hC1 (fun i hi => hE1 i (Nat.zero_le _) hi) hF, fun c => by omega⟩
    | succ i ih =>
      intro v h1 hv hn hC1 hE1 hF
      obtain rfl : v = (i : Int) := by omega
      have e1 : ((i : Int) + 1).toNat = i + 1 := by omega
      have hc := hC1.2 i (by omega)
      have hw := hC1.1
      have fin : ∀ (x : Int) (h2 : Nat → Nat → Int), x = ((ol_en l i : Nat) : Int) → h2 = oe_up h1 (a + 2) i x → oe_rg ((i : Int) + (-1)) ∧ oe_V (oe_cost 103) 103 (oe_M (d + 1)) none Q 7 [some (.inr (.inl a)), some (.inl ((i : Int) + (-1))), none] [] (sh, g, h2) 0 0 := by
        intro x h2 hx he
        refine ⟨by unfold oe_rg; omega, ih _ h2 (by omega) (by omega) (hC1.kept (by rw [he, up_ne (by omega)]) (by rw [he, up_ne (by omega)])) (fun m hm hm2 => ?_) (fun b hb => by rw [he, up_ne hb, hF b hb])⟩
        by_cases e : m = i
        · subst e; rw [he, up_eq, hx]
        · rw [he, up_col e]; exact hE1 m (by omega) hm2
      have hen1 : i + 1 < l.length → h1 (a + 2) (i + 1) = ((ol_en l (i + 1) : Nat) : Int) := fun q => hE1 (i + 1) (by omega) q
      have hle : ol_en l (i + 1) ≤ l.length := ol_en_le (by omega)
      refine g103_7 ⟨fun c => by omega, fun _ => ⟨by unfold oe_rg; omega, s0, a + 1, p0, cap, s1, by omega, by omega, ?_, ?_⟩⟩
      · intro c1
        rw [Int.toNat_natCast, hc] at c1
        refine ⟨by omega, by omega, fun _ => ⟨a + 2, p1, cap, s2, by omega, by omega, fun h2 e2 => ?_⟩, fun c2 => ?_⟩
        · rw [Int.toNat_natCast] at e2
          refine fin _ h2 ?_ e2
          rw [ol_en_0 (i := i) (by omega) (by omega)]; omega
        · rw [Int.toNat_natCast, hc] at c2; omega
      · intro c1
        rw [Int.toNat_natCast, hc] at c1
        refine ⟨fun c2 => ⟨by omega, by omega, fun c3 => ⟨a + 2, p1, cap, s2, by omega, by omega, fun h2 e2 => ?_⟩, fun c3 => ⟨fun _ => ⟨a + 2, p1, cap, s2, by omega, by omega, fun h2 e2 => ?_⟩, fun c4 => by omega⟩⟩, fun c2 => ⟨a + 2, p1, cap, s2, by omega, by omega, by omega, by omega, fun c3 => ⟨by omega, by omega, fun h2 e2 => ?_⟩, fun c3 => ⟨fun c4 => ⟨by omega, by omega, fun h2 e2 => ?_⟩, fun c4 => ⟨?_, ?_, by omega, by omega, fun h2 e2 => ?_⟩⟩⟩⟩
        · rw [Int.toNat_natCast, hc] at c3
          rw [Int.toNat_natCast] at e2
          rw [hw] at c2
          refine fin _ h2 ?_ e2
          rw [ol_en_1 (i := i) (by omega) (by omega) (by omega), ol_en_end (i := i + 1) (by omega)]; omega
        · rw [Int.toNat_natCast, hc] at c3
          rw [Int.toNat_natCast] at e2
          rw [hw] at c2
          refine fin _ h2 ?_ e2
          rw [ol_en_2 (i := i) (by omega) (by omega), ol_en_end (i := i + 1) (by omega), ol_en_end (i := i + 1) (by omega)]; omega
        · rw [Int.toNat_natCast, hc] at c3
          rw [Int.toNat_natCast, e1] at e2
          rw [hw] at c2
          refine fin _ h2 ?_ e2
          rw [hen1 (by omega), ol_en_1 (i := i) (by omega) (by omega) (by omega)]
        · rw [Int.toNat_natCast, hc] at c3
          rw [hw] at c2
          rw [e1, hen1 (by omega), hw] at c4
          rw [Int.toNat_natCast, e1] at e2
          refine fin _ h2 ?_ e2
          rw [hen1 (by omega), ol_en_2 (i := i) (by omega) (by omega), ol_en_end (i := ol_en l (i + 1)) (by omega)]
        · rw [hw] at c2; rw [e1, hen1 (by omega)]; omega
        · rw [hw] at c2 c4; rw [e1, hen1 (by omega)] at c4 ⊢; omega
        · rw [Int.toNat_natCast, hc] at c3
          rw [hw] at c2
          rw [e1, hen1 (by omega), hw] at c4
          have hlt := ol_en_lt (l := l) (i := i + 1) (by omega)
          rw [Int.toNat_natCast, e1, hen1 (by omega), Int.toNat_natCast, hE1 _ (by omega) (by omega)] at e2
          refine fin _ h2 ?_ e2
          rw [ol_en_2 (i := i) (by omega) (by omega)]
  refine g103 ⟨s0, by rw [hC.1]; unfold oe_rg; omega, ?_⟩
  exact loop l.length _ h (by rw [hC.1]) (Nat.le_refl _) hC (fun i h1 h2 => by omega) (fun b _ => rfl)
theorem c_fill (hDD : 2 ≤ D) {m n : Nat} (hs : sh[m]? = some (0, n)) (hn : n ≤ 1000) (v : Int) (k : ∀ h', (∀ i, i < n → h' m i = v) → (∀ b, b ≠ m → h' b = h b) → Q none (sh, g, h')) : oe_M D 129 [.inr (.inl m), .inl v] (sh, g, h) Q := by
  obtain ⟨d, rfl⟩ : ∃ d, D = d + 2 := ⟨D - 2, by omega⟩
  have loop : ∀ (q i : Nat) (h1 : Nat → Nat → Int), n - i = q → i ≤ n → (∀ k, k < i → h1 m k = v) → (∀ b, b ≠ m → h1 b = h b) → oe_V (oe_cost 129) 129 (oe_M (d + 1)) none Q 5 [some (.inr (.inl m)), some (.inl v), some (.inl (i : Int)), some (.inl (n : Int))] [] (sh, g, h1) 0 0 := by
    intro q
    induction q with
    | zero =>
      intro i h1 hq hi h2 h3
      exact g129_5 ⟨fun _ => k h1 (fun k hk => h2 k (by omega)) h3, fun c => by omega⟩
    | succ q ih =>
      intro i h1 hq hi h2 h3
      refine g129_5 ⟨fun c => by omega, fun c => ⟨n, hs, by omega, by omega, fun h4 e4 => ⟨by unfold oe_rg; omega, ?_⟩⟩⟩
      rw [Int.toNat_natCast] at e4
      refine ih (i + 1) h4 (by omega) (by omega) (fun k hk => ?_) (fun b hb => by rw [e4, up_ne hb, h3 b hb])
      by_cases e : k = i
      · subst e; rw [e4, up_eq]
      · rw [e4, up_col e]; exact h2 k (by omega)
  exact g129 ⟨n, hs, loop n 0 h (by omega) (Nat.zero_le _) (fun k hk => by omega) (fun b _ => rfl)⟩
theorem c_become (hDD : 2 ≤ D) {a b ca cb : Nat} {r : List Nat} (hS : LtS sh g a ca) (hT : LtS sh g b cb) (hab : a + 3 ≤ b ∨ b + 3 ≤ a) (hC : LtC h b r) (hE : LtE h b r) (hl : r.length ≤ ca) (hr : r.length ≤ cb)
    (k : ∀ h', LtC h' a r → LtE h' a r → (∀ c, c ≠ a → c ≠ a + 1 → c ≠ a + 2 → h' c = h c) → Q none (sh, g, h')) : oe_M D 104 [.inr (.inl a), .inr (.inl b)] (sh, g, h) Q := by
  obtain ⟨d, rfl⟩ : ∃ d, D = d + 2 := ⟨D - 2, by omega⟩
  obtain ⟨s0, p0, p1, s1, s2, hca⟩ := hS
  obtain ⟨t0, q0, q1, t1, t2, hcb⟩ := hT
  have hw := hC.1
  refine g104 ⟨t0, s0, a + 1, p0, ca, s1, fun c => by rw [hw] at c; omega, fun _ => ⟨b + 1, q0, cb, t1, by rw [hw]; omega, by omega, by omega, by rw [hw]; omega, by rw [hw]; omega, fun h1 e1 => ⟨b + 2, q1, a + 2, p1, cb, t2, ca, s2, ?_⟩⟩⟩
  rw [hw, Int.toNat_natCast] at e1
  have w1 : h1 b 2 = ((r.length : Nat) : Int) := by rw [e1, cpy_ne (by omega), hw]
  refine ⟨by rw [w1]; omega, by omega, by omega, by rw [w1]; omega, by rw [w1]; omega, fun h2 e2 h3 e3 => ?_⟩
  rw [w1, Int.toNat_natCast] at e2
  have w2 : h2 b 2 = ((r.length : Nat) : Int) := by rw [e2, cpy_ne (by omega), w1]
  rw [w2] at e3
  refine k h3 ⟨by rw [e3, up_eq], fun i hi => ?_⟩ (fun i hi => ?_) (fun c h1' h2' h3' => ?_)
  · rw [e3, up_ne (by omega), e2, cpy_ne (by omega), e1, cpy_eq, if_pos ⟨Nat.zero_le _, by omega⟩, Nat.zero_add, Nat.sub_zero]
    exact hC.2 i hi
  · rw [e3, up_ne (by omega), e2, cpy_eq, if_pos ⟨Nat.zero_le _, by omega⟩, Nat.zero_add, Nat.sub_zero, e1, cpy_ne (by omega)]
    exact hE i hi
  · rw [e3, up_ne h1', e2, cpy_ne h3', e1, cpy_ne h2']
/-- a term is put in place of the subterm at p -/
theorem c_replace (hDD : 3 ≤ D) {a b ca cb : Nat} {l r : List Nat} (hS : LtS sh g a ca) (hT : LtS sh g b cb) (hab : a + 3 ≤ b ∨ b + 3 ≤ a) (hC : LtC h a l) (hE : LtE h a l) (hC2 : LtC h b r) (hl : l.length ≤ ca) (hr : r.length ≤ cb) (p : Nat) (hp : p < l.length) (hfit : p + r.length + l.length ≤ ca + ol_en l p)
    (k : ∀ h', LtC h' a (l.take p ++ r ++ l.drop (ol_en l p)) → LtE h' a (l.take p ++ r ++ l.drop (ol_en l p)) → (∀ c, c ≠ a → c ≠ a + 1 → c ≠ a + 2 → h' c = h c) → Q none (sh, g, h')) : oe_M D 105 [.inr (.inl a), .inl (p : Int), .inr (.inl b)] (sh, g, h) Q := by
  obtain ⟨d, rfl⟩ : ∃ d, D = d + 2 := ⟨D - 2, by omega⟩
  have hS' := hS
  obtain ⟨s0, p0, p1, s1, s2, hca⟩ := hS
  obtain ⟨t0, q0, q1, t1, t2, hcb⟩ := hT
  have hw := hC.1
  have hv := hC2.1
  have he := hE p hp
  have hle := ol_en_le (Nat.le_of_lt hp)
  have hlt := ol_en_lt hp
  generalize hee : ol_en l p = e at *
  have hlen : (l.take p ++ r ++ l.drop e).length = p + r.length + (l.length - e) := by
    rw [List.length_append, List.length_append, List.length_take, List.length_drop]; omega
  refine g105 ⟨s0, a + 2, p1, ca, s2, by omega, by omega, t0, by rw [hv]; unfold oe_rg; omega, by rw [hv, hw]; unfold oe_rg; omega, by rw [Int.toNat_natCast, hv, hw, he]; unfold oe_rg; omega, a + 1, p0, ca, s1, fun _ => ?_, fun c => by rw [Int.toNat_natCast, hv, hw, he] at c; omega⟩
  refine ⟨by rw [hv]; unfold oe_rg; omega, by rw [Int.toNat_natCast, hw, he]; unfold oe_rg; omega, by rw [Int.toNat_natCast, hw, he]; omega, by rw [hv]; omega, by rw [Int.toNat_natCast, he]; omega, by rw [Int.toNat_natCast, hw, he]; omega, by rw [Int.toNat_natCast, hv, hw, he]; omega, fun h1 e1 => ⟨b + 1, q0, cb, t1, ?_⟩⟩
  rw [Int.toNat_natCast, hv, hw, he, Int.toNat_natCast, show ((p : Int) + (r.length : Nat)).toNat = p + r.length by omega, show (((l.length : Nat) : Int) - ((e : Nat) : Int)).toNat = l.length - e by omega] at e1
  have w1 : h1 b 2 = ((r.length : Nat) : Int) := by rw [e1, cpy_ne (by omega), hv]
  refine ⟨by rw [w1]; omega, by omega, by omega, by rw [w1]; omega, by rw [w1]; omega, fun h2 e2 h3 e3 => ?_⟩
  rw [w1, Int.toNat_natCast, Int.toNat_natCast] at e2
  rw [Int.toNat_natCast, hv, hw, he] at e3
  have hC3 : LtC h3 a (l.take p ++ r ++ l.drop e) := by
    refine ⟨by rw [e3, up_eq, hlen]; omega, fun i hi => ?_⟩
    rw [hlen] at hi
    rw [e3, up_ne (by omega), e2, cpy_eq]
    by_cases c1 : i < p
    · rw [if_neg (by omega), e1, cpy_eq, if_neg (by omega), List.append_assoc, ol_getD_app1 (by rw [List.length_take]; omega), hC.2 i (by omega)]
      rw [List.getD_eq_getElem?_getD, List.getD_eq_getElem?_getD, List.getElem?_take_of_lt c1]
    · by_cases c2 : i < p + r.length
      · rw [if_pos ⟨by omega, by omega⟩, e1, cpy_ne (by omega), Nat.zero_add, hC2.2 (i - p) (by omega), ol_getD_app1 (by rw [List.length_append, List.length_take]; omega), ol_getD_app2 (by rw [List.length_take]; omega), List.length_take, show min p l.length = p by omega]
      · rw [if_neg (by omega), e1, cpy_eq, if_pos ⟨by omega, by omega⟩, hC.2 _ (by omega), ol_getD_app2 (by rw [List.length_append, List.length_take]; omega), List.length_append, List.length_take, show min p l.length = p by omega]
        rw [List.getD_eq_getElem?_getD, List.getD_eq_getElem?_getD, List.getElem?_drop]
  refine c_close (by omega) hS' hC3 (by rw [hlen]; omega) (fun h4 hC4 hE4 hF4 => ⟨h4, rfl, rfl, ?_⟩)
  refine k h4 hC4 hE4 (fun c h1' h2' h3' => ?_)
  rw [hF4 c h3', e3, up_ne h1', e2, cpy_ne h2', e1, cpy_ne h2']
end
