/-! Contracts of the rows of letters (class). -/
def LtS (sh : List (Nat × Nat)) (g : Nat → Nat → Option Nat) (a cap : Nat) : Prop := sh[a]? = some (8, 3) ∧ g a 0 = some (a + 1) ∧ g a 1 = some (a + 2) ∧ sh[a + 1]? = some (0, cap) ∧ sh[a + 2]? = some (0, cap) ∧ cap ≤ 300
def LtC (h : Nat → Nat → Int) (a : Nat) (l : List Nat) : Prop := h a 2 = ((l.length : Nat) : Int) ∧ ∀ i, i < l.length → h (a + 1) i = ((l.getD i 0 : Nat) : Int)
def LtE (h : Nat → Nat → Int) (a : Nat) (l : List Nat) : Prop := ∀ i, i < l.length → h (a + 2) i = ((ol_en l i : Nat) : Int)
theorem up_ne {α : Type} {h : Nat → Nat → α} {a b i : Nat} {v : α} (e : b ≠ a) : oe_up h a i v b = h b := by unfold oe_up va_up; rw [if_neg e]
theorem up_eq {α : Type} {h : Nat → Nat → α} {a i : Nat} {v : α} : oe_up h a i v a i = v := by unfold oe_up va_up; simp
theorem up_col {α : Type} {h : Nat → Nat → α} {a i j : Nat} {v : α} (e : j ≠ i) : oe_up h a i v a j = h a j := by unfold oe_up va_up; simp [e]
theorem LtC.kept {h h' : Nat → Nat → Int} {a : Nat} {l : List Nat} (H : LtC h a l) (e0 : h' a = h a) (e1 : h' (a + 1) = h (a + 1)) : LtC h' a l := by
  unfold LtC
  rw [e0, e1]
  exact H
theorem LtE.kept {h h' : Nat → Nat → Int} {a : Nat} {l : List Nat} (H : LtE h a l) (e0 : h' (a + 2) = h (a + 2)) : LtE h' a l := by
  unfold LtE
  rw [e0]
  exact H
theorem rg_nat {n : Nat} (h : n < 2147483648) : oe_rg (n : Int) := by unfold oe_rg; omega
section
variable {D : Nat} {sh : List (Nat × Nat)} {g : Nat → Nat → Option Nat} {h : Nat → Nat → Int} {Q : oeQ}
theorem c_holds (hD : 2 ≤ D) {a cap : Nat} {l : List Nat} (hS : LtS sh g a cap) (hC : LtC h a l) (hl : l.length ≤ cap) (x fr to : Nat) (hto : to ≤ l.length)
    (k1 : (∃ i, fr ≤ i ∧ i < to ∧ l.getD i 0 = x) → Q (some (.inl 1)) (sh, g, h)) (k0 : (∀ i, fr ≤ i → i < to → l.getD i 0 ≠ x) → Q (some (.inl 0)) (sh, g, h)) :
    oe_M D 106 [.inr (.inl a), .inl (x : Int), .inl (fr : Int), .inl (to : Int)] (sh, g, h) Q := by
  obtain ⟨d, rfl⟩ : ∃ d, D = d + 2 := ⟨D - 2, by omega⟩
  obtain ⟨s0, p0, p1, s1, s2, hc⟩ := hS
  have loop : ∀ n i : Nat, to - i = n → fr ≤ i → (∀ k, fr ≤ k → k < i → l.getD k 0 ≠ x) → oe_V (oe_cost 106) 106 (oe_M (d + 1)) none Q 3 [some (.inr (.inl a)), some (.inl (x : Int)), none, some (.inl (to : Int)), some (.inl (i : Int))] [] (sh, g, h) 0 0 := by
    intro n
    induction n with
    | zero =>
      intro i hn hf hk
      exact g106_3 ⟨fun _ => k0 (fun k h1 h2 => hk k h1 (by omega)), fun c => by omega⟩
    | succ n ih =>
      intro i hn hf hk
      refine g106_3 ⟨fun c => by omega, fun c => ⟨s0, a + 1, p0, cap, s1, by omega, by omega, fun c2 => ⟨by unfold oe_rg; omega, ?_⟩, fun c2 => k1 ⟨i, hf, by omega, ?_⟩⟩⟩
      · rw [Int.toNat_natCast, hC.2 i (by omega)] at c2
        exact ih (i + 1) (by omega) (by omega) (fun k h1 h2 => by
          by_cases e : k = i
          · subst e; omega
          · exact hk k h1 (by omega))
      · rw [Int.toNat_natCast, hC.2 i (by omega)] at c2
        omega
  exact g106 (loop _ fr rfl (Nat.le_refl _) (fun k h1 h2 => by omega))
theorem c_isSame (hDD : 2 ≤ D) {a b ca cb : Nat} {l r : List Nat} (hS : LtS sh g a ca) (hT : LtS sh g b cb) (hC : LtC h a l) (hE : LtE h a l) (hD : LtC h b r) (hF : LtE h b r) (hl : l.length ≤ ca) (hr : r.length ≤ cb) (i j : Nat) (hi : i < l.length) (hj : j < r.length)
    (k1 : ol_sub l i = ol_sub r j → Q (some (.inl 1)) (sh, g, h)) (k0 : ol_sub l i ≠ ol_sub r j → Q (some (.inl 0)) (sh, g, h)) :
    oe_M D 109 [.inr (.inl a), .inl (i : Int), .inr (.inl b), .inl (j : Int)] (sh, g, h) Q := by
  obtain ⟨d, rfl⟩ : ∃ d, D = d + 2 := ⟨D - 2, by omega⟩
  obtain ⟨s0, p0, p1, s1, s2, hca⟩ := hS
  obtain ⟨t0, q0, q1, t1, t2, hcb⟩ := hT
  have el := ol_en_le (Nat.le_of_lt hi)
  have er := ol_en_le (Nat.le_of_lt hj)
  have li := ol_en_lt hi
  have lj := ol_en_lt hj
  have loop : ol_en l i - i = ol_en r j - j → ∀ n k : Nat, ol_en l i - i - k = n → (∀ m, m < k → l.getD (i + m) 0 = r.getD (j + m) 0) →
      oe_V (oe_cost 109) 109 (oe_M (d + 1)) none Q 28 [some (.inr (.inl a)), some (.inl (i : Int)), some (.inr (.inl b)), some (.inl (j : Int)), some (.inl ((ol_en l i : Nat) - (i : Int))), some (.inl (k : Int))] [] (sh, g, h) 0 0 := by
    intro hw n
    induction n with
    | zero =>
      intro k hn hk
      refine g109_28 ⟨fun _ => k1 (ol_sub_eq.mpr ⟨hw, fun m hm => hk m (by omega)⟩), fun c => by omega⟩
    | succ n ih =>
      intro k hn hk
      refine g109_28 ⟨fun c => by omega, fun c => ⟨s0, a + 1, p0, by unfold oe_rg; omega, ca, s1, by omega, by omega, t0, b + 1, q0, by unfold oe_rg; omega, cb, t1, by omega, by omega, fun c2 => ⟨by unfold oe_rg; omega, ?_⟩, fun c2 => k0 ?_⟩⟩
      · have e1 : ((i : Int) + (k : Int)).toNat = i + k := by omega
        have e2 : ((j : Int) + (k : Int)).toNat = j + k := by omega
        rw [e1, e2, hC.2 (i + k) (by omega), hD.2 (j + k) (by omega)] at c2
        refine ih (k + 1) (by omega) (fun m hm => ?_)
        by_cases e : m = k
        · subst e; omega
        · exact hk m (by omega)
      · have e1 : ((i : Int) + (k : Int)).toNat = i + k := by omega
        have e2 : ((j : Int) + (k : Int)).toNat = j + k := by omega
        rw [e1, e2, hC.2 (i + k) (by omega), hD.2 (j + k) (by omega)] at c2
        intro q
        have := (ol_sub_eq.mp q).2 k (by omega)
        omega
  refine g109 ⟨s0, a + 2, p1, ca, s2, by omega, by omega, ?_, t0, b + 2, q1, cb, t2, by omega, by omega, ?_, fun c => ?_, fun c => ?_⟩
  · rw [Int.toNat_natCast, hE i hi]; unfold oe_rg; omega
  · rw [Int.toNat_natCast, hF j hj]; unfold oe_rg; omega
  · rw [Int.toNat_natCast, Int.toNat_natCast, hE i hi, hF j hj] at c
    rw [Int.toNat_natCast, hE i hi]
    exact loop (by omega) _ 0 rfl (fun m hm => by omega)
  · rw [Int.toNat_natCast, Int.toNat_natCast, hE i hi, hF j hj] at c
    refine k0 (fun q => ?_)
    have := (ol_sub_eq.mp q).1
    omega
theorem c_empty (hD : 2 ≤ D) {a cap : Nat} (hS : LtS sh g a cap) (k : ∀ h', h' = oe_up h a 2 0 → Q none (sh, g, h')) : oe_M D 100 [.inr (.inl a)] (sh, g, h) Q := by
  obtain ⟨d, rfl⟩ : ∃ d, D = d + 2 := ⟨D - 2, by omega⟩
  exact g100 ⟨hS.1, k⟩
/-- a letter is appended: the row is one longer; nothing else changes -/
theorem c_append (hD : 2 ≤ D) {a cap : Nat} {l : List Nat} (hS : LtS sh g a cap) (hC : LtC h a l) (hl : l.length < cap) (x : Nat)
    (k : ∀ h', LtC h' a (l ++ [x]) → (∀ b, b ≠ a → b ≠ a + 1 → h' b = h b) → Q none (sh, g, h')) : oe_M D 101 [.inr (.inl a), .inl (x : Int)] (sh, g, h) Q := by
  obtain ⟨d, rfl⟩ : ∃ d, D = d + 2 := ⟨D - 2, by omega⟩
  obtain ⟨s0, p0, p1, s1, s2, hca⟩ := hS
  refine g101 ⟨s0, a + 1, p0, cap, s1, fun c => ?_, fun c => ⟨by rw [hC.1]; omega, by rw [hC.1]; omega, fun h1 e1 => ⟨?_, fun h2 e2 => ?_⟩⟩⟩
  · rw [hC.1] at c; omega
  · rw [e1, up_ne (by omega), hC.1]; unfold oe_rg; omega
  · refine k h2 ⟨?_, fun i hi => ?_⟩ (fun b hb hb1 => ?_)
    · rw [e2, up_eq, e1, up_ne (by omega), hC.1, List.length_append]; simp
    · rw [List.length_append] at hi
      have hi : i < l.length + 1 := hi
      rw [e2, up_ne (by omega), e1, hC.1, Int.toNat_natCast]
      by_cases e : i = l.length
      · subst e
        rw [up_eq, ol_getD_app2 (Nat.le_refl _), Nat.sub_self]; rfl
      · rw [up_col e, hC.2 i (by omega), ol_getD_app1 (by omega)]
    · rw [e2, up_ne hb, e1, up_ne hb1]
end
