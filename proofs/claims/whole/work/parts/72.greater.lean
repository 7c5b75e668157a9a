/-! The class's order is the order. -/
section
variable {D : Nat} {sh : List (Nat × Nat)} {g : Nat → Nat → Option Nat} {h : Nat → Nat → Int}
theorem c_args {Q : oeQ} (hD : 1 ≤ D) (x : Nat) (k : Q (some (.inl ((ol_ar x : Nat) : Int))) (sh, g, h)) : oe_M D 17 [.inl (x : Int)] (sh, g, h) Q := by
  obtain ⟨d, rfl⟩ : ∃ d, D = d + 1 := ⟨D - 1, by omega⟩
  refine g17 ⟨fun c => ⟨fun c2 => ?_, fun c2 => ?_⟩, fun c => ?_⟩
  · rw [show ol_ar x = 0 by unfold ol_ar; rw [if_neg (by omega), if_neg (by omega)]] at k; exact k
  · rw [show ol_ar x = 1 by unfold ol_ar; rw [if_neg (by omega), if_pos (by omega)]] at k; exact k
  · rw [show ol_ar x = 2 by unfold ol_ar; rw [if_pos (by omega)]] at k; exact k
theorem ar_0 {x : Nat} (h : x < 16) : ol_ar x = 0 := by unfold ol_ar; rw [if_neg (by omega), if_neg (by omega)]
theorem ar_1 {x : Nat} (h : 16 ≤ x) (h2 : x < 18) : ol_ar x = 1 := by unfold ol_ar; rw [if_neg (by omega), if_pos (by omega)]
theorem ar_le (x : Nat) : ol_ar x ≤ 2 := by unfold ol_ar; split <;> (try split) <;> omega
theorem ar_2 {x : Nat} (h : 18 ≤ x) : ol_ar x = 2 := by unfold ol_ar; rw [if_pos h]
set_option maxHeartbeats 2000000 in
theorem c_gt {a b ca cb : Nat} {l r : List Nat} (hS : LtS sh g a ca) (hT : LtS sh g b cb) (hC : LtC h a l) (hE : LtE h a l) (hC2 : LtC h b r) (hE2 : LtE h b r) (hl : l.length ≤ ca) (hr : r.length ≤ cb) :
    ∀ (n : Nat) (s t : oeT) (i j dep D : Nat) (Q : oeQ), ot_sz s + ot_sz t ≤ n → n + 3 ≤ D → dep + n ≤ 61 → ot_wf s → ot_wf t → ot_at l i s → ot_at r j t → (ot_gt s t → Q (some (.inl 1)) (sh, g, h)) → (¬ ot_gt s t → Q (some (.inl 0)) (sh, g, h)) →
      oe_M D 110 [.inr (.inl a), .inl (i : Int), .inr (.inl b), .inl (j : Int), .inl (dep : Int)] (sh, g, h) Q := by
  intro n
  induction n with
  | zero =>
    intro s t i j dep D Q hn hD hdep hs
    cases s with
    | leaf => exact hs.elim
    | inner => simp [ot_sz] at hn
  | succ n ih =>
    intro s t i j dep D Q hn hD hdep hs ht hi hj k1 k0
    obtain ⟨d, rfl⟩ : ∃ d, D = d + 2 := ⟨D - 2, by omega⟩
    have hS' := hS
    have hT' := hT
    obtain ⟨s0, p0, p1, s1', s2', hca⟩ := hS
    obtain ⟨t0, q0, q1, t1', t2', hcb⟩ := hT
    have li := ot_at_lt hs hi
    have lj := ot_at_lt ht hj
    cases s with
    | leaf => exact hs.elim
    | inner f ua ub s1 s2 =>
    cases t with
    | leaf => exact ht.elim
    | inner k va vb t1 t2 =>
    have hci : h (a + 1) ((i : Int)).toNat = (f : Int) := by rw [Int.toNat_natCast, hC.2 i li, ot_at_c hi]
    have hcj : h (b + 1) ((j : Int)).toNat = (k : Int) := by rw [Int.toNat_natCast, hC2.2 j lj, ot_at_c hj]
    have hei : h (a + 2) ((i : Int)).toNat = ((ol_en l i : Nat) : Int) := by rw [Int.toNat_natCast, hE i li]
    have hle := ol_en_le (Nat.le_of_lt li)
    simp only [ot_sz] at hn
    have arf := ar_le f
    have ark := ar_le k
    -- the ends
    have B1 : ∀ (v3 v4 v5 v8 v11 : Int), Q (some (.inl 1)) (sh, g, h) → oe_V (oe_cost 110) 110 (oe_M (d + 1)) none Q 253 [some (.inr (.inl a)), none, some (.inr (.inl b)), some (.inl v3), some (.inl v4), some (.inl v5), none, some (.inl 1), some (.inl v8), none, none, some (.inl v11)] [] (sh, g, h) 0 0 :=
      fun v3 v4 v5 v8 v11 q => g110_253 ⟨fun _ => ⟨Or.inr rfl, q⟩, fun c => absurd c (by decide)⟩
    have A0 : ∀ (v8 : Int) (m : Nat), ol_ar f ≤ m → Q (some (.inl 0)) (sh, g, h) → oe_V (oe_cost 110) 110 (oe_M (d + 1)) none Q 253 [some (.inr (.inl a)), none, some (.inr (.inl b)), some (.inl (j : Int)), some (.inl (dep : Int)), some (.inl (f : Int)), none, some (.inl 0), some (.inl v8), none, none, some (.inl (m : Int))] [] (sh, g, h) 0 0 :=
      fun v8 m hm q => g110_253 ⟨fun c => absurd rfl c, fun _ => c_args (by omega) f ⟨_, rfl, rfl, fun _ => ⟨Or.inl rfl, q⟩, fun c => by omega⟩⟩
    have chk : ∀ (u : oeT) (p m : Nat), ot_wf u → ot_at l p u → ot_sz u < ot_sz s1 + ot_sz s2 + 1 → m < ol_ar f → ((u = .inner k va vb t1 t2 ∨ ot_gt u (.inner k va vb t1 t2)) → Q (some (.inl 1)) (sh, g, h)) →
        (¬ (u = .inner k va vb t1 t2 ∨ ot_gt u (.inner k va vb t1 t2)) → oe_V (oe_cost 110) 110 (oe_M (d + 1)) none Q 253 [some (.inr (.inl a)), none, some (.inr (.inl b)), some (.inl (j : Int)), some (.inl (dep : Int)), some (.inl (f : Int)), none, some (.inl 0), some (.inl ((ol_en l p : Nat) : Int)), none, none, some (.inl ((m + 1 : Nat) : Int))] [] (sh, g, h) 0 0) →
        oe_V (oe_cost 110) 110 (oe_M (d + 1)) none Q 253 [some (.inr (.inl a)), none, some (.inr (.inl b)), some (.inl (j : Int)), some (.inl (dep : Int)), some (.inl (f : Int)), none, some (.inl 0), some (.inl (p : Int)), none, none, some (.inl (m : Int))] [] (sh, g, h) 0 0 := by
      intro u p m hu hp hsz hm yes no
      have lp := ot_at_lt hu hp
      refine g110_253 ⟨fun c => absurd rfl c, fun _ => c_args (by omega) f ⟨_, rfl, rfl, fun c => by omega, fun _ => ?_⟩⟩
      refine c_isSame (by omega) hS' hT' hC hE hC2 hE2 hl hr p j lp lj (fun q => ⟨1, rfl, rfl, fun _ => yes (Or.inl ((ot_same hu ht hp hj).mp q)), fun c => absurd c (by decide)⟩) (fun q => ⟨0, rfl, rfl, fun c => absurd rfl c, fun _ => ⟨by unfold oe_rg; omega, ?_⟩⟩)
      refine ih u (.inner k va vb t1 t2) p j (dep + 1) (d + 1) _ (by simp only [ot_sz]; omega) (by omega) (by omega) hu ht hp hj (fun gq => ⟨1, rfl, rfl, fun c => absurd c (by decide), fun _ => yes (Or.inr gq)⟩) (fun gq => ⟨0, rfl, rfl, fun _ => ⟨s0, a + 2, p1, ca, s2', by omega, by omega, by unfold oe_rg; omega, ?_⟩, fun c => absurd rfl c⟩)
      rw [Int.toNat_natCast, hE p lp]
      exact no (fun z => z.elim (fun z1 => q ((ot_same hu ht hp hj).mpr z1)) gq)
    have C0 : ∀ (v8 v9 v10 : Int) (m : Nat), ol_ar k ≤ m → Q (some (.inl 1)) (sh, g, h) → oe_V (oe_cost 110) 110 (oe_M (d + 1)) none Q 202 [some (.inr (.inl a)), some (.inl (i : Int)), some (.inr (.inl b)), some (.inl (j : Int)), some (.inl (dep : Int)), some (.inl (f : Int)), some (.inl (k : Int)), some (.inl 1), some (.inl v8), some (.inl v9), some (.inl v10), some (.inl (m : Int))] [] (sh, g, h) 0 0 :=
      fun v8 v9 v10 m hm q => g110_202 ⟨fun c => absurd c (by decide), fun _ => c_args (by omega) k ⟨_, rfl, rfl, fun _ => B1 _ _ _ _ _ q, fun c => by omega⟩⟩
    have chkT : ∀ (u : oeT) (p m : Nat) (v8 v10 : Int), ot_wf u → ot_at r p u → ot_sz u < ot_sz t1 + ot_sz t2 + 1 → m < ol_ar k → (¬ ot_gt (.inner f ua ub s1 s2) u → Q (some (.inl 0)) (sh, g, h)) →
        (ot_gt (.inner f ua ub s1 s2) u → oe_V (oe_cost 110) 110 (oe_M (d + 1)) none Q 202 [some (.inr (.inl a)), some (.inl (i : Int)), some (.inr (.inl b)), some (.inl (j : Int)), some (.inl (dep : Int)), some (.inl (f : Int)), some (.inl (k : Int)), some (.inl 1), some (.inl v8), some (.inl ((ol_en r p : Nat) : Int)), some (.inl v10), some (.inl ((m + 1 : Nat) : Int))] [] (sh, g, h) 0 0) →
        oe_V (oe_cost 110) 110 (oe_M (d + 1)) none Q 202 [some (.inr (.inl a)), some (.inl (i : Int)), some (.inr (.inl b)), some (.inl (j : Int)), some (.inl (dep : Int)), some (.inl (f : Int)), some (.inl (k : Int)), some (.inl 1), some (.inl v8), some (.inl (p : Int)), some (.inl v10), some (.inl (m : Int))] [] (sh, g, h) 0 0 := by
      intro u p m v8 v10 hu hp hsz hm no yes
      have lp := ot_at_lt hu hp
      refine g110_202 ⟨fun c => absurd c (by decide), fun _ => c_args (by omega) k ⟨_, rfl, rfl, fun c => by omega, fun _ => ⟨by unfold oe_rg; omega, ?_⟩⟩⟩
      refine ih (.inner f ua ub s1 s2) u i p (dep + 1) (d + 1) _ (by simp only [ot_sz]; omega) (by omega) (by omega) hs hu hi hp (fun gq => ⟨1, rfl, rfl, fun _ => ⟨t0, b + 2, q1, cb, t2', by omega, by omega, by unfold oe_rg; omega, ?_⟩, fun c => absurd c (by decide)⟩) (fun gq => ⟨0, rfl, rfl, fun c => absurd rfl c, fun _ => no gq⟩)
      rw [Int.toNat_natCast, hE2 p lp]
      exact yes gq
    -- places of the arguments
    have i1 : 16 ≤ f → ot_at l (i + 1) s1 := fun _ => ot_at_1 hi
    have i2 : 18 ≤ f → ot_at l (ol_en l (i + 1)) s2 := fun q => ot_at_2 (ot_wf1 hs (by omega)) hi
    have j1 : 16 ≤ k → ot_at r (j + 1) t1 := fun _ => ot_at_1 hj
    have j2 : 18 ≤ k → ot_at r (ol_en r (j + 1)) t2 := fun q => ot_at_2 (ot_wf1 ht (by omega)) hj
    have hz1 : ot_sz s1 < ot_sz s1 + ot_sz s2 + 1 := by omega
    have hz2 : ot_sz s2 < ot_sz s1 + ot_sz s2 + 1 := by omega
    have hy1 : ot_sz t1 < ot_sz t1 + ot_sz t2 + 1 := by omega
    have hy2 : ot_sz t2 < ot_sz t1 + ot_sz t2 + 1 := by omega
    refine g110 ⟨s0, a + 1, p0, ca, s1', by omega, by omega, t0, b + 1, q0, cb, t1', by omega, by omega, ?_, ?_⟩
    · intro c
      rw [hcj] at c
      have hk : k < 12 := by omega
      have hgt : ot_gt (.inner f ua ub s1 s2) (.inner k va vb t1 t2) ↔ (ot_oc k (.inner f ua ub s1 s2) ∧ f ≠ k) := by
        constructor
        · intro q
          rcases ot_gt_eq.mp q with ⟨_, q2, q3⟩ | ⟨q1, _, _⟩
          · exact ⟨q2, q3⟩
          · omega
        · intro q
          exact ot_gt_eq.mpr (Or.inl ⟨hk, q.1, q.2⟩)
      simp only [hci, hcj, hei]
      refine ⟨fun e => k0 (fun q => (hgt.mp q).2 (by omega)), fun e => ⟨a + 2, p1, ca, s2', by omega, by omega, ?_⟩⟩
      rw [hei]
      refine c_holds (D := d + 1) (by omega) hS' hC hl k i (ol_en l i) hle (fun q => ⟨1, rfl, rfl, fun c => absurd c (by decide), fun _ => k1 (hgt.mpr ⟨(ot_oc_at hs hi).mpr q, by omega⟩)⟩) (fun q => ⟨0, rfl, rfl, fun _ => k0 (fun z => ?_), fun c => absurd rfl c⟩)
      obtain ⟨m, m1, m2, m3⟩ := (ot_oc_at hs hi).mp (hgt.mp z).1
      exact q m m1 m2 m3
    · intro c
      rw [hcj] at c
      have hk : 12 ≤ k := by omega
      simp only [hci, hcj]
      refine ⟨fun c2 => k0 (ot_gt_var hs (by omega)), fun c2 => ⟨fun c3 => ⟨fun c4 => ⟨by unfold oe_rg; omega, by unfold oe_rg; omega, fun c5 => ?_, fun c5 => ?_⟩, fun c4 => ⟨by unfold oe_rg; omega, by unfold oe_rg; omega, fun c5 => ?_, fun c5 => by omega⟩⟩, fun c3 => by omega⟩⟩
      · -- the sign is smaller: arguments of s alone
        have hfk : f < k := by omega
        have hg := ot_gt_small (a := ua) (b := ub) (a' := va) (b' := vb) (s1 := s1) (s2 := s2) (t1 := t1) (t2 := t2) (f := f) (k := k) (by omega) hfk
        refine g110_202 ⟨fun _ => ?_, fun c => absurd rfl c⟩
        by_cases f2 : 18 ≤ f
        · refine chk s1 (i + 1) 0 (ot_wf1 hs (by omega)) (i1 (by omega)) hz1 (by rw [ar_2 f2]; omega) (fun q => k1 (hg.mpr (Or.inl ⟨by omega, q⟩))) (fun n1 => ?_)
          refine chk s2 _ 1 (ot_wf2 hs f2) (i2 f2) hz2 (by rw [ar_2 f2]; omega) (fun q => k1 (hg.mpr (Or.inr ⟨f2, q⟩))) (fun n2 => ?_)
          exact A0 _ 2 (by rw [ar_2 f2]; exact Nat.le_refl _) (k0 (fun q => (hg.mp q).elim (fun z => n1 z.2) (fun z => n2 z.2)))
        · by_cases f1 : 16 ≤ f
          · refine chk s1 (i + 1) 0 (ot_wf1 hs f1) (i1 f1) hz1 (by rw [ar_1 f1 (by omega)]; omega) (fun q => k1 (hg.mpr (Or.inl ⟨f1, q⟩))) (fun n1 => ?_)
            exact A0 _ 1 (by rw [ar_1 f1 (by omega)]; exact Nat.le_refl _) (k0 (fun q => (hg.mp q).elim (fun z => n1 z.2) (fun z => f2 z.1)))
          · exact A0 _ 0 (by rw [ar_0 (by omega)]; exact Nat.le_refl _) (k0 (fun q => (hg.mp q).elim (fun z => f1 z.1) (fun z => f2 z.1)))
      · -- the same sign
        have hfk : f = k := by omega
        subst hfk
        have same0 : ∀ (m : Nat) (v8 v9 : Int), m = ol_ar f → ¬ ot_gt (.inner f ua ub s1 s2) (.inner f va vb t1 t2) → oe_V (oe_cost 110) 110 (oe_M (d + 1)) none Q 150 [some (.inr (.inl a)), some (.inl (i : Int)), some (.inr (.inl b)), some (.inl (j : Int)), some (.inl (dep : Int)), some (.inl (f : Int)), some (.inl (f : Int)), none, some (.inl v8), some (.inl v9), some (.inl (m : Int)), none] [] (sh, g, h) 0 0 :=
          fun m v8 v9 hm q => g110_150 (c_args (by omega) f ⟨_, rfl, rfl, fun c => by omega, fun _ => k0 q⟩)
        have diff : ∀ (u w : oeT) (p q m : Nat), ot_wf u → ot_wf w → ot_at l p u → ot_at r q w → ot_sz u < ot_sz s1 + ot_sz s2 + 1 → ot_sz w < ot_sz t1 + ot_sz t2 + 1 → m < ol_ar f →
            (ot_gt u w → oe_V (oe_cost 110) 110 (oe_M (d + 1)) none Q 202 [some (.inr (.inl a)), some (.inl (i : Int)), some (.inr (.inl b)), some (.inl (j : Int)), some (.inl (dep : Int)), some (.inl (f : Int)), some (.inl (f : Int)), some (.inl 1), some (.inl ((ol_en l p : Nat) : Int)), some (.inl ((ol_en r q : Nat) : Int)), some (.inl ((m + 1 : Nat) : Int)), some (.inl ((m + 1 : Nat) : Int))] [] (sh, g, h) 0 0) →
            (¬ ot_gt u w → oe_V (oe_cost 110) 110 (oe_M (d + 1)) none Q 253 [some (.inr (.inl a)), none, some (.inr (.inl b)), some (.inl (j : Int)), some (.inl (dep : Int)), some (.inl (f : Int)), none, some (.inl 0), some (.inl ((ol_en l p : Nat) : Int)), none, none, some (.inl ((m + 1 : Nat) : Int))] [] (sh, g, h) 0 0) →
            oe_V (oe_cost 110) 110 (oe_M (d + 1)) none Q 150 [some (.inr (.inl a)), some (.inl (i : Int)), some (.inr (.inl b)), some (.inl (j : Int)), some (.inl (dep : Int)), some (.inl (f : Int)), some (.inl (f : Int)), none, some (.inl (p : Int)), some (.inl (q : Int)), some (.inl (m : Int)), none] [] (sh, g, h) 0 0 := by
          intro u w p q m hu hw hp hq hsz hsw hm yes no
          have lp := ot_at_lt hu hp
          have lq := ot_at_lt hw hq
          refine g110_150 (c_args (by omega) f ⟨_, rfl, rfl, fun _ => ⟨by unfold oe_rg; omega, ?_⟩, fun c => by omega⟩)
          refine ih u w p q (dep + 1) (d + 1) _ (by omega) (by omega) (by omega) hu hw hp hq (fun gq => ⟨1, rfl, rfl, s0, a + 2, p1, ca, s2', by omega, by omega, t0, b + 2, q1, cb, t2', by omega, by omega, by unfold oe_rg; omega, ?_⟩) (fun gq => ⟨0, rfl, rfl, s0, a + 2, p1, ca, s2', by omega, by omega, t0, b + 2, q1, cb, t2', by omega, by omega, by unfold oe_rg; omega, ?_⟩)
          · rw [Int.toNat_natCast, Int.toNat_natCast, hE p lp, hE2 q lq]
            exact yes gq
          · rw [Int.toNat_natCast, Int.toNat_natCast, hE p lp, hE2 q lq]
            exact g110_202 ⟨fun _ => no gq, fun c => absurd rfl c⟩
        by_cases f2 : 18 ≤ f
        · have ws1 := ot_wf1 hs (by omega : 16 ≤ f)
          have wt1 := ot_wf1 ht (by omega : 16 ≤ f)
          have ws2 := ot_wf2 hs f2
          have wt2 := ot_wf2 ht f2
          have l1 := ot_at_lt ws1 (i1 (by omega))
          have m1 := ot_at_lt wt1 (j1 (by omega))
          have l2 := ot_at_lt ws2 (i2 f2)
          have m2 := ot_at_lt wt2 (j2 f2)
          refine g110_104 (c_args (by omega) f ⟨_, rfl, rfl, fun c => by rw [ar_2 f2] at c; omega, fun _ => ?_⟩)
          refine c_isSame (D := d + 1) (by omega) hS' hT' hC hE hC2 hE2 hl hr (i + 1) (j + 1) l1 m1 (fun q => ⟨1, rfl, rfl, fun c => absurd c (by decide), fun _ => ⟨s0, a + 2, p1, ca, s2', by omega, by omega, t0, b + 2, q1, cb, t2', by omega, by omega, by unfold oe_rg; omega, ?_⟩⟩) (fun q => ⟨0, rfl, rfl, fun _ => ?_, fun c => absurd rfl c⟩)
          · have e1 : s1 = t1 := (ot_same ws1 wt1 (i1 (by omega)) (j1 (by omega))).mp q
            have hg := ot_gt_bin0 hs ht f2 e1
            rw [show (((i : Int) + 1)).toNat = i + 1 by omega, show (((j : Int) + 1)).toNat = j + 1 by omega, hE _ l1, hE2 _ m1]
            refine g110_104 (c_args (by omega) f ⟨_, rfl, rfl, fun c => by rw [ar_2 f2] at c; omega, fun _ => ?_⟩)
            refine c_isSame (D := d + 1) (by omega) hS' hT' hC hE hC2 hE2 hl hr (ol_en l (i + 1)) (ol_en r (j + 1)) l2 m2 (fun q2 => ⟨1, rfl, rfl, fun c => absurd c (by decide), fun _ => ⟨s0, a + 2, p1, ca, s2', by omega, by omega, t0, b + 2, q1, cb, t2', by omega, by omega, by unfold oe_rg; omega, ?_⟩⟩) (fun q2 => ⟨0, rfl, rfl, fun _ => ?_, fun c => absurd rfl c⟩)
            · have e2 : s2 = t2 := (ot_same ws2 wt2 (i2 f2) (j2 f2)).mp q2
              refine g110_104 (c_args (by omega) f ⟨_, rfl, rfl, fun _ => ?_, fun c => by rw [ar_2 f2] at c; omega⟩)
              refine same0 2 _ _ (ar_2 f2).symm (fun z => ot_irr _ ws2 ?_)
              have z2 := hg.mp z
              rw [← e2] at z2
              exact z2
            · refine diff s2 t2 _ _ 1 ws2 wt2 (i2 f2) (j2 f2) hz2 hy2 (by rw [ar_2 f2]; omega) (fun gq => C0 _ _ _ 2 (by rw [ar_2 f2]; exact Nat.le_refl _) (k1 (hg.mpr gq))) (fun gq => A0 _ 2 (by rw [ar_2 f2]; exact Nat.le_refl _) (k0 (fun z => gq (hg.mp z))))
          · have e1 : s1 ≠ t1 := fun z => q ((ot_same ws1 wt1 (i1 (by omega)) (j1 (by omega))).mpr z)
            refine diff s1 t1 (i + 1) (j + 1) 0 ws1 wt1 (i1 (by omega)) (j1 (by omega)) hz1 hy1 (by rw [ar_2 f2]; omega) (fun gq => ?_) (fun gq => ?_)
            · have hg := ot_gt_bin1 hs ht f2 gq
              exact chkT t2 _ 1 _ _ wt2 (j2 f2) hy2 (by rw [ar_2 f2]; omega) (fun z => k0 (fun y => z (hg.mp y))) (fun z => C0 _ _ _ 2 (by rw [ar_2 f2]; exact Nat.le_refl _) (k1 (hg.mpr z)))
            · have hg := ot_gt_bin2 hs ht f2 gq e1
              exact chk s2 _ 1 ws2 (i2 f2) hz2 (by rw [ar_2 f2]; omega) (fun z => k1 (hg.mpr z)) (fun z => A0 _ 2 (by rw [ar_2 f2]; exact Nat.le_refl _) (k0 (fun y => z (hg.mp y))))
        · by_cases f1 : 16 ≤ f
          · have ws1 := ot_wf1 hs f1
            have wt1 := ot_wf1 ht f1
            have l1 := ot_at_lt ws1 (i1 f1)
            have m1 := ot_at_lt wt1 (j1 f1)
            have hg := ot_gt_un hs ht f1 (by omega)
            have ar := ar_1 f1 (by omega : f < 18)
            refine g110_104 (c_args (by omega) f ⟨_, rfl, rfl, fun c => by rw [ar] at c; omega, fun _ => ?_⟩)
            refine c_isSame (D := d + 1) (by omega) hS' hT' hC hE hC2 hE2 hl hr (i + 1) (j + 1) l1 m1 (fun q => ⟨1, rfl, rfl, fun c => absurd c (by decide), fun _ => ⟨s0, a + 2, p1, ca, s2', by omega, by omega, t0, b + 2, q1, cb, t2', by omega, by omega, by unfold oe_rg; omega, ?_⟩⟩) (fun q => ⟨0, rfl, rfl, fun _ => ?_, fun c => absurd rfl c⟩)
            · have e1 : s1 = t1 := (ot_same ws1 wt1 (i1 f1) (j1 f1)).mp q
              refine g110_104 (c_args (by omega) f ⟨_, rfl, rfl, fun _ => ?_, fun c => by rw [ar] at c; omega⟩)
              refine same0 1 _ _ ar.symm (fun z => ot_irr _ ws1 ?_)
              have z2 := hg.mp z
              rw [← e1] at z2
              exact z2
            · exact diff s1 t1 (i + 1) (j + 1) 0 ws1 wt1 (i1 f1) (j1 f1) hz1 hy1 (by rw [ar]; omega) (fun gq => C0 _ _ _ 1 (by rw [ar]; exact Nat.le_refl _) (k1 (hg.mpr gq))) (fun gq => A0 _ 1 (by rw [ar]; exact Nat.le_refl _) (k0 (fun z => gq (hg.mp z))))
          · have ar := ar_0 (by omega : f < 16)
            refine g110_104 (c_args (by omega) f ⟨_, rfl, rfl, fun _ => ?_, fun c => by rw [ar] at c; omega⟩)
            refine same0 0 _ _ ar.symm ?_
            have h1 := hs.1 (by omega)
            have h2 := ht.1 (by omega)
            rw [h1.1, h1.2, h2.1, h2.2]
            rw [h1.1, h1.2] at hs
            exact ot_irr _ hs
      · -- the sign is greater: arguments of t alone
        have hfk : k < f := by omega
        have hg := ot_gt_big hs ht hk hfk
        by_cases f2 : 18 ≤ k
        · refine chkT t1 (j + 1) 0 _ _ (ot_wf1 ht (by omega)) (j1 (by omega)) hy1 (by rw [ar_2 f2]; omega) (fun z => k0 (fun y => z ((hg.mp y).1 (by omega)))) (fun z1 => ?_)
          refine chkT t2 _ 1 _ _ (ot_wf2 ht f2) (j2 f2) hy2 (by rw [ar_2 f2]; omega) (fun z => k0 (fun y => z ((hg.mp y).2 f2))) (fun z2 => ?_)
          exact C0 _ _ _ 2 (by rw [ar_2 f2]; exact Nat.le_refl _) (k1 (hg.mpr ⟨fun _ => z1, fun _ => z2⟩))
        · by_cases f1 : 16 ≤ k
          · refine chkT t1 (j + 1) 0 _ _ (ot_wf1 ht f1) (j1 f1) hy1 (by rw [ar_1 f1 (by omega)]; omega) (fun z => k0 (fun y => z ((hg.mp y).1 f1))) (fun z1 => ?_)
            exact C0 _ _ _ 1 (by rw [ar_1 f1 (by omega)]; exact Nat.le_refl _) (k1 (hg.mpr ⟨fun _ => z1, fun q => by omega⟩))
          · exact C0 _ _ _ 0 (by rw [ar_0 (by omega)]; exact Nat.le_refl _) (k1 (hg.mpr ⟨fun q => by omega, fun q => by omega⟩))
end
