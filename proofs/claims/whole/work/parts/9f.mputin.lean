/-! The reference: putting in all values; looking along values; giving a value. -/
def md_fo (m : Nat) (h h' : Nat → Nat → Int) : Prop := (∀ c, c ≠ m → c ≠ m + 26 → c ≠ m + 27 → c ≠ m + 28 → h' c = h c) ∧ ∀ j, j ≠ 40 → h' m j = h m j
theorem md_fo_refl (m : Nat) (h : Nat → Nat → Int) : md_fo m h h := ⟨fun _ _ _ _ _ => rfl, fun _ _ => rfl⟩
theorem md_fo_tr {m : Nat} {h h' h'' : Nat → Nat → Int} (a : md_fo m h h') (b : md_fo m h' h'') : md_fo m h h'' := ⟨fun c z1 z2 z3 z4 => by rw [b.1 c z1 z2 z3 z4, a.1 c z1 z2 z3 z4], fun j z => by rw [b.2 j z, a.2 j z]⟩
theorem MR.snoc {h h' : Nat → Nat → Int} {q : Nat} {l : List Nat} {c : Nat} (H : MR h q l) (e : ∀ i, h' q i = if i = l.length then om c else h q i) : MR h' q (l ++ [c]) := by
  intro i hi
  rw [List.length_append] at hi
  simp only [List.length_cons, List.length_nil] at hi
  rw [e i]
  by_cases z : i = l.length
  · rw [if_pos z, ol_getD_app2 (by omega), z, Nat.sub_self]; rfl
  · rw [if_neg z, ol_getD_app1 (by omega)]; exact H i (by omega)
section
variable {D : Nat} {sh : List (Nat × Nat)} {g : Nat → Nat → Option Nat} {h : Nat → Nat → Int} {Q : oeQ}
set_option maxHeartbeats 1000000 in
theorem mx_run {d0 : Nat} (hd : 1 ≤ d0) {m : Nat} {l : List Nat} {σ : Nat → Option oeT} {r : Nat → Nat} (hM : MdS sh g m) (hl : l.length ≤ 64) (ok : ol_ok l) (R : MR h (m + 22) l) (hV : UnV h (m + 23) l σ) (H : ua σ r) (lim : Nat) (hlim : lim ≤ 300) : ∀ (n k f t d : Nat) (out : List Nat) (h1 : Nat → Nat → Int), t - f = k → f ≤ t → t ≤ l.length → n + d = 12 → (∀ c ∈ ol_rg l f t, ∀ u, σ c = some u → r c < n) → MR h1 (m + 26) out → h1 m 40 = ((out.length : Nat) : Int) → out.length ≤ lim → h1 (m + 27) d = (f : Int) → h1 (m + 28) d = (t : Int) → md_fo m h h1 →
    (∀ (h2 : Nat → Nat → Int), out.length + (ou_X σ (ol_rg l f t)).length ≤ lim → MR h2 (m + 26) (out ++ ou_X σ (ol_rg l f t)) → h2 m 40 = (((out ++ ou_X σ (ol_rg l f t)).length : Nat) : Int) → h2 (m + 27) d = (t : Int) → h2 (m + 28) d = (t : Int) → (∀ j, j < d → h2 (m + 27) j = h1 (m + 27) j ∧ h2 (m + 28) j = h1 (m + 28) j) → md_fo m h h2 →
      oe_V (oe_cost 60) 60 (oe_M (d0 + 1)) none Q 17 [some (.inr (.inl m)), none, none, some (.inl (lim : Int)), some (.inl ((d : Int) + 1)), none] [] (sh, g, h2) 0 0) →
    (lim < out.length + (ou_X σ (ol_rg l f t)).length → ∀ h2 : Nat → Nat → Int, h2 m 40 = (lim : Int) → md_fo m h h2 → Q (some (.inl 0)) (sh, g, h2)) →
    oe_V (oe_cost 60) 60 (oe_M (d0 + 1)) none Q 17 [some (.inr (.inl m)), none, none, some (.inl (lim : Int)), some (.inl ((d : Int) + 1)), none] [] (sh, g, h1) 0 0 := by
  have ac22 := md_34 hM
  have ac23 := md_35 hM
  have ac26 := md_39 hM
  have ac27 := md_41 hM
  have ac28 := md_42 hM
  intro n
  induction n using Nat.strongRecOn with
  | _ n ih =>
    intro k
    induction k with
    | zero =>
      intro f t d out h1 hk hf ht hn hr hC ho hol e1 e2 F K1 K0
      have : f = t := by omega
      subst this
      rw [ol_rg_nil, ou_X_nil] at K1
      exact K1 h1 (by simpa using hol) (by simpa using hC) (by simpa using ho) e1 e2 (fun j _ => ⟨rfl, rfl⟩) F
    | succ k ihk =>
      intro f t d out h1 hk hf ht hn hr hC ho hol e1 e2 F K1 K0
      have hft : f < t := by omega
      have hc := ol_rg_cons hft ht
      have c20 := ol_ok_at ok (i := f) (by omega)
      rw [hc] at hr K1 K0
      rw [ou_X_cons] at K1 K0
      have ec : h1 (m + 22) f = om (l.getD f 0) := by rw [F.1 _ (by omega) (by omega) (by omega) (by omega)]; exact R f (by omega)
      generalize hcc : l.getD f 0 = c at *
      have vd : ((d : Int) + 1 - 1).toNat = d := by omega
      refine g60_17 ⟨fun c1 => by omega, fun _ => ⟨hM.1, m + 27, ac27.1, by unfold oe_rg; omega, 16, ac27.2, by omega, by omega, m + 28, ac28.1, by unfold oe_rg; omega, 16, ac28.2, by omega, by omega, fun _ => ?_, fun c1 => by rw [vd, e1, e2] at c1; omega⟩⟩
      rw [vd, e1]
      refine ⟨by unfold oe_rg; omega, by omega, by omega, by unfold oe_rg; omega, by omega, by omega, by unfold oe_rg; omega, by omega, by omega, fun h2 he => ⟨m + 22, ac22.1, 64, ac22.2, by omega, by omega, ?_⟩⟩
      have F2 : md_fo m h h2 := md_fo_tr F ⟨fun x z1 z2 z3 z4 => by rw [he, up_ne z3], fun j z => by rw [he, up_ne (by omega)]⟩
      have n2 : h2 m 40 = ((out.length : Nat) : Int) := by rw [he, up_ne (by omega)]; exact ho
      have C2 : MR h2 (m + 26) out := hC.kept (by rw [he, up_ne (by omega)])
      have ec2 : h2 (m + 22) f = om c := by rw [he, up_ne (by omega)]; exact ec
      have f27 : h2 (m + 27) d = ((f + 1 : Nat) : Int) := by rw [he, up_eq]; omega
      have f28 : h2 (m + 28) d = (t : Int) := by rw [he, up_ne (by omega)]; exact e2
      have below : ∀ j, j < d → h2 (m + 27) j = h1 (m + 27) j ∧ h2 (m + 28) j = h1 (m + 28) j := fun j hj => ⟨by rw [he, up_col (by omega)], by rw [he, up_ne (by omega)]⟩
      rw [Int.toNat_natCast, ec2]
      -- a letter without a value goes out
      have full : σ c = none → ((out.length : Nat) : Int) = (lim : Int) → Q (some (.inl 0)) (sh, g, h2) := by
        intro hun z
        rw [ou_X_0 hun] at K0
        exact K0 (by rw [List.length_append]; simp; omega) h2 (by rw [n2, z]) F2
      have put : σ c = none → ((out.length : Nat) : Int) ≠ (lim : Int) → ∀ h3 h4 : Nat → Nat → Int, h3 = oe_up h2 (m + 26) out.length (om c) → h4 = oe_up h3 m 40 (((out.length : Nat) : Int) + 1) →
          oe_V (oe_cost 60) 60 (oe_M (d0 + 1)) none Q 17 [some (.inr (.inl m)), none, none, some (.inl (lim : Int)), some (.inl ((d : Int) + 1)), none] [] (sh, g, h4) 0 0 := by
        intro hun z h3 h4 e3 e4
        rw [ou_X_0 hun] at K1 K0
        have C4 : MR h4 (m + 26) (out ++ [c]) := C2.snoc (fun i => by
          rw [e4, up_ne (by omega), e3]
          split
          · rename_i q; rw [q, up_eq]
          · rename_i q; rw [up_col q])
        have F4 : md_fo m h h4 := md_fo_tr F2 ⟨fun x z1 z2 z3 z4 => by rw [e4, up_ne z1, e3, up_ne z2], fun j z => by rw [e4, up_col z, e3, up_ne (by omega)]⟩
        refine ihk (f + 1) t d (out ++ [c]) h4 (by omega) (by omega) ht hn (fun x hx => hr x (List.mem_cons_of_mem _ hx)) C4 (by rw [e4, up_eq, List.length_append]; simp) (by rw [List.length_append]; simp; omega) (by rw [e4, up_ne (by omega), e3, up_ne (by omega)]; exact f27) (by rw [e4, up_ne (by omega), e3, up_ne (by omega)]; exact f28) F4 (fun h5 a1 a2 a3 a4 a5 a6 a7 => ?_) (fun a1 h5 a2 a3 => ?_)
        · rw [List.length_append] at a1
          refine K1 h5 (by rw [List.length_append]; simp at a1 ⊢; omega) (by rw [← List.append_assoc]; exact a2) (by rw [← List.append_assoc]; exact a3) a4 a5 (fun j hj => ?_) a7
          obtain ⟨b1, b2⟩ := a6 j hj
          obtain ⟨b3, b4⟩ := below j hj
          rw [b1, b2, e4, up_ne (by omega), up_ne (by omega), e3, up_ne (by omega), up_ne (by omega)]
          exact ⟨b3, b4⟩
        · rw [List.length_append] at a1
          exact K0 (by rw [List.length_append]; simp at a1 ⊢; omega) h5 a2 a3
      by_cases hx : c < 12
      · rw [om_v hx] at ec2 ⊢
        refine ⟨fun _ => ⟨m + 23, ac23.1, by omega, by omega, 12, ac23.2, by omega, by omega, ?_⟩, fun c1 => by omega⟩
        have hv0 : h2 (m + 23) ((c : Int)).toNat = h (m + 23) c := by rw [Int.toNat_natCast, F2.1 _ (by omega) (by omega) (by omega) (by omega)]
        rw [hv0]
        rcases hV c hx with q | ⟨p, u, q1, q2, q3, q4, q5⟩
        · rw [q.1]
          refine ⟨fun _ => ⟨fun c2 => ⟨m + 26, ac26.1, by omega, by omega, 320, ac26.2, by omega, by omega, fun h3 e3 => ?_⟩, fun c2 => full q.2 (by rw [← n2]; exact c2)⟩, fun c1 => by omega⟩
          rw [n2] at c2
          rw [n2, Int.toNat_natCast] at e3
          have n3 : h3 m 40 = ((out.length : Nat) : Int) := by rw [e3, up_ne (by omega)]; exact n2
          refine ⟨by rw [n3]; unfold oe_rg; omega, fun h4 e4 => put q.2 c2 h3 h4 (by rw [e3, om_v hx]) (by rw [e4, n3])⟩
        · rw [q1]
          have rc := hr c List.mem_cons_self u q3
          have hX := ou_X_1 H q3
          have hsub : ol_rg l p (ol_en l p) = ot_fl u := by rw [ol_rg_sub, ot_at_sub q4 q5]
          have en := ol_en_le (Nat.le_of_lt q2)
          have enl := ol_en_lt q2
          rw [hX] at K1 K0
          obtain ⟨n', rfl⟩ : ∃ n', n = n' + 1 := ⟨n - 1, by omega⟩
          refine ⟨fun c1 => by omega, fun _ => ⟨by omega, by omega, by omega, by omega, by omega, by omega, fun h3 e3 => ⟨by omega, by omega, ?_⟩⟩⟩
          have d1 : ((d : Int) + 1) = ((d + 1 : Nat) : Int) := by omega
          rw [d1, Int.toNat_natCast] at e3
          have ec3 : h3 (m + 22) f = (c : Int) := by rw [e3, up_ne (by omega)]; exact ec2
          rw [ec3]
          have hv3 : h3 (m + 23) ((c : Int)).toNat = (p : Int) := by rw [e3, up_ne (by omega), hv0]; exact q1
          rw [hv3]
          have F3 : md_fo m h h3 := md_fo_tr F2 ⟨fun x z1 z2 z3 z4 => by rw [e3, up_ne z3], fun j z => by rw [e3, up_ne (by omega)]⟩
          refine ⟨by omega, by omega, m_behindR (by omega) hM hl ok (R.kept (F3.1 _ (by omega) (by omega) (by omega) (by omega))) p q4 q5 ⟨_, rfl, rfl, by omega, by omega, fun h4 e4 => ⟨by unfold oe_rg; omega, ?_⟩⟩⟩
          rw [d1, Int.toNat_natCast] at e4
          have F4 : md_fo m h h4 := md_fo_tr F3 ⟨fun x z1 z2 z3 z4 => by rw [e4, up_ne z4], fun j z => by rw [e4, up_ne (by omega)]⟩
          have keep4 : ∀ j, j < d + 1 → h4 (m + 27) j = h2 (m + 27) j ∧ h4 (m + 28) j = h2 (m + 28) j := fun j hj => ⟨by rw [e4, up_ne (by omega), e3, up_col (by omega)], by rw [e4, up_col (by omega), e3, up_ne (by omega)]⟩
          rw [d1]
          refine ih n' (by omega) (ol_en l p - p) p (ol_en l p) (d + 1) out h4 rfl (by omega) en (by omega) (fun y hy w hw => ?_) (C2.kept (by rw [e4, up_ne (by omega), e3, up_ne (by omega)])) (by rw [e4, up_ne (by omega), e3, up_ne (by omega)]; exact n2) hol (by rw [e4, up_ne (by omega), e3, up_eq]) (by rw [e4, up_eq]) F4 (fun h5 a1 a2 a3 a4 a5 a6 a7 => ?_) (fun a1 h5 a2 a3 => ?_)
          · rw [hsub] at hy
            have := (H c u q3).2.2.2 y hy w hw
            omega
          · rw [hsub] at a1 a2 a3
            obtain ⟨j1, j2⟩ := a6 d (by omega)
            obtain ⟨j3, j4⟩ := keep4 d (by omega)
            -- the level is left
            have vd2 : (((d + 1 : Nat) : Int) + 1 - 1).toNat = d + 1 := by omega
            refine g60_17 ⟨fun c1 => by omega, fun _ => ⟨hM.1, m + 27, ac27.1, by unfold oe_rg; omega, 16, ac27.2, by omega, by omega, m + 28, ac28.1, by unfold oe_rg; omega, 16, ac28.2, by omega, by omega, fun c1 => by rw [vd2, a4, a5] at c1; omega, fun _ => ⟨by unfold oe_rg; omega, ?_⟩⟩⟩
            rw [show (((d + 1 : Nat) : Int) + 1 + -1) = (d : Int) + 1 by omega]
            refine ihk (f + 1) t d (out ++ ou_X σ (ot_fl u)) h5 (by omega) (by omega) ht hn (fun x hx => hr x (List.mem_cons_of_mem _ hx)) a2 a3 (by rw [List.length_append]; exact a1) (by rw [j1, j3]; exact f27) (by rw [j2, j4]; exact f28) a7 (fun h6 x1 x2 x3 x4 x5 x6 x7 => ?_) (fun x1 h6 x2 x3 => ?_)
            · rw [List.length_append] at x1
              refine K1 h6 (by rw [List.length_append]; omega) (by rw [← List.append_assoc]; exact x2) (by rw [← List.append_assoc]; exact x3) x4 x5 (fun j hj => ?_) x7
              obtain ⟨b1, b2⟩ := x6 j hj
              obtain ⟨b3, b4⟩ := a6 j (by omega)
              obtain ⟨b5, b6⟩ := keep4 j (by omega)
              obtain ⟨b7, b8⟩ := below j hj
              exact ⟨by rw [b1, b3, b5, b7], by rw [b2, b4, b6, b8]⟩
            · rw [List.length_append] at x1
              exact K0 (by rw [List.length_append]; omega) h6 x2 x3
          · rw [hsub] at a1
            exact K0 (by rw [List.length_append]; omega) h5 a2 a3
      · have hun : σ c = none := by
          cases hs : σ c with
          | none => rfl
          | some u => have := (H c u hs).1; omega
        have o1 : om c = 39 - (c : Int) := om_s (by omega)
        refine ⟨fun c1 => by omega, fun _ => ⟨fun c2 => ⟨m + 26, ac26.1, by omega, by omega, 320, ac26.2, by omega, by omega, fun h3 e3 => ?_⟩, fun c2 => full hun (by rw [← n2]; exact c2)⟩⟩
        rw [n2] at c2
        rw [n2, Int.toNat_natCast] at e3
        have n3 : h3 m 40 = ((out.length : Nat) : Int) := by rw [e3, up_ne (by omega)]; exact n2
        exact ⟨by rw [n3]; unfold oe_rg; omega, fun h4 e4 => put hun c2 h3 h4 e3 (by rw [e4, n3])⟩
theorem m_putIn (hDD : 4 ≤ D) {m : Nat} {l out : List Nat} {σ : Nat → Option oeT} {r : Nat → Nat} (hM : MdS sh g m) (hl : l.length ≤ 64) (ok : ol_ok l) (R : MR h (m + 22) l) (hV : UnV h (m + 23) l σ) (H : ua σ r) (lim f t : Nat) (hlim : lim ≤ 300) (hft : f ≤ t) (ht : t ≤ l.length) (C : MR h (m + 26) out) (no : h m 40 = ((out.length : Nat) : Int)) (hol : out.length ≤ lim)
    (k1 : out.length + (ou_X σ (ol_rg l f t)).length ≤ lim → ∀ h', MR h' (m + 26) (out ++ ou_X σ (ol_rg l f t)) → h' m 40 = (((out ++ ou_X σ (ol_rg l f t)).length : Nat) : Int) → md_fo m h h' → Q (some (.inl 1)) (sh, g, h'))
    (k0 : lim < out.length + (ou_X σ (ol_rg l f t)).length → ∀ h', h' m 40 = (lim : Int) → md_fo m h h' → Q (some (.inl 0)) (sh, g, h')) :
    oe_M D 60 [.inr (.inl m), .inl (f : Int), .inl (t : Int), .inl (lim : Int)] (sh, g, h) Q := by
  obtain ⟨d, rfl⟩ : ∃ d, D = d + 2 := ⟨D - 2, by omega⟩
  have ac27 := md_41 hM
  have ac28 := md_42 hM
  refine g60 ⟨hM.1, m + 27, ac27.1, 16, ac27.2, by omega, by omega, fun h1 e1 => ⟨m + 28, ac28.1, 16, ac28.2, by omega, by omega, fun h2 e2 => ?_⟩⟩
  have F2 : md_fo m h h2 := ⟨fun c z1 z2 z3 z4 => by rw [e2, up_ne z4, e1, up_ne z3], fun j z => by rw [e2, up_ne (by omega), e1, up_ne (by omega)]⟩
  have w1 : (1 : Int) = ((0 : Nat) : Int) + 1 := rfl
  rw [w1]
  refine mx_run (by omega) hM hl ok R hV H lim hlim 12 (t - f) f t 0 out h2 rfl hft ht rfl (fun c hc u hu => by have := (H c u hu).2.2.1; omega) (C.kept (by rw [e2, up_ne (by omega), e1, up_ne (by omega)])) (by rw [e2, up_ne (by omega), e1, up_ne (by omega)]; exact no) hol (by rw [e2, up_ne (by omega), e1, up_eq]) (by rw [e2, up_eq]) F2 (fun h3 a1 a2 a3 a4 a5 a6 a7 => ?_) k0
  have vd : ((((0 : Nat) : Int) + 1) - 1).toNat = 0 := rfl
  refine g60_17 ⟨fun c1 => by omega, fun _ => ⟨hM.1, m + 27, ac27.1, by unfold oe_rg; omega, 16, ac27.2, by omega, by omega, m + 28, ac28.1, by unfold oe_rg; omega, 16, ac28.2, by omega, by omega, fun c1 => by rw [vd, a4, a5] at c1; omega, fun _ => ⟨by unfold oe_rg; omega, ?_⟩⟩⟩
  exact g60_17 ⟨fun _ => k1 a1 h3 a2 a3 a7, fun c => by omega⟩
theorem m_seen (hDD : 2 ≤ D) {m : Nat} {l : List Nat} {σ : Nat → Option oeT} {r : Nat → Nat} (hM : MdS sh g m) (hl : l.length ≤ 64) (ok : ol_ok l) (R : MR h (m + 22) l) (hV : UnV h (m + 23) l σ) (H : ua σ r) (p : Nat) (t : oeT) (ht : ot_wf t) (hp : ot_at l p t)
    (k : ∀ p' : Nat, ot_at l p' (ou_look σ 12 t) → Q (some (.inl (p' : Int))) (sh, g, h)) : oe_M D 58 [.inr (.inl m), .inl (p : Int)] (sh, g, h) Q := by
  obtain ⟨d, rfl⟩ : ∃ d, D = d + 2 := ⟨D - 2, by omega⟩
  have ac22 := md_34 hM
  have ac23 := md_35 hM
  have loop : ∀ (n p : Nat) (t' : oeT), n ≤ 12 → ot_wf t' → ot_at l p t' → (∀ u, σ (ot_hd t') = some u → r (ot_hd t') < n) → ou_look σ n t' = ou_look σ 12 t → oe_V (oe_cost 58) 58 (oe_M (d + 1)) none Q 2 [some (.inr (.inl m)), none, some (.inl (p : Int))] [] (sh, g, h) 0 0 := by
    intro n
    induction n with
    | zero =>
      intro p t' hn ht' hp' hr e
      have hpl := ot_at_lt ht' hp'
      cases t' with
      | leaf => exact ht'.elim
      | inner c a b t1 t2 =>
        have hc := ot_at_c hp'
        have c20 : c < 20 := by rw [← hc]; exact ol_ok_at ok hpl
        have ec : h (m + 22) ((p : Int)).toNat = om c := by rw [Int.toNat_natCast, R p hpl, hc]
        have K := k p (by rw [← e]; exact hp')
        refine g58_2 ⟨hM.1, m + 22, ac22.1, 64, ac22.2, by omega, by omega, ?_⟩
        rw [ec]
        refine ⟨fun c1 => ⟨m + 23, ac23.1, by omega, by omega, 12, ac23.2, ?_⟩, fun _ => K⟩
        have hx : c < 12 := (om_var c20).mp c1
        rw [om_v hx, Int.toNat_natCast]
        refine ⟨by omega, by omega, fun _ => K, fun c2 => ?_⟩
        rcases hV c hx with q | ⟨p2, u, q1, q2, q3, q4, q5⟩
        · rw [q.1] at c2; omega
        · have := hr u q3; omega
    | succ n ih =>
      intro p t' hn ht' hp' hr e
      have hpl := ot_at_lt ht' hp'
      cases t' with
      | leaf => exact ht'.elim
      | inner c a b t1 t2 =>
        have hc := ot_at_c hp'
        have c20 : c < 20 := by rw [← hc]; exact ol_ok_at ok hpl
        have ec : h (m + 22) ((p : Int)).toNat = om c := by rw [Int.toNat_natCast, R p hpl, hc]
        have e : ((σ c).map (fun u => ou_look σ n u)).getD (.inner c a b t1 t2) = ou_look σ 12 t := e
        have K : σ c = none → Q (some (.inl (p : Int))) (sh, g, h) := fun z => k p (by rw [z] at e; rw [← e]; exact hp')
        refine g58_2 ⟨hM.1, m + 22, ac22.1, 64, ac22.2, by omega, by omega, ?_⟩
        rw [ec]
        refine ⟨fun c1 => ⟨m + 23, ac23.1, by omega, by omega, 12, ac23.2, ?_⟩, fun c1 => K ?_⟩
        · have hx : c < 12 := (om_var c20).mp c1
          rw [om_v hx, Int.toNat_natCast]
          rcases hV c hx with q | ⟨p2, u, q1, q2, q3, q4, q5⟩
          · exact ⟨by omega, by omega, fun _ => K q.2, fun c2 => by rw [q.1] at c2; omega⟩
          · rw [q1]
            rw [q3] at e
            have rc := hr u q3
            refine ⟨by omega, by omega, fun c2 => by omega, fun _ => ⟨by omega, by omega, by omega, by omega, ih p2 u (by omega) q4 q5 (fun w hw => ?_) e⟩⟩
            have hm : ot_hd u ∈ ot_fl u := by
              cases u with
              | leaf => exact q4.elim
              | inner => exact List.mem_cons_self
            have := (H c u q3).2.2.2 _ hm w hw
            have rc : r c < n + 1 := rc
            omega
        · cases hs : σ c with
          | none => rfl
          | some u =>
            have := (H c u hs).1
            have := (om_var c20).mpr this
            omega
  exact g58 (loop 12 p t (Nat.le_refl _) ht hp (fun u hu => by have := (H _ u hu).2.2.1; omega) rfl)
end
