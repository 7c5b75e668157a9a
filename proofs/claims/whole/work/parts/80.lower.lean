/-! Contracts of the active equations (class): reducing. -/
def eq_ok (q : List Nat × List Nat) : Prop := (∃ s t, ot_wf s ∧ ot_wf t ∧ ot_fl s = q.1 ∧ ot_fl t = q.2) ∧ q.1.length + q.2.length ≤ 20 ∧ ol_ok q.1 ∧ ol_ok q.2 ∧ (∀ c ∈ q.1, c < 12 → c < 6) ∧ (∀ c ∈ q.2, c < 12 → c < 6)
def ol_bnd (p q : List Nat) : Prop := ∀ x ∈ q, x < 12 → x ∈ p
def AcC (h : Nat → Nat → Int) (A : Nat) (eqs : List (List Nat × List Nat)) : Prop := h A 1 = ((eqs.length : Nat) : Int) ∧ eqs.length ≤ 10 ∧ ∀ i, i < eqs.length → EqC h (A + 7 + 7 * i) (eqs.getD i ([], [])) ∧ EqE h (A + 7 + 7 * i) (eqs.getD i ([], [])) ∧ eq_ok (eqs.getD i ([], [])) ∧
  ((h (A + 2) (2 * i) = 1 ∧ ol_bnd (eqs.getD i ([], [])).1 (eqs.getD i ([], [])).2) ∨ (h (A + 2) (2 * i) = 0 ∧ ¬ ol_bnd (eqs.getD i ([], [])).1 (eqs.getD i ([], [])).2)) ∧
  ((h (A + 2) (2 * i + 1) = 1 ∧ ol_bnd (eqs.getD i ([], [])).2 (eqs.getD i ([], [])).1) ∨ (h (A + 2) (2 * i + 1) = 0 ∧ ¬ ol_bnd (eqs.getD i ([], [])).2 (eqs.getD i ([], [])).1))
theorem fs_none {α : Type} {f : Nat → Option α} : ∀ n, (∀ k, k < n → f k = none) → (List.range n).findSome? f = none
  | 0, _ => rfl
  | n + 1, h => by
    rw [List.range_succ, List.findSome?_append, fs_none n (fun k hk => h k (by omega))]
    simp [h n (by omega)]
theorem fs_some {α : Type} {f : Nat → Option α} {k : Nat} {x : α} : ∀ n, k < n → (∀ j, j < k → f j = none) → f k = some x → (List.range n).findSome? f = some x
  | 0, h, _, _ => by omega
  | n + 1, h, h1, h2 => by
    rw [List.range_succ, List.findSome?_append]
    by_cases e : k < n
    · rw [fs_some n e h1 h2]; rfl
    · have e2 : k = n := by omega
      subst e2
      rw [fs_none k h1]
      simp [h2]
theorem AcC.kept {h h' : Nat → Nat → Int} {A : Nat} {eqs : List (List Nat × List Nat)} (H : AcC h A eqs) (e0 : h' A = h A) (e1 : h' (A + 2) = h (A + 2)) (e2 : ∀ c, A + 7 ≤ c → c < A + 77 → h' c = h c) : AcC h' A eqs := by
  obtain ⟨h1, h2, h3⟩ := H
  refine ⟨by rw [e0]; exact h1, h2, fun i hi => ?_⟩
  obtain ⟨a1, a2, a3, a4, a5⟩ := h3 i hi
  rw [e1]
  exact ⟨⟨a1.1.kept (e2 _ (by omega) (by omega)) (e2 _ (by omega) (by omega)), a1.2.kept (e2 _ (by omega) (by omega)) (e2 _ (by omega) (by omega))⟩, ⟨a2.1.kept (e2 _ (by omega) (by omega)), a2.2.kept (e2 _ (by omega) (by omega))⟩, a3, a4, a5⟩
/-- what is put in is a term -/
theorem ol_inst_tree {l : List Nat} {t o : oeT} {b : Nat → Int} (ht : ot_wf t) (hl : ot_fl t = l) (ho : ot_wf o) (hb : bd_ok b l.length) (hall : ∀ c ∈ ot_fl o, c < 12 → b c ≠ -1) : ∃ v, ot_wf v ∧ ot_fl v = ol_inst l b (ot_fl o) := by
  have H : ∀ c : Nat, ∃ u : oeT, b c ≠ -1 → ot_wf u ∧ ot_at l (b c).toNat u := by
    intro c
    by_cases e : b c = -1
    · exact ⟨.leaf, fun q => absurd e q⟩
    · rcases hb c with q | q
      · exact absurd q e
      · obtain ⟨u, h1, h2⟩ := ot_every t l 0 ht ⟨[], by rw [hl]; simp⟩ (b c).toNat (Nat.zero_le _) (by rw [hl]; omega)
        exact ⟨u, fun _ => ⟨h1, h2⟩⟩
  obtain ⟨σ, hσ⟩ := Classical.skolem.mp H
  refine ⟨ot_sb σ o, ot_sb_wf o ho (fun x hx hox => (hσ x (hall x ((ot_oc_mem o).mp hox) hx)).1), ?_⟩
  rw [ot_sb_fl o ho, ol_inst]
  have key : ∀ (w : List Nat), (∀ c ∈ w, c < 12 → b c ≠ -1) → w.flatMap (fun c => if c < 12 then ot_fl (σ c) else [c]) = w.flatMap (fun c => if c < 12 then ol_sub l (b c).toNat else [c]) := by
    intro w
    induction w with
    | nil => intro _; rfl
    | cons c w ih =>
      intro hw
      rw [List.flatMap_cons, List.flatMap_cons, ih (fun x hx => hw x (List.mem_cons_of_mem _ hx))]
      by_cases e : c < 12
      · obtain ⟨h1, h2⟩ := hσ c (hw c List.mem_cons_self e)
        rw [if_pos e, if_pos e, ot_at_sub h1 h2]
      · rw [if_neg e, if_neg e]
  exact key _ hall
theorem ol_inst_ok {l : List Nat} {b : Nat → Int} {sd : List Nat} (hl : ol_ok l) (hs : ol_ok sd) : ol_ok (ol_inst l b sd) := by
  intro c hc
  unfold ol_inst at hc
  obtain ⟨x, hx, hc⟩ := List.mem_flatMap.mp hc
  split at hc
  · unfold ol_sub at hc
    exact hl c (List.mem_of_mem_drop (List.mem_of_mem_take hc))
  · rw [List.mem_singleton] at hc
    rw [hc]; exact hs x hx
/-- a term that may be reduced -/
def tm_ok (l : List Nat) : Prop := (∃ t, ot_wf t ∧ ot_fl t = l) ∧ l.length ≤ 30 ∧ ol_ok l
theorem tm_pos {l : List Nat} (h : tm_ok l) : 0 < l.length := by
  obtain ⟨⟨t, h1, h2⟩, _⟩ := h
  rw [← h2]; exact ot_fl_pos h1
theorem ol_try_ok {eqs : List (List Nat × List Nat)} {l l' : List Nat} {p k : Nat} (hl : tm_ok l) (hp : p < l.length) (he : ∀ i, i < eqs.length → eq_ok (eqs.getD i ([], []))) (hk : k < 2 * eqs.length) (h : ol_try eqs l p k = some l') : tm_ok l' := by
  obtain ⟨⟨t, ht, hf⟩, hlen, hok⟩ := hl
  obtain ⟨⟨s, o, hs, ho, hfs, hfo⟩, _, ok1, ok2, _, _⟩ := he (k / 2) (by omega)
  unfold ol_try at h
  split at h
  · cases h
  · rename_i b hb
    split at h
    · cases h
    · rename_i rep hr
      split at h
      · cases h
        have hbd := ol_mt_ok _ _ _ _ (fun v => Or.inl rfl) hb
        obtain ⟨e1, e2, e3⟩ := ol_fi_eq _ _ _ hr
        rw [List.nil_append] at e1
        have e2 := e2 (Nat.zero_le _)
        have en := ol_en_le (Nat.le_of_lt hp)
        have enl := ol_en_lt hp
        obtain ⟨w, hw1, hw2, hwok⟩ : ∃ w, ot_wf w ∧ ot_fl w = (ol_sides (eqs.getD (k / 2) ([], [])) k).2 ∧ ol_ok (ol_sides (eqs.getD (k / 2) ([], [])) k).2 := by
          unfold ol_sides
          split
          · exact ⟨o, ho, hfo, ok2⟩
          · exact ⟨s, hs, hfs, ok1⟩
        rw [← hw2] at e1 e3 hwok
        obtain ⟨v, hv, hvf⟩ := ol_inst_tree ht hf hw1 hbd e3
        rw [← e1] at hvf
        obtain ⟨u, hu, ru, hru⟩ := ot_every t l 0 ht ⟨[], by rw [hf]; simp⟩ p (Nat.zero_le _) (by rw [hf]; omega)
        have hen := ot_at_en hu ⟨ru, hru⟩
        obtain ⟨t', ht', hft'⟩ := ot_put t p u v [] ht hu hv (by rw [hf]; exact hp) (by
          rw [List.append_nil, hf, hru]
          congr 1
          rw [← List.drop_drop, hru, List.drop_left])
        refine ⟨⟨t', ht', ?_⟩, ?_, ?_⟩
        · rw [hft', hf, hvf, hen]
        · rw [List.length_append, List.length_append, List.length_take, List.length_drop]; omega
        · intro c hc
          rcases List.mem_append.mp hc with q | q
          · rcases List.mem_append.mp q with q | q
            · exact hok c (List.mem_of_mem_take q)
            · rw [e1] at q; exact ol_inst_ok hok hwok c q
          · exact hok c (List.mem_of_mem_drop q)
      · cases h
section
variable {D : Nat} {sh : List (Nat × Nat)} {g : Nat → Nat → Option Nat} {h : Nat → Nat → Int} {Q : oeQ}
theorem c_side (hDD : 2 ≤ D) {e cap : Nat} (hE : EqS sh g e cap) (w : Int) (k0 : w = 0 → Q (some (.inr (.inl (e + 1)))) (sh, g, h)) (k1 : w ≠ 0 → Q (some (.inr (.inl (e + 4)))) (sh, g, h)) : oe_M D 93 [.inr (.inl e), .inl w] (sh, g, h) Q := by
  obtain ⟨d, rfl⟩ : ∃ d, D = d + 2 := ⟨D - 2, by omega⟩
  exact g93 ⟨fun c => ⟨hE.1, e + 4, hE.2.2.1, k1 c⟩, fun c => ⟨hE.1, e + 1, hE.2.1, k0 c⟩⟩
set_option maxHeartbeats 1000000 in
theorem c_replaceAt (hDD : 64 ≤ D) {A a ca : Nat} {l : List Nat} {eqs : List (List Nat × List Nat)} (hA : AcS sh g A) (hT : LtS sh g a ca) (hca : 30 ≤ ca) (dT : a + 2 < A ∨ A + 76 < a) (hE : AcC h A eqs) (hC2 : LtC h a l) (hE2 : LtE h a l) (hl : tm_ok l) (p : Nat) (hp : p < l.length)
    (k1 : ∀ l' h', ol_place eqs l p = some l' → tm_ok l' → LtC h' a l' → LtE h' a l' → (∀ c, c ≠ a → c ≠ a + 1 → c ≠ a + 2 → c < A + 3 ∨ A + 6 < c → h' c = h c) → Q (some (.inl 1)) (sh, g, h'))
    (k0 : ol_place eqs l p = none → ∀ h', (∀ c, c < A + 3 ∨ A + 6 < c → h' c = h c) → Q (some (.inl 0)) (sh, g, h')) :
    oe_M D 89 [.inr (.inl A), .inr (.inl a), .inl (p : Int)] (sh, g, h) Q := by
  obtain ⟨d, rfl⟩ : ∃ d, D = d + 2 := ⟨D - 2, by omega⟩
  have hAA := hA
  obtain ⟨A0, A1, A2, A3, A4, A5, A6, A7, A8, A9⟩ := hA
  obtain ⟨n1, n2, n3⟩ := hE
  have hlx := hl
  obtain ⟨⟨t, ht, hf⟩, hlen, hok⟩ := hl
  have hcb := hT.2.2.2.2.2
  have en := ol_en_le (Nat.le_of_lt hp)
  have enl := ol_en_lt hp
  have he : ∀ i, i < eqs.length → eq_ok (eqs.getD i ([], [])) := fun i hi => (n3 i hi).2.2.1
  have loop : ∀ (n k : Nat) (h1 : Nat → Nat → Int), 2 * eqs.length - k = n → k ≤ 2 * eqs.length → (∀ j, j < k → ol_try eqs l p j = none) → (∀ c, c < A + 3 ∨ A + 6 < c → h1 c = h c) →
      oe_V (oe_cost 89) 89 (oe_M (d + 1)) none Q 20 [some (.inr (.inl A)), some (.inr (.inl a)), some (.inl (p : Int)), some (.inl ((30 + (ol_en l p - p) - l.length : Nat) : Int)), some (.inl (k : Int)), none] [] (sh, g, h1) 0 0 := by
    intro n
    induction n with
    | zero =>
      intro k h1 hn hk hj hF
      have w : h1 A 1 = ((eqs.length : Nat) : Int) := by rw [hF A (by omega), n1]
      refine g89_20 ⟨A0, by rw [w]; unfold oe_rg; omega, fun _ => k0 (fs_none _ (fun j hj' => hj j (by omega))) h1 hF, fun c => by rw [w] at c; omega⟩
    | succ n ih =>
      intro k h1 hn hk hj hF
      have w : h1 A 1 = ((eqs.length : Nat) : Int) := by rw [hF A (by omega), n1]
      have ki : k / 2 < eqs.length := by omega
      obtain ⟨qC, qE, qok, qb0, qb1⟩ := n3 (k / 2) ki
      obtain ⟨⟨s, o, hs, ho, hfs, hfo⟩, qlen, ok1, ok2, _, _⟩ := qok
      obtain ⟨g1, eS⟩ := A9 (k / 2) (by omega)
      have ix : ((k : Int) / 2).toNat = k / 2 := by omega
      have skip : ∀ h2 : Nat → Nat → Int, ol_try eqs l p k = none → (∀ c, c < A + 3 ∨ A + 6 < c → h2 c = h c) → oe_rg ((k : Int) + 1) ∧ oe_V (oe_cost 89) 89 (oe_M (d + 1)) none Q 20 [some (.inr (.inl A)), some (.inr (.inl a)), some (.inl (p : Int)), some (.inl ((30 + (ol_en l p - p) - l.length : Nat) : Int)), some (.inl ((k : Int) + 1)), none] [] (sh, g, h2) 0 0 := by
        intro h2 hnone hF2
        refine ⟨by unfold oe_rg; omega, ih (k + 1) h2 (by omega) (by omega) (fun j hj' => ?_) hF2⟩
        by_cases e : j = k
        · subst e; exact hnone
        · exact hj j (by omega)
      -- the side that is matched, and the other
      obtain ⟨sa, oa, sl, ol, hsides, S1, S2, C1, C2, len1, len2, ds, do_, hside, hother, bflag, otree⟩ : ∃ (sa oa : Nat) (sl ol : List Nat), ol_sides (eqs.getD (k / 2) ([], [])) k = (sl, ol) ∧ LtS sh g sa 20 ∧ LtS sh g oa 20 ∧ (∀ h2 : Nat → Nat → Int, (∀ c, c < A + 3 ∨ A + 6 < c → h2 c = h c) → LtC h2 sa sl) ∧ (∀ h2 : Nat → Nat → Int, (∀ c, c < A + 3 ∨ A + 6 < c → h2 c = h c) → LtC h2 oa ol) ∧ sl.length ≤ 20 ∧ ol.length ≤ 20 ∧ A + 6 < sa ∧ A + 6 < oa ∧
          (∀ (E : Nat) (h2 : Nat → Nat → Int) (P : oeQ), 2 ≤ E → P (some (.inr (.inl sa))) (sh, g, h2) → oe_M E 93 [.inr (.inl (A + 7 + 7 * (k / 2))), .inl ((k : Int) % 2)] (sh, g, h2) P) ∧ (∀ (E : Nat) (h2 : Nat → Nat → Int) (P : oeQ), 2 ≤ E → P (some (.inr (.inl oa))) (sh, g, h2) → oe_M E 93 [.inr (.inl (A + 7 + 7 * (k / 2))), .inl (1 - (k : Int) % 2)] (sh, g, h2) P) ∧
          ((h (A + 2) k = 1 ∧ ol_bnd sl ol) ∨ (h (A + 2) k = 0 ∧ ¬ ol_bnd sl ol)) ∧ ∃ w, ot_wf w ∧ ot_fl w = ol := by
        by_cases e : k % 2 = 0
        · refine ⟨A + 7 + 7 * (k / 2) + 1, A + 7 + 7 * (k / 2) + 4, _, _, by unfold ol_sides; rw [if_pos e], eS.2.2.2.1, eS.2.2.2.2, fun h2 hF2 => qC.1.kept (hF2 _ (by omega)) (hF2 _ (by omega)), fun h2 hF2 => qC.2.kept (hF2 _ (by omega)) (hF2 _ (by omega)), by omega, by omega, by omega, by omega, fun E h2 P hE hP => c_side hE eS _ (fun _ => hP) (fun c => by omega), fun E h2 P hE hP => c_side hE eS _ (fun c => by omega) (fun _ => hP), ?_, o, ho, hfo⟩
          rw [show k = 2 * (k / 2) by omega]
          rw [show 2 * (k / 2) / 2 = k / 2 by omega]
          exact qb0
        · refine ⟨A + 7 + 7 * (k / 2) + 4, A + 7 + 7 * (k / 2) + 1, _, _, by unfold ol_sides; rw [if_neg e], eS.2.2.2.2, eS.2.2.2.1, fun h2 hF2 => qC.2.kept (hF2 _ (by omega)) (hF2 _ (by omega)), fun h2 hF2 => qC.1.kept (hF2 _ (by omega)) (hF2 _ (by omega)), by omega, by omega, by omega, by omega, fun E h2 P hE hP => c_side hE eS _ (fun c => by omega) (fun _ => hP), fun E h2 P hE hP => c_side hE eS _ (fun _ => hP) (fun c => by omega), ?_, s, hs, hfs⟩
          rw [show k = 2 * (k / 2) + 1 by omega]
          rw [show (2 * (k / 2) + 1) / 2 = k / 2 by omega]
          exact qb1
      have bf : h1 (A + 2) ((k : Int)).toNat = h (A + 2) k := by rw [Int.toNat_natCast, hF (A + 2) (by omega)]
      refine g89_20 ⟨A0, by rw [w]; unfold oe_rg; omega, fun c => by rw [w] at c; omega, fun _ => ⟨A + 1, A1, by omega, 10, A2, by omega, by omega, A + 7 + 7 * (k / 2), by rw [ix]; exact g1, A + 2, A3, 20, A4, by omega, by omega, fun c1 => ?_, fun c1 => ⟨by omega, eS.1, ?_⟩⟩⟩
      · -- not all variables of the other side are bound
        rw [bf] at c1
        have nb : ¬ ol_bnd sl ol := by
          rcases bflag with q | q
          · omega
          · exact q.2
        refine skip h1 ?_ hF
        unfold ol_try
        rw [hsides]
        split
        · rfl
        · rename_i b hb
          have hbb := ol_mt_bound _ _ _ _ hb
          split
          · rfl
          · rename_i rep hr
            exfalso
            refine nb (fun x hx hx2 => ?_)
            rcases hbb.2.2 x ((ol_fi_eq _ _ _ hr).2.2 x hx hx2) with q | q
            · exact absurd rfl q
            · exact q
      · rw [bf] at c1
        have yb : ol_bnd sl ol := by
          rcases bflag with q | q
          · exact q.2
          · exact absurd q.1 c1
        refine hside (d + 1) h1 _ (by omega) ⟨_, rfl, rfl, ?_⟩
        have Ca : LtC h1 a l := hC2.kept (hF a (by omega)) (hF (a + 1) (by omega))
        have Ea : LtE h1 a l := hE2.kept (hF (a + 2) (by omega))
        refine c_matches (by omega) hAA S1 hT (by omega) (by omega) (C1 h1 hF) Ca Ea len1 (by omega) p (by omega) (fun b h2 hb hv hbd hF2 => ⟨1, h2, rfl, rfl, fun c => absurd c (by decide), fun _ => ⟨by omega, by unfold oe_rg; omega, ?_⟩⟩) (fun hb h2 hF2 => ⟨0, h2, rfl, rfl, fun _ => ?_, fun c => absurd rfl c⟩)
        · have hF2' : ∀ c, c < A + 3 ∨ A + 6 < c → h2 c = h c := fun c hc => by rw [hF2 c (by omega), hF c hc]
          refine hother (d + 1) h2 _ (by omega) ⟨_, rfl, rfl, ?_⟩
          have hall : ∀ c ∈ ol, c < 12 → b c ≠ -1 := fun c hc hc2 => (ol_mt_bound _ _ _ _ hb).2.1 c (yb c hc hc2) hc2
          have Ca2 : LtC h2 a l := hC2.kept (hF2' a (by omega)) (hF2' (a + 1) (by omega))
          have Ea2 : LtE h2 a l := hE2.kept (hF2' (a + 2) (by omega))
          refine c_fillR (by omega) hAA S2 hT (by omega) (by omega) (C2 h2 hF2') Ca2 Ea2 len2 (by omega) b hv hbd hall (30 + (ol_en l p - p) - l.length) (by omega) (fun rep h3 hr hC3 hE3 hF3 => ⟨1, h3, rfl, rfl, fun c => absurd c (by decide), fun _ => ⟨A + 4, A7, ?_⟩⟩) (fun hr h3 hF3 => ⟨0, h3, rfl, rfl, fun _ => ?_, fun c => absurd rfl c⟩)
          · have hF3' : ∀ c, c < A + 3 ∨ A + 6 < c → h3 c = h c := fun c hc => by rw [hF3 c (by omega) (by omega) (by omega), hF2' c hc]
            have Ca3 : LtC h3 a l := hC2.kept (hF3' a (by omega)) (hF3' (a + 1) (by omega))
            have Ea3 : LtE h3 a l := hE2.kept (hF3' (a + 2) (by omega))
            obtain ⟨e1, e2, e3⟩ := ol_fi_eq _ _ _ hr
            rw [List.nil_append] at e1
            have e2 := e2 (Nat.zero_le _)
            obtain ⟨wo, hwo, hfo'⟩ := otree
            rw [← hfo'] at e1 e3
            obtain ⟨v, hv1, hv2⟩ := ol_inst_tree ht hf hwo hbd e3
            rw [← e1] at hv2
            obtain ⟨u, hu, hau⟩ := ot_every t l 0 ht ⟨[], by rw [hf]; simp⟩ p (Nat.zero_le _) (by rw [hf]; omega)
            have hsub := ot_at_sub hu hau
            have hvz : ot_at rep 0 v := ⟨[], by rw [← hv2]; simp⟩
            have z1 : ot_sz u = ol_en l p - p := by rw [ot_sz_fl, ← hsub, ol_sub_len2]
            have z2 : ot_sz v = rep.length := by rw [ot_sz_fl, hv2]
            have gtiff : ol_gt (ol_sub l p) rep ↔ ot_gt u v := by
              constructor
              · rintro ⟨u', v', a1, a2, a3, a4, a5⟩
                rw [hsub] at a3
                have q1 : u' = u := ot_fl_inj u' u [] [] a1 hu (by rw [a3])
                have q2 : v' = v := ot_fl_inj v' v [] [] a2 hv1 (by rw [a4, hv2])
                rw [← q1, ← q2]; exact a5
              · intro q
                exact ⟨u, v, hu, hv1, hsub.symm, hv2, q⟩
            have tryeq : ol_try eqs l p k = @ite _ (ol_gt (ol_sub l p) rep) (Classical.propDecidable _) (some (l.take p ++ rep ++ l.drop (ol_en l p))) none := by
              unfold ol_try
              rw [hsides]
              dsimp only
              rw [hb]
              dsimp only
              rw [hr]
            refine c_gt hT A8 Ca3 Ea3 hC3 hE3 (by omega) (by omega) 60 u v p 0 0 (d + 1) _ (by omega) (by omega) (by omega) hu hv1 hau hvz (fun gq => ⟨1, rfl, rfl, fun c => absurd c (by decide), fun _ => ⟨hT.1, ?_⟩⟩) (fun gq => ⟨0, rfl, rfl, fun _ => ?_, fun c => absurd rfl c⟩)
            · rw [if_pos (gtiff.mpr gq)] at tryeq
              refine c_replace (by omega) hT A8 (by omega) Ca3 Ea3 hC3 (by omega) (by omega) p hp (by omega) (fun h4 hC4 hE4 hF4 => ⟨h4, rfl, rfl, ?_⟩)
              exact k1 _ h4 (fs_some _ (by omega) hj tryeq) (ol_try_ok hlx hp he (by omega) tryeq) hC4 hE4 (fun c b1 b2 b3 b4 => by rw [hF4 c b1 b2 b3, hF3' c b4])
            · rw [if_neg (fun q => gq (gtiff.mp q))] at tryeq
              exact skip h3 tryeq hF3'
          · have hF3' : ∀ c, c < A + 3 ∨ A + 6 < c → h3 c = h c := fun c hc => by rw [hF3 c (by omega) (by omega) (by omega), hF2' c hc]
            refine skip h3 ?_ hF3'
            unfold ol_try
            rw [hsides]
            dsimp only
            rw [hb]
            dsimp only
            rw [hr]
        · refine skip h2 ?_ (fun c hc => by rw [hF2 c (by omega), hF c hc])
          unfold ol_try
          rw [hsides]
          dsimp only
          rw [hb]
  have wl := hC2.1
  have ee : h (a + 2) ((p : Int)).toNat = ((ol_en l p : Nat) : Int) := by rw [Int.toNat_natCast, hE2 p hp]
  refine g89 ⟨hT.1, by rw [wl]; unfold oe_rg; omega, a + 2, hT.2.2.1, ca, hT.2.2.2.2.1, by omega, by omega, by rw [wl, ee]; unfold oe_rg; omega, by rw [wl, ee]; unfold oe_rg; omega, ?_⟩
  have L := loop _ 0 h rfl (Nat.zero_le _) (fun j hj => by omega) (fun c _ => rfl)
  rw [show ((30 + (ol_en l p - p) - l.length : Nat) : Int) = 30 - ((l.length : Nat) : Int) + ((ol_en l p : Nat) : Int) - (p : Int) by omega] at L
  rw [wl, ee]
  exact L
theorem c_lower (hDD : 65 ≤ D) {A a ca : Nat} {l : List Nat} {eqs : List (List Nat × List Nat)} (hA : AcS sh g A) (hT : LtS sh g a ca) (hca : 30 ≤ ca) (dT : a + 2 < A ∨ A + 76 < a) (hE : AcC h A eqs) (hC2 : LtC h a l) (hE2 : LtE h a l) (hl : tm_ok l)
    (k : ∀ h', tm_ok (ol_low eqs 50 l).1 → LtC h' a (ol_low eqs 50 l).1 → LtE h' a (ol_low eqs 50 l).1 → (∀ c, c ≠ a → c ≠ a + 1 → c ≠ a + 2 → c < A + 3 ∨ A + 6 < c → h' c = h c) → Q (some (.inl (((ol_low eqs 50 l).2 : Nat) : Int))) (sh, g, h')) :
    oe_M D 88 [.inr (.inl A), .inr (.inl a)] (sh, g, h) Q := by
  obtain ⟨d, rfl⟩ : ∃ d, D = d + 2 := ⟨D - 2, by omega⟩
  have outer : ∀ (n m : Nat) (w : List Nat) (h1 : Nat → Nat → Int), m + n = 50 → tm_ok w → LtC h1 a w → LtE h1 a w → (∀ c, c ≠ a → c ≠ a + 1 → c ≠ a + 2 → c < A + 3 ∨ A + 6 < c → h1 c = h c) → (ol_low eqs 50 l).1 = (ol_low eqs n w).1 → (ol_low eqs 50 l).2 = m + (ol_low eqs n w).2 →
      oe_V (oe_cost 88) 88 (oe_M (d + 1)) none Q 2 [some (.inr (.inl A)), some (.inr (.inl a)), some (.inl (m : Int)), none, none] [] (sh, g, h1) 0 0 := by
    intro n
    induction n with
    | zero =>
      intro m w h1 hm hw hC1 hE1 hF r1 r2
      have f1 : (ol_low eqs 50 l).1 = w := r1
      have f2 : (ol_low eqs 50 l).2 = 50 := by have : (ol_low eqs 50 l).2 = m + 0 := r2; omega
      refine g88_2 ⟨fun _ => ?_, fun c => by omega⟩
      have K := k h1 (by rw [f1]; exact hw) (by rw [f1]; exact hC1) (by rw [f1]; exact hE1) hF
      rw [f2] at K
      exact K
    | succ n ih =>
      intro m w h1 hm hw hC1 hE1 hF r1 r2
      have hAC : AcC h1 A eqs := hE.kept (hF A (by omega) (by omega) (by omega) (by omega)) (hF (A + 2) (by omega) (by omega) (by omega) (by omega)) (fun c b1 b2 => hF c (by omega) (by omega) (by omega) (by omega))
      have step : ol_low eqs (n + 1) w = (match ol_once eqs w with | none => (w, 0) | some l' => ((ol_low eqs n l').1, (ol_low eqs n l').2 + 1)) := rfl
      have inner : ∀ (q p : Nat) (h2 : Nat → Nat → Int), w.length - p = q → p ≤ w.length → (∀ j, j < p → ol_place eqs w j = none) → LtC h2 a w → LtE h2 a w → AcC h2 A eqs → (∀ c, c ≠ a → c ≠ a + 1 → c ≠ a + 2 → c < A + 3 ∨ A + 6 < c → h2 c = h c) →
          oe_V (oe_cost 88) 88 (oe_M (d + 1)) none Q 13 [some (.inr (.inl A)), some (.inr (.inl a)), some (.inl (m : Int)), some (.inl 0), some (.inl (p : Int))] [] (sh, g, h2) 0 0 := by
        intro q
        induction q with
        | zero =>
          intro p h2 hq hp hn hC3 hE3 hA3 hF3
          refine g88_13 ⟨hT.1, fun _ => ⟨fun c => absurd rfl c, fun _ => ?_⟩, fun c => by rw [hC3.1] at c; omega⟩
          have on : ol_once eqs w = none := fs_none _ (fun j hj => hn j (by omega))
          rw [step, on] at r1 r2
          have f1 : (ol_low eqs 50 l).1 = w := r1
          have f2 : (ol_low eqs 50 l).2 = m := r2
          have K := k h2 (by rw [f1]; exact hw) (by rw [f1]; exact hC3) (by rw [f1]; exact hE3) hF3
          rw [f2] at K
          exact K
        | succ q ihq =>
          intro p h2 hq hp hn hC3 hE3 hA3 hF3
          refine g88_13 ⟨hT.1, fun c => by rw [hC3.1] at c; omega, fun _ => ⟨fun c => absurd rfl c, fun _ => ⟨hA.1, ?_⟩⟩⟩
          refine c_replaceAt (by omega) hA hT hca dT hA3 hC3 hE3 hw p (by omega) (fun l' h3 he hok hC4 hE4 hF4 => ⟨1, h3, rfl, rfl, by unfold oe_rg; have := hw.2.1; omega, ?_⟩) (fun he h3 hF4 => ⟨0, h3, rfl, rfl, by unfold oe_rg; have := hw.2.1; omega, ?_⟩)
          · have on : ol_once eqs w = some l' := fs_some _ (by omega) hn he
            rw [step, on] at r1 r2
            have hF5 : ∀ c, c ≠ a → c ≠ a + 1 → c ≠ a + 2 → c < A + 3 ∨ A + 6 < c → h3 c = h c := fun c b1 b2 b3 b4 => by rw [hF4 c b1 b2 b3 b4, hF3 c b1 b2 b3 b4]
            have nx := ih (m + 1) l' h3 (by omega) hok hC4 hE4 hF5 r1 (by have r3 : (ol_low eqs 50 l).2 = m + ((ol_low eqs n l').2 + 1) := r2; omega)
            refine g88_13 ⟨hT.1, fun _ => ⟨fun _ => ⟨by unfold oe_rg; omega, nx⟩, fun c => absurd c (by decide)⟩, fun _ => ⟨fun _ => ⟨fun _ => ⟨by unfold oe_rg; omega, nx⟩, fun c => absurd c (by decide)⟩, fun c => absurd c (by decide)⟩⟩
          · refine ihq (p + 1) h3 (by omega) (by omega) (fun j hj => ?_) (hC3.kept (hF4 a (by omega)) (hF4 (a + 1) (by omega))) (hE3.kept (hF4 (a + 2) (by omega))) (hA3.kept (hF4 A (by omega)) (hF4 (A + 2) (by omega)) (fun c b1 b2 => hF4 c (by omega))) (fun c b1 b2 b3 b4 => by rw [hF4 c b4, hF3 c b1 b2 b3 b4])
            by_cases e : j = p
            · subst e; exact he
            · exact hn j (by omega)
      refine g88_2 ⟨fun c => by omega, fun _ => ?_⟩
      exact inner _ 0 h1 rfl (Nat.zero_le _) (fun j hj => by omega) hC1 hE1 hAC hF
  exact g88 (outer 50 0 l h rfl hl hC2 hE2 (fun c _ _ _ _ => rfl) rfl (by omega))
end
