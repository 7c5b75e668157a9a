/-! Contracts of equations (class), and of the waiting ones. -/
theorem ol_tm_ok {l : List Nat} (h : tm_ok l) : ol_tm l := h.1
theorem EqC.kept {h h' : Nat → Nat → Int} {e : Nat} {q : List Nat × List Nat} (H : EqC h e q) (k : ∀ c, e + 1 ≤ c → c ≤ e + 6 → h' c = h c) : EqC h' e q :=
  ⟨H.1.kept (k _ (by omega) (by omega)) (k _ (by omega) (by omega)), H.2.kept (k _ (by omega) (by omega)) (k _ (by omega) (by omega))⟩
theorem EqE.kept {h h' : Nat → Nat → Int} {e : Nat} {q : List Nat × List Nat} (H : EqE h e q) (k : ∀ c, e + 1 ≤ c → c ≤ e + 6 → h' c = h c) : EqE h' e q :=
  ⟨H.1.kept (k _ (by omega) (by omega)), H.2.kept (k _ (by omega) (by omega))⟩
theorem LtS.kg {sh : List (Nat × Nat)} {g g' : Nat → Nat → Option Nat} {a cap : Nat} (H : LtS sh g a cap) (e : g' a = g a) : LtS sh g' a cap := by
  unfold LtS at *
  rw [e]; exact H
theorem EqS.kg {sh : List (Nat × Nat)} {g g' : Nat → Nat → Option Nat} {a cap : Nat} (H : EqS sh g a cap) (e : ∀ c, a ≤ c → c ≤ a + 6 → g' c = g c) : EqS sh g' a cap := by
  obtain ⟨h1, h2, h3, h4, h5⟩ := H
  have e0 := e a (by omega) (by omega)
  exact ⟨h1, by rw [e0]; exact h2, by rw [e0]; exact h3, h4.kg (e _ (by omega) (by omega)), h5.kg (e _ (by omega) (by omega))⟩
section
variable {D : Nat} {sh : List (Nat × Nat)} {g : Nat → Nat → Option Nat} {h : Nat → Nat → Int} {Q : oeQ}
theorem c_weight (hDD : 2 ≤ D) {e cap : Nat} {q : List Nat × List Nat} (hS : EqS sh g e cap) (hC : EqC h e q) (h1 : q.1.length ≤ 300) (h2 : q.2.length ≤ 300) (k : Q (some (.inl ((q.1.length + q.2.length : Nat) : Int))) (sh, g, h)) : oe_M D 94 [.inr (.inl e)] (sh, g, h) Q := by
  obtain ⟨d, rfl⟩ : ∃ d, D = d + 2 := ⟨D - 2, by omega⟩
  have w1 := hC.1.1
  have w2 := hC.2.1
  refine g94 ⟨hS.1, e + 1, hS.2.1, hS.2.2.2.1.1, e + 4, hS.2.2.1, hS.2.2.2.2.1, by rw [w1, w2]; unfold oe_rg; omega, ?_⟩
  rw [w1, w2]
  have e1 : ((q.1.length : Nat) : Int) + ((q.2.length : Nat) : Int) = ((q.1.length + q.2.length : Nat) : Int) := by omega
  rw [e1]; exact k
theorem c_ebecome (hDD : 3 ≤ D) {e cap a b ca cb : Nat} {r1 r2 : List Nat} (hS : EqS sh g e cap) (hA : LtS sh g a ca) (hB : LtS sh g b cb) (da : a + 3 ≤ e + 1 ∨ e + 7 ≤ a) (db : b + 3 ≤ e + 1 ∨ e + 7 ≤ b) (C1 : LtC h a r1) (E1 : LtE h a r1) (C2 : LtC h b r2) (E2 : LtE h b r2) (l1 : r1.length ≤ cap) (l2 : r2.length ≤ cap) (l3 : r1.length ≤ ca) (l4 : r2.length ≤ cb)
    (k : ∀ h', EqC h' e (r1, r2) → EqE h' e (r1, r2) → (∀ c, c < e + 1 ∨ e + 6 < c → h' c = h c) → Q none (sh, g, h')) : oe_M D 95 [.inr (.inl e), .inr (.inl a), .inr (.inl b)] (sh, g, h) Q := by
  obtain ⟨d, rfl⟩ : ∃ d, D = d + 2 := ⟨D - 2, by omega⟩
  refine g95 ⟨hS.1, e + 1, hS.2.1, hS.2.2.2.1.1, ?_⟩
  refine c_become (by omega) hS.2.2.2.1 hA (by omega) C1 E1 l1 l3 (fun h1 c1 e1 f1 => ⟨h1, rfl, rfl, e + 4, hS.2.2.1, hS.2.2.2.2.1, ?_⟩)
  refine c_become (by omega) hS.2.2.2.2 hB (by omega) (C2.kept (f1 _ (by omega) (by omega) (by omega)) (f1 _ (by omega) (by omega) (by omega))) (E2.kept (f1 _ (by omega) (by omega) (by omega))) l2 l4 (fun h2 c2 e2 f2 => ⟨h2, rfl, rfl, ?_⟩)
  refine k h2 ⟨c1.kept (f2 _ (by omega) (by omega) (by omega)) (f2 _ (by omega) (by omega) (by omega)), c2⟩ ⟨e1.kept (f2 _ (by omega) (by omega) (by omega)), e2⟩ (fun c hc => by rw [f2 c (by omega) (by omega) (by omega), f1 c (by omega) (by omega) (by omega)])
theorem c_sides (hDD : 3 ≤ D) {e cap : Nat} {q : List Nat × List Nat} (hS : EqS sh g e cap) (hC : EqC h e q) (hE : EqE h e q) (t1 : ol_tm q.1) (t2 : ol_tm q.2) (h1 : q.1.length ≤ cap) (h2 : q.2.length ≤ cap) (k1 : q.1 = q.2 → Q (some (.inl 1)) (sh, g, h)) (k0 : q.1 ≠ q.2 → Q (some (.inl 0)) (sh, g, h)) : oe_M D 96 [.inr (.inl e)] (sh, g, h) Q := by
  obtain ⟨d, rfl⟩ : ∃ d, D = d + 2 := ⟨D - 2, by omega⟩
  refine g96 ⟨hS.1, e + 1, hS.2.1, e + 4, hS.2.2.1, ?_⟩
  exact c_isSame (by omega) hS.2.2.2.1 hS.2.2.2.2 hC.1 hE.1 hC.2 hE.2 h1 h2 0 0 (ol_tm_pos t1) (ol_tm_pos t2)
    (fun q => ⟨1, rfl, rfl, Or.inr rfl, k1 (by rw [ol_tm_sub t1, ol_tm_sub t2] at q; exact q)⟩)
    (fun q => ⟨0, rfl, rfl, Or.inl rfl, k0 (fun q2 => q (by rw [ol_tm_sub t1, ol_tm_sub t2]; exact q2))⟩)
theorem c_isSameAs (hDD : 3 ≤ D) {e cap e' cap' : Nat} {q q' : List Nat × List Nat} (hS : EqS sh g e cap) (hC : EqC h e q) (hE : EqE h e q) (t1 : ol_tm q.1) (t2 : ol_tm q.2) (h1 : q.1.length ≤ cap) (h2 : q.2.length ≤ cap)
    (hS' : EqS sh g e' cap') (hC' : EqC h e' q') (hE' : EqE h e' q') (t1' : ol_tm q'.1) (t2' : ol_tm q'.2) (h1' : q'.1.length ≤ cap') (h2' : q'.2.length ≤ cap') (k1 : q = q' → Q (some (.inl 1)) (sh, g, h)) (k0 : q ≠ q' → Q (some (.inl 0)) (sh, g, h)) : oe_M D 97 [.inr (.inl e), .inr (.inl e')] (sh, g, h) Q := by
  obtain ⟨d, rfl⟩ : ∃ d, D = d + 2 := ⟨D - 2, by omega⟩
  refine g97 ⟨hS.1, e + 1, hS.2.1, hS'.1, e' + 1, hS'.2.1, ?_⟩
  refine c_isSame (by omega) hS.2.2.2.1 hS'.2.2.2.1 hC.1 hE.1 hC'.1 hE'.1 h1 h1' 0 0 (ol_tm_pos t1) (ol_tm_pos t1') (fun q1 => ⟨1, rfl, rfl, fun c => absurd c (by decide), fun _ => ⟨e + 4, hS.2.2.1, e' + 4, hS'.2.2.1, ?_⟩⟩) (fun q1 => ⟨0, rfl, rfl, fun _ => k0 (fun q2 => q1 (by rw [q2])), fun c => absurd rfl c⟩)
  refine c_isSame (by omega) hS.2.2.2.2 hS'.2.2.2.2 hC.2 hE.2 hC'.2 hE'.2 h2 h2' 0 0 (ol_tm_pos t2) (ol_tm_pos t2') (fun q2 => ⟨1, rfl, rfl, fun c => absurd c (by decide), fun _ => k1 ?_⟩) (fun q1 => ⟨0, rfl, rfl, fun _ => k0 (fun q2 => q1 (by rw [q2])), fun c => absurd rfl c⟩)
  rw [ol_tm_sub t1, ol_tm_sub t1'] at q1
  rw [ol_tm_sub t2, ol_tm_sub t2'] at q2
  exact Prod.ext q1 q2
theorem c_name (hDD : 3 ≤ D) {e cap m : Nat} {q : List Nat × List Nat} (hS : EqS sh g e cap) (hm : sh[m]? = some (0, 12)) (dm : m < e ∨ e + 6 < m) (hC : EqC h e q) (hE : EqE h e q) (h1 : q.1.length ≤ cap) (h2 : q.2.length ≤ cap)
    (k : ∀ h', EqC h' e (ol_nm q).1 → EqE h' e (ol_nm q).1 → (∀ c, c ≠ m → c < e + 1 ∨ e + 6 < c → h' c = h c) → Q (some (.inl (((ol_nm q).2 : Nat) : Int))) (sh, g, h')) : oe_M D 98 [.inr (.inl e), .inr (.inl m)] (sh, g, h) Q := by
  obtain ⟨d, rfl⟩ : ∃ d, D = d + 2 := ⟨D - 2, by omega⟩
  obtain ⟨n1, n2, n3, n4, n5, n6, n7⟩ := ol_nm_ok q
  obtain ⟨a1, _, _⟩ := ol_ren_ok q.1 _ 0 rn_ok_start
  have a12 := rn_ok_12 a1
  refine g98 ?_
  refine c_fill (by omega) hm (by omega) (-1) (fun hh1 v1 f1 => ⟨hh1, rfl, rfl, hS.1, e + 4, hS.2.2.1, e + 1, hS.2.1, hS.2.2.2.1.1, ?_⟩)
  have C1 : EqC hh1 e q := hC.kept (fun c b1 b2 => f1 c (by omega))
  have nmo : nm_ok (fun _ => -1) := fun v => Or.inl rfl
  refine c_rename (by omega) (u := 0) hS.2.2.2.1 hm (by omega) C1.1 h1 (fun _ => -1) nmo (fun v hv => v1 v hv) (by omega) (fun hh2 c2 v2 o2 f2 => ⟨_, hh2, rfl, rfl, hS.2.2.2.2.1, ?_⟩)
  refine c_rename (by omega) hS.2.2.2.2 hm (by omega) (C1.2.kept (f2 _ (by omega) (by omega)) (f2 _ (by omega) (by omega))) h2 _ o2 v2 _ (by omega) (fun hh3 c3 v3 o3 f3 => ⟨_, hh3, rfl, rfl, ?_⟩)
  refine k hh3 ⟨c2.kept (f3 _ (by omega) (by omega)) (f3 _ (by omega) (by omega)), c3⟩ ⟨fun i hi => ?_, fun i hi => ?_⟩ (fun c b1 b2 => by rw [f3 c b1 (by omega), f2 c b1 (by omega), f1 c b1])
  · rw [n4] at hi
    rw [ol_en_map n2, f3 _ (by omega) (by omega), f2 _ (by omega) (by omega), f1 _ (by omega)]
    exact hE.1 i hi
  · rw [n5] at hi
    rw [ol_en_map n3, f3 _ (by omega) (by omega), f2 _ (by omega) (by omega), f1 _ (by omega)]
    exact hE.2 i hi
end
def WtS (sh : List (Nat × Nat)) (g : Nat → Nat → Option Nat) (W : Nat) (π : Nat → Nat) : Prop := sh[W]? = some (11, 2) ∧ g W 0 = some (W + 1) ∧ sh[W + 1]? = some (4, 30) ∧ (∀ i, i < 30 → EqS sh g (W + 2 + 7 * i) 20) ∧ (∀ i, i < 30 → π i < 30 ∧ g (W + 1) i = some (W + 2 + 7 * π i)) ∧ ∀ i j, i < 30 → j < 30 → π i = π j → i = j
def WtC (h : Nat → Nat → Int) (W : Nat) (π : Nat → Nat) (ws : List (List Nat × List Nat)) : Prop := h W 1 = ((ws.length : Nat) : Int) ∧ ws.length ≤ 30 ∧ ∀ i, i < ws.length → EqC h (W + 2 + 7 * π i) (ws.getD i ([], [])) ∧ EqE h (W + 2 + 7 * π i) (ws.getD i ([], [])) ∧ eq_ok (ws.getD i ([], []))
def ol_w (q : List Nat × List Nat) : Nat := q.1.length + q.2.length
/-- i is the first of the lightest -/
def ol_light (ws : List (List Nat × List Nat)) (i : Nat) : Prop := i < ws.length ∧ (∀ j, j < ws.length → ol_w (ws.getD i ([], [])) ≤ ol_w (ws.getD j ([], []))) ∧ ∀ j, j < i → ol_w (ws.getD i ([], [])) < ol_w (ws.getD j ([], []))
theorem ol_light_uniq {ws : List (List Nat × List Nat)} {i j : Nat} (hi : ol_light ws i) (hj : ol_light ws j) : i = j := by
  have h1 := hi.2.1 j hj.1
  have h2 := hj.2.1 i hi.1
  by_cases a : i < j
  · have := hj.2.2 i a; omega
  · by_cases b : j < i
    · have := hi.2.2 j b; omega
    · omega
theorem WtC.kept {h h' : Nat → Nat → Int} {W : Nat} {π : Nat → Nat} {ws : List (List Nat × List Nat)} (hp : ∀ i, i < 30 → π i < 30) (H : WtC h W π ws) (e0 : h' W = h W) (e : ∀ c, W + 2 ≤ c → c < W + 212 → h' c = h c) : WtC h' W π ws := by
  obtain ⟨h1, h2, h3⟩ := H
  refine ⟨by rw [e0]; exact h1, h2, fun i hi => ?_⟩
  have := hp i (by omega)
  obtain ⟨a, b, c⟩ := h3 i hi
  exact ⟨a.kept (fun c b1 b2 => e c (by omega) (by omega)), b.kept (fun c b1 b2 => e c (by omega) (by omega)), c⟩
theorem og_app {α : Type} {x : α} {l : List α} {y : α} {i : Nat} : (l ++ [y]).getD i x = if i < l.length then l.getD i x else if i = l.length then y else x := by
  simp only [List.getD_eq_getElem?_getD]
  by_cases h : i < l.length
  · rw [if_pos h, List.getElem?_append_left h]
  · rw [if_neg h, List.getElem?_append_right (by omega)]
    by_cases e : i = l.length
    · rw [if_pos e, e, Nat.sub_self]; rfl
    · rw [if_neg e, List.getElem?_eq_none (by simp; omega)]; rfl
theorem og_erase {α : Type} {x : α} {l : List α} {i j : Nat} : (l.eraseIdx i).getD j x = if j < i then l.getD j x else l.getD (j + 1) x := by
  simp only [List.getD_eq_getElem?_getD]
  rw [List.getElem?_eraseIdx]
  split <;> rfl
section
variable {D : Nat} {sh : List (Nat × Nat)} {g : Nat → Nat → Option Nat} {h : Nat → Nat → Int} {Q : oeQ}
theorem c_wFull (hDD : 2 ≤ D) {W : Nat} {π : Nat → Nat} {ws : List (List Nat × List Nat)} (hS : WtS sh g W π) (hC : WtC h W π ws) (k0 : ws.length < 30 → Q (some (.inl 0)) (sh, g, h)) (k1 : ws.length = 30 → Q (some (.inl 1)) (sh, g, h)) : oe_M D 126 [.inr (.inl W)] (sh, g, h) Q := by
  obtain ⟨d, rfl⟩ : ∃ d, D = d + 2 := ⟨D - 2, by omega⟩
  have w := hC.1
  have w2 := hC.2.1
  exact g126 ⟨hS.1, W + 1, hS.2.1, 30, hS.2.2.1, fun c => k0 (by rw [w] at c; omega), fun c => k1 (by rw [w] at c; omega)⟩
theorem c_wAppend (hDD : 5 ≤ D) {W e cap : Nat} {π : Nat → Nat} {ws : List (List Nat × List Nat)} {q : List Nat × List Nat} (hS : WtS sh g W π) (hC : WtC h W π ws) (hE : EqS sh g e cap) (de : e + 7 ≤ W ∨ W + 212 ≤ e) (hq : EqC h e q) (hq2 : EqE h e q) (ok : eq_ok q) (hcap : 20 ≤ cap) (hlen : ws.length < 30)
    (k : ∀ h', WtC h' W π (ws ++ [q]) → (∀ c, c ≠ W → c < W + 2 ∨ W + 212 ≤ c → h' c = h c) → Q none (sh, g, h')) : oe_M D 127 [.inr (.inl W), .inr (.inl e)] (sh, g, h) Q := by
  obtain ⟨d, rfl⟩ : ∃ d, D = d + 2 := ⟨D - 2, by omega⟩
  obtain ⟨s0, s1, s2, s3, s4, s5⟩ := hS
  obtain ⟨pn, gn⟩ := s4 ws.length hlen
  have es := s3 (π ws.length) pn
  have w := hC.1
  have l20 := ok.2.1
  refine g127 ⟨s0, c_wFull (by omega) ⟨s0, s1, s2, s3, s4, s5⟩ hC (fun _ => ⟨0, rfl, rfl, fun c => absurd rfl c, fun _ => ⟨W + 1, s1, 30, s2, by rw [w]; omega, by rw [w]; omega, W + 2 + 7 * π ws.length, by rw [w, Int.toNat_natCast]; exact gn, hE.1, e + 1, hE.2.1, e + 4, hE.2.2.1, es.1, ?_⟩⟩) (fun c => by omega)⟩
  refine c_ebecome (by omega) es hE.2.2.2.1 hE.2.2.2.2 (by omega) (by omega) hq.1 hq2.1 hq.2 hq2.2 (by omega) (by omega) (by omega) (by omega) (fun h1 c1 e1 f1 => ?_)
  have w1 : h1 W 1 = ((ws.length : Nat) : Int) := by rw [f1 W (by omega), w]
  refine ⟨h1, rfl, rfl, by rw [w1]; unfold oe_rg; omega, fun h2 e2 => k h2 ⟨?_, by simp; omega, fun i hi => ?_⟩ (fun c b1 b2 => by rw [e2, up_ne b1, f1 c (by omega)])⟩
  · rw [e2, up_eq, w1, List.length_append]; simp
  · rw [List.length_append] at hi
    have hi : i < ws.length + 1 := hi
    rw [og_app]
    by_cases ei : i < ws.length
    · rw [if_pos ei]
      obtain ⟨a, b, c⟩ := hC.2.2 i ei
      have pi := (s4 i (by omega)).1
      have pne : π i ≠ π ws.length := fun z => by have := s5 i ws.length (by omega) hlen z; omega
      exact ⟨a.kept (fun c b1 b2 => by rw [e2, up_ne (by omega), f1 c (by omega)]), b.kept (fun c b1 b2 => by rw [e2, up_ne (by omega), f1 c (by omega)]), c⟩
    · have : i = ws.length := by omega
      subst this
      rw [if_neg (by omega), if_pos rfl]
      exact ⟨c1.kept (fun c b1 b2 => by rw [e2, up_ne (by omega)]), e1.kept (fun c b1 b2 => by rw [e2, up_ne (by omega)]), ok⟩
set_option maxHeartbeats 1000000 in
theorem c_lightest (hDD : 4 ≤ D) {W e cap : Nat} {π : Nat → Nat} {ws : List (List Nat × List Nat)} (hS : WtS sh g W π) (hC : WtC h W π ws) (hE : EqS sh g e cap) (de : e + 7 ≤ W ∨ W + 212 ≤ e) (hcap : 20 ≤ cap) (hpos : 0 < ws.length)
    (k : ∀ i0 π' g' h', ol_light ws i0 → (∀ c, c ≠ W + 1 → g' c = g c) → WtS sh g' W π' → WtC h' W π' (ws.eraseIdx i0) → EqC h' e (ws.getD i0 ([], [])) → EqE h' e (ws.getD i0 ([], [])) → (∀ c, c ≠ W → c < e + 1 ∨ e + 6 < c → h' c = h c) → Q none (sh, g', h')) :
    oe_M D 128 [.inr (.inl W), .inr (.inl e)] (sh, g, h) Q := by
  obtain ⟨d, rfl⟩ : ∃ d, D = d + 2 := ⟨D - 2, by omega⟩
  obtain ⟨s0, s1, s2, s3, s4, s5⟩ := hS
  obtain ⟨w, w30, wc⟩ := hC
  have wt : ∀ i, i < ws.length → (ws.getD i ([], [])).1.length + (ws.getD i ([], [])).2.length ≤ 20 := fun i hi => (wc i hi).2.2.2.1
  have loop : ∀ (n i b : Nat), ws.length - i = n → i ≤ ws.length → b < i → (∀ j, j < i → ol_w (ws.getD b ([], [])) ≤ ol_w (ws.getD j ([], []))) → (∀ j, j < b → ol_w (ws.getD b ([], [])) < ol_w (ws.getD j ([], []))) →
      oe_V (oe_cost 128) 128 (oe_M (d + 1)) none Q 12 [some (.inr (.inl W)), some (.inr (.inl e)), some (.inl (b : Int)), some (.inl (i : Int)), none] [] (sh, g, h) 0 0 := by
    intro n
    induction n with
    | zero =>
      intro i b hn hi hb h1 h2
      have hL : ol_light ws b := ⟨by omega, fun j hj => h1 j (by omega), h2⟩
      obtain ⟨pb, gb⟩ := s4 b (by omega)
      have es := s3 (π b) pb
      obtain ⟨bC, bE, bok⟩ := wc b (by omega)
      have bw := wt b (by omega)
      refine g128_12 ⟨s0, fun _ => ⟨W + 1, s1, 30, s2, by omega, by omega, W + 2 + 7 * π b, by rw [Int.toNat_natCast]; exact gb, es.1, W + 2 + 7 * π b + 1, es.2.1, W + 2 + 7 * π b + 4, es.2.2.1, hE.1, ?_⟩, fun c => by rw [w] at c; omega⟩
      refine c_ebecome (by omega) hE es.2.2.2.1 es.2.2.2.2 (by omega) (by omega) bC.1 bE.1 bC.2 bE.2 (by omega) (by omega) (by omega) (by omega) (fun hh1 c1 e1 f1 => ?_)
      have w1 : hh1 W 1 = ((ws.length : Nat) : Int) := by rw [f1 W (by omega), w]
      refine ⟨hh1, rfl, rfl, by rw [w1]; unfold oe_rg; omega, fun hh2 e2 => ?_⟩
      have w2 : hh2 W 1 = ((ws.length - 1 : Nat) : Int) := by rw [e2, up_eq, w1]; omega
      have F2 : ∀ c, c ≠ W → c < e + 1 ∨ e + 6 < c → hh2 c = h c := fun c b1 b2 => by rw [e2, up_ne b1, f1 c b2]
      have shift : ∀ (m k' : Nat) (g1 : Nat → Nat → Option Nat), ws.length - 1 - k' = m → b ≤ k' → k' ≤ ws.length - 1 → (∀ c, c ≠ W + 1 → g1 c = g c) → (∀ j, j < 30 → g1 (W + 1) j = some (W + 2 + 7 * π (if j < b then j else if j < k' then j + 1 else j))) →
          oe_V (oe_cost 128) 128 (oe_M (d + 1)) none Q 81 [some (.inr (.inl W)), none, none, some (.inr (.inl (W + 2 + 7 * π b))), some (.inl (k' : Int))] [] (sh, g1, hh2) 0 0 := by
        intro m
        induction m with
        | zero =>
          intro k' g1 hm hk1 hk2 hg1 hg2
          have kk : k' = ws.length - 1 := by omega
          have g10 : g1 W = g W := hg1 W (by omega)
          refine g128_81 ⟨s0, fun _ => ⟨W + 1, by rw [g10]; exact s1, es.1, 30, s2, by rw [w2]; omega, by rw [w2]; omega, fun g2 eg2 => ?_⟩, fun c => by rw [w2] at c; omega⟩
          rw [w2, Int.toNat_natCast] at eg2
          have G2 : ∀ c, c ≠ W + 1 → g2 c = g c := fun c hc => by rw [eg2, up_ne hc, hg1 c hc]
          refine k b (fun j => π (if j < b then j else if j < ws.length - 1 then j + 1 else if j = ws.length - 1 then b else j)) g2 hh2 hL G2 ⟨s0, by rw [G2 W (by omega)]; exact s1, s2, fun i hi => (s3 i hi).kg (fun c b1 b2 => G2 c (by omega)), fun j hj => ⟨(s4 _ ?_).1, ?_⟩, fun i j hi hj hij => ?_⟩ ⟨?_, ?_, fun j hj => ?_⟩ ⟨c1.1.kept ?_ ?_, c1.2.kept ?_ ?_⟩ ⟨e1.1.kept ?_, e1.2.kept ?_⟩ F2
          · split
            · omega
            · split
              · omega
              · split <;> omega
          · rw [eg2]
            by_cases ej : j = ws.length - 1
            · rw [ej, up_eq]
              try dsimp only
              rw [if_neg (show ¬ ws.length - 1 < b by omega), if_neg (show ¬ ws.length - 1 < ws.length - 1 by omega), if_pos rfl]
            · rw [up_col ej, hg2 j hj, kk]
              try dsimp only
              rw [if_neg ej]
          · have z := s5 _ _ ?_ ?_ hij
            · revert z
              split
              · split
                · intro z; exact z
                · split
                  · intro z; omega
                  · split <;> (intro z; omega)
              · split
                · split
                  · intro z; omega
                  · split
                    · intro z; omega
                    · split <;> (intro z; omega)
                · split
                  · split
                    · intro z; omega
                    · split
                      · intro z; omega
                      · split <;> (intro z; omega)
                  · split
                    · intro z; omega
                    · split
                      · intro z; omega
                      · split <;> (intro z; omega)
            · split
              · omega
              · split
                · omega
                · split <;> omega
            · split
              · omega
              · split
                · omega
                · split <;> omega
          · rw [w2, List.length_eraseIdx, if_pos (by omega)]
          · rw [List.length_eraseIdx, if_pos (by omega)]; omega
          · rw [List.length_eraseIdx, if_pos (by omega)] at hj
            rw [og_erase]
            by_cases ej : j < b
            · simp only [if_pos ej]
              obtain ⟨x1, x2, x3⟩ := wc j (by omega)
              have pj := (s4 j (by omega)).1
              exact ⟨x1.kept (fun c b1 b2 => F2 c (by omega) (by omega)), x2.kept (fun c b1 b2 => F2 c (by omega) (by omega)), x3⟩
            · simp only [if_neg ej, if_pos hj]
              obtain ⟨x1, x2, x3⟩ := wc (j + 1) (by omega)
              have pj := (s4 (j + 1) (by omega)).1
              exact ⟨x1.kept (fun c b1 b2 => F2 c (by omega) (by omega)), x2.kept (fun c b1 b2 => F2 c (by omega) (by omega)), x3⟩
          all_goals rw [e2, up_ne (by omega)]
        | succ m ihm =>
          intro k' g1 hm hk1 hk2 hg1 hg2
          have g10 : g1 W = g W := hg1 W (by omega)
          obtain ⟨pk, gk⟩ := s4 (k' + 1) (by omega)
          have gk2 := hg2 (k' + 1) (by omega)
          rw [if_neg (by omega), if_neg (by omega)] at gk2
          have tk : ((k' : Int) + 1).toNat = k' + 1 := by omega
          refine g128_81 ⟨s0, fun c => by rw [w2] at c; omega, fun _ => ⟨W + 1, by rw [g10]; exact s1, by unfold oe_rg; omega, 30, s2, by omega, by omega, W + 2 + 7 * π (k' + 1), by rw [tk]; exact gk2, (s3 _ pk).1, by omega, by omega, fun g2 eg2 => ⟨by unfold oe_rg; omega, ?_⟩⟩⟩
          rw [Int.toNat_natCast] at eg2
          refine ihm (k' + 1) g2 (by omega) (by omega) (by omega) (fun c hc => by rw [eg2, up_ne hc, hg1 c hc]) (fun j hj => ?_)
          rw [eg2]
          by_cases ej : j = k'
          · rw [ej, up_eq, if_neg (by omega), if_pos (by omega)]
          · rw [up_col ej, hg2 j hj]
            by_cases q1 : j < b
            · rw [if_pos q1, if_pos q1]
            · rw [if_neg q1, if_neg q1]
              by_cases q2 : j < k'
              · rw [if_pos q2, if_pos (by omega)]
              · rw [if_neg q2, if_neg (by omega)]
      refine shift _ b g rfl (Nat.le_refl _) (by omega) (fun c _ => rfl) (fun j hj => ?_)
      rw [(s4 j hj).2]
      by_cases q1 : j < b
      · rw [if_pos q1]
      · rw [if_neg q1, if_neg q1]
    | succ n ih =>
      intro i b hn hi hb h1 h2
      obtain ⟨pb, gb⟩ := s4 b (by omega)
      obtain ⟨pi, gi⟩ := s4 i (by omega)
      have bw := wt b (by omega)
      have iw := wt i (by omega)
      refine g128_12 ⟨s0, fun c => by rw [w] at c; omega, fun _ => ⟨W + 1, s1, 30, s2, by omega, by omega, W + 2 + 7 * π i, by rw [Int.toNat_natCast]; exact gi, (s3 _ pi).1, ?_⟩⟩
      refine c_weight (by omega) (s3 _ pi) (wc i (by omega)).1 (by omega) (by omega) ⟨_, rfl, rfl, by omega, by omega, W + 2 + 7 * π b, by rw [Int.toNat_natCast]; exact gb, (s3 _ pb).1, ?_⟩
      refine c_weight (by omega) (s3 _ pb) (wc b (by omega)).1 (by omega) (by omega) ⟨_, rfl, rfl, fun c => ⟨by unfold oe_rg; omega, ?_⟩, fun c => ⟨by unfold oe_rg; omega, ?_⟩⟩
      · refine ih (i + 1) b (by omega) (by omega) (by omega) (fun j hj => ?_) h2
        by_cases ej : j = i
        · subst ej; unfold ol_w; omega
        · exact h1 j (by omega)
      · refine ih (i + 1) i (by omega) (by omega) (by omega) (fun j hj => ?_) (fun j hj => ?_)
        · by_cases ej : j = i
          · subst ej; exact Nat.le_refl _
          · have := h1 j (by omega); unfold ol_w at *; omega
        · have := h1 j (by omega); unfold ol_w at *; omega
  refine g128 ⟨s0, fun _ => loop _ 1 0 rfl (by omega) (by omega) (fun j hj => ?_) (fun j hj => by omega), fun c => by rw [w] at c; omega⟩
  have : j = 0 := by omega
  subst this; exact Nat.le_refl _
theorem c_aFull (hDD : 2 ≤ D) {A : Nat} {eqs : List (List Nat × List Nat)} (hS : AcS sh g A) (hC : AcC h A eqs) (k0 : eqs.length < 10 → Q (some (.inl 0)) (sh, g, h)) (k1 : eqs.length = 10 → Q (some (.inl 1)) (sh, g, h)) : oe_M D 86 [.inr (.inl A)] (sh, g, h) Q := by
  obtain ⟨d, rfl⟩ : ∃ d, D = d + 2 := ⟨D - 2, by omega⟩
  have w := hC.1
  have w2 := hC.2.1
  exact g86 ⟨hS.1, A + 1, hS.2.1, 10, hS.2.2.1, fun c => k0 (by rw [w] at c; omega), fun c => k1 (by rw [w] at c; omega)⟩
theorem c_aAppend (hDD : 5 ≤ D) {A e cap : Nat} {eqs : List (List Nat × List Nat)} {q : List Nat × List Nat} (hS : AcS sh g A) (hC : AcC h A eqs) (hE : EqS sh g e cap) (de : e + 7 ≤ A ∨ A + 77 ≤ e) (hq : EqC h e q) (hq2 : EqE h e q) (ok : eq_ok q) (hcap : 20 ≤ cap) (hlen : eqs.length < 10)
    (k : ∀ h', AcC h' A (eqs ++ [q]) → (∀ c, c ≠ A → c ≠ A + 2 → c < A + 7 ∨ A + 77 ≤ c → h' c = h c) → Q none (sh, g, h')) : oe_M D 87 [.inr (.inl A), .inr (.inl e)] (sh, g, h) Q := by
  obtain ⟨d, rfl⟩ : ∃ d, D = d + 2 := ⟨D - 2, by omega⟩
  have hSS := hS
  obtain ⟨A0, A1, A2, A3, A4, A5, A6, A7, A8, A9⟩ := hS
  obtain ⟨gn, es⟩ := A9 eqs.length hlen
  have w := hC.1
  have l20 := ok.2.1
  refine g87 ⟨A0, c_aFull (by omega) hSS hC (fun _ => ⟨0, rfl, rfl, fun _ => ⟨A + 1, A1, 10, A2, by rw [w]; omega, by rw [w]; omega, A + 7 + 7 * eqs.length, by rw [w, Int.toNat_natCast]; exact gn, hE.1, e + 1, hE.2.1, e + 4, hE.2.2.1, es.1, ?_⟩, fun c => absurd rfl c⟩) (fun c => by omega)⟩
  refine c_ebecome (by omega) es hE.2.2.2.1 hE.2.2.2.2 (by omega) (by omega) hq.1 hq2.1 hq.2 hq2.2 (by omega) (by omega) (by omega) (by omega) (fun h1 c1 e1 f1 => ?_)
  have w1 : h1 A 1 = ((eqs.length : Nat) : Int) := by rw [f1 A (by omega), w]
  refine ⟨h1, rfl, rfl, A + 2, A3, by rw [w1]; unfold oe_rg; omega, A + 7 + 7 * eqs.length + 1, es.2.1, A + 7 + 7 * eqs.length + 4, es.2.2.1, es.2.2.2.1.1, ?_⟩
  -- what is left, when both questions are answered
  have fin : ∀ (x y : Int), ((x = 1 ∧ ol_bnd q.1 q.2) ∨ (x = 0 ∧ ¬ ol_bnd q.1 q.2)) → ((y = 1 ∧ ol_bnd q.2 q.1) ∨ (y = 0 ∧ ¬ ol_bnd q.2 q.1)) → ∀ h2, h2 = oe_up (oe_up (oe_up h1 (A + 2) (2 * eqs.length) x) (A + 2) (2 * eqs.length + 1) y) A 1 (((eqs.length + 1 : Nat)) : Int) → Q none (sh, g, h2) := by
    intro x y hx hy h2 e2
    have F2 : ∀ c, c ≠ A → c ≠ A + 2 → c < A + 7 + 7 * eqs.length + 1 ∨ A + 7 + 7 * eqs.length + 6 < c → h2 c = h c := fun c b1 b2 b3 => by rw [e2, up_ne b1, up_ne b2, up_ne b2, f1 c b3]
    refine k h2 ⟨by rw [e2, up_eq, List.length_append]; rfl, by simp; omega, fun i hi => ?_⟩ (fun c b1 b2 b3 => F2 c b1 b2 (by omega))
    rw [List.length_append] at hi
    have hi : i < eqs.length + 1 := hi
    rw [og_app]
    by_cases ei : i < eqs.length
    · rw [if_pos ei]
      obtain ⟨a, b, c, b0, b1⟩ := hC.2.2 i ei
      refine ⟨a.kept (fun c b1 b2 => F2 c (by omega) (by omega) (by omega)), b.kept (fun c b1 b2 => F2 c (by omega) (by omega) (by omega)), c, ?_, ?_⟩
      · rw [e2, up_ne (by omega), up_col (by omega), up_col (by omega), f1 (A + 2) (by omega)]; exact b0
      · rw [e2, up_ne (by omega), up_col (by omega), up_col (by omega), f1 (A + 2) (by omega)]; exact b1
    · have : i = eqs.length := by omega
      subst this
      rw [if_neg (by omega), if_pos rfl]
      refine ⟨c1.kept (fun c b1 b2 => by rw [e2, up_ne (by omega), up_ne (by omega), up_ne (by omega)]), e1.kept (fun c b1 b2 => by rw [e2, up_ne (by omega), up_ne (by omega), up_ne (by omega)]), ok, ?_, ?_⟩
      · rw [e2, up_ne (by omega), up_col (by omega), up_eq]; exact hx
      · rw [e2, up_ne (by omega), up_eq]; exact hy
  have nxt : ∀ (x : Int), ((x = 1 ∧ ol_bnd q.1 q.2) ∨ (x = 0 ∧ ¬ ol_bnd q.1 q.2)) → ∀ h3, h3 = oe_up h1 (A + 2) ((2 * (h1 A 1))).toNat x → ∀ P : oeQ, (∀ y, ((y = 1 ∧ ol_bnd q.2 q.1) ∨ (y = 0 ∧ ¬ ol_bnd q.2 q.1)) → P (some (.inl y)) (sh, g, h3)) → oe_M (d + 1) 107 [.inr (.inl (A + 7 + 7 * eqs.length + 4)), .inr (.inl (A + 7 + 7 * eqs.length + 1))] (sh, g, h3) P := by
    intro x hx h3 e3 P hP
    have C3 : EqC h3 (A + 7 + 7 * eqs.length) (q.1, q.2) := c1.kept (fun c b1 b2 => by rw [e3, up_ne (by omega)])
    have q1 : (q.1, q.2).1.length ≤ 20 := by show q.1.length ≤ 20; omega
    have q2 : (q.1, q.2).2.length ≤ 20 := by show q.2.length ≤ 20; omega
    exact c_holdsV (by omega) es.2.2.2.2 es.2.2.2.1 C3.2 C3.1 q2 q1 (fun z => hP 1 (Or.inl ⟨rfl, z⟩)) (fun z => hP 0 (Or.inr ⟨rfl, z⟩))
  have cont : ∀ (x : Int), (x = 0 ∨ x = 1) → ((x = 1 ∧ ol_bnd q.1 q.2) ∨ (x = 0 ∧ ¬ ol_bnd q.1 q.2)) → ∀ h3, h3 = oe_up h1 (A + 2) ((2 * (h1 A 1))).toNat x → h3 A 1 = ((eqs.length : Nat) : Int) := fun x _ _ h3 e3 => by rw [e3, up_ne (by omega), w1]
  have t2 : (2 * ((eqs.length : Nat) : Int)).toNat = 2 * eqs.length := by omega
  have t3 : (2 * ((eqs.length : Nat) : Int) + 1).toNat = 2 * eqs.length + 1 := by omega
  have step : ∀ (x : Int), (x = 0 ∨ x = 1) → ((x = 1 ∧ ol_bnd q.1 q.2) ∨ (x = 0 ∧ ¬ ol_bnd q.1 q.2)) → ∀ h3, h3 = oe_up h1 (A + 2) ((2 * (h1 A 1))).toNat x → ∀ y : Int, ((y = 1 ∧ ol_bnd q.2 q.1) ∨ (y = 0 ∧ ¬ ol_bnd q.2 q.1)) →
      0 ≤ 2 * (h3 A 1) + 1 ∧ 2 * (h3 A 1) + 1 < ((20 : Nat) : Int) ∧ (y = 0 ∨ y = 1) ∧ ∀ h4, h4 = oe_up h3 (A + 2) (2 * (h3 A 1) + 1).toNat y → oe_rg (h4 A 1 + 1) ∧ ∀ h5, h5 = oe_up h4 A 1 (h4 A 1 + 1) → Q none (sh, g, h5) := by
    intro x hx hx2 h3 e3 y hy
    have w3 := cont x hx hx2 h3 e3
    refine ⟨by rw [w3]; omega, by rw [w3]; omega, by rcases hy with z | z <;> omega, fun h4 e4 => ?_⟩
    have w4 : h4 A 1 = ((eqs.length : Nat) : Int) := by rw [e4, up_ne (by omega), w3]
    refine ⟨by rw [w4]; unfold oe_rg; omega, fun h5 e5 => fin x y hx2 hy h5 ?_⟩
    rw [e5, w4, e4, w3, t3, e3, w1, t2]
    have e6 : ((eqs.length : Nat) : Int) + 1 = ((eqs.length + 1 : Nat) : Int) := by omega
    rw [e6]
  refine c_holdsV (by omega) es.2.2.2.1 es.2.2.2.2 c1.1 c1.2 (by show q.1.length ≤ 20; omega) (by show q.2.length ≤ 20; omega) (fun z => ?_) (fun z => ?_)
  · refine ⟨1, rfl, rfl, 20, A4, by rw [w1]; omega, by rw [w1]; omega, Or.inr rfl, fun h3 e3 => ?_⟩
    have w3 := cont 1 (Or.inr rfl) (Or.inl ⟨rfl, z⟩) h3 e3
    exact ⟨by rw [w3]; unfold oe_rg; omega, by rw [w3]; unfold oe_rg; omega, es.2.2.2.2.1, nxt 1 (Or.inl ⟨rfl, z⟩) h3 e3 _ (fun y hy => ⟨y, rfl, rfl, step 1 (Or.inr rfl) (Or.inl ⟨rfl, z⟩) h3 e3 y hy⟩)⟩
  · refine ⟨0, rfl, rfl, 20, A4, by rw [w1]; omega, by rw [w1]; omega, Or.inl rfl, fun h3 e3 => ?_⟩
    have w3 := cont 0 (Or.inl rfl) (Or.inr ⟨rfl, z⟩) h3 e3
    exact ⟨by rw [w3]; unfold oe_rg; omega, by rw [w3]; unfold oe_rg; omega, es.2.2.2.2.1, nxt 0 (Or.inr ⟨rfl, z⟩) h3 e3 _ (fun y hy => ⟨y, rfl, rfl, step 0 (Or.inl rfl) (Or.inr ⟨rfl, z⟩) h3 e3 y hy⟩)⟩
end
