/-! All overlaps of a new equation (class). -/
theorem ou_look_all {P : Nat → Prop} {σ : Nat → Option oeT} (hσ : ∀ v u, σ v = some u → ∀ c ∈ ot_fl u, P c) : ∀ (n : Nat) (t : oeT), (∀ c ∈ ot_fl t, P c) → ∀ c ∈ ot_fl (ou_look σ n t), P c
  | 0, t, h => h
  | n + 1, .leaf, h => h
  | n + 1, .inner c a b l r, h => by
    unfold ou_look
    cases hs : σ c with
    | none => exact h
    | some u => exact ou_look_all hσ n u (hσ c u hs)
theorem ou_args_all {P : Nat → Prop} {a b : oeT} (ha : ∀ c ∈ ot_fl a, P c) (hb : ∀ c ∈ ot_fl b, P c) : ∀ x ∈ ou_args a b, (∀ c ∈ ot_fl x.1, P c) ∧ ∀ c ∈ ot_fl x.2, P c := by
  have L : ∀ t : oeT, (∀ c ∈ ot_fl t, P c) → (∀ c ∈ ot_fl (ot_l t), P c) ∧ ∀ c ∈ ot_fl (ot_r t), P c := by
    intro t h
    cases t with
    | leaf => exact ⟨h, h⟩
    | inner c _ _ l r => exact ⟨fun x hx => h x (List.mem_cons_of_mem _ (List.mem_append_left _ hx)), fun x hx => h x (List.mem_cons_of_mem _ (List.mem_append_right _ hx))⟩
  intro x hx
  unfold ou_args at hx
  split at hx
  · rcases List.mem_cons.mp hx with z | z
    · rw [z]; exact ⟨(L a ha).1, (L b hb).1⟩
    · rw [List.mem_singleton.mp z]; exact ⟨(L a ha).2, (L b hb).2⟩
  · split at hx
    · rw [List.mem_singleton.mp hx]; exact ⟨(L a ha).1, (L b hb).1⟩
    · cases hx
theorem ou_all {P : Nat → Prop} : ∀ (n : Nat) (σ σ' : Nat → Option oeT) (st : List (oeT × oeT)), (∀ v u, σ v = some u → ∀ c ∈ ot_fl u, P c) → (∀ x ∈ st, (∀ c ∈ ot_fl x.1, P c) ∧ ∀ c ∈ ot_fl x.2, P c) → ou n σ st = some σ' → ∀ v u, σ' v = some u → ∀ c ∈ ot_fl u, P c := by
  intro n
  induction n with
  | zero =>
    intro σ σ' st hσ hst h
    cases st with
    | nil => simp only [ou] at h; cases h; exact hσ
    | cons p st => cases h
  | succ n ih =>
    intro σ σ' st hσ hst h
    cases st with
    | nil => simp only [ou] at h; cases h; exact hσ
    | cons p st =>
      obtain ⟨s, t⟩ := p
      have hs := ou_look_all hσ 12 s (hst _ List.mem_cons_self).1
      have ht := ou_look_all hσ 12 t (hst _ List.mem_cons_self).2
      have hst' : ∀ x ∈ st, (∀ c ∈ ot_fl x.1, P c) ∧ ∀ c ∈ ot_fl x.2, P c := fun x hx => hst x (List.mem_cons_of_mem _ hx)
      simp only [ou] at h
      generalize ou_look σ 12 s = a at *
      generalize ou_look σ 12 t = b at *
      have give : ∀ (v : Nat) (y : oeT), (∀ c ∈ ot_fl y, P c) → (ou_give σ v y).bind (fun σ' => ou n σ' st) = some σ' → ∀ v u, σ' v = some u → ∀ c ∈ ot_fl u, P c := by
        intro v y hy hg
        cases hgv : ou_give σ v y with
        | none => rw [hgv] at hg; cases hg
        | some σ1 =>
          rw [hgv] at hg
          have hg : ou n σ1 st = some σ' := hg
          obtain ⟨e1, _, _⟩ := ou_give_some hgv
          refine ih σ1 σ' st (fun x u hx => ?_) hst' hg
          rw [e1] at hx
          unfold ou_up at hx
          split at hx
          · cases hx; exact hy
          · exact hσ x u hx
      split at h
      · split at h
        · exact ih σ σ' st hσ hst' h
        · exact give _ b ht h
      · split at h
        · exact give _ a hs h
        · split at h
          · exact ih σ σ' _ hσ (fun x hx => by
              rcases List.mem_append.mp hx with z | z
              · exact ou_args_all hs ht x z
              · exact hst' x z) h
          · cases h
/-- what a new pair is -/
theorem ol_ov_ok {l r m n : List Nat} {p : Nat} (tl : ol_tm l) (tr : ol_tm r) (tm : ol_tm m) (tn : ol_tm n) (ol : ol_ok l) (or_ : ol_ok r) (om : ol_ok m) (on_ : ol_ok n) (hp : p < m.length) (h : (ol_ov l r m n p).1 = 2) : tm_ok (ol_ov l r m n p).2.1 ∧ tm_ok (ol_ov l r m n p).2.2 := by
  obtain ⟨wL, fL⟩ := ol_tr_ok tl
  obtain ⟨wM, fM⟩ := ol_tr_ok tm
  obtain ⟨S, wS, aS⟩ := ot_every (ol_tr m) m 0 wM ⟨[], by rw [fM]; simp⟩ p (Nat.zero_le _) (by rw [fM]; omega)
  have sS := ot_at_sub wS aS
  have eS := ot_at_en wS aS
  have fS : ∀ c ∈ ot_fl S, c < 20 := fun c hc => om c (ot_at_mem aS hc)
  cases hou : ou 300 (fun _ => none) [(ol_tr (ol_sub m p), ol_tr l)] with
  | none => rw [ol_ov_none hou] at h; cases h
  | some σ =>
    rw [ol_ov_some hou] at h ⊢
    rw [sS, ol_tr_fl wS] at hou
    obtain ⟨_, ⟨rk, H⟩, hsame⟩ := ou_sound 300 _ σ [(S, ol_tr l)] (fun _ => 0) (fun c u hc => by cases hc) (fun x hx => by rw [List.mem_singleton.mp hx]; exact ⟨wS, wL⟩) hou
    have XS : ou_X σ (ot_fl S) = ou_X σ l := by
      have := hsame (S, ol_tr l) (List.mem_singleton.mpr rfl)
      rw [show (S, ol_tr l).1 = S from rfl, show (S, ol_tr l).2 = ol_tr l from rfl, fL] at this
      exact this
    have hall := ou_all (P := fun c => c < 20) 300 _ σ [(S, ol_tr l)] (fun v u hv => by cases hv) (fun x hx => by
      rw [List.mem_singleton.mp hx]; exact ⟨fS, fun c hc => by rw [show (S, ol_tr l).2 = ol_tr l from rfl, fL] at hc; exact ol c hc⟩) hou
    have okX : ∀ w : List Nat, ol_ok w → ol_ok (ou_X σ w) := fun w hw => ou_x_all (P := fun c => c < 20) hall 12 w hw
    split at h
    · cases h
    · rename_i c1
      rw [if_neg c1]
      split at h
      · cases h
      · rename_i c2
        rw [if_neg c2]
        split at h
        · cases h
        · rename_i c3
          rw [if_neg c3]
          have Msplit : m = m.take p ++ (ot_fl S ++ m.drop (ol_en m p)) := by
            obtain ⟨rest, hrest⟩ := aS
            rw [eS, ← List.drop_drop, hrest, List.drop_left, ← hrest, List.take_append_drop]
          have XM : ou_X σ m = ou_X σ (m.take p) ++ (ou_X σ l ++ ou_X σ (m.drop (ol_en m p))) := by
            rw [← XS, ← ou_X_app, ← ou_X_app, ← Msplit]
          have XMl : (ou_X σ m).length = (ou_X σ (m.take p)).length + ((ou_X σ l).length + (ou_X σ (m.drop (ol_en m p))).length) := by
            rw [XM, List.length_append, List.length_append]
          obtain ⟨tX, wX, fX⟩ := ou_X_tm H tm
          obtain ⟨uX, vX, gX⟩ := ou_X_tm H tl
          obtain ⟨rX, qX, kX⟩ := ou_X_tm H tr
          have posL := ol_tm_pos (ou_X_tm H tl)
          obtain ⟨t', w', f'⟩ := ot_put tX (ou_X σ (m.take p)).length uX rX [] wX vX qX (by rw [fX]; omega) (by
            rw [List.append_nil, fX, gX, XM, List.drop_left, ← List.drop_drop, List.drop_left, List.drop_left])
          refine ⟨⟨⟨t', w', ?_⟩, ?_, ?_⟩, ou_X_tm H tn, ?_, okX n on_⟩
          · rw [f', fX, gX, kX]
            have t1 : List.take (ou_X σ (m.take p)).length (ou_X σ m) = ou_X σ (m.take p) := by rw [XM, List.take_left]
            have t2 : List.drop ((ou_X σ (m.take p)).length + (ou_X σ l).length) (ou_X σ m) = ou_X σ (m.drop (ol_en m p)) := by rw [XM, ← List.drop_drop, List.drop_left, List.drop_left]
            rw [t1, t2]
          · show (ou_X σ (m.take p) ++ ou_X σ r ++ ou_X σ (m.drop (ol_en m p))).length ≤ 30
            rw [List.length_append, List.length_append]; omega
          · intro c hc
            have hc : c ∈ ou_X σ (m.take p) ++ ou_X σ r ++ ou_X σ (m.drop (ol_en m p)) := hc
            rcases List.mem_append.mp hc with z | z
            · rcases List.mem_append.mp z with z | z
              · exact okX _ (fun x hx => om x (List.mem_of_mem_take hx)) c z
              · exact okX _ or_ c z
            · exact okX _ (fun x hx => om x (List.mem_of_mem_drop hx)) c z
          · show (ou_X σ n).length ≤ 30
            omega
/-- one overlap -/
noncomputable def ab_o (qa : List Nat × List Nat) (i : Nat) (qb : List Nat × List Nat) (j p : Nat) : Nat × (List Nat × List Nat) := if (ol_sides qb j).1.getD p 0 < 12 then (0, ([], [])) else ol_ov (ol_sides qa i).1 (ol_sides qa i).2 (ol_shift 6 (ol_sides qb j).1) (ol_shift 6 (ol_sides qb j).2) p
theorem sides_ok {q : List Nat × List Nat} (h : eq_ok q) (i : Nat) : ol_tm (ol_sides q i).1 ∧ ol_tm (ol_sides q i).2 ∧ (ol_sides q i).1.length + (ol_sides q i).2.length ≤ 20 ∧ ol_ok (ol_sides q i).1 ∧ ol_ok (ol_sides q i).2 ∧ (∀ c ∈ (ol_sides q i).1, c < 12 → c < 6) ∧ (∀ c ∈ (ol_sides q i).2, c < 12 → c < 6) := by
  obtain ⟨⟨s, t, x1, x2, x3, x4⟩, y1, y2, y3, y4, y5⟩ := h
  unfold ol_sides
  split
  · exact ⟨⟨s, x1, x3⟩, ⟨t, x2, x4⟩, y1, y2, y3, y4, y5⟩
  · exact ⟨⟨t, x2, x4⟩, ⟨s, x1, x3⟩, by show q.2.length + q.1.length ≤ 20; omega, y3, y2, y5, y4⟩
theorem ab_o_ok {qa qb : List Nat × List Nat} {i j p : Nat} (oka : eq_ok qa) (okb : eq_ok qb) (hp : p < (ol_sides qb j).1.length) (h : (ab_o qa i qb j p).1 = 2) : tm_ok (ab_o qa i qb j p).2.1 ∧ tm_ok (ab_o qa i qb j p).2.2 := by
  obtain ⟨a1, a2, a3, a4, a5, _, _⟩ := sides_ok oka i
  obtain ⟨b1, b2, b3, b4, b5, b6, b7⟩ := sides_ok okb j
  unfold ab_o at h ⊢
  split at h
  · cases h
  · rename_i c
    rw [if_neg c]
    exact ol_ov_ok a1 a2 (ol_tm_map (ol_shift_map _ b6) b1) (ol_tm_map (ol_shift_map _ b7) b2) a4 a5 (ol_shift_ok b6 b4) (ol_shift_ok b7 b5) (by unfold ol_shift; rw [List.length_map]; exact hp) h
/-- the places of a side, n of them from p on -/
noncomputable def ab_side (eqs : List (List Nat × List Nat)) (qa : List Nat × List Nat) (i : Nat) (qb : List Nat × List Nat) (j : Nat) : Nat → Nat → List (List Nat × List Nat) × Nat → List (List Nat × List Nat) × Nat
  | 0, _, s => s
  | n + 1, p, s => ab_side eqs qa i qb j n (p + 1) (ab_keep eqs s (ab_o qa i qb j p))
/-- n turns of a pair of equations, from a turn on -/
noncomputable def ab_turns (eqs : List (List Nat × List Nat)) (f d : Nat) : Nat → Nat → List (List Nat × List Nat) × Nat → List (List Nat × List Nat) × Nat
  | 0, _, s => s
  | n + 1, u, s => ab_turns eqs f d n (u + 1) (ab_side eqs (eqs.getD (if u < 4 then f else d) ([], [])) (u / 2 % 2) (eqs.getD (if u < 4 then d else f) ([], [])) (u % 2)
      ((ol_sides (eqs.getD (if u < 4 then d else f) ([], [])) (u % 2)).1.length - (if f = d ∧ u / 2 % 2 = u % 2 then 1 else 0)) (if f = d ∧ u / 2 % 2 = u % 2 then 1 else 0) s)
noncomputable def ab_ds (eqs : List (List Nat × List Nat)) (f : Nat) : Nat → Nat → List (List Nat × List Nat) × Nat → List (List Nat × List Nat) × Nat
  | 0, _, s => s
  | n + 1, d, s => ab_ds eqs f n (d + 1) (ab_turns eqs f d (if d = f then 4 else 8) 0 s)
theorem ab_keep_le (eqs : List (List Nat × List Nat)) (s : List (List Nat × List Nat) × Nat) (o : Nat × (List Nat × List Nat)) : (ab_keep eqs s o).2 ≤ s.2 + 1 := by
  unfold ab_keep
  split
  · exact Nat.le_refl _
  · split
    · split
      · exact Nat.le_succ _
      · split
        · exact Nat.le_refl _
        · split
          · exact Nat.le_succ _
          · split
            · exact Nat.le_refl _
            · exact Nat.le_succ _
    · exact Nat.le_succ _
