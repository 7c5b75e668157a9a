/-! Matching, putting in, replacing: on rows of letters. -/
def ol_mt (l : List Nat) : List Nat → Nat → (Nat → Int) → Option (Nat → Int)
  | [], _, b => some b
  | c :: sd, pl, b => if l.length ≤ pl then none else
      if c < 12 then (if b c = -1 then ol_mt l sd (ol_en l pl) (fun v => if v = c then (pl : Int) else b v)
        else if ol_sub l (b c).toNat = ol_sub l pl then ol_mt l sd (ol_en l pl) b else none)
      else if l.getD pl 0 = c then ol_mt l sd (pl + 1) b else none
def ol_fi (l : List Nat) (b : Nat → Int) (room : Nat) : List Nat → List Nat → Option (List Nat)
  | [], acc => some acc
  | c :: sd, acc => if c < 12 then (if b c = -1 then none else if room < acc.length + (ol_sub l (b c).toNat).length then none else ol_fi l b room sd (acc ++ ol_sub l (b c).toNat))
      else if room < acc.length + 1 then none else ol_fi l b room sd (acc ++ [c])
/-- one row of letters is a term and greater than another -/
def ol_gt (s t : List Nat) : Prop := ∃ u v, ot_wf u ∧ ot_wf v ∧ ot_fl u = s ∧ ot_fl v = t ∧ ot_gt u v
def ol_sides (e : List Nat × List Nat) (k : Nat) : List Nat × List Nat := if k % 2 = 0 then (e.1, e.2) else (e.2, e.1)
noncomputable def ol_try (eqs : List (List Nat × List Nat)) (l : List Nat) (p k : Nat) : Option (List Nat) :=
  match ol_mt l (ol_sides (eqs.getD (k / 2) ([], [])) k).1 p (fun _ => -1) with
  | none => none
  | some b => match ol_fi l b (30 + (ol_en l p - p) - l.length) (ol_sides (eqs.getD (k / 2) ([], [])) k).2 [] with
    | none => none
    | some rep => @ite _ (ol_gt (ol_sub l p) rep) (Classical.propDecidable _) (some (l.take p ++ rep ++ l.drop (ol_en l p))) none
noncomputable def ol_place (eqs : List (List Nat × List Nat)) (l : List Nat) (p : Nat) : Option (List Nat) := (List.range (2 * eqs.length)).findSome? (ol_try eqs l p)
noncomputable def ol_once (eqs : List (List Nat × List Nat)) (l : List Nat) : Option (List Nat) := (List.range l.length).findSome? (ol_place eqs l)
noncomputable def ol_low (eqs : List (List Nat × List Nat)) : Nat → List Nat → List Nat × Nat
  | 0, l => (l, 0)
  | n + 1, l => match ol_once eqs l with
    | none => (l, 0)
    | some l' => ((ol_low eqs n l').1, (ol_low eqs n l').2 + 1)
def bd_ok (b : Nat → Int) (n : Nat) : Prop := ∀ v, b v = -1 ∨ (0 ≤ b v ∧ b v < (n : Int))
theorem bd_ok_upd {b : Nat → Int} {n c p : Nat} (h : bd_ok b n) (hp : p < n) : bd_ok (fun v => if v = c then (p : Int) else b v) n := by
  intro v
  dsimp only
  split
  · right; omega
  · exact h v
theorem ol_mt_ok {l : List Nat} : ∀ (sd : List Nat) (pl : Nat) (b b' : Nat → Int), bd_ok b l.length → ol_mt l sd pl b = some b' → bd_ok b' l.length
  | [], pl, b, b', h, e => by
    unfold ol_mt at e
    cases e
    exact h
  | c :: sd, pl, b, b', h, e => by
    unfold ol_mt at e
    split at e
    · cases e
    · split at e
      · split at e
        · exact ol_mt_ok sd _ _ _ (bd_ok_upd h (by omega)) e
        · split at e
          · exact ol_mt_ok sd _ _ _ h e
          · cases e
      · split at e
        · exact ol_mt_ok sd _ _ _ h e
        · cases e
/-- a match binds the variables of the side, and no others -/
theorem ol_mt_bound {l : List Nat} : ∀ (sd : List Nat) (pl : Nat) (b b' : Nat → Int), ol_mt l sd pl b = some b' → (∀ v, b v ≠ -1 → b' v = b v) ∧ (∀ c ∈ sd, c < 12 → b' c ≠ -1) ∧ (∀ v, b' v ≠ -1 → b v ≠ -1 ∨ v ∈ sd)
  | [], pl, b, b', e => by
    unfold ol_mt at e
    cases e
    exact ⟨fun _ _ => rfl, fun c hc => (by cases hc), fun v hv => Or.inl hv⟩
  | c :: sd, pl, b, b', e => by
    unfold ol_mt at e
    split at e
    · cases e
    · split at e
      · rename_i hc
        split at e
        · rename_i hb
          obtain ⟨h1, h2, h3⟩ := ol_mt_bound sd _ _ _ e
          refine ⟨fun v hv => ?_, fun x hx hx2 => ?_, fun v hv => ?_⟩
          · have hvc : v ≠ c := fun q => hv (by rw [q]; exact hb)
            have := h1 v (by rw [if_neg hvc]; exact hv)
            try dsimp only at this
            rw [if_neg hvc] at this
            exact this
          · rcases List.mem_cons.mp hx with q | q
            · subst q
              have := h1 x (by rw [if_pos rfl]; omega)
              try dsimp only at this
              rw [if_pos rfl] at this
              omega
            · exact h2 x q hx2
          · rcases h3 v hv with q | q
            · try dsimp only at q
              by_cases e2 : v = c
              · right; rw [e2]; exact List.mem_cons_self
              · rw [if_neg e2] at q; exact Or.inl q
            · exact Or.inr (List.mem_cons_of_mem _ q)
        · rename_i hb
          split at e
          · obtain ⟨h1, h2, h3⟩ := ol_mt_bound sd _ _ _ e
            refine ⟨h1, fun x hx hx2 => ?_, fun v hv => ?_⟩
            · rcases List.mem_cons.mp hx with q | q
              · subst q; rw [h1 x hb]; exact hb
              · exact h2 x q hx2
            · rcases h3 v hv with q | q
              · exact Or.inl q
              · exact Or.inr (List.mem_cons_of_mem _ q)
          · cases e
      · rename_i hc
        split at e
        · obtain ⟨h1, h2, h3⟩ := ol_mt_bound sd _ _ _ e
          refine ⟨h1, fun x hx hx2 => ?_, fun v hv => ?_⟩
          · rcases List.mem_cons.mp hx with q | q
            · subst q; exact absurd hx2 hc
            · exact h2 x q hx2
          · rcases h3 v hv with q | q
            · exact Or.inl q
            · exact Or.inr (List.mem_cons_of_mem _ q)
        · cases e
/-- what is put in, in one row -/
def ol_inst (l : List Nat) (b : Nat → Int) (sd : List Nat) : List Nat := sd.flatMap (fun c => if c < 12 then ol_sub l (b c).toNat else [c])
theorem ol_fi_eq {l : List Nat} {b : Nat → Int} {room : Nat} : ∀ (sd acc r : List Nat), ol_fi l b room sd acc = some r → r = acc ++ ol_inst l b sd ∧ (acc.length ≤ room → r.length ≤ room) ∧ ∀ c ∈ sd, c < 12 → b c ≠ -1
  | [], acc, r, h => by
    unfold ol_fi at h
    cases h
    exact ⟨by simp [ol_inst], fun h => h, fun c hc => by cases hc⟩
  | c :: sd, acc, r, h => by
    unfold ol_fi at h
    split at h
    · rename_i hc
      split at h
      · cases h
      · rename_i hb
        split at h
        · cases h
        · rename_i hr
          obtain ⟨h1, h2, h3⟩ := ol_fi_eq sd _ _ h
          refine ⟨?_, fun _ => h2 (by rw [List.length_append]; omega), fun x hx hx2 => ?_⟩
          · rw [h1, ol_inst, ol_inst, List.flatMap_cons, if_pos hc, List.append_assoc]
          · rcases List.mem_cons.mp hx with q | q
            · subst q; exact hb
            · exact h3 x q hx2
    · rename_i hc
      split at h
      · cases h
      · rename_i hr
        obtain ⟨h1, h2, h3⟩ := ol_fi_eq sd _ _ h
        refine ⟨?_, fun _ => h2 (by rw [List.length_append]; simp; omega), fun x hx hx2 => ?_⟩
        · rw [h1, ol_inst, ol_inst, List.flatMap_cons, if_neg hc, List.append_assoc]
        · rcases List.mem_cons.mp hx with q | q
          · subst q; exact absurd hx2 hc
          · exact h3 x q hx2
-- trees put in for variables
def ot_sb (σ : Nat → oeT) : oeT → oeT
  | .leaf => .leaf
  | .inner n a b l r => if n < 12 then σ n else .inner n a b (ot_sb σ l) (ot_sb σ r)
theorem ot_sb_wf {σ : Nat → oeT} : ∀ (t : oeT), ot_wf t → (∀ x, x < 12 → ot_oc x t → ot_wf (σ x)) → ot_wf (ot_sb σ t) := by
  intro t
  induction t with
  | leaf => intro h _; exact h
  | inner n a b l r ih1 ih2 =>
    intro h hs
    unfold ot_sb
    split
    · rename_i hn; exact hs n hn (Or.inl rfl)
    · rename_i hn
      refine ⟨fun q => ?_, fun q => ih1 (ot_wf1 h q) (fun x h1 h2 => hs x h1 (Or.inr (Or.inl h2))), fun q q2 => ?_, fun q => ih2 (ot_wf2 h q) (fun x h1 h2 => hs x h1 (Or.inr (Or.inr h2)))⟩
      · have := h.1 q
        rw [this.1, this.2]
        exact ⟨rfl, rfl⟩
      · rw [h.2.2.1 q q2]; rfl
theorem ot_sb_fl {σ : Nat → oeT} : ∀ (t : oeT), ot_wf t → ot_fl (ot_sb σ t) = (ot_fl t).flatMap (fun c => if c < 12 then ot_fl (σ c) else [c]) := by
  intro t
  induction t with
  | leaf => intro h; rfl
  | inner n a b l r ih1 ih2 =>
    intro h
    unfold ot_sb
    split
    · rename_i hn
      have := h.1 (by omega)
      rw [this.1, this.2]
      simp [ot_fl, hn]
    · rename_i hn
      simp only [ot_fl, List.flatMap_cons, List.flatMap_append, if_neg hn]
      by_cases h2 : 18 ≤ n
      · rw [ih1 (ot_wf1 h (by omega)), ih2 (ot_wf2 h h2)]; rfl
      · by_cases h1 : 16 ≤ n
        · rw [ih1 (ot_wf1 h h1), h.2.2.1 h1 (by omega)]; rfl
        · have := h.1 (by omega)
          rw [this.1, this.2]; rfl
/-- a subtree is put in place of another -/
theorem ot_put : ∀ (t : oeT) (p : Nat) (u v : oeT) (r : List Nat), ot_wf t → ot_wf u → ot_wf v → p < (ot_fl t).length → (ot_fl t ++ r).drop p = ot_fl u ++ (ot_fl t ++ r).drop (p + (ot_fl u).length) → ∃ t', ot_wf t' ∧ ot_fl t' = (ot_fl t).take p ++ ot_fl v ++ (ot_fl t).drop (p + (ot_fl u).length) := by
  intro t
  induction t with
  | leaf => intro p u v r h; exact h.elim
  | inner n a b t1 t2 ih1 ih2 =>
    intro p u v r hw hu hv hp hd
    cases p with
    | zero =>
      rw [List.drop_zero, Nat.zero_add] at hd
      have e : (Std.DTreeMap.Internal.Impl.inner n a b t1 t2 : oeT) = u := ot_fl_inj _ u r _ hw hu hd
      refine ⟨v, hv, ?_⟩
      rw [← e, Nat.zero_add, List.take_zero, List.nil_append, List.drop_eq_nil_of_le (Nat.le_refl _), List.append_nil]
    | succ p =>
      simp only [ot_fl, List.length_cons, List.length_append] at hp
      by_cases n1 : 16 ≤ n
      · have w1 := ot_wf1 hw n1
        by_cases c1 : p < (ot_fl t1).length
        · have hd1 : (ot_fl t1 ++ (ot_fl t2 ++ r)).drop p = ot_fl u ++ (ot_fl t1 ++ (ot_fl t2 ++ r)).drop (p + (ot_fl u).length) := by
            have e1 : (ot_fl (Std.DTreeMap.Internal.Impl.inner n a b t1 t2) ++ r).drop (p + 1) = (ot_fl t1 ++ (ot_fl t2 ++ r)).drop p := by simp [ot_fl]
            have e2 : (ot_fl (Std.DTreeMap.Internal.Impl.inner n a b t1 t2) ++ r).drop (p + 1 + (ot_fl u).length) = (ot_fl t1 ++ (ot_fl t2 ++ r)).drop (p + (ot_fl u).length) := by
              rw [show p + 1 + (ot_fl u).length = (p + (ot_fl u).length) + 1 by omega]; simp [ot_fl]
            rw [← e1, ← e2]; exact hd
          -- the subterm ends within t1
          have hat : ot_at (ot_fl t1 ++ (ot_fl t2 ++ r)) p u := ⟨_, hd1⟩
          obtain ⟨u', hu', hat'⟩ := ot_every t1 (ot_fl t1) 0 w1 ⟨[], by simp⟩ p (Nat.zero_le _) (by omega)
          obtain ⟨r', hr'⟩ := hat'
          have huu : u' = u := by
            refine ot_at_uni (l := ot_fl t1 ++ (ot_fl t2 ++ r)) (p := p) hu' hu ⟨r' ++ (ot_fl t2 ++ r), ?_⟩ hat
            rw [List.drop_append_of_le_length (by omega), hr', List.append_assoc]
          subst huu
          have hlen : p + (ot_fl u').length ≤ (ot_fl t1).length := by
            have := congrArg List.length hr'
            rw [List.length_drop, List.length_append] at this
            omega
          obtain ⟨t1', hw1, hf1⟩ := ih1 p u' v (ot_fl t2 ++ r) w1 hu hv c1 hd1
          refine ⟨.inner n a b t1' t2, ⟨fun q => by omega, fun _ => hw1, hw.2.2.1, hw.2.2.2⟩, ?_⟩
          simp only [ot_fl, hf1]
          rw [List.take_succ_cons, show p + 1 + (ot_fl u').length = (p + (ot_fl u').length) + 1 by omega, List.drop_succ_cons, List.take_append_of_le_length (by omega), List.drop_append_of_le_length hlen]
          simp
        · by_cases n2 : 18 ≤ n
          · have w2 := ot_wf2 hw n2
            have e1 : (ot_fl (Std.DTreeMap.Internal.Impl.inner n a b t1 t2) ++ r).drop (p + 1) = (ot_fl t2 ++ r).drop (p - (ot_fl t1).length) := by
              simp only [ot_fl, List.cons_append, List.drop_succ_cons, List.append_assoc]
              rw [List.drop_append, List.drop_eq_nil_of_le (by omega), List.nil_append]
            have e2 : (ot_fl (Std.DTreeMap.Internal.Impl.inner n a b t1 t2) ++ r).drop (p + 1 + (ot_fl u).length) = (ot_fl t2 ++ r).drop (p - (ot_fl t1).length + (ot_fl u).length) := by
              rw [show p + 1 + (ot_fl u).length = (p + (ot_fl u).length) + 1 by omega]
              simp only [ot_fl, List.cons_append, List.drop_succ_cons, List.append_assoc]
              rw [List.drop_append, List.drop_eq_nil_of_le (by omega), List.nil_append, show p + (ot_fl u).length - (ot_fl t1).length = p - (ot_fl t1).length + (ot_fl u).length by omega]
            rw [e1, e2] at hd
            obtain ⟨t2', hw2, hf2⟩ := ih2 (p - (ot_fl t1).length) u v r w2 hu hv (by omega) hd
            refine ⟨.inner n a b t1 t2', ⟨fun q => by omega, hw.2.1, fun q q2 => by omega, fun _ => hw2⟩, ?_⟩
            simp only [ot_fl, hf2]
            rw [List.take_succ_cons, show p + 1 + (ot_fl u).length = (p + (ot_fl u).length) + 1 by omega, List.drop_succ_cons, List.take_append, List.drop_append, show (ot_fl t1).take p = ot_fl t1 from List.take_of_length_le (by omega), show (ot_fl t1).drop (p + (ot_fl u).length) = [] from List.drop_eq_nil_of_le (by omega), List.nil_append, show p + (ot_fl u).length - (ot_fl t1).length = p - (ot_fl t1).length + (ot_fl u).length by omega]
            simp
          · rw [hw.2.2.1 n1 (by omega)] at hp
            simp only [ot_fl, List.length_nil] at hp
            omega
      · have e1 := hw.1 (by omega)
        rw [e1.1, e1.2] at hp
        simp only [ot_fl, List.length_nil] at hp
        omega
