/-! The small machine is the bytecode: each step of it is a step of the great one. -/
def oe_tys (cA : Nat → ClassId) : List (ClassId × FieldType) := [(cA 0, .int), (cA 1, .char), (cA 2, .boolean), (cA 3, .long), (cA 4, .object oe_eqn)]
def oe_N (U : State) : Prop := (∀ q ∈ oe_nest, va_Nw (.methodLinkNest q.1 q.2.1 q.2.2.1 q.2.2.2) U) ∧ va_AO oe_eqn U
def oe_GH (D : va_G) (cA : Nat → ClassId) (A : Nat → Prop) (s : State) (ad0 : List Nat) (hp : oeH) (ad : List Nat) (H : Heap) (locs : List Loc) : Prop :=
  va_P D oe_cl (oe_ws cA ad hp) H ∧ va_D A (oe_ws cA ad hp) ∧ va_S A s.heap H locs ∧ ad.length = hp.1.length ∧ oe_hv hp ∧ ∃ e, ad = ad0 ++ e
def oe_GF (j : Nat) (z : Nat → Int → Nat) (n : Nat) (ad : List Nat) (ls : Array Slot) (L : List (Option oeV)) (S : List oeV) : Prop :=
  lv_has ls (oe_ml j) (oe_lv ad z L) ∧ L.length = oe_ml j ∧ (∀ v, some v ∈ L → oe_vv n v ∧ oe_c1 v) ∧ ∀ v ∈ S, oe_vv n v
def oe_X (p : Program) (l : Launch) (e : Env) (R : Room) (s : State) (m : MethodId) (args : Array Value) (below : List Frame) (meth : Method) (c : Code) (Qp : State → Prop) (j : Nat) (D : va_G) (cA : Nat → ClassId) (z : Nat → Int → Nat) (A : Nat → Prop) (ad0 : List Nat) (lim : Nat × Nat) : oeX := fun pc L S hp k n =>
  k ≤ lim.1 → n ≤ lim.2 → ∀ (ad : List Nat) (H : Heap) (ls : Array Slot) (locs : List Loc), oe_GH D cA A s ad0 hp ad H locs → oe_GF j z hp.1.length ad ls L S →
    W p l e R s m args below meth c H locs k n Qp (F0 m pc ls (S.map (oe_val ad z)))
/-- what else is known of the start and lasts: of cells outside A alone -/
def oe_Zc (Z : (Nat → Prop) → State → Heap → Prop) : Prop := (∀ A u U H, u.WarmedH U.vm → Z A u H → Z A U H) ∧ (∀ A u U H, u.vm = U.vm → Z A u H → Z A U H) ∧ (∀ A U H H1, (∀ a : Nat, a < H.size → ¬ A a → H1[a]? = H[a]?) → Z A U H → Z A U H1) ∧ ∀ A B U H, (∀ q, B q → A q) → Z A U H → Z B U H
def oe_Fx (p : Program) (R : Room) (s : State) (m : MethodId) (args : Array Value) (meth : Method) (c : Code) (j d : Nat) (D : va_G) (cA : Nat → ClassId) (A : Nat → Prop) (lim : Nat × Nat) (Z : (Nat → Prop) → State → Heap → Prop) : Prop :=
  p.tables.exec = Jvm.exec ∧ c.code = oe_by j ∧ c.maxLocals = oe_ml j ∧ s.vm.findClass (oe_ow j) = some m.cls ∧ (∀ w ∈ oe_W, w.before args s = true) ∧ va_K D oe_cl (oe_tys cA) s ∧ (oe_ini j = true → meth.name = "<init>") ∧
  (∀ q, s.heap.size ≤ q → A q) ∧ R.cells = lim.1 ∧ R.slots = lim.2 ∧ d + 2 ≤ R.frames ∧ 64 * (d + 2) ≤ R.locals ∧ oe_N s ∧ Z A s s.heap
theorem oe_vv_nil {n : Nat} : ∀ v ∈ ([] : List oeV), oe_vv n v := fun _ h => by cases h
theorem oe_vv_cons {n : Nat} {v : oeV} {S : List oeV} (h : oe_vv n v) (g : ∀ v ∈ S, oe_vv n v) : ∀ w ∈ v :: S, oe_vv n w := by
  intro w hw
  rcases List.mem_cons.mp hw with rfl | q
  · exact h
  · exact g w q
theorem oe_vv_up {n n' : Nat} {v : oeV} (h : oe_vv n v) (hn : n ≤ n') : oe_vv n' v := by
  rcases v with x | a | ⟨t, x⟩
  · exact h
  · exact Nat.lt_of_lt_of_le h hn
  · match t, h with
    | 0, h => exact h
    | t + 1, h => exact trivial
theorem oe_GF.set {j : Nat} {z : Nat → Int → Nat} {n : Nat} {ad : List Nat} {ls ls' : Array Slot} {L : List (Option oeV)} {S S' : List oeV} {i : Nat} {v : oeV} (h : oe_GF j z n ad ls L S) (hv : oe_vv n v) (hc : oe_c1 v) (hS : ∀ v ∈ S', oe_vv n v)
    (hl : lv_has ls' (oe_ml j) ((i, oe_val ad z v) :: (oe_lv ad z L).filter (fun q => !(q.1 == i) && !(q.1 + 1 == i && q.2.category == 2)))) : oe_GF j z n ad ls' (L.set i (some v)) S' := by
  refine ⟨oe_lv_set (fun w hw => (h.2.2.1 w hw).2) hl, by rw [List.length_set]; exact h.2.1, fun w hw => ?_, hS⟩
  rcases List.mem_or_eq_of_mem_set hw with q | q
  · exact h.2.2.1 w q
  · cases q; exact ⟨hv, hc⟩
theorem oe_GH.num {D : va_G} {cA : Nat → ClassId} {A : Nat → Prop} {s : State} {ad0 : List Nat} {hp : oeH} {ad : List Nat} {H H1 : Heap} {locs locs1 : List Loc} {a i : Nat} {v : Int} {q : Nat × Nat} (h : oe_GH D cA A s ad0 hp ad H locs) (hq : hp.1[a]? = some q) (hv : oe_rg v)
    (hP : va_P D oe_cl ((oe_ws cA ad hp).set a (ad.getD a 0, oe_cell cA ad q (hp.2.1 a) (va_up (hp.2.2 a) i v))) H1) (hD : va_D A ((oe_ws cA ad hp).set a (ad.getD a 0, oe_cell cA ad q (hp.2.1 a) (va_up (hp.2.2 a) i v)))) (hS : va_S A s.heap H1 locs1) :
    oe_GH D cA A s ad0 (hp.1, hp.2.1, oe_up hp.2.2 a i v) ad H1 locs1 := by
  have e : oe_ws cA ad (hp.1, hp.2.1, oe_up hp.2.2 a i v) = (oe_ws cA ad hp).set a (ad.getD a 0, oe_cell cA ad q (hp.2.1 a) (va_up (hp.2.2 a) i v)) := by
    have e0 := oe_ws_set (cA := cA) (ad := ad) (g := hp.2.1) (h := oe_up hp.2.2 a i v) hq (fun b _ => rfl) (fun b hb => by unfold oe_up va_up; rw [if_neg hb])
    rw [e0]
    have e1 : oe_up hp.2.2 a i v a = va_up (hp.2.2 a) i v := by unfold oe_up; show (if a = a then _ else _) = _; rw [if_pos rfl]
    rw [e1]
  exact ⟨by rw [e]; exact hP, by rw [e]; exact hD, hS, h.2.2.2.1, oe_hv_num h.2.2.2.2.1 hv, h.2.2.2.2.2⟩
theorem oe_GH.ref {D : va_G} {cA : Nat → ClassId} {A : Nat → Prop} {s : State} {ad0 : List Nat} {hp : oeH} {ad : List Nat} {H H1 : Heap} {locs locs1 : List Loc} {a i r : Nat} {q : Nat × Nat} (h : oe_GH D cA A s ad0 hp ad H locs) (hq : hp.1[a]? = some q) (hr : r < hp.1.length)
    (hP : va_P D oe_cl ((oe_ws cA ad hp).set a (ad.getD a 0, oe_cell cA ad q (va_up (hp.2.1 a) i (some r)) (hp.2.2 a))) H1) (hD : va_D A ((oe_ws cA ad hp).set a (ad.getD a 0, oe_cell cA ad q (va_up (hp.2.1 a) i (some r)) (hp.2.2 a)))) (hS : va_S A s.heap H1 locs1) :
    oe_GH D cA A s ad0 (hp.1, oe_up hp.2.1 a i (some r), hp.2.2) ad H1 locs1 := by
  have e : oe_ws cA ad (hp.1, oe_up hp.2.1 a i (some r), hp.2.2) = (oe_ws cA ad hp).set a (ad.getD a 0, oe_cell cA ad q (va_up (hp.2.1 a) i (some r)) (hp.2.2 a)) := by
    have e0 := oe_ws_set (cA := cA) (ad := ad) (g := oe_up hp.2.1 a i (some r)) (h := hp.2.2) hq (fun b hb => by unfold oe_up va_up; rw [if_neg hb]) (fun b _ => rfl)
    rw [e0]
    have e1 : oe_up hp.2.1 a i (some r) a = va_up (hp.2.1 a) i (some r) := by unfold oe_up; show (if a = a then _ else _) = _; rw [if_pos rfl]
    rw [e1]
  exact ⟨by rw [e]; exact hP, by rw [e]; exact hD, hS, h.2.2.2.1, oe_hv_ref h.2.2.2.2.1 hr, h.2.2.2.2.2⟩
theorem oe_GH.cpy {D : va_G} {cA : Nat → ClassId} {A : Nat → Prop} {s : State} {ad0 : List Nat} {hp : oeH} {ad : List Nat} {H H1 : Heap} {locs locs1 : List Loc} {a b sp dp n : Nat} {q : Nat × Nat} (h : oe_GH D cA A s ad0 hp ad H locs) (hq : hp.1[b]? = some q)
    (hP : va_P D oe_cl ((oe_ws cA ad hp).set b (ad.getD b 0, oe_cell cA ad q (hp.2.1 b) (va_cpy (hp.2.2 a) (hp.2.2 b) sp dp n))) H1) (hD : va_D A ((oe_ws cA ad hp).set b (ad.getD b 0, oe_cell cA ad q (hp.2.1 b) (va_cpy (hp.2.2 a) (hp.2.2 b) sp dp n)))) (hS : va_S A s.heap H1 locs1) :
    oe_GH D cA A s ad0 (hp.1, hp.2.1, oe_cpy hp.2.2 a sp b dp n) ad H1 locs1 := by
  have e : oe_ws cA ad (hp.1, hp.2.1, oe_cpy hp.2.2 a sp b dp n) = (oe_ws cA ad hp).set b (ad.getD b 0, oe_cell cA ad q (hp.2.1 b) (va_cpy (hp.2.2 a) (hp.2.2 b) sp dp n)) := by
    have e0 := oe_ws_set (cA := cA) (ad := ad) (g := hp.2.1) (h := oe_cpy hp.2.2 a sp b dp n) hq (fun b _ => rfl) (fun c hc => by unfold oe_cpy va_up; rw [if_neg hc])
    rw [e0]
    have e1 : oe_cpy hp.2.2 a sp b dp n b = va_cpy (hp.2.2 a) (hp.2.2 b) sp dp n := by unfold oe_cpy; show (if b = b then _ else _) = _; rw [if_pos rfl]
    rw [e1]
  exact ⟨by rw [e]; exact hP, by rw [e]; exact hD, hS, h.2.2.2.1, oe_hv_cpy h.2.2.2.2.1, h.2.2.2.2.2⟩
theorem oe_GH.new {D : va_G} {cA : Nat → ClassId} {A : Nat → Prop} {s : State} {ad0 : List Nat} {hp : oeH} {ad : List Nat} {H H1 : Heap} {locs locs1 : List Loc} {q : Nat} {t : Nat × Nat} (h : oe_GH D cA A s ad0 hp ad H locs) (ht : ∀ c, t.1 = c + 5 → t.2 = oe_nf c) (ht2 : t.2 < 2147483648)
    (hP : va_P D oe_cl (oe_ws cA ad hp ++ [(q, oe_cell cA (ad ++ [q]) t (fun _ => none) (fun _ => 0))]) H1) (hD : va_D A (oe_ws cA ad hp ++ [(q, oe_cell cA (ad ++ [q]) t (fun _ => none) (fun _ => 0))])) (hS : va_S A s.heap H1 locs1) :
    oe_GH D cA A s ad0 (oe_new hp t) (ad ++ [q]) H1 locs1 := by
  have e := oe_ws_new (cA := cA) (q := q) (t := t) h.2.2.2.2.1 h.2.2.2.1
  obtain ⟨e9, h9⟩ := h.2.2.2.2.2
  refine ⟨by rw [e]; exact hP, by rw [e]; exact hD, hS, ?_, oe_hv_new h.2.2.2.2.1 ht ht2, ⟨e9 ++ [q], by rw [h9, List.append_assoc]⟩⟩
  have := h.2.2.2.1
  simp [oe_new, this]
theorem oe_GF.new {j : Nat} {z : Nat → Int → Nat} {hp : oeH} {ad : List Nat} {ls : Array Slot} {L : List (Option oeV)} {S S' : List oeV} {t : Nat × Nat} {q : Nat} (h : oe_GF j z hp.1.length ad ls L S) (hl : ad.length = hp.1.length) (hS : ∀ v ∈ S', oe_vv hp.1.length v) :
    oe_GF j z (oe_new hp t).1.length (ad ++ [q]) ls L (.inr (.inl hp.1.length) :: S') := by
  have hlen : (oe_new hp t).1.length = hp.1.length + 1 := by simp [oe_new]
  rw [hlen]
  refine ⟨?_, h.2.1, fun v hv => ⟨oe_vv_up (h.2.2.1 v hv).1 (by omega), (h.2.2.1 v hv).2⟩, oe_vv_cons (Nat.lt_succ_self _) (fun v hv => oe_vv_up (hS v hv) (by omega))⟩
  rw [oe_lv_app (fun v hv => by rw [hl]; exact (h.2.2.1 v hv).1)]
  exact h.1
theorem oe_map_app {n : Nat} {ad e : List Nat} {z : Nat → Int → Nat} {S : List oeV} (hl : ad.length = n) (h : ∀ v ∈ S, oe_vv n v) : S.map (oe_val (ad ++ e) z) = S.map (oe_val ad z) := by
  apply List.map_congr_left
  intro v hv
  exact oe_val_app (by rw [hl]; exact h v hv)
-- contracts
def oe_B (D : va_G) (cA : Nat → ClassId) (Z : (Nat → Prop) → State → Heap → Prop) (sz : Nat) (ad : List Nat) (hp : oeH) (U : State) : Prop := U.heap.size = sz ∧ va_P D oe_cl (oe_ws cA ad hp) U.heap ∧ va_K D oe_cl (oe_tys cA) U ∧ va_D (fun _ => True) (oe_ws cA ad hp) ∧ oe_N U ∧ Z (va_A (oe_ws cA ad hp) sz) U U.heap
def oe_Qc (D : va_G) (cA : Nat → ClassId) (z : Nat → Int → Nat) (ad : List Nat) (Q : oeQ) (A : Nat → Prop) : Array Value → State → Outcome → State → Prop := fun _ st oc t =>
  (∃ (r : Option oeV) (hp' : oeH) (ad' : List Nat), oc = .returned (r.map (oe_val ad' z)) ∧ Q r hp' ∧ (∃ e, ad' = ad ++ e) ∧ ad'.length = hp'.1.length ∧ oe_hv hp' ∧ (∀ v, r = some v → oe_vv hp'.1.length v) ∧ va_P D oe_cl (oe_ws cA ad' hp') t.heap ∧ va_D A (oe_ws cA ad' hp')) ∧ va_F A st t
def oe_rm (d j : Nat) : Room := { frames := d + 1, cells := (oe_cost j).1, slots := (oe_cost j).2, locals := 64 * (d + 1) }
def oe_Met (l : Launch) (D : va_G) (cA : Nat → ClassId) (z : Nat → Int → Nat) (Z : (Nat → Prop) → State → Heap → Prop) (d j : Nat) (as : List oeV) (hp : oeH) (Q : oeQ) : Prop :=
  ∀ (ad : List Nat) (sz : Nat), ad.length = hp.1.length → oe_hv hp → (∀ v ∈ as, oe_vv hp.1.length v) →
    Met l (oe_y j) (oe_wj j) (oe_rm d j) (va_Pc (as.map (oe_val ad z)) (oe_B D cA Z sz ad hp)) (oe_Qc D cA z ad Q (va_A (oe_ws cA ad hp) sz)) (oe_cost j).1 (oe_cost j).2 (va_A (oe_ws cA ad hp) sz)
theorem oe_N.warm {s U : State} (hW : s.WarmedH U.vm) (h : oe_N s) : oe_N U := ⟨fun q hq => va_Nw.warmM hW (h.1 q hq), va_AO.moved hW.alike h.2⟩
theorem oe_N.same {s U : State} (hW : s.vm = U.vm) (h : oe_N s) : oe_N U := ⟨fun q hq => va_Nw.same rfl hW (h.1 q hq), va_AO.moved (by rw [hW]; exact Vm.Alike.refl _) h.2⟩
theorem oe_AA {D : va_G} {cA : Nat → ClassId} {A : Nat → Prop} {s : State} {ad0 : List Nat} {hp : oeH} {ad : List Nat} {H : Heap} {locs : List Loc} (h : oe_GH D cA A s ad0 hp ad H locs) (hA : ∀ q, s.heap.size ≤ q → A q) : ∀ q, va_A (oe_ws cA ad hp) H.size q → A q := by
  intro q hq
  rcases hq with ⟨k, e, hk⟩ | hq
  · exact h.2.1.2 k (q, e) hk
  · exact hA q (Nat.le_trans h.2.2.1.1 hq)
/-- behind a call -/
theorem oe_after {p : Program} {l : Launch} {e : Env} {R : Room} {s : State} {m : MethodId} {args : Array Value} {below : List Frame} {meth : Method} {c : Code} {Qp : State → Prop} {j : Nat} {D : va_G} {cA : Nat → ClassId} {z : Nat → Int → Nat} {A : Nat → Prop} {ad0 : List Nat} {lim : Nat × Nat}
    {hp : oeH} {ad : List Nat} {H : Heap} {locs : List Loc} {ls : Array Slot} {L : List (Option oeV)} {S T : List oeV} {pc k n mc ms : Nat} {st0 : List Value} {a : Array Value} {Q : oeQ}
    (hr : va_Run p l e R s m args below meth c H locs k n mc ms (F0 m pc ls st0) (T.map (oe_val ad z)) (oe_Qc D cA z ad Q (va_A (oe_ws cA ad hp) H.size) a) (va_A (oe_ws cA ad hp) H.size))
    (hG : oe_GH D cA A s ad0 hp ad H locs) (hF : oe_GF j z hp.1.length ad ls L S) (hT : ∀ v ∈ T, oe_vv hp.1.length v) (hA : ∀ q, s.heap.size ≤ q → A q) (hk : k + mc ≤ lim.1) (hn : n + ms ≤ lim.2)
    (kk : ∀ r hp', Q r hp' → oe_X p l e R s m args below meth c Qp j D cA z A ad0 lim (pc + 3) L (r.toList ++ T) hp' (k + mc) (n + ms)) :
    W p l e R s m args below meth c H locs k n Qp (F0 m pc ls st0) := by
  have hAA := oe_AA hG hA
  intro U hU X
  obtain ⟨v, st₀, t, T', Lc, h0, X', hL, e1, e2, ⟨⟨r, hp', ad', hv, hQ, ⟨ex, rfl⟩, hlen, hhv, hvr, hP', hD'⟩, hz, hkp⟩, st⟩ := hr U hU X
  cases hv
  rw [h0] at hz hkp
  obtain ⟨e9, h9⟩ := hG.2.2.2.2.2
  have hlen0 : ad.length ≤ hp'.1.length := by rw [← hlen, List.length_append]; omega
  have hl1 : hp.1.length ≤ hp'.1.length := by rw [← hG.2.2.2.1]; exact hlen0
  have g1 : oe_GH D cA A s ad0 hp' (ad ++ ex) T'.heap (locs ++ Lc) := by
    refine ⟨by rw [e1]; exact hP', hD'.weaken (fun k q _ => hAA _), ?_, hlen, hhv, ⟨e9 ++ ex, by rw [h9, List.append_assoc]⟩⟩
    refine ⟨Nat.le_trans hG.2.2.1.1 (by rw [e1]; exact hz), fun q h1 h2 => ?_, fun q hq => ?_⟩
    · rw [e1, hkp q (Nat.lt_of_lt_of_le h1 hG.2.2.1.1) (fun w => h2 (hAA q w))]
      exact hG.2.2.1.2.1 q h1 h2
    · rcases List.mem_append.mp hq with h | h
      · exact hG.2.2.1.2.2 q h
      · exact hAA _ (hL q h)
  have g2 : oe_GF j z hp'.1.length (ad ++ ex) ls L (r.toList ++ T) := by
    refine ⟨?_, hF.2.1, fun v hv => ⟨oe_vv_up (hF.2.2.1 v hv).1 hl1, (hF.2.2.1 v hv).2⟩, fun v hv => ?_⟩
    · rw [oe_lv_app (fun v hv => by rw [hG.2.2.2.1]; exact (hF.2.2.1 v hv).1)]
      exact hF.1
    · rcases List.mem_append.mp hv with h | h
      · exact hvr v (by simpa using h)
      · exact oe_vv_up (hT v h) hl1
  obtain ⟨t2, a1, b1⟩ := kk r hp' hQ hk hn (ad ++ ex) T'.heap ls (locs ++ Lc) g1 g2 T' rfl X'
  refine ⟨t2, st t2 ?_, b1⟩
  have e3 : (r.map (oe_val (ad ++ ex) z)).toList ++ T.map (oe_val ad z) = (r.toList ++ T).map (oe_val (ad ++ ex) z) := by
    rw [List.map_append, oe_map_app hG.2.2.2.1 hT]
    cases r <;> rfl
  show Steps p.tables e below (T'.setTop { F0 m pc ls st0 with pc := pc + 3, stack := (r.map (oe_val (ad ++ ex) z)).toList ++ T.map (oe_val ad z) }) t2
  rw [e3]
  exact a1
theorem oe_pre {s : State} {H : Heap} {D : va_G} {cA : Nat → ClassId} {Z : (Nat → Prop) → State → Heap → Prop} {A : Nat → Prop} {ad0 : List Nat} {hp : oeH} {ad : List Nat} {locs : List Loc} {As : List Value} (hZc : oe_Zc Z) (hG : oe_GH D cA A s ad0 hp ad H locs) (hK : va_K D oe_cl (oe_tys cA) s) (hN : oe_N s) (hZ : Z A s s.heap) (hA : ∀ q, s.heap.size ≤ q → A q) :
    PreS s H (va_Pc As (oe_B D cA Z H.size ad hp)) As := by
  refine ⟨fun a U g mk q => ?_, fun U hU hW => ?_⟩
  · obtain ⟨q0, q1, qP, qK, qD, qN, qZ⟩ := q
    exact ⟨q0, q1, qP, va_K.moved (u := U) (U := U.calling g mk a) (Vm.Alike.refl U.vm) qK, qD, oe_N.same rfl qN, hZc.2.1 _ U _ _ rfl qZ⟩
  · exact ⟨rfl, by rw [hU], by rw [hU]; exact hG.1, va_K.moved hW.alike hK, hG.2.1.weaken (fun _ _ _ _ => trivial), oe_N.warm hW hN, by rw [hU]; exact hZc.2.2.2 A _ _ _ (oe_AA hG hA) (hZc.2.2.1 A _ _ _ hG.2.2.1.2.1 (hZc.1 A s U _ hW hZ))⟩
-- arrays and objects that change
theorem oe_upd {h : Nat → Int} {k : Nat} {v : Int} : upd (fun j => Int32.ofInt (h j)) k (Int32.ofInt v) = fun j => Int32.ofInt (va_up h k v j) := by
  funext j
  unfold upd va_up
  split <;> rfl
theorem oe_updL {h : Nat → Int} {k : Nat} {v : Int} : vp_updL (fun j => Int64.ofInt (h j)) k (Int64.ofInt v) = fun j => Int64.ofInt (va_up h k v j) := by
  funext j
  unfold vp_updL va_up
  split <;> rfl
theorem oe_updR {ad : List Nat} {g : Nat → Option Nat} {k v : Nat} : va_up (fun j => oe_rf ad (g j)) k (some (ad.getD v 0)) = fun j => oe_rf ad (va_up g k (some v) j) := by
  funext j
  unfold va_up
  split <;> rfl
theorem oe_narc {v : Int} (h0 : 0 ≤ v) (h1 : v < 65536) : vp_nar .char (Int32.ofInt v) = Int32.ofInt v := by
  have hr : oe_rg v := ⟨by omega, by omega⟩
  rw [vp_nar_char]
  exact lg_i2c_small (by rw [oe_toInt hr]; exact h0) (by rw [oe_toInt hr]; exact h1)
theorem oe_narb {v : Int} (h : v = 0 ∨ v = 1) : vp_nar .boolean (Int32.ofInt v) = Int32.ofInt v := by
  rcases h with rfl | rfl <;> decide
theorem oe_fs_num {ad : List Nat} {g : Nat → Option Nat} {h : Nat → Int} {t : Nat → Nat} {n k : Nat} {v : Int} (ht : t k ≠ 1) :
    ((List.range n).map (fun i => oe_fv ad g h (t i) i)).set k (.int (Int32.ofInt v)) = (List.range n).map (fun i => oe_fv ad g (va_up h k v) (t i) i) := by
  apply List.ext_getElem?
  intro i
  rw [List.getElem?_set]
  by_cases hi : i < n
  · by_cases e : k = i
    · subst e
      rw [if_pos rfl, if_pos (by simpa using hi), List.getElem?_map, List.getElem?_range hi]
      simp [oe_fv, ht, va_up]
    · rw [if_neg e, List.getElem?_map, List.getElem?_map, List.getElem?_range hi]
      simp only [Option.map_some, oe_fv, va_up]
      rw [if_neg (show ¬ i = k from fun q => e q.symm)]
  · have e1 : ∀ f : Nat → Value, ((List.range n).map f)[i]? = none := fun f => List.getElem?_eq_none (by simp; omega)
    rw [e1, e1]
    by_cases e : k = i
    · subst e
      rw [if_pos rfl, if_neg (by simp; omega)]
    · rw [if_neg e]
theorem oe_fs_ref {ad : List Nat} {g : Nat → Option Nat} {h : Nat → Int} {t : Nat → Nat} {n k r : Nat} (ht : t k = 1) :
    ((List.range n).map (fun i => oe_fv ad g h (t i) i)).set k (.ref (ad.getD r 0)) = (List.range n).map (fun i => oe_fv ad (va_up g k (some r)) h (t i) i) := by
  apply List.ext_getElem?
  intro i
  rw [List.getElem?_set]
  by_cases hi : i < n
  · by_cases e : k = i
    · subst e
      rw [if_pos rfl, if_pos (by simpa using hi), List.getElem?_map, List.getElem?_range hi]
      simp [oe_fv, ht, va_up, oe_rf, va_rf]
    · rw [if_neg e, List.getElem?_map, List.getElem?_map, List.getElem?_range hi]
      simp only [Option.map_some, oe_fv, va_up]
      rw [if_neg (show ¬ i = k from fun q => e q.symm)]
  · have e1 : ∀ f : Nat → Value, ((List.range n).map f)[i]? = none := fun f => List.getElem?_eq_none (by simp; omega)
    rw [e1, e1]
    by_cases e : k = i
    · subst e
      rw [if_pos rfl, if_neg (by simp; omega)]
    · rw [if_neg e]
theorem oe_cpy_i {f g : Nat → Int} {sp dp n : Nat} : va_cpy (fun j => Int32.ofInt (f j)) (fun j => Int32.ofInt (g j)) sp dp n = fun j => Int32.ofInt (va_cpy f g sp dp n j) := by
  funext j
  unfold va_cpy
  split <;> rfl
theorem oe_cat_le {ad : List Nat} {z : Nat → Int → Nat} (v : oeV) : (oe_val ad z v).category ≤ 2 := by
  rcases lv_cat (oe_val ad z v) with h | h <;> omega
theorem oe_cat_sum {ad : List Nat} {z : Nat → Int → Nat} : ∀ T : List oeV, ((T.map (oe_val ad z)).map fun v => v.category).sum ≤ 2 * T.length
  | [] => Nat.le_refl _
  | v :: T => by
    have h1 := oe_cat_le (ad := ad) (z := z) v
    have h2 := oe_cat_sum (ad := ad) (z := z) T
    simp only [List.map_cons, List.sum_cons, List.length_cons]
    omega
theorem oe_split {S T : List oeV} {b : oeV} {n : Nat} (h : S.drop n = b :: T) : S = S.take n ++ b :: T ∧ (S.take (n + 1)).reverse = b :: (S.take n).reverse := by
  have h1 : S = S.take n ++ b :: T := by rw [← h, List.take_append_drop]
  refine ⟨h1, ?_⟩
  have hn : n < S.length := by
    rcases Nat.lt_or_ge n S.length with q | q
    · exact q
    · rw [List.drop_eq_nil_of_le q] at h; cases h
  have hb : S[n]? = some b := by
    have e : (S.drop n)[0]? = some b := by rw [h]; rfl
    rw [List.getElem?_drop] at e
    exact e
  rw [List.take_add_one, hb]
  simp
theorem oe_lsw_m : ∀ (ps : List (Int × Int)) (dd x : Int) (pc : Nat), Op.lookupswitch.offset (ps.map (fun q => (q.1, q.2 - pc))) (dd - pc) x = Op.lookupswitch.offset ps dd x - pc
  | [], dd, x, pc => rfl
  | q :: ps, dd, x, pc => by
    have ih := oe_lsw_m ps dd x pc
    simp only [List.map_cons, Op.lookupswitch.offset] at ih ⊢
    split <;> rename_i e
    · simp [e]
    · simp [e, ih]
theorem oe_lsw_0 {dd x : Int} : ∀ {ps : List (Int × Int)}, 0 ≤ dd → (∀ q ∈ ps, 0 ≤ q.2) → 0 ≤ Op.lookupswitch.offset ps dd x
  | [], h, _ => h
  | q :: ps, h, g => by
    have ih := oe_lsw_0 (x := x) (ps := ps) h (fun q hq => g q (List.mem_cons_of_mem _ hq))
    have h1 := g q List.mem_cons_self
    simp only [Op.lookupswitch.offset] at ih ⊢
    split
    · exact h1
    · exact ih
theorem oe_tk_all : ∀ r, r < 8 → ∀ i, i < oe_nf r → oe_tk (oe_fk r i) (oe_ty r i) = true := by decide +kernel
theorem oe_nf_all : ∀ r, r < 8 → (oe_cl[r]?).map (fun q => q.2.2) = some (oe_nf r) := by decide +kernel
theorem oe_dflt {ad : List Nat} (r : Nat) (q : vw_C) (h : oe_cl[r]? = some q) (i : Nat) (hi : i < q.2.2) : defaultValue (oe_ty r i) = oe_fv ad (fun _ => none) (fun _ => 0) (oe_fk r i) i := by
  have hr : r < 8 := (List.getElem?_eq_some_iff.mp h).1
  have e := oe_nf_all r hr
  rw [h] at e
  have e2 : q.2.2 = oe_nf r := Option.some.inj e
  have k := oe_tk_all r hr i (by omega)
  unfold oe_fv
  generalize oe_fk r i = t at k
  match t, k with
  | 0, k => rw [oe_tk_0 k]; rfl
  | 1, k =>
    rcases oe_tk_1 k with ⟨n, e⟩ | ⟨n, e⟩
    · rw [e]; rfl
    · rw [e]; rfl
  | 2, k => rw [oe_tk_2 k]; rfl
  | t + 3, k => cases (oe_ty r i) <;> cases k
