/-! The small machine's heap in the great one's. -/
def oe_vv (n : Nat) (v : oeV) : Prop := match v with
  | .inl x => oe_rg x
  | .inr (.inl a) => a < n
  | .inr (.inr (0, x)) => oe_rg x
  | .inr (.inr _) => True
def oe_hv (hp : oeH) : Prop := (∀ a i r, hp.2.1 a i = some r → r < hp.1.length) ∧ (∀ a i, oe_rg (hp.2.2 a i)) ∧ (∀ a c m : Nat, hp.1[a]? = some (c + 5, m) → m = oe_nf c) ∧ ∀ a t m : Nat, hp.1[a]? = some (t, m) → m < 2147483648
def oe_rf (ad : List Nat) (r : Option Nat) : Option Nat := r.map (fun a => ad.getD a 0)
def oe_val (ad : List Nat) (z : Nat → Int → Nat) (v : oeV) : Value := match v with
  | .inl x => .int (Int32.ofInt x)
  | .inr (.inl a) => .ref (ad.getD a 0)
  | .inr (.inr (0, x)) => .long (Int64.ofInt x)
  | .inr (.inr (1, _)) => .null
  | .inr (.inr (t, x)) => .ref (z t x)
def oe_fv (ad : List Nat) (g : Nat → Option Nat) (h : Nat → Int) (t k : Nat) : Value := if t = 1 then va_rf (oe_rf ad (g k)) else .int (Int32.ofInt (h k))
def oe_cell (cA : Nat → ClassId) (ad : List Nat) (q : Nat × Nat) (g : Nat → Option Nat) (h : Nat → Int) : va_E := match q.1 with
  | 0 => .inl (cA 0, q.2, .inl (fun j => Int32.ofInt (h j)))
  | 1 => .inl (cA 1, q.2, .inl (fun j => Int32.ofInt (h j)))
  | 2 => .inl (cA 2, q.2, .inl (fun j => Int32.ofInt (h j)))
  | 3 => .inl (cA 3, q.2, .inr (.inl (fun j => Int64.ofInt (h j))))
  | 4 => .inl (cA 4, q.2, .inr (.inr (.inr (.inr (fun j => oe_rf ad (g j))))))
  | c + 5 => .inr (c, (List.range q.2).map (fun k => oe_fv ad g h (oe_fk c k) k))
def oe_ws (cA : Nat → ClassId) (ad : List Nat) (hp : oeH) : va_W := (List.range hp.1.length).map (fun a => (ad.getD a 0, oe_cell cA ad (hp.1.getD a (0, 0)) (hp.2.1 a) (hp.2.2 a)))
theorem oe_ws_get {cA : Nat → ClassId} {ad : List Nat} {hp : oeH} {a : Nat} {q : Nat × Nat} (h : hp.1[a]? = some q) : (oe_ws cA ad hp)[a]? = some (ad.getD a 0, oe_cell cA ad q (hp.2.1 a) (hp.2.2 a)) := by
  have ha : a < hp.1.length := (List.getElem?_eq_some_iff.mp h).1
  rw [oe_ws, List.getElem?_map, List.getElem?_range ha, Option.map_some, List.getD_eq_getElem?_getD (l := hp.1), h, Option.getD_some]
theorem oe_ws_none {cA : Nat → ClassId} {ad : List Nat} {hp : oeH} {a : Nat} (h : ¬ a < hp.1.length) : (oe_ws cA ad hp)[a]? = none := by
  apply List.getElem?_eq_none
  simp only [oe_ws, List.length_map, List.length_range]
  omega
theorem oe_ws_len {cA : Nat → ClassId} {ad : List Nat} {hp : oeH} : (oe_ws cA ad hp).length = hp.1.length := by simp [oe_ws]
theorem oe_ws_set {cA : Nat → ClassId} {ad : List Nat} {hp : oeH} {a : Nat} {q : Nat × Nat} {g : Nat → Nat → Option Nat} {h : Nat → Nat → Int} (hq : hp.1[a]? = some q) (hg : ∀ b, b ≠ a → g b = hp.2.1 b) (hh : ∀ b, b ≠ a → h b = hp.2.2 b) :
    oe_ws cA ad (hp.1, g, h) = (oe_ws cA ad hp).set a (ad.getD a 0, oe_cell cA ad q (g a) (h a)) := by
  have ha : a < hp.1.length := (List.getElem?_eq_some_iff.mp hq).1
  apply List.ext_getElem?
  intro i
  rw [List.getElem?_set, oe_ws_len]
  by_cases e : a = i
  · subst e
    rw [if_pos rfl, if_pos ha]
    exact oe_ws_get (hp := (hp.1, g, h)) hq
  · rw [if_neg e]
    by_cases hi : i < hp.1.length
    · have h1 : hp.1[i]? = some hp.1[i] := List.getElem?_eq_getElem hi
      rw [oe_ws_get (hp := (hp.1, g, h)) h1, oe_ws_get h1]
      show some (_, oe_cell cA ad _ (g i) (h i)) = _
      rw [hg i (fun q => e q.symm), hh i (fun q => e q.symm)]
    · rw [oe_ws_none (hp := (hp.1, g, h)) hi, oe_ws_none hi]
theorem oe_getD_app {ad e : List Nat} {a : Nat} (h : a < ad.length) : (ad ++ e).getD a 0 = ad.getD a 0 := by
  rw [List.getD_eq_getElem?_getD, List.getD_eq_getElem?_getD, List.getElem?_append_left h]
theorem oe_rf_app {ad e : List Nat} {r : Option Nat} (h : ∀ a, r = some a → a < ad.length) : oe_rf (ad ++ e) r = oe_rf ad r := by
  cases r with
  | none => rfl
  | some a => exact congrArg some (oe_getD_app (h a rfl))
theorem oe_cell_app {cA : Nat → ClassId} {ad e : List Nat} {q : Nat × Nat} {g : Nat → Option Nat} {h : Nat → Int} (hg : ∀ i r, g i = some r → r < ad.length) : oe_cell cA (ad ++ e) q g h = oe_cell cA ad q g h := by
  have e1 : ∀ i, oe_rf (ad ++ e) (g i) = oe_rf ad (g i) := fun i => oe_rf_app (hg i)
  unfold oe_cell oe_fv
  simp only [e1]
theorem oe_val_app {ad e : List Nat} {z : Nat → Int → Nat} {v : oeV} (h : oe_vv ad.length v) : oe_val (ad ++ e) z v = oe_val ad z v := by
  rcases v with x | a | ⟨t, x⟩
  · rfl
  · show Value.ref _ = Value.ref _
    rw [oe_getD_app h]
  · match t with
    | 0 => rfl
    | 1 => rfl
    | t + 2 => rfl
theorem oe_ws_new {cA : Nat → ClassId} {ad : List Nat} {hp : oeH} {q : Nat} {t : Nat × Nat} (hv : oe_hv hp) (hl : ad.length = hp.1.length) :
    oe_ws cA (ad ++ [q]) (oe_new hp t) = oe_ws cA ad hp ++ [(q, oe_cell cA (ad ++ [q]) t (fun _ => none) (fun _ => 0))] := by
  have hlen : (oe_new hp t).1.length = hp.1.length + 1 := by simp [oe_new]
  apply List.ext_getElem?
  intro i
  by_cases hi : i < hp.1.length
  · have h1 : hp.1[i]? = some hp.1[i] := List.getElem?_eq_getElem hi
    have h2 : (oe_new hp t).1[i]? = some hp.1[i] := by
      show (hp.1 ++ [t])[i]? = _
      rw [List.getElem?_append_left hi, h1]
    rw [List.getElem?_append_left (by rw [oe_ws_len]; exact hi), oe_ws_get h2, oe_ws_get h1]
    have e1 : (oe_new hp t).2.1 i = hp.2.1 i := by
      show (if i = hp.1.length then _ else hp.2.1 i) = _
      rw [if_neg (by omega)]
    have e2 : (oe_new hp t).2.2 i = hp.2.2 i := by
      show (if i = hp.1.length then _ else hp.2.2 i) = _
      rw [if_neg (by omega)]
    rw [e1, e2, oe_cell_app (fun k r hr => by rw [hl]; exact hv.1 i k r hr), oe_getD_app (by omega)]
  · by_cases h3 : i = hp.1.length
    · subst h3
      have h2 : (oe_new hp t).1[hp.1.length]? = some t := by
        show (hp.1 ++ [t])[hp.1.length]? = _
        rw [List.getElem?_append_right (Nat.le_refl _), Nat.sub_self]; rfl
      rw [oe_ws_get h2, List.getElem?_append_right (by rw [oe_ws_len]; exact Nat.le_refl _), oe_ws_len, Nat.sub_self]
      have e1 : (oe_new hp t).2.1 hp.1.length = fun _ => none := by
        show (if hp.1.length = hp.1.length then _ else _) = _
        rw [if_pos rfl]
      have e2 : (oe_new hp t).2.2 hp.1.length = fun _ => 0 := by
        show (if hp.1.length = hp.1.length then _ else _) = _
        rw [if_pos rfl]
      have e3 : (ad ++ [q]).getD hp.1.length 0 = q := by
        rw [List.getD_eq_getElem?_getD, List.getElem?_append_right (by omega), hl, Nat.sub_self]; rfl
      rw [e1, e2, e3]; rfl
    · rw [oe_ws_none (by rw [hlen]; omega), List.getElem?_eq_none]
      rw [List.length_append, oe_ws_len]
      show hp.1.length + 1 ≤ i
      omega
theorem oe_hv_num {hp : oeH} {a i : Nat} {v : Int} (h : oe_hv hp) (hv : oe_rg v) : oe_hv (hp.1, hp.2.1, oe_up hp.2.2 a i v) := by
  refine ⟨h.1, fun b k => ?_, h.2.2.1, h.2.2.2⟩
  show oe_rg (va_up hp.2.2 a (va_up (hp.2.2 a) i v) b k)
  unfold va_up
  split
  · dsimp only
    split
    · exact hv
    · exact h.2.1 _ _
  · exact h.2.1 _ _
theorem oe_hv_ref {hp : oeH} {a i r : Nat} (h : oe_hv hp) (hr : r < hp.1.length) : oe_hv (hp.1, oe_up hp.2.1 a i (some r), hp.2.2) := by
  refine ⟨fun b k q hq => ?_, h.2.1, h.2.2.1, h.2.2.2⟩
  have hq : va_up hp.2.1 a (va_up (hp.2.1 a) i (some r)) b k = some q := hq
  unfold va_up at hq
  split at hq
  · dsimp only at hq
    split at hq
    · cases hq; exact hr
    · exact h.1 _ _ _ hq
  · exact h.1 _ _ _ hq
theorem oe_hv_cpy {hp : oeH} {a sp b dp n : Nat} (h : oe_hv hp) : oe_hv (hp.1, hp.2.1, oe_cpy hp.2.2 a sp b dp n) := by
  refine ⟨h.1, fun c k => ?_, h.2.2.1, h.2.2.2⟩
  show oe_rg (va_up hp.2.2 b (va_cpy (hp.2.2 a) (hp.2.2 b) sp dp n) c k)
  unfold va_up va_cpy
  split
  · dsimp only
    split
    · exact h.2.1 _ _
    · exact h.2.1 _ _
  · exact h.2.1 _ _
theorem oe_hv_new {hp : oeH} {t : Nat × Nat} (h : oe_hv hp) (ht : ∀ c, t.1 = c + 5 → t.2 = oe_nf c) (ht2 : t.2 < 2147483648) : oe_hv (oe_new hp t) := by
  have hlen : (oe_new hp t).1.length = hp.1.length + 1 := by simp [oe_new]
  have hx : ∀ (a : Nat) (q : Nat × Nat), (hp.1 ++ [t])[a]? = some q → hp.1[a]? = some q ∨ q = t := by
    intro a q hq
    by_cases ha : a < hp.1.length
    · rw [List.getElem?_append_left ha] at hq; exact Or.inl hq
    · rw [List.getElem?_append_right (by omega)] at hq
      right
      have := List.mem_of_getElem? hq
      simpa using this
  refine ⟨fun b k q hq => ?_, fun b k => ?_, fun a c m hm => ?_, fun a u m hm => ?_⟩
  · rw [hlen]
    have hq : va_up hp.2.1 hp.1.length (fun _ => none) b k = some q := hq
    unfold va_up at hq
    split at hq
    · cases hq
    · have := h.1 _ _ _ hq; omega
  · show oe_rg (va_up hp.2.2 hp.1.length (fun _ => 0) b k)
    unfold va_up
    split
    · exact oe_rg0
    · exact h.2.1 _ _
  · rcases hx a _ hm with q | q
    · exact h.2.2.1 a c m q
    · rw [← q] at ht; exact ht c rfl
  · rcases hx a _ hm with q | q
    · exact h.2.2.2 a u m q
    · rw [← q] at ht2; exact ht2
-- places of a frame
def oe_lv (ad : List Nat) (z : Nat → Int → Nat) (L : List (Option oeV)) : List (Nat × Value) := (List.range L.length).filterMap (fun i => (L.getD i none).map (fun v => (i, oe_val ad z v)))
theorem oe_lv_mem {ad : List Nat} {z : Nat → Int → Nat} {L : List (Option oeV)} {q : Nat × Value} : q ∈ oe_lv ad z L ↔ ∃ v, L[q.1]? = some (some v) ∧ q.2 = oe_val ad z v := by
  unfold oe_lv
  rw [List.mem_filterMap]
  constructor
  · rintro ⟨i, hi, h⟩
    rw [List.mem_range] at hi
    rw [Option.map_eq_some_iff] at h
    obtain ⟨v, h1, rfl⟩ := h
    refine ⟨v, ?_, rfl⟩
    rw [List.getD_eq_getElem?_getD, List.getElem?_eq_getElem hi, Option.getD_some] at h1
    show L[i]? = _
    rw [List.getElem?_eq_getElem hi, h1]
  · rintro ⟨v, h1, h2⟩
    refine ⟨q.1, List.mem_range.mpr (List.getElem?_eq_some_iff.mp h1).1, ?_⟩
    rw [List.getD_eq_getElem?_getD, h1, Option.getD_some, Option.map_some, ← h2]
theorem oe_c1_cat {ad : List Nat} {z : Nat → Int → Nat} {v : oeV} (h : oe_c1 v) : (oe_val ad z v).category = 1 := by
  rcases v with x | a | ⟨t, x⟩
  · rfl
  · rfl
  · match t, h with
    | 1, _ => rfl
    | t + 2, _ => rfl
theorem oe_lv_at {ad : List Nat} {z : Nat → Int → Nat} {L : List (Option oeV)} {ls : Array Slot} {nL i : Nat} {v : oeV} (h : lv_has ls nL (oe_lv ad z L)) (hv : L[i]? = some (some v)) : ls[i]? = some (.val (oe_val ad z v)) :=
  h.2.2 (i, oe_val ad z v) (oe_lv_mem.mpr ⟨v, hv, rfl⟩)
theorem oe_lv_set {ad : List Nat} {z : Nat → Int → Nat} {L : List (Option oeV)} {ls : Array Slot} {nL i : Nat} {v : oeV} (hc : ∀ w, some w ∈ L → oe_c1 w)
    (h : lv_has ls nL ((i, oe_val ad z v) :: (oe_lv ad z L).filter (fun q => !(q.1 == i) && !(q.1 + 1 == i && q.2.category == 2)))) : lv_has ls nL (oe_lv ad z (L.set i (some v))) := by
  refine ⟨h.1, h.2.1, fun q hq => ?_⟩
  obtain ⟨w, h1, h2⟩ := oe_lv_mem.mp hq
  rw [List.getElem?_set] at h1
  by_cases e : i = q.1
  · rw [if_pos e] at h1
    split at h1
    · cases h1
      apply h.2.2
      rw [List.mem_cons]
      left
      rw [← h2, e]
    · cases h1
  · rw [if_neg e] at h1
    apply h.2.2
    rw [List.mem_cons]
    right
    rw [List.mem_filter]
    refine ⟨oe_lv_mem.mpr ⟨w, h1, h2⟩, ?_⟩
    have hw : oe_c1 w := hc w (List.mem_of_getElem? h1)
    rw [h2, oe_c1_cat hw]
    simp
    omega
theorem oe_fm_congr {α β : Type} {f g : α → Option β} : ∀ (l : List α), (∀ x ∈ l, f x = g x) → l.filterMap f = l.filterMap g
  | [], _ => rfl
  | x :: l, h => by
    rw [List.filterMap_cons, List.filterMap_cons, h x List.mem_cons_self, oe_fm_congr l (fun y hy => h y (List.mem_cons_of_mem _ hy))]
theorem oe_lv_app {ad e : List Nat} {z : Nat → Int → Nat} {L : List (Option oeV)} (h : ∀ v, some v ∈ L → oe_vv ad.length v) : oe_lv (ad ++ e) z L = oe_lv ad z L := by
  unfold oe_lv
  apply oe_fm_congr
  intro i hi
  rw [List.mem_range] at hi
  rw [List.getD_eq_getElem?_getD, List.getElem?_eq_getElem hi, Option.getD_some]
  cases hq : L[i] with
  | none => rfl
  | some v =>
    have e1 := oe_val_app (e := e) (z := z) (h v (by rw [← hq]; exact List.getElem_mem hi))
    exact congrArg (fun w => some (i, w)) e1
