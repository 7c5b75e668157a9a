/-! Contracts of the rows of letters and of equations (class), the rest. -/
theorem ol_ren_len : ∀ (l : List Nat) (nm : Nat → Int) (u : Nat), (ol_ren l nm u).1.length = l.length
  | [], _, _ => rfl
  | c :: l, nm, u => by
    unfold ol_ren
    split
    · split
      · simp only [List.length_cons]; rw [ol_ren_len l]
      · simp only [List.length_cons]; rw [ol_ren_len l]
    · simp only [List.length_cons]; rw [ol_ren_len l]
theorem ol_ren_app : ∀ (l r : List Nat) (nm : Nat → Int) (u : Nat), ol_ren (l ++ r) nm u = ((ol_ren l nm u).1 ++ (ol_ren r (ol_ren l nm u).2.1 (ol_ren l nm u).2.2).1, (ol_ren r (ol_ren l nm u).2.1 (ol_ren l nm u).2.2).2)
  | [], r, nm, u => rfl
  | c :: l, r, nm, u => by
    simp only [List.cons_append, ol_ren]
    split
    · split
      · rw [ol_ren_app l r]; rfl
      · rw [ol_ren_app l r]; rfl
    · rw [ol_ren_app l r]; rfl
theorem ol_ren_ge : ∀ (l : List Nat) (nm : Nat → Int) (u : Nat), u ≤ (ol_ren l nm u).2.2 ∧ (ol_ren l nm u).2.2 ≤ u + l.length
  | [], _, u => ⟨Nat.le_refl _, Nat.le_refl _⟩
  | c :: l, nm, u => by
    unfold ol_ren
    split
    · split
      · have := ol_ren_ge l (fun v => if v = c then (u : Int) else nm v) (u + 1)
        simp only [List.length_cons]; omega
      · have := ol_ren_ge l nm u
        simp only [List.length_cons]; omega
    · have := ol_ren_ge l nm u
      simp only [List.length_cons]; omega
theorem ol_take_succ {l : List Nat} {i : Nat} (h : i < l.length) : l.take (i + 1) = l.take i ++ [l.getD i 0] := by
  rw [List.take_add_one, ol_getD_lt h]; rfl
theorem ol_ren_one (c : Nat) (nm : Nat → Int) (u : Nat) : ol_ren [c] nm u = if c < 12 then (if nm c = -1 then ([u], (fun v => if v = c then (u : Int) else nm v), u + 1) else ([(nm c).toNat], nm, u)) else ([c], nm, u) := by
  unfold ol_ren
  split
  · split <;> rfl
  · rfl
def nm_ok (nm : Nat → Int) : Prop := ∀ v, nm v = -1 ∨ (0 ≤ nm v ∧ nm v < 1000)
theorem nm_ok_upd {nm : Nat → Int} {c u : Nat} (h : nm_ok nm) (hu : u < 1000) : nm_ok (fun v => if v = c then (u : Int) else nm v) := by
  intro v
  dsimp only
  split
  · right; omega
  · exact h v
section
variable {D : Nat} {sh : List (Nat × Nat)} {g : Nat → Nat → Option Nat} {h : Nat → Nat → Int} {Q : oeQ}
theorem c_appendAll (hDD : 3 ≤ D) {a b ca cb : Nat} {l r : List Nat} (hS : LtS sh g a ca) (hT : LtS sh g b cb) (hab : a + 3 ≤ b ∨ b + 3 ≤ a) (hC : LtC h a l) (hC2 : LtC h b r) (hr : r.length ≤ cb) (hfit : l.length + r.length ≤ ca) (s : Nat) (hs : s ≤ 6) (hok : ∀ c ∈ r, c < 1000)
    (k : ∀ h', LtC h' a (l ++ ol_shift s r) → (∀ c, c ≠ a → c ≠ a + 1 → h' c = h c) → Q none (sh, g, h')) : oe_M D 102 [.inr (.inl a), .inr (.inl b), .inl (s : Int)] (sh, g, h) Q := by
  obtain ⟨d, rfl⟩ : ∃ d, D = d + 2 := ⟨D - 2, by omega⟩
  have hca := hS.2.2.2.2.2
  have hcb := hT.2.2.2.2.2
  have loop : ∀ (n i : Nat) (h1 : Nat → Nat → Int), r.length - i = n → i ≤ r.length → LtC h1 a (l ++ ol_shift s (r.take i)) → (∀ c, c ≠ a → c ≠ a + 1 → h1 c = h c) →
      oe_V (oe_cost 102) 102 (oe_M (d + 1)) none Q 2 [some (.inr (.inl a)), some (.inr (.inl b)), some (.inl (s : Int)), some (.inl (i : Int)), none] [] (sh, g, h1) 0 0 := by
    intro n
    induction n with
    | zero =>
      intro i h1 hn hi hC1 hF
      have w : h1 b 2 = ((r.length : Nat) : Int) := by rw [hF b (by omega) (by omega), hC2.1]
      refine g102_2 ⟨hT.1, fun _ => k h1 ?_ hF, fun c => by rw [w] at c; omega⟩
      rw [List.take_of_length_le (by omega)] at hC1
      exact hC1
    | succ n ih =>
      intro i h1 hn hi hC1 hF
      have w : h1 b 2 = ((r.length : Nat) : Int) := by rw [hF b (by omega) (by omega), hC2.1]
      have cc : h1 (b + 1) ((i : Int)).toNat = ((r.getD i 0 : Nat) : Int) := by rw [Int.toNat_natCast, hF (b + 1) (by omega) (by omega), hC2.2 i (by omega)]
      have hx : r.getD i 0 < 1000 := hok _ (by rw [List.getD_eq_getElem?_getD, List.getElem?_eq_getElem (by omega)]; exact List.getElem_mem (by omega))
      have hlen : (l ++ ol_shift s (r.take i)).length < ca := by
        rw [List.length_append]; unfold ol_shift; rw [List.length_map, List.length_take]; omega
      have nx : ∀ x : Nat, x = (if r.getD i 0 < 12 then r.getD i 0 + s else r.getD i 0) → l ++ ol_shift s (r.take i) ++ [x] = l ++ ol_shift s (r.take (i + 1)) := by
        intro x hx
        rw [ol_take_succ (by omega), hx]
        unfold ol_shift
        rw [List.map_append, List.append_assoc]; rfl
      refine g102_2 ⟨hT.1, fun c => by rw [w] at c; omega, fun _ => ⟨b + 1, hT.2.1, cb, hT.2.2.2.1, by omega, by omega, fun c1 => ?_, fun c1 => ?_⟩⟩
      · rw [cc] at c1 ⊢
        refine ⟨by unfold oe_rg; omega, hS.1, ?_⟩
        have e9 : ((r.getD i 0 : Nat) : Int) + (s : Int) = ((r.getD i 0 + s : Nat) : Int) := by omega
        rw [e9]
        refine c_append (by omega) hS hC1 hlen (r.getD i 0 + s) (fun h2 hC3 hF2 => ⟨h2, rfl, rfl, by unfold oe_rg; omega, ?_⟩)
        rw [nx _ (by rw [if_pos (by omega)])] at hC3
        exact ih (i + 1) h2 (by omega) (by omega) hC3 (fun c a1 a2 => by rw [hF2 c a1 a2, hF c a1 a2])
      · rw [cc] at c1 ⊢
        refine ⟨hS.1, ?_⟩
        refine c_append (by omega) hS hC1 hlen (r.getD i 0) (fun h2 hC3 hF2 => ⟨h2, rfl, rfl, by unfold oe_rg; omega, ?_⟩)
        rw [nx _ (by rw [if_neg (by omega)])] at hC3
        exact ih (i + 1) h2 (by omega) (by omega) hC3 (fun c a1 a2 => by rw [hF2 c a1 a2, hF c a1 a2])
  refine g102 (loop r.length 0 h (by omega) (Nat.zero_le _) ?_ (fun c _ _ => rfl))
  have e : l ++ ol_shift s (r.take 0) = l := by simp [ol_shift]
  rw [e]
  exact hC
theorem c_holdsV (hDD : 3 ≤ D) {a b ca cb : Nat} {l r : List Nat} (hS : LtS sh g a ca) (hT : LtS sh g b cb) (hC : LtC h a l) (hC2 : LtC h b r) (hl : l.length ≤ ca) (hr : r.length ≤ cb)
    (k1 : (∀ x ∈ r, x < 12 → x ∈ l) → Q (some (.inl 1)) (sh, g, h)) (k0 : (¬ ∀ x ∈ r, x < 12 → x ∈ l) → Q (some (.inl 0)) (sh, g, h)) : oe_M D 107 [.inr (.inl a), .inr (.inl b)] (sh, g, h) Q := by
  obtain ⟨d, rfl⟩ : ∃ d, D = d + 2 := ⟨D - 2, by omega⟩
  have hca := hS.2.2.2.2.2
  have hcb := hT.2.2.2.2.2
  have mem : ∀ (w : List Nat) (x : Nat), x ∈ w ↔ ∃ i, i < w.length ∧ w.getD i 0 = x := by
    intro w x
    constructor
    · intro hm
      obtain ⟨i, hi⟩ := List.getElem?_of_mem hm
      refine ⟨i, (List.getElem?_eq_some_iff.mp hi).1, ?_⟩
      rw [List.getD_eq_getElem?_getD, hi]; rfl
    · rintro ⟨i, h1, h2⟩
      rw [← h2, List.getD_eq_getElem?_getD, List.getElem?_eq_getElem h1]
      exact List.getElem_mem h1
  have w := hC2.1
  have loop : ∀ (n i : Nat), r.length - i = n → i ≤ r.length → (∀ j, j < i → r.getD j 0 < 12 → r.getD j 0 ∈ l) → oe_V (oe_cost 107) 107 (oe_M (d + 1)) none Q 2 [some (.inr (.inl a)), some (.inr (.inl b)), some (.inl (i : Int))] [] (sh, g, h) 0 0 := by
    intro n
    induction n with
    | zero =>
      intro i hn hi hj
      refine g107_2 ⟨hT.1, fun _ => k1 (fun x hx hx2 => ?_), fun c => by rw [w] at c; omega⟩
      obtain ⟨j, a1, a2⟩ := (mem r x).mp hx
      rw [← a2] at hx2 ⊢
      exact hj j (by omega) hx2
    | succ n ih =>
      intro i hn hi hj
      have cc : h (b + 1) ((i : Int)).toNat = ((r.getD i 0 : Nat) : Int) := by rw [Int.toNat_natCast, hC2.2 i (by omega)]
      refine g107_2 ⟨hT.1, fun c => by rw [w] at c; omega, fun _ => ⟨b + 1, hT.2.1, cb, hT.2.2.2.1, by omega, by omega, fun c1 => ⟨by omega, by omega, hS.1, ?_⟩, fun c1 => ⟨by unfold oe_rg; omega, ?_⟩⟩⟩
      · rw [cc] at c1 ⊢
        rw [hC.1]
        refine c_holds (by omega) hS hC hl (r.getD i 0) 0 l.length (Nat.le_refl _) (fun q => ⟨1, rfl, rfl, fun _ => ⟨by unfold oe_rg; omega, ?_⟩, fun c => absurd c (by decide)⟩) (fun q => ⟨0, rfl, rfl, fun c => absurd rfl c, fun _ => k0 (fun z => ?_)⟩)
        · refine ih (i + 1) (by omega) (by omega) (fun j hj1 hj2 => ?_)
          by_cases e : j = i
          · subst e
            obtain ⟨p, _, a2, a3⟩ := q
            exact (mem l _).mpr ⟨p, a2, a3⟩
          · exact hj j (by omega) hj2
        · obtain ⟨p, a2, a3⟩ := (mem l _).mp (z (r.getD i 0) ((mem r _).mpr ⟨i, by omega, rfl⟩) (by omega))
          exact q p (Nat.zero_le _) a2 a3
      · rw [cc] at c1
        refine ih (i + 1) (by omega) (by omega) (fun j hj1 hj2 => ?_)
        by_cases e : j = i
        · subst e; omega
        · exact hj j (by omega) hj2
  exact g107 (loop _ 0 rfl (Nat.zero_le _) (fun j hj => by omega))
/-- variables get names in turn -/
theorem c_rename (hDD : 2 ≤ D) {a ca m : Nat} {l : List Nat} (hS : LtS sh g a ca) (hm : sh[m]? = some (0, 12)) (hne : m ≠ a ∧ m ≠ a + 1 ∧ m ≠ a + 2) (hC : LtC h a l) (hl : l.length ≤ ca) (nm : Nat → Int) (hok : nm_ok nm) (hnm : ∀ v, v < 12 → h m v = nm v) (u : Nat) (hu : u ≤ 300)
    (k : ∀ h', LtC h' a (ol_ren l nm u).1 → (∀ v, v < 12 → h' m v = (ol_ren l nm u).2.1 v) → nm_ok (ol_ren l nm u).2.1 → (∀ c, c ≠ m → c ≠ a + 1 → h' c = h c) → Q (some (.inl (((ol_ren l nm u).2.2 : Nat) : Int))) (sh, g, h')) : oe_M D 108 [.inr (.inl a), .inr (.inl m), .inl (u : Int)] (sh, g, h) Q := by
  obtain ⟨d, rfl⟩ : ∃ d, D = d + 2 := ⟨D - 2, by omega⟩
  have hca := hS.2.2.2.2.2
  have loop : ∀ (n i : Nat) (h1 : Nat → Nat → Int), l.length - i = n → i ≤ l.length → LtC h1 a ((ol_ren (l.take i) nm u).1 ++ l.drop i) → (∀ v, v < 12 → h1 m v = (ol_ren (l.take i) nm u).2.1 v) → nm_ok (ol_ren (l.take i) nm u).2.1 → (∀ c, c ≠ m → c ≠ a + 1 → h1 c = h c) →
      oe_V (oe_cost 108) 108 (oe_M (d + 1)) none Q 5 [some (.inr (.inl a)), some (.inr (.inl m)), none, some (.inl (((ol_ren (l.take i) nm u).2.2 : Nat) : Int)), some (.inl (i : Int)), none] [] (sh, g, h1) 0 0 := by
    intro n
    induction n with
    | zero =>
      intro i h1 hn hi hC1 hN hO hF
      have w : h1 a 2 = ((l.length : Nat) : Int) := by rw [hC1.1, List.length_append, ol_ren_len, List.length_take, List.length_drop]; omega
      refine g108_5 ⟨hS.1, fun _ => ?_, fun c => by rw [w] at c; omega⟩
      rw [List.take_of_length_le (by omega), List.drop_eq_nil_of_le (by omega), List.append_nil] at hC1
      rw [List.take_of_length_le (by omega)] at hN hO ⊢
      exact k h1 hC1 hN hO hF
    | succ n ih =>
      intro i h1 hn hi hC1 hN hO hF
      have hlen : (ol_ren (l.take i) nm u).1.length = i := by rw [ol_ren_len, List.length_take]; omega
      have w : h1 a 2 = ((l.length : Nat) : Int) := by rw [hC1.1, List.length_append, hlen, List.length_drop]; omega
      have cc : h1 (a + 1) i = ((l.getD i 0 : Nat) : Int) := by
        rw [hC1.2 i (by rw [List.length_append, hlen, List.length_drop]; omega), ol_getD_app2 (by omega), hlen, Nat.sub_self, ol_drop_cons (by omega)]; rfl
      have stp : ol_ren (l.take (i + 1)) nm u = ((ol_ren (l.take i) nm u).1 ++ (ol_ren [l.getD i 0] (ol_ren (l.take i) nm u).2.1 (ol_ren (l.take i) nm u).2.2).1, (ol_ren [l.getD i 0] (ol_ren (l.take i) nm u).2.1 (ol_ren (l.take i) nm u).2.2).2) := by
        rw [ol_take_succ (by omega), ol_ren_app]
      have gu := ol_ren_ge (l.take i) nm u
      rw [List.length_take] at gu
      rw [ol_ren_one] at stp
      -- a letter is written anew
      have wr : ∀ (x : Nat) (h2 h3 : Nat → Nat → Int), (∀ c, c ≠ m → c ≠ a + 1 → h2 c = h1 c) → h2 (a + 1) = h1 (a + 1) → h3 = oe_up h2 (a + 1) i (x : Int) → LtC h3 a ((ol_ren (l.take i) nm u).1 ++ [x] ++ l.drop (i + 1)) := by
        intro x h2 h3 f1 f2 e3
        refine ⟨?_, fun p hp => ?_⟩
        · rw [e3, up_ne (by omega), f1 a (by omega) (by omega), w, List.length_append, List.length_append, hlen, List.length_drop]
          simp only [List.length_cons, List.length_nil]; omega
        · rw [List.length_append, List.length_append, hlen, List.length_drop] at hp
          simp only [List.length_cons, List.length_nil] at hp
          rw [e3]
          by_cases e : p = i
          · subst e
            rw [up_eq, ol_getD_app1 (by rw [List.length_append, hlen]; simp), ol_getD_app2 (by omega), hlen, Nat.sub_self]; rfl
          · rw [up_col e, f2, hC1.2 p (by rw [List.length_append, hlen, List.length_drop]; omega)]
            by_cases e2 : p < i
            · rw [ol_getD_app1 (by omega), List.append_assoc, ol_getD_app1 (by omega)]
            · rw [ol_getD_app2 (by omega), ol_getD_app2 (by rw [List.length_append, hlen]; simp; omega), hlen, List.length_append, hlen, ol_drop_cons (i := i) (by omega)]
              simp only [List.length_cons, List.length_nil]
              rw [show p - i = (p - (i + (0 + 1))) + 1 by omega]; rfl
      refine g108_5 ⟨hS.1, fun c => by rw [w] at c; omega, fun _ => ⟨a + 1, hS.2.1, ca, hS.2.2.2.1, by omega, by omega, fun c1 => ⟨12, hm, ?_⟩, fun c1 => ⟨by unfold oe_rg; omega, ?_⟩⟩⟩
      · rw [Int.toNat_natCast, cc] at c1 ⊢
        rw [Int.toNat_natCast, hN _ (by omega)]
        have hv := hO (l.getD i 0)
        refine ⟨by omega, by omega, fun c2 => ⟨by omega, by omega, by omega, by omega, fun h2 e2 => ⟨by unfold oe_rg; omega, ?_⟩⟩, fun c2 => ⟨by omega, by omega, fun h2 e2 => ⟨by unfold oe_rg; omega, by omega, by omega, by omega, by omega, fun h3 e3 => ⟨by unfold oe_rg; omega, ?_⟩⟩⟩⟩
        · rw [if_pos (by omega), if_neg c2] at stp
          have nn : (((ol_ren (l.take i) nm u).2.1 (l.getD i 0)).toNat : Int) = (ol_ren (l.take i) nm u).2.1 (l.getD i 0) := by
            rcases hv with q | q
            · exact absurd q c2
            · omega
          have L := wr ((ol_ren (l.take i) nm u).2.1 (l.getD i 0)).toNat h1 h2 (fun _ _ _ => rfl) rfl (by rw [nn]; exact e2)
          have nx := ih (i + 1) h2 (by omega) (by omega)
          rw [stp] at nx
          exact nx L (fun v hv' => by rw [e2, up_ne (by omega)]; exact hN v hv') hO (fun c a1 a2 => by rw [e2, up_ne a2]; exact hF c a1 a2)
        · rw [if_pos (by omega), if_pos c2] at stp
          have e2' : ∀ v, h2 m v = if v = l.getD i 0 then (((ol_ren (l.take i) nm u).2.2 : Nat) : Int) else h1 m v := by
            intro v
            rw [e2]
            split
            · rename_i q; rw [q, up_eq]
            · rename_i q; rw [up_col q]
          rw [e2' (l.getD i 0), if_pos rfl] at e3
          have L := wr (ol_ren (l.take i) nm u).2.2 h2 h3 (fun c a1 a2 => by rw [e2, up_ne a1]) (by rw [e2, up_ne (by omega)]) e3
          have nx := ih (i + 1) h3 (by omega) (by omega)
          rw [stp] at nx
          refine nx L (fun v hv' => ?_) (nm_ok_upd hO (by omega)) (fun c a1 a2 => by rw [e3, up_ne a2, e2, up_ne a1]; exact hF c a1 a2)
          rw [e3, up_ne (by omega), e2' v]
          dsimp only
          split
          · rfl
          · exact hN v hv'
      · rw [Int.toNat_natCast, cc] at c1
        rw [if_neg (by omega)] at stp
        have nx := ih (i + 1) h1 (by omega) (by omega)
        rw [stp] at nx
        refine nx ?_ hN hO hF
        have e9 : (ol_ren (l.take i) nm u).1 ++ [l.getD i 0] ++ l.drop (i + 1) = (ol_ren (l.take i) nm u).1 ++ l.drop i := by
          rw [List.append_assoc, ol_drop_cons (i := i) (by omega)]; rfl
        show LtC h1 a ((ol_ren (l.take i) nm u).1 ++ [l.getD i 0] ++ l.drop (i + 1))
        rw [e9]
        exact hC1
  refine g108 (loop l.length 0 h (by omega) (Nat.zero_le _) hC (fun v hv => hnm v hv) hok (fun c _ _ => rfl))
end
