/-! Reading the text (class). -/
theorem cd_ok (c : Int) : oe_cdOf c = -1 ∨ (0 ≤ oe_cdOf c ∧ (oe_cdOf c < 6 ∨ (12 ≤ oe_cdOf c ∧ oe_cdOf c < 20))) := by
  by_cases h1 : (117 : Int) = c
  · subst h1; right; decide
  by_cases h2 : (118 : Int) = c
  · subst h2; right; decide
  by_cases h3 : (119 : Int) = c
  · subst h3; right; decide
  by_cases h4 : (120 : Int) = c
  · subst h4; right; decide
  by_cases h5 : (121 : Int) = c
  · subst h5; right; decide
  by_cases h6 : (122 : Int) = c
  · subst h6; right; decide
  by_cases h7 : (100 : Int) = c
  · subst h7; right; decide
  by_cases h8 : (99 : Int) = c
  · subst h8; right; decide
  by_cases h9 : (98 : Int) = c
  · subst h9; right; decide
  by_cases h10 : (97 : Int) = c
  · subst h10; right; decide
  by_cases h11 : (103 : Int) = c
  · subst h11; right; decide
  by_cases h12 : (102 : Int) = c
  · subst h12; right; decide
  by_cases h13 : (113 : Int) = c
  · subst h13; right; decide
  by_cases h14 : (112 : Int) = c
  · subst h14; right; decide
  left
  simp [oe_cdOf, oe_cdl, oe_sgl, oe_ixf, h1, h2, h3, h4, h5, h6, h7, h8, h9, h10, h11, h12, h13, h14]
/-- reading: from a place on, the side, what is missing, both sides so far; a fault's place, or what was read -/
def ol_rd (be bv : Bool) : List Nat → Nat → Bool → Nat → List Nat → List Nat → Sum Nat (List Nat × List Nat)
  | [], i, on, ms, L, R => if 0 < ms ∨ (be = true ∧ on = false) then .inl i else .inr (L, R)
  | c :: cs, i, on, ms, L, R =>
    if ms = 0 then (if be = false ∨ on = true ∨ c ≠ 61 then .inl i else ol_rd be bv cs (i + 1) true 1 L R)
    else if oe_cdOf (c : Int) = -1 ∨ (bv = false ∧ oe_cdOf (c : Int) < 12) then .inl i
    else if on = true then ol_rd be bv cs (i + 1) on (ms - 1 + ol_ar (oe_cdOf (c : Int)).toNat) L (R ++ [(oe_cdOf (c : Int)).toNat])
    else ol_rd be bv cs (i + 1) on (ms - 1 + ol_ar (oe_cdOf (c : Int)).toNat) (L ++ [(oe_cdOf (c : Int)).toNat]) R
def rd_ok (l : List Nat) : Prop := ∀ c ∈ l, c < 6 ∨ (12 ≤ c ∧ c < 20)
theorem rd_ok_app {l : List Nat} {x : Nat} (h : rd_ok l) (hx : x < 6 ∨ (12 ≤ x ∧ x < 20)) : rd_ok (l ++ [x]) := by
  intro c hc
  rcases List.mem_append.mp hc with z | z
  · exact h c z
  · rw [List.mem_singleton.mp z]; exact hx
theorem ol_ms_snoc {l : List Nat} {n m : Nat} (h : ol_ms n l = some (m + 1)) (x : Nat) : ol_ms n (l ++ [x]) = some (m + ol_ar x) := by
  rw [ol_ms_app, h]
  rfl
/-- what is read is made of terms -/
theorem ol_rd_ok {be bv : Bool} : ∀ (cs : List Nat) (i : Nat) (on : Bool) (ms : Nat) (L R L' R' : List Nat), ol_rd be bv cs i on ms L R = .inr (L', R') → rd_ok L → rd_ok R → (on = false → ol_ms 1 L = some ms ∧ R = []) → (on = true → ol_ms 1 L = some 0 ∧ ol_ms 1 R = some ms) →
    rd_ok L' ∧ rd_ok R' ∧ ol_tm L' ∧ (be = true → ol_tm R') ∧ L'.length + R'.length ≤ L.length + R.length + cs.length
  | [], i, on, ms, L, R, L', R', h, h1, h2, h3, h4 => by
    unfold ol_rd at h
    split at h
    · cases h
    · rename_i c
      cases h
      have m0 : ms = 0 := by omega
      subst m0
      refine ⟨h1, h2, ?_, fun hb => ?_, by simp⟩
      · rw [ol_tm_ms]
        cases on with
        | false => exact (h3 rfl).1
        | true => exact (h4 rfl).1
      · cases on with
        | false => exact absurd (Or.inr ⟨hb, rfl⟩) c
        | true => rw [ol_tm_ms]; exact (h4 rfl).2
  | c :: cs, i, on, ms, L, R, L', R', h, h1, h2, h3, h4 => by
    unfold ol_rd at h
    split at h
    · rename_i m0
      split at h
      · cases h
      · rename_i q
        have on0 : on = false := by
          cases on with
          | false => rfl
          | true => exact absurd (Or.inr (Or.inl rfl)) q
        subst on0
        obtain ⟨a1, a2⟩ := h3 rfl
        have := ol_rd_ok cs (i + 1) true 1 L R L' R' h h1 h2 (fun z => by cases z) (fun _ => ⟨by rw [a1, m0], by rw [a2]; rfl⟩)
        obtain ⟨b1, b2, b3, b4, b5⟩ := this
        exact ⟨b1, b2, b3, b4, by rw [List.length_cons]; omega⟩
    · rename_i m0
      split at h
      · cases h
      · rename_i q
        have cok := cd_ok (c : Int)
        have xok : (oe_cdOf (c : Int)).toNat < 6 ∨ (12 ≤ (oe_cdOf (c : Int)).toNat ∧ (oe_cdOf (c : Int)).toNat < 20) := by
          rcases cok with z | z
          · exact absurd (Or.inl z) q
          · omega
        split at h
        · rename_i o1
          obtain ⟨a1, a2⟩ := h4 o1
          have := ol_rd_ok cs (i + 1) on _ L (R ++ [(oe_cdOf (c : Int)).toNat]) L' R' h h1 (rd_ok_app h2 xok) (fun z => by rw [o1] at z; cases z) (fun _ => ⟨a1, ol_ms_snoc (by rw [a2]; congr 1; omega) _⟩)
          obtain ⟨b1, b2, b3, b4, b5⟩ := this
          exact ⟨b1, b2, b3, b4, by rw [List.length_append] at b5; rw [List.length_cons]; simp at b5; omega⟩
        · rename_i o1
          have on0 : on = false := by
            cases on with
            | false => rfl
            | true => exact absurd rfl o1
          obtain ⟨a1, a2⟩ := h3 on0
          have := ol_rd_ok cs (i + 1) on _ (L ++ [(oe_cdOf (c : Int)).toNat]) R L' R' h (rd_ok_app h1 xok) h2 (fun _ => ⟨ol_ms_snoc (by rw [a1]; congr 1; omega) _, a2⟩) (fun z => by rw [on0] at z; cases z)
          obtain ⟨b1, b2, b3, b4, b5⟩ := this
          exact ⟨b1, b2, b3, b4, by rw [List.length_append] at b5; rw [List.length_cons]; simp at b5; omega⟩
def b01 (b : Bool) : Int := if b = true then 1 else 0
section
variable {D : Nat} {sh : List (Nat × Nat)} {g : Nat → Nat → Option Nat} {h : Nat → Nat → Int} {Q : oeQ}
theorem c_code (hDD : 7 ≤ D) (c : Nat) (hc : c < 65536) (k : Q (some (.inl (oe_cdOf (c : Int)))) (sh, g, h)) : oe_M D 900 [.inl (c : Int)] (sh, g, h) Q := by
  obtain ⟨d, rfl⟩ : ∃ d, D = d + 1 := ⟨D - 1, by omega⟩
  exact Or.inl ⟨by omega, by omega, by omega, k⟩
/-- the text as typed -/
def OeT (h : Nat → Nat → Int) (T : List Nat) : Prop := h 0 1 = ((T.length : Nat) : Int) ∧ T.length ≤ 60 ∧ (∀ i, i < T.length → h 1 i = ((T.getD i 0 : Nat) : Int)) ∧ ∀ c ∈ T, c < 127
set_option maxHeartbeats 1000000 in
theorem c_read (hDD : 12 ≤ D) {π : Nat → Nat} {T : List Nat} (hO : OeS sh g π) (hT : OeT h T) (be bv : Bool)
    (kf : ∀ i h', ol_rd be bv T 0 false 1 [] [] = .inl i → h' 0 1 = 0 → (∀ j, j ≠ 1 → h' 0 j = h 0 j) → (∀ c, c ≠ 0 → c < 326 ∨ 333 ≤ c → h' c = h c) → Q (some (.inl (i : Int))) (sh, g, h'))
    (k : ∀ q h', ol_rd be bv T 0 false 1 [] [] = .inr q → EqC h' 326 q → EqE h' 326 q → h' 0 1 = 0 → (∀ j, j ≠ 1 → h' 0 j = h 0 j) → (∀ c, c ≠ 0 → c < 326 ∨ 333 ≤ c → h' c = h c) → Q (some (.inl (-1))) (sh, g, h')) :
    oe_M D 18 [.inr (.inl 0), .inl (b01 be), .inl (b01 bv)] (sh, g, h) Q := by
  obtain ⟨d, rfl⟩ : ∃ d, D = d + 2 := ⟨D - 2, by omega⟩
  obtain ⟨o0, ⟨p1, p2, _⟩, _, _, _, _, ⟨r1, r2⟩, _⟩ := hO
  obtain ⟨e0, e1, e2, e3⟩ := hT
  generalize hRD : ol_rd be bv T 0 false 1 [] [] = RD at kf k
  have tlt : ∀ i, i < T.length → T.getD i 0 < 127 := fun i hi => e3 _ (by rw [List.getD_eq_getElem?_getD, List.getElem?_eq_getElem hi]; exact List.getElem_mem hi)
  have loop : ∀ (n i : Nat) (on : Bool) (ms : Nat) (L R : List Nat) (h1 : Nat → Nat → Int), T.length - i = n → i ≤ T.length → ms ≤ 1 + i → L.length + R.length ≤ i → ol_rd be bv (T.drop i) i on ms L R = RD → LtC h1 327 L → LtC h1 330 R → h1 0 1 = 0 → (∀ j, j ≠ 1 → h1 0 j = h 0 j) → (∀ c, c ≠ 0 → c < 326 ∨ 333 ≤ c → h1 c = h c) →
      oe_V (oe_cost 18) 18 (oe_M (d + 1)) none Q 39 [some (.inr (.inl 0)), some (.inl (b01 be)), some (.inl (b01 bv)), some (.inl ((T.length : Nat) : Int)), some (.inl (b01 on)), some (.inl (ms : Int)), some (.inl (i : Int)), none] [] (sh, g, h1) 0 0 := by
    intro n
    induction n with
    | zero =>
      intro i on ms L R h1 hn hi hms hLR hR CL CR t0 fo fr
      have hi2 : i = T.length := by omega
      rw [List.drop_eq_nil_of_le (by omega)] at hR
      unfold ol_rd at hR
      have fin : ¬ (0 < ms ∨ (be = true ∧ on = false)) → oe_M (d + 1) 103 [.inr (.inl 327)] (sh, g, h1) (fun r hp => ∃ (h24 : Nat → Nat → Int), r = none ∧ hp = (sh, g, h24) ∧ ∃ q26, g 326 1 = some q26 ∧ sh[q26]? = some (8, 3) ∧ oe_M (d + 1) 103 [.inr (.inl q26)] (sh, g, h24) (fun r hp => ∃ (h28 : Nat → Nat → Int), r = none ∧ hp = (sh, g, h28) ∧ Q (some (.inl (-1))) (sh, g, h28))) := by
        intro hz
        rw [if_neg hz] at hR
        refine c_close (by omega) r2.2.2.2.1 CL (by omega) (fun h2 C2 E2 F2 => ⟨h2, rfl, rfl, 330, r2.2.2.1, r2.2.2.2.2.1, ?_⟩)
        refine c_close (by omega) r2.2.2.2.2 (CR.kept (F2 _ (by omega)) (F2 _ (by omega))) (by omega) (fun h3 C3 E3 F3 => ⟨h3, rfl, rfl, ?_⟩)
        exact k (L, R) h3 hR.symm ⟨C2.kept (F3 _ (by omega)) (F3 _ (by omega)), C3⟩ ⟨E2.kept (F3 _ (by omega)), E3⟩ (by rw [F3 _ (by omega), F2 _ (by omega)]; exact t0) (fun j hj => by rw [F3 _ (by omega), F2 _ (by omega)]; exact fo j hj) (fun c z1 z2 => by rw [F3 c (by omega), F2 c (by omega), fr c z1 z2])
      have flt : (0 < ms ∨ (be = true ∧ on = false)) → Q (some (.inl ((T.length : Nat) : Int))) (sh, g, h1) := by
        intro hz
        rw [if_pos hz] at hR
        rw [← hi2]
        exact kf i h1 hR.symm t0 fo fr
      refine g18_39 ⟨fun _ => ⟨fun c => flt (Or.inl (by omega)), fun c => ⟨fun c2 => ⟨o0, 326, r1, r2.1, 327, r2.2.1, r2.2.2.2.1.1, fin (fun z => ?_)⟩, fun c2 => ⟨fun c3 => ⟨o0, 326, r1, r2.1, 327, r2.2.1, r2.2.2.2.1.1, fin (fun z => ?_)⟩, fun c3 => flt (Or.inr ⟨?_, ?_⟩)⟩⟩⟩, fun c => by omega⟩
      · rcases z with z | z
        · omega
        · rw [z.1] at c2; exact absurd c2 (by decide)
      · rcases z with z | z
        · omega
        · rw [z.2] at c3; exact absurd rfl c3
      · cases be with
        | false => exact absurd rfl c2
        | true => rfl
      · cases on with
        | false => rfl
        | true => exact absurd c3 (by decide)
    | succ n ih =>
      intro i on ms L R h1 hn hi hms hLR hR CL CR t0 fo fr
      have hil : i < T.length := by omega
      rw [ol_drop_cons hil] at hR
      unfold ol_rd at hR
      have tc : h1 1 ((i : Int)).toNat = ((T.getD i 0 : Nat) : Int) := by rw [Int.toNat_natCast, fr 1 (by omega) (by omega)]; exact e2 i hil
      have clt := tlt i hil
      have i1 : ((i : Int) + 1) = ((i + 1 : Nat) : Int) := by omega
      generalize T.getD i 0 = c at *
      have fault : ∀ z : RD = .inl i, Q (some (.inl (i : Int))) (sh, g, h1) := fun z => kf i h1 z t0 fo fr
      refine g18_39 ⟨fun q => by omega, fun _ => ⟨fun m0 => ⟨o0, 1, p1, 60, p2, by omega, by omega, ?_⟩, fun m0 => ⟨fun c2 => ?_, fun c2 => ⟨fun c3 => ?_, fun c3 => ⟨o0, 1, p1, 60, p2, by omega, by omega, ?_⟩⟩⟩⟩⟩
      · rw [if_neg (show ¬ ms = 0 by omega)] at hR
        rw [tc]
        refine c_code (by omega) c (by omega) ⟨_, h1, rfl, rfl, fun z => ?_, fun z => ?_⟩
        · rw [if_pos (Or.inl z)] at hR
          exact fault hR.symm
        have cok := cd_ok (c : Int)
        obtain ⟨x, hx⟩ : ∃ x : Nat, oe_cdOf (c : Int) = (x : Int) := ⟨(oe_cdOf (c : Int)).toNat, by rcases cok with w | w; exact absurd w z; omega⟩
        rw [hx] at hR z cok ⊢
        rw [Int.toNat_natCast] at hR
        have arx := ar_le x
        -- the letter is taken, on this side or that
        have takeL : on = false → ¬ ((x : Int) = -1 ∨ (bv = false ∧ (x : Int) < 12)) → oe_M (d + 1) 101 [.inr (.inl 327), .inl (x : Int)] (sh, g, h1) (fun r hp => ∃ (h61 : Nat → Nat → Int), r = none ∧ hp = (sh, g, h61) ∧ oe_M (d + 1) 17 [.inl (x : Int)] (sh, g, h61) (fun r hp => ∃ (x63 : Int), r = some (.inl x63) ∧ hp = (sh, g, h61) ∧ oe_rg (x63 - 1) ∧ oe_rg ((ms : Int) + (x63 - 1)) ∧ oe_rg ((i : Int) + 1) ∧ oe_V (oe_cost 18) 18 (oe_M (d + 1)) none Q 39 [some (.inr (.inl 0)), some (.inl (b01 be)), some (.inl (b01 bv)), some (.inl ((T.length : Nat) : Int)), some (.inl (b01 on)), some (.inl ((ms : Int) + (x63 - 1))), some (.inl ((i : Int) + 1)), none] [] (sh, g, h61) 0 0)) := by
          intro on0 hz
          rw [if_neg hz, if_neg (show ¬ on = true by rw [on0]; decide)] at hR
          refine c_append (by omega) r2.2.2.2.1 CL (by omega) x (fun h2 C2 F2 => ⟨h2, rfl, rfl, ?_⟩)
          refine c_args (by omega) x ⟨_, rfl, rfl, by unfold oe_rg; omega, by unfold oe_rg; omega, by unfold oe_rg; omega, ?_⟩
          rw [i1, show (ms : Int) + (((ol_ar x : Nat) : Int) - 1) = ((ms - 1 + ol_ar x : Nat) : Int) by omega]
          exact ih (i + 1) on _ (L ++ [x]) R h2 (by omega) (by omega) (by omega) (by rw [List.length_append]; simp; omega) hR C2 (CR.kept (F2 _ (by omega) (by omega)) (F2 _ (by omega) (by omega))) (by rw [F2 _ (by omega) (by omega)]; exact t0) (fun j hj => by rw [F2 _ (by omega) (by omega)]; exact fo j hj) (fun c z1 z2 => by rw [F2 c (by omega) (by omega), fr c z1 z2])
        have takeR : on = true → ¬ ((x : Int) = -1 ∨ (bv = false ∧ (x : Int) < 12)) → oe_M (d + 1) 101 [.inr (.inl 330), .inl (x : Int)] (sh, g, h1) (fun r hp => ∃ (h61 : Nat → Nat → Int), r = none ∧ hp = (sh, g, h61) ∧ oe_M (d + 1) 17 [.inl (x : Int)] (sh, g, h61) (fun r hp => ∃ (x63 : Int), r = some (.inl x63) ∧ hp = (sh, g, h61) ∧ oe_rg (x63 - 1) ∧ oe_rg ((ms : Int) + (x63 - 1)) ∧ oe_rg ((i : Int) + 1) ∧ oe_V (oe_cost 18) 18 (oe_M (d + 1)) none Q 39 [some (.inr (.inl 0)), some (.inl (b01 be)), some (.inl (b01 bv)), some (.inl ((T.length : Nat) : Int)), some (.inl (b01 on)), some (.inl ((ms : Int) + (x63 - 1))), some (.inl ((i : Int) + 1)), none] [] (sh, g, h61) 0 0)) := by
          intro on0 hz
          rw [if_neg hz, if_pos on0] at hR
          refine c_append (by omega) r2.2.2.2.2 CR (by omega) x (fun h2 C2 F2 => ⟨h2, rfl, rfl, ?_⟩)
          refine c_args (by omega) x ⟨_, rfl, rfl, by unfold oe_rg; omega, by unfold oe_rg; omega, by unfold oe_rg; omega, ?_⟩
          rw [i1, show (ms : Int) + (((ol_ar x : Nat) : Int) - 1) = ((ms - 1 + ol_ar x : Nat) : Int) by omega]
          exact ih (i + 1) on _ L (R ++ [x]) h2 (by omega) (by omega) (by omega) (by rw [List.length_append]; simp; omega) hR (CL.kept (F2 _ (by omega) (by omega)) (F2 _ (by omega) (by omega))) C2 (by rw [F2 _ (by omega) (by omega)]; exact t0) (fun j hj => by rw [F2 _ (by omega) (by omega)]; exact fo j hj) (fun c z1 z2 => by rw [F2 c (by omega) (by omega), fr c z1 z2])
        have onv : ∀ w : b01 on = 0, on = false := fun w => by cases on with | false => rfl | true => exact absurd w (by decide)
        have ont : ∀ w : b01 on ≠ 0, on = true := fun w => by cases on with | false => exact absurd rfl w | true => rfl
        refine ⟨fun w => ?_, fun w => ?_⟩
        · have hz : ¬ ((x : Int) = -1 ∨ (bv = false ∧ (x : Int) < 12)) := by
            intro y
            rcases y with y | y
            · exact z y
            · rw [y.1] at w; exact absurd rfl w
          exact ⟨fun w2 => ⟨326, r1, r2.1, 327, r2.2.1, r2.2.2.2.1.1, takeL (onv w2) hz⟩, fun w2 => ⟨326, r1, r2.1, 330, r2.2.2.1, r2.2.2.2.2.1, takeR (ont w2) hz⟩⟩
        · have bv0 : bv = false := by cases bv with | false => rfl | true => exact absurd w (by decide)
          refine ⟨fun w2 => ?_, fun w2 => ?_⟩
          · rw [if_pos (Or.inr ⟨bv0, w2⟩)] at hR
            exact fault hR.symm
          · have hz : ¬ ((x : Int) = -1 ∨ (bv = false ∧ (x : Int) < 12)) := by
              intro y
              rcases y with y | y
              · exact z y
              · omega
            exact ⟨fun w3 => ⟨326, r1, r2.1, 327, r2.2.1, r2.2.2.2.1.1, takeL (onv w3) hz⟩, fun w3 => ⟨326, r1, r2.1, 330, r2.2.2.1, r2.2.2.2.2.1, takeR (ont w3) hz⟩⟩
      · have be0 : be = false := by cases be with | false => rfl | true => exact absurd c2 (by decide)
        rw [if_pos (show ms = 0 by omega), if_pos (Or.inl be0)] at hR
        exact fault hR.symm
      · have on1 : on = true := by cases on with | false => exact absurd rfl c3 | true => rfl
        rw [if_pos (show ms = 0 by omega), if_pos (Or.inr (Or.inl on1))] at hR
        exact fault hR.symm
      · rw [tc]
        rw [if_pos (show ms = 0 by omega)] at hR
        refine ⟨fun w => ⟨by unfold oe_rg; omega, ?_⟩, fun w => ?_⟩
        · rw [if_neg (by
            intro y
            rcases y with y | y | y
            · rw [y] at c2; exact absurd rfl c2
            · rw [y] at c3; exact absurd c3 (by decide)
            · omega)] at hR
          rw [i1]
          exact ih (i + 1) true 1 L R h1 (by omega) (by omega) (by omega) (by omega) hR CL CR t0 fo fr
        · rw [if_pos (Or.inr (Or.inr (by omega)))] at hR
          exact fault hR.symm
  refine g18 ⟨o0, fun h2 eh2 => ⟨326, r1, r2.1, 327, r2.2.1, r2.2.2.2.1.1, c_empty (by omega) r2.2.2.2.1 (fun h3 eh3 => ⟨h3, rfl, rfl, 330, r2.2.2.1, r2.2.2.2.2.1, c_empty (by omega) r2.2.2.2.2 (fun h4 eh4 => ⟨h4, rfl, rfl, ?_⟩)⟩)⟩⟩
  rw [e0]
  refine loop T.length 0 false 1 [] [] h4 (by omega) (Nat.zero_le _) (by omega) (Nat.zero_le _) (by rw [List.drop_zero]; exact hRD) ⟨?_, fun i hi => by cases hi⟩ ⟨?_, fun i hi => by cases hi⟩ ?_ (fun j hj => ?_) (fun c z1 z2 => ?_)
  · rw [eh4, up_ne (by omega), eh3, up_eq]; rfl
  · rw [eh4, up_eq]; rfl
  · rw [eh4, up_ne (by omega), eh3, up_ne (by omega), eh2, up_eq]
  · rw [eh4, up_ne (by omega), eh3, up_ne (by omega), eh2, up_col hj]
  · rw [eh4, up_ne (by omega), eh3, up_ne (by omega), eh2, up_ne z1]
end
