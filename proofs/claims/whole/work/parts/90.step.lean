/-! A step (class). -/
theorem ol_try_vars {eqs : List (List Nat × List Nat)} {l l' : List Nat} {p k : Nat} (h : ol_try eqs l p k = some l') : ∀ c ∈ l', c < 12 → c ∈ l := by
  unfold ol_try at h
  split at h
  · cases h
  · rename_i b hb
    split at h
    · cases h
    · rename_i rep hr
      split at h
      · cases h
        obtain ⟨e1, _, _⟩ := ol_fi_eq _ _ _ hr
        rw [List.nil_append] at e1
        intro c hc h12
        rcases List.mem_append.mp hc with z | z
        · rcases List.mem_append.mp z with z | z
          · exact List.mem_of_mem_take z
          · rw [e1] at z
            unfold ol_inst at z
            obtain ⟨x, hx, z⟩ := List.mem_flatMap.mp z
            split at z
            · unfold ol_sub at z
              exact List.mem_of_mem_drop (List.mem_of_mem_take z)
            · rename_i q
              rw [List.mem_singleton] at z
              omega
        · exact List.mem_of_mem_drop z
      · cases h
theorem fs_mem {α β : Type} {f : α → Option β} {y : β} : ∀ {l : List α}, l.findSome? f = some y → ∃ x ∈ l, f x = some y
  | [], h => by cases h
  | a :: l, h => by
    rw [List.findSome?_cons] at h
    split at h
    · rename_i b hb
      cases h
      exact ⟨a, List.mem_cons_self, hb⟩
    · obtain ⟨x, h1, h2⟩ := fs_mem h
      exact ⟨x, List.mem_cons_of_mem _ h1, h2⟩
theorem ol_low_vars {eqs : List (List Nat × List Nat)} : ∀ (n : Nat) (l : List Nat), ∀ c ∈ (ol_low eqs n l).1, c < 12 → c ∈ l
  | 0, l => fun c hc _ => hc
  | n + 1, l => by
    intro c hc h12
    unfold ol_low at hc
    split at hc
    · exact hc
    · rename_i l' hl'
      have hc : c ∈ (ol_low eqs n l').1 := hc
      have := ol_low_vars n l' c hc h12
      unfold ol_once at hl'
      obtain ⟨p, _, h2⟩ := fs_mem hl'
      unfold ol_place at h2
      obtain ⟨k, _, h3⟩ := fs_mem h2
      exact ol_try_vars h3 c this h12
theorem rn_cnt_6 {nm : Nat → Int} (h : ∀ v, 6 ≤ v → nm v = -1) : ∀ n, rn_cnt nm n ≤ 6
  | 0 => by simp [rn_cnt]
  | n + 1 => by
    simp only [rn_cnt]
    by_cases e : 6 ≤ n
    · rw [if_pos (h n e)]; exact rn_cnt_6 h n
    · have := rn_cnt_le nm n
      split <;> omega
theorem ol_ren_6 : ∀ (l : List Nat) (nm : Nat → Int) (u : Nat), (∀ c ∈ l, c < 12 → c < 6) → (∀ v, 6 ≤ v → nm v = -1) → ∀ v, 6 ≤ v → (ol_ren l nm u).2.1 v = -1
  | [], nm, u, _, h => h
  | c :: l, nm, u, hl, h => by
    have hl' : ∀ c ∈ l, c < 12 → c < 6 := fun x hx => hl x (List.mem_cons_of_mem _ hx)
    unfold ol_ren
    by_cases hc : c < 12
    · have c6 := hl c List.mem_cons_self hc
      rw [if_pos hc]
      by_cases hn : nm c = -1
      · rw [if_pos hn]
        exact ol_ren_6 l _ _ hl' (fun v hv => by try dsimp only
                                                 rw [if_neg (by omega)]; exact h v hv)
      · rw [if_neg hn]
        exact ol_ren_6 l nm u hl' h
    · rw [if_neg hc]
      exact ol_ren_6 l nm u hl' h
theorem ol_nm_6 {q : List Nat × List Nat} (h1 : ∀ c ∈ q.1, c < 12 → c < 6) (h2 : ∀ c ∈ q.2, c < 12 → c < 6) : (ol_nm q).2 ≤ 6 := by
  obtain ⟨a1, _, _⟩ := ol_ren_ok q.1 _ 0 rn_ok_start
  obtain ⟨b1, _, _⟩ := ol_ren_ok q.2 _ _ a1
  have := ol_ren_6 q.2 _ (ol_ren q.1 (fun _ => -1) 0).2.2 h2 (ol_ren_6 q.1 (fun _ => -1) 0 h1 (fun v _ => rfl))
  show (ol_ren q.2 _ _).2.2 ≤ 6
  rw [← b1.1]
  exact rn_cnt_6 this 12
/-- what waits, what is active, the goal, how many are lost -/
abbrev abS : Type := List (List Nat × List Nat) × List (List Nat × List Nat) × Option (List Nat × List Nat) × Nat
def ab_proved (gl : Option (List Nat × List Nat)) : Prop := ∃ q, gl = some q ∧ q.1 = q.2
/-- a step: its answer, and what is after it; i is the place of the lightest -/
noncomputable def ab_step (s : abS) (i : Nat) : Nat × abS :=
  @ite _ (ab_proved s.2.2.1) (Classical.propDecidable _) (1, s)
  (if s.1.length = 0 then (0, s) else
   (if (ab_low s.2.1 (s.1.getD i ([], []))).1 = (ab_low s.2.1 (s.1.getD i ([], []))).2 ∨ 20 < ol_w (ab_low s.2.1 (s.1.getD i ([], []))) then (3, (s.1.eraseIdx i, s.2))
    else @ite _ (ab_in s.2.1 (ol_nm (ab_low s.2.1 (s.1.getD i ([], [])))).1) (Classical.propDecidable _) (3, (s.1.eraseIdx i, s.2))
     (if s.2.1.length = 10 then (4, (s.1.eraseIdx i, s.2)) else
      (@ite _ (ab_proved (s.2.2.1.map (ab_low (s.2.1 ++ [(ol_nm (ab_low s.2.1 (s.1.getD i ([], [])))).1])))) (Classical.propDecidable _) 1 2,
       ((ab_ds (s.2.1 ++ [(ol_nm (ab_low s.2.1 (s.1.getD i ([], [])))).1]) s.2.1.length (s.2.1.length + 1) 0 (s.1.eraseIdx i, s.2.2.2)).1,
        s.2.1 ++ [(ol_nm (ab_low s.2.1 (s.1.getD i ([], [])))).1],
        s.2.2.1.map (ab_low (s.2.1 ++ [(ol_nm (ab_low s.2.1 (s.1.getD i ([], [])))).1])),
        (ab_ds (s.2.1 ++ [(ol_nm (ab_low s.2.1 (s.1.getD i ([], [])))).1]) s.2.1.length (s.2.1.length + 1) 0 (s.1.eraseIdx i, s.2.2.2)).2)))))
def OeG (h : Nat → Nat → Int) (gl : Option (List Nat × List Nat)) : Prop := (gl = none ∧ h 0 9 = 0) ∨ ∃ q, gl = some q ∧ h 0 9 = 1 ∧ EqC h 319 q ∧ EqE h 319 q ∧ tm_ok q.1 ∧ tm_ok q.2
def OeK (h : Nat → Nat → Int) (π : Nat → Nat) (s : abS) : Prop := WtC h 3 π s.1 ∧ AcC h 215 s.2.1 ∧ OeG h s.2.2.1 ∧ h 0 7 = ((s.2.2.2 : Nat) : Int)
def oe_f2 (h h' : Nat → Nat → Int) : Prop := (∀ c, c = 1 ∨ c = 2 ∨ 348 ≤ c → h' c = h c) ∧ h' 0 1 = h 0 1 ∧ h' 0 3 = h 0 3
theorem oe_f2_refl (h : Nat → Nat → Int) : oe_f2 h h := ⟨fun _ _ => rfl, rfl, rfl⟩
theorem oe_f2_tr {h h' h'' : Nat → Nat → Int} (a : oe_f2 h h') (b : oe_f2 h' h'') : oe_f2 h h'' := ⟨fun c hc => by rw [b.1 c hc, a.1 c hc], by rw [b.2.1, a.2.1], by rw [b.2.2, a.2.2]⟩
theorem oe_f2_fr {h h' : Nat → Nat → Int} (a : oe_fr h h') : oe_f2 h h' := ⟨fun c hc => a.1 c (by omega), a.2 1 (by omega), a.2 3 (by omega)⟩
theorem OeG.kept {h h' : Nat → Nat → Int} {gl : Option (List Nat × List Nat)} (H : OeG h gl) (e0 : h' 0 9 = h 0 9) (e : ∀ c, 320 ≤ c → c ≤ 325 → h' c = h c) : OeG h' gl := by
  rcases H with ⟨a, b⟩ | ⟨q, a, b, c, d, e1, e2⟩
  · exact Or.inl ⟨a, by rw [e0]; exact b⟩
  · exact Or.inr ⟨q, a, by rw [e0]; exact b, c.kept (fun c z1 z2 => e c (by omega) (by omega)), d.kept (fun c z1 z2 => e c (by omega) (by omega)), e1, e2⟩
theorem OeS.kg {sh : List (Nat × Nat)} {g g' : Nat → Nat → Option Nat} {π π' : Nat → Nat} (H : OeS sh g π) (W : WtS sh g' 3 π') (e : ∀ c, c ≠ 4 → g' c = g c) : OeS sh g' π' := by
  obtain ⟨o0, ⟨p1, p2, p3, p4⟩, ⟨w1, w2⟩, ⟨a1, a2⟩, ⟨v1, v2⟩, ⟨t1, t2⟩, ⟨r1, r2⟩, ⟨k1, k2⟩, ⟨x1, x2⟩, n1, n2⟩ := H
  have e0 := e 0 (by omega)
  obtain ⟨A0, A1, A2, A3, A4, A5, A6, A7, A8, A9⟩ := a2
  obtain ⟨O0, O1, O2, O3, O4, O5, O6⟩ := v2
  obtain ⟨s0, s1, s2, s3, s4, s5, s6, s7, s8, s9, s10, s11, s12, s13, s14⟩ := O2
  have eA := e 215 (by omega)
  have eA1 := e 216 (by omega)
  have eO := e 292 (by omega)
  have eU := e 293 (by omega)
  refine ⟨o0, ⟨by rw [e0]; exact p1, p2, by rw [e0]; exact p3, p4⟩, ⟨by rw [e0]; exact w1, W⟩, ⟨by rw [e0]; exact a1, A0, by rw [eA]; exact A1, A2, by rw [eA]; exact A3, A4, by rw [eA]; exact A5, A6, by rw [eA]; exact A7, A8.kg (e _ (by omega)), fun i hi => ⟨by rw [eA1]; exact (A9 i hi).1, (A9 i hi).2.kg (fun c z1 z2 => e c (by omega))⟩⟩,
    ⟨by rw [e0]; exact v1, O0, by rw [eO]; exact O1, ⟨s0, by rw [eU]; exact s1, s2.kg (e _ (by omega)), by rw [eU]; exact s3, s4, by rw [eU]; exact s5, s6, by rw [eU]; exact s7, s8, by rw [eU]; exact s9, s10.kg (e _ (by omega)), by rw [eU]; exact s11, s12, by rw [eU]; exact s13, s14⟩, by rw [eO]; exact O3, O4.kg (fun c z1 z2 => e c (by omega)), by rw [eO]; exact O5, O6.kg (fun c z1 z2 => e c (by omega))⟩,
    ⟨by rw [e0]; exact t1, t2.kg (fun c z1 z2 => e c (by omega))⟩, ⟨by rw [e0]; exact r1, r2.kg (fun c z1 z2 => e c (by omega))⟩, ⟨by rw [e0]; exact k1, k2.kg (fun c z1 z2 => e c (by omega))⟩, ⟨by rw [e0]; exact x1, x2.kg (fun c z1 z2 => e c (by omega))⟩, by rw [e0]; exact n1, n2⟩
section
variable {D : Nat} {sh : List (Nat × Nat)} {g : Nat → Nat → Option Nat} {h : Nat → Nat → Int} {Q : oeQ}
theorem c_proved (hDD : 4 ≤ D) {π : Nat → Nat} {gl : Option (List Nat × List Nat)} (hO : OeS sh g π) (hG : OeG h gl) (k1 : ab_proved gl → Q (some (.inl 1)) (sh, g, h)) (k0 : ¬ ab_proved gl → Q (some (.inl 0)) (sh, g, h)) : oe_M D 21 [.inr (.inl 0)] (sh, g, h) Q := by
  rcases hG with ⟨a, b⟩ | ⟨q, a, b, c, d, e1, e2⟩
  · exact c_isProved (q := ([], [])) hDD hO b (fun z => absurd rfl z) (fun z => absurd rfl z) (fun _ => k0 (fun ⟨q, z, _⟩ => by rw [a] at z; cases z))
  · refine c_isProved hDD hO b (fun _ => ⟨c, d, e1, e2⟩) (fun _ z => k1 ⟨q, a, z⟩) (fun z => k0 (fun ⟨q', z1, z2⟩ => ?_))
    rw [a] at z1
    cases z1
    rcases z with z | z
    · cases z
    · exact z z2
set_option maxHeartbeats 1000000 in
theorem c_step (hDD : 74 ≤ D) {π : Nat → Nat} {s : abS} (hO : OeS sh g π) (hK : OeK h π s) (hlb : s.2.2.2 < 1800000000)
    (k : ∀ i π' g' h', (0 < s.1.length → ol_light s.1 i) → OeS sh g' π' → (∀ c, c ≠ 4 → g' c = g c) → OeK h' π' (ab_step s i).2 → (ab_step s i).2.2.2.2 ≤ s.2.2.2 + 1600 → oe_f2 h h' → Q (some (.inl (((ab_step s i).1 : Nat) : Int))) (sh, g', h')) : oe_M D 23 [.inr (.inl 0)] (sh, g, h) Q := by
  obtain ⟨d, rfl⟩ : ∃ d, D = d + 2 := ⟨D - 2, by omega⟩
  obtain ⟨ws, eqs, gl, lost⟩ := s
  obtain ⟨hW, hA, hG, hL⟩ := hK
  have hW : WtC h 3 π ws := hW
  have hA : AcC h 215 eqs := hA
  have hG : OeG h gl := hG
  have hL : h 0 7 = (lost : Int) := hL
  have hlb : lost < 1800000000 := hlb
  have hOO := hO
  obtain ⟨o0, _, ⟨w1, w2⟩, _, _, _, _, ⟨t1, t2⟩, _⟩ := hO
  refine g23 ⟨o0, c_proved (by omega) hOO hG (fun hp => ⟨1, rfl, rfl, fun c => absurd c (by decide), fun _ => ?_⟩) (fun hp => ⟨0, rfl, rfl, fun _ => ⟨3, w1, w2.1, fun c => ⟨333, t1, ?_⟩, fun c => ?_⟩, fun c => absurd rfl c⟩)⟩
  · by_cases hn : 0 < ws.length
    · -- some lightest there is: any will do for the words
      have e : ∀ i, ab_step (ws, eqs, gl, lost) i = (1, (ws, eqs, gl, lost)) := fun i => if_pos hp
      obtain ⟨i, hi⟩ : ∃ i, ol_light ws i := by
        have key : ∀ n, n ≤ ws.length → 0 < n → ∃ i, i < n ∧ (∀ j, j < n → ol_w (ws.getD i ([], [])) ≤ ol_w (ws.getD j ([], []))) ∧ ∀ j, j < i → ol_w (ws.getD i ([], [])) < ol_w (ws.getD j ([], [])) := by
          intro n
          induction n with
          | zero => intro _ q; omega
          | succ n ih =>
            intro hn _
            by_cases n0 : n = 0
            · subst n0
              exact ⟨0, by omega, fun j hj => by have : j = 0 := by omega
                                                 subst this; exact Nat.le_refl _, fun j hj => by omega⟩
            · obtain ⟨i, i1, i2, i3⟩ := ih (by omega) (by omega)
              by_cases q : ol_w (ws.getD n ([], [])) < ol_w (ws.getD i ([], []))
              · refine ⟨n, by omega, fun j hj => ?_, fun j hj => ?_⟩
                · by_cases ej : j = n
                  · subst ej; exact Nat.le_refl _
                  · have := i2 j (by omega); omega
                · have := i2 j hj; omega
              · refine ⟨i, by omega, fun j hj => ?_, i3⟩
                by_cases ej : j = n
                · subst ej; omega
                · exact i2 j (by omega)
        obtain ⟨i, i1, i2, i3⟩ := key ws.length (Nat.le_refl _) hn
        exact ⟨i, i1, i2, i3⟩
      have := k i π g h (fun _ => hi) hOO (fun c _ => rfl) (by rw [e]; exact ⟨hW, hA, hG, hL⟩) (by rw [e]; show lost ≤ lost + 1600; omega) (oe_f2_refl h)
      rw [e] at this
      exact this
    · have e : ab_step (ws, eqs, gl, lost) 0 = (1, (ws, eqs, gl, lost)) := if_pos hp
      have := k 0 π g h (fun z => absurd z hn) hOO (fun c _ => rfl) (by rw [e]; exact ⟨hW, hA, hG, hL⟩) (by rw [e]; show lost ≤ lost + 1600; omega) (oe_f2_refl h)
      rw [e] at this
      exact this
  · have hpos : 0 < ws.length := by rw [hW.1] at c; omega
    refine c_lightest (by omega) w2 hW t2 (by omega) (by omega) hpos (fun i0 π' g' h1 hLt G1 W1 W1C tC tE F1 => ⟨g', h1, rfl, rfl, 333, by rw [G1 0 (by omega)]; exact t1, ?_⟩)
    have O' := hOO.kg W1 G1
    have k := k i0 π' g'
    have A1 : AcC h1 215 eqs := hA.kept (F1 _ (by omega) (by omega)) (F1 _ (by omega) (by omega)) (fun c z1 z2 => F1 c (by omega) (by omega))
    have Gl1 : OeG h1 gl := hG.kept (by rw [F1 0 (by omega) (by omega)]) (fun c z1 z2 => F1 c (by omega) (by omega))
    have L1 : h1 0 7 = (lost : Int) := by rw [F1 0 (by omega) (by omega)]; exact hL
    have f21 : oe_f2 h h1 := ⟨fun c hc => F1 c (by omega) (by omega), by rw [F1 0 (by omega) (by omega)], by rw [F1 0 (by omega) (by omega)]⟩
    have hok := (hW.2.2 i0 hLt.1).2.2
    obtain ⟨q1, q2, q3, q4⟩ := eq_tm hok
    obtain ⟨_, _, ok1, ok2, va1, va2⟩ := hok
    unfold ab_step at k
    rw [if_neg (show ¬ ab_proved (ws, eqs, gl, lost).2.2.1 from hp), if_neg (show ¬ (ws, eqs, gl, lost).1.length = 0 by show ¬ ws.length = 0; omega)] at k
    obtain ⟨wp', T'⟩ : (∀ i, i < 30 → π' i < 30) ∧ EqS sh g' 333 30 := ⟨fun i hi => (W1.2.2.2.2.1 i hi).1, t2.kg (fun c z1 z2 => G1 c (by omega))⟩
    have U' := O'
    obtain ⟨_, _, _, ⟨a1, a2⟩, _, ⟨go1, go2⟩, _, _, _⟩ := U'
    have x1v := ol_low_vars (eqs := eqs) 50 (ws.getD i0 ([], [])).1
    have x2v := ol_low_vars (eqs := eqs) 50 (ws.getD i0 ([], [])).2
    refine c_lowerE (by omega) O' T' (by omega) (by omega) A1 tC tE ⟨q1, by omega, ok1⟩ ⟨q2, by omega, ok2⟩ (fun h2 p1 p2 C2 E2 F2 => ⟨h2, rfl, rfl, T'.1, ?_⟩)
    have W2 : WtC h2 3 π' (ws.eraseIdx i0) := W1C.kept wp' (F2 _ (by omega) (by omega)) (fun c z1 z2 => F2 c (by omega) (by omega))
    have A2 : AcC h2 215 eqs := A1.kept (F2 _ (by omega) (by omega)) (F2 _ (by omega) (by omega)) (fun c z1 z2 => F2 c (by omega) (by omega))
    have Gl2 : OeG h2 gl := Gl1.kept (by rw [F2 0 (by omega) (by omega)]) (fun c z1 z2 => F2 c (by omega) (by omega))
    have L2 : h2 0 7 = (lost : Int) := by rw [F2 0 (by omega) (by omega)]; exact L1
    have f22 : oe_f2 h h2 := oe_f2_tr f21 ⟨fun c hc => F2 c (by omega) (by omega), by rw [F2 0 (by omega) (by omega)], by rw [F2 0 (by omega) (by omega)]⟩
    have x1v : ∀ c ∈ (ab_low eqs (ws.getD i0 ([], []))).1, c < 12 → c < 6 := fun c hc h12 => va1 c (x1v c hc h12) h12
    have x2v : ∀ c ∈ (ab_low eqs (ws.getD i0 ([], []))).2, c < 12 → c < 6 := fun c hc h12 => va2 c (x2v c hc h12) h12
    have kk := fun h' => k h' (fun _ => hLt) O' G1
    clear k
    try dsimp only at kk
    generalize ab_low eqs (ws.getD i0 ([], [])) = x at *
    have junk : (x.1 = x.2 ∨ 20 < ol_w x) → Q (some (.inl 3)) (sh, g', h2) := by
      intro hz
      rw [if_pos hz] at kk
      exact kk h2 ⟨W2, A2, Gl2, L2⟩ (by show lost ≤ lost + 1600; omega) f22
    refine c_sides (by omega) T' C2 E2 p1.1 p2.1 p1.2.1 p2.2.1 (fun z => ⟨1, rfl, rfl, fun _ => junk (Or.inl z), fun c => absurd c (by decide)⟩) (fun z => ⟨0, rfl, rfl, fun c => absurd rfl c, fun _ => ?_⟩)
    have pl1 := p1.2.1
    have pl2 := p2.2.1
    refine c_weight (by omega) T' C2 (by omega) (by omega) ⟨_, rfl, rfl, fun c3 => ?_, fun c3 => junk (Or.inr (by unfold ol_w; omega))⟩
    rw [if_neg (show ¬ (x.1 = x.2 ∨ 20 < ol_w x) by unfold ol_w; intro w; rcases w with w | w; exact z w; omega)] at kk
    obtain ⟨y1, y2, y3, y4, y5, y6, y7⟩ := ol_nm_ok x
    have y8 := ol_nm_6 x1v x2v
    refine c_nameBoth (by omega) O' T' (by omega) C2 E2 pl1 pl2 (fun h3 C3 E3 C4 E4 F3 => ⟨_, h3, rfl, rfl, 215, a1, a2.1, 216, a2.2.1, ?_⟩)
    have W3 : WtC h3 3 π' (ws.eraseIdx i0) := W2.kept wp' (F3 _ (by omega) (by omega)) (fun c z1 z2 => F3 c (by omega) (by omega))
    have A3 : AcC h3 215 eqs := A2.kept (F3 _ (by omega) (by omega)) (F3 _ (by omega) (by omega)) (fun c z1 z2 => F3 c (by omega) (by omega))
    have Gl3 : OeG h3 gl := Gl2.kept (by rw [F3 0 (by omega) (by omega)]) (fun c z1 z2 => F3 c (by omega) (by omega))
    have L3 : h3 0 7 = (lost : Int) := by rw [F3 0 (by omega) (by omega)]; exact L2
    have f23 : oe_f2 h h3 := oe_f2_tr f22 ⟨fun c hc => F3 c (by omega) (by omega), by rw [F3 0 (by omega) (by omega)], by rw [F3 0 (by omega) (by omega)]⟩
    have tq1 : ol_tm (ol_nm x).1.1 := ol_tm_map y2.symm p1.1
    have tq2 : ol_tm (ol_nm x).1.2 := ol_tm_map y3.symm p2.1
    have qok : eq_ok (ol_nm x).1 := by
      obtain ⟨s, s1, s2⟩ := tq1
      obtain ⟨t, t1, t2⟩ := tq2
      refine ⟨⟨s, t, s1, t1, s2, t2⟩, by omega, fun c hc => ?_, fun c hc => ?_, fun c hc hc2 => ?_, fun c hc hc2 => ?_⟩
      · rcases y6 c hc with z | z
        · omega
        · exact p1.2.2 c z.2
      · rcases y7 c hc with z | z
        · omega
        · exact p2.2.2 c z.2
      · rcases y6 c hc with z | z <;> omega
      · rcases y7 c hc with z | z <;> omega
    generalize (ol_nm x).1 = q at *
    rw [A3.1]
    refine c_alike (by omega) O' a2.2.2.1 (by have := A3.2.1; omega) (by omega) (A3.rows a2) T' C3 E3 tq1 tq2 (by omega) (by omega) C4 E4 (fun z1 => ⟨1, h3, rfl, rfl, fun c => absurd c (by decide), fun _ => ?_⟩) (fun z1 => ⟨0, h3, rfl, rfl, fun _ => ?_, fun c => absurd rfl c⟩)
    · rw [if_pos z1] at kk
      exact kk h3 ⟨W3, A3, Gl3, L3⟩ (by show lost ≤ lost + 1600; omega) f23
    rw [if_neg z1] at kk
    refine c_aFull (by omega) a2 A3 (fun z2 => ⟨0, rfl, rfl, fun _ => ?_, fun c => absurd rfl c⟩) (fun z2 => ⟨1, rfl, rfl, fun c => absurd c (by decide), fun _ => ?_⟩)
    rotate_left
    · rw [if_pos z2] at kk
      exact kk h3 ⟨W3, A3, Gl3, L3⟩ (by show lost ≤ lost + 1600; omega) f23
    rw [if_neg (show ¬ eqs.length = 10 by omega)] at kk
    refine c_aAppend (by omega) a2 A3 T' (by omega) C3 E3 qok (by omega) z2 (fun h4 A4 F4 => ⟨h4, rfl, rfl, ?_⟩)
    have W4 : WtC h4 3 π' (ws.eraseIdx i0) := W3.kept wp' (F4 _ (by omega) (by omega) (by omega)) (fun c z1 z2 => F4 c (by omega) (by omega) (by omega))
    have Gl4 : OeG h4 gl := Gl3.kept (by rw [F4 0 (by omega) (by omega) (by omega)]) (fun c z1 z2 => F4 c (by omega) (by omega) (by omega))
    have L4 : h4 0 7 = (lost : Int) := by rw [F4 0 (by omega) (by omega) (by omega)]; exact L3
    have f24 : oe_f2 h h4 := oe_f2_tr f23 ⟨fun c hc => F4 c (by omega) (by omega) (by omega), by rw [F4 0 (by omega) (by omega) (by omega)], by rw [F4 0 (by omega) (by omega) (by omega)]⟩
    have l4 : (eqs ++ [q]).length = eqs.length + 1 := by rw [List.length_append]; rfl
    have nn : h4 215 1 - 1 = ((eqs.length : Nat) : Int) := by rw [A4.1, l4]; omega
    rw [nn]
    refine ⟨by unfold oe_rg; omega, ?_⟩
    refine c_overlapAll (by omega) O' W4 A4 L4 (by omega) eqs.length (by omega) (fun h5 W5 A5 L5 B5 fr5 => ⟨h5, rfl, rfl, ?_⟩)
    have Gl5 : OeG h5 gl := Gl4.kept (fr5.2 9 (by omega)) (fun c z1 z2 => fr5.1 c (by omega))
    have f25 : oe_f2 h h5 := oe_f2_tr f24 (oe_f2_fr fr5)
    rcases Gl5 with ⟨g1, g2⟩ | ⟨q0, g1, g2, g3, g4, g5, g6⟩
    · refine ⟨fun _ => ?_, fun c => absurd g2 c⟩
      have Gm : OeG h5 (gl.map (ab_low (eqs ++ [q]))) := by rw [g1]; exact Or.inl ⟨rfl, g2⟩
      refine c_proved (by omega) O' Gm (fun z3 => ⟨1, rfl, rfl, fun c => absurd c (by decide), fun _ => ?_⟩) (fun z3 => ⟨0, rfl, rfl, fun _ => ?_, fun c => absurd rfl c⟩)
      · have := kk h5 ⟨W5, A5, Gm, L5⟩ B5 f25
        rw [if_pos z3] at this
        exact this
      · have := kk h5 ⟨W5, A5, Gm, L5⟩ B5 f25
        rw [if_neg z3] at this
        exact this
    · refine ⟨fun c => by rw [g2] at c; omega, fun _ => ⟨319, go1, ?_⟩⟩
      refine c_lowerE (by omega) O' go2 (by omega) (by omega) A5 g3 g4 g5 g6 (fun h6 p1 p2 C6 E6 F6 => ⟨h6, rfl, rfl, ?_⟩)
      have Gm : OeG h6 (gl.map (ab_low (eqs ++ [q]))) := by
        rw [g1]; exact Or.inr ⟨_, rfl, by rw [F6 0 (by omega) (by omega)]; exact g2, C6, E6, p1, p2⟩
      have W6 := W5.kept wp' (F6 _ (by omega) (by omega)) (fun c z1 z2 => F6 c (by omega) (by omega))
      have A6 := A5.kept (F6 _ (by omega) (by omega)) (F6 _ (by omega) (by omega)) (fun c z1 z2 => F6 c (by omega) (by omega))
      have L6 : h6 0 7 = _ := (congrFun (F6 0 (by omega) (by omega)) 7).trans L5
      have f26 : oe_f2 h h6 := oe_f2_tr f25 ⟨fun c hc => F6 c (by omega) (by omega), by rw [F6 0 (by omega) (by omega)], by rw [F6 0 (by omega) (by omega)]⟩
      refine c_proved (by omega) O' Gm (fun z3 => ⟨1, rfl, rfl, fun c => absurd c (by decide), fun _ => ?_⟩) (fun z3 => ⟨0, rfl, rfl, fun _ => ?_, fun c => absurd rfl c⟩)
      · have := kk h6 ⟨W6, A6, Gm, L6⟩ B5 f26
        rw [if_pos z3] at this
        exact this
      · have := kk h6 ⟨W6, A6, Gm, L6⟩ B5 f26
        rw [if_neg z3] at this
        exact this
  · have hz : ws.length = 0 := by rw [hW.1] at c; omega
    have e : ab_step (ws, eqs, gl, lost) 0 = (0, (ws, eqs, gl, lost)) := by
      unfold ab_step
      rw [if_neg (show ¬ ab_proved (ws, eqs, gl, lost).2.2.1 from hp), if_pos (show (ws, eqs, gl, lost).1.length = 0 from hz)]
    have := k 0 π g h (fun z => by have : 0 < ws.length := z; omega) hOO (fun c _ => rfl) (by rw [e]; exact ⟨hW, hA, hG, hL⟩) (by rw [e]; show lost ≤ lost + 1600; omega) (oe_f2_refl h)
    rw [e] at this
    exact this
end
