/-! The constructors (class), laid by program (straight pieces). -/
theorem sh_at {sh e : List (Nat × Nat)} {i : Nat} {q : Nat × Nat} (h : e[i]? = some q) : (sh ++ e)[sh.length + i]? = some q := by
  rw [List.getElem?_append_right (by omega), Nat.add_sub_cancel_left]; exact h
def ls_U : List (Nat × Nat) := [(10, 8)] ++ ls_L 60 ++ [(0, 12)] ++ [(0, 302)] ++ [(0, 302)] ++ ls_L 300 ++ [(0, 13)] ++ [(0, 13)]
def ls_O : List (Nat × Nat) := [(9, 3)] ++ ls_U ++ ls_E 30 ++ ls_E 30
section
variable {D : Nat} {sh : List (Nat × Nat)} {g : Nat → Nat → Option Nat} {Q : oeQ}
theorem k_unifier (hDD : 6 ≤ D)
    (k : ∀ g' : Nat → Nat → Option Nat, UnS (sh ++ ls_U) g' sh.length → (∀ c, c < sh.length → g' c = g c) → Q none (sh ++ ls_U, g', oe_z)) :
    oe_M D 114 [.inr (.inl sh.length)] (sh ++ [(10, 8)], g, oe_z) Q := by
  obtain ⟨d, rfl⟩ : ∃ d, D = d + 2 := ⟨D - 2, by omega⟩
  have f : ∀ (i : Nat) {q : Nat × Jvm.ClassFile.Instr × Nat}, oe_c114[i]? = some q → oe_find (oe_code 114) q.1 = some q.2 := fun i q hq => oe_ft (c := oe_c114) (by decide +kernel) hq
  refine oe_M.of (by simp [oe_c1]) (Nat.le_of_ble_eq_true rfl) ?_
  show oe_V (oe_cost 114) 114 (oe_M (d + 1)) none Q 0 [some (.inr (.inl sh.length))] [] (sh ++ [(10, 8)], g, oe_z) 0 0
  have sa0 : (sh ++ [(10, 8)])[sh.length]? = some (10, 8) := sh_last
  have ln0 : (sh ++ [(10, 8)]).length = sh.length + 1 := by simp
  have F0 : fd g sh.length [] := fd_nil
  refine s_aload_n (f 0 (q := (0, .aload_n 0, 1)) rfl) rfl ?_
  refine n_obj (f 1 (q := (1, .invokespecial 0, 3)) rfl) (by simp) ?_
  refine s_aload_n (f 2 (q := (4, .aload_n 0, 1)) rfl) rfl ?_
  refine n_new (f 3 (q := (5, .new 3, 3)) rfl) (by decide) (by decide) (fun g1 G1 => ?_)
  rw [ln0] at G1
  have F1 := fd_kept F0 (G1 _ (by omega))
  refine s_dup (f 4 (q := (8, .dup, 1)) rfl) trivial ?_
  refine s_bipush (f 5 (q := (9, .bipush 60, 2)) rfl) ?_
  refine n_call1 (f 6 (q := (11, .invokespecial 99031, 3)) rfl) (by decide) rfl (by simp) (by decide) (by decide) ?_
  refine k_letters (sh := sh ++ [(10, 8)]) (cap := 60) (by omega) (by decide) (fun g2 S2 G2 => ?_)
  rw [ln0] at G2
  have F2 := fd_kept F1 (G2 _ (by omega))
  have sa1 : (sh ++ [(10, 8)] ++ ls_L 60)[sh.length]? = _ := sh_app sa0
  have ln1 : (sh ++ [(10, 8)] ++ ls_L 60).length = sh.length + 4 := by rw [List.length_append, ln0]; rfl
  rw [ln0] at S2
  show oe_V (oe_cost 114) 114 (oe_M (d + 1)) none Q 14 _ [.inr (.inl (sh ++ [(10, 8)]).length), .inr (.inl sh.length)] _ 3 603
  refine n_putr (f 7 (q := (14, .putfield 5001, 3)) rfl) sa1 rfl rfl (fun g3 A3 G3 => ?_)
  rw [ln0] at A3
  have F3 : fd g3 sh.length ((0, sh.length + 1) :: []) := fd_put F2 A3 G3 rfl
  refine s_aload_n (f 8 (q := (17, .aload_n 0, 1)) rfl) rfl ?_
  refine s_bipush (f 9 (q := (18, .bipush 12, 2)) rfl) ?_
  refine n_arr (v := 12) (t := 0) (f 10 (q := (20, .newarray .int, 2)) rfl) rfl (by decide) (by decide) (by decide) (fun g4 G4 => ?_)
  rw [ln1] at G4
  have F4 := fd_kept F3 (G4 _ (by omega))
  have sa2 : (sh ++ [(10, 8)] ++ ls_L 60 ++ [(0, 12)])[sh.length]? = _ := sh_app sa1
  have ln2 : (sh ++ [(10, 8)] ++ ls_L 60 ++ [(0, 12)]).length = sh.length + 5 := by rw [List.length_append, ln1]; rfl
  refine n_putr (f 11 (q := (22, .putfield 5011, 3)) rfl) sa2 rfl rfl (fun g5 A5 G5 => ?_)
  rw [ln1] at A5
  have F5 : fd g5 sh.length ((1, sh.length + 4) :: [(0, sh.length + 1)]) := fd_put F4 A5 G5 rfl
  refine s_aload_n (f 12 (q := (25, .aload_n 0, 1)) rfl) rfl ?_
  refine s_sipush (f 13 (q := (26, .sipush 302, 3)) rfl) ?_
  refine n_arr (v := 302) (t := 0) (f 14 (q := (29, .newarray .int, 2)) rfl) rfl (by decide) (by decide) (by decide) (fun g6 G6 => ?_)
  rw [ln2] at G6
  have F6 := fd_kept F5 (G6 _ (by omega))
  have sa3 : (sh ++ [(10, 8)] ++ ls_L 60 ++ [(0, 12)] ++ [(0, 302)])[sh.length]? = _ := sh_app sa2
  have ln3 : (sh ++ [(10, 8)] ++ ls_L 60 ++ [(0, 12)] ++ [(0, 302)]).length = sh.length + 6 := by rw [List.length_append, ln2]; rfl
  refine n_putr (f 15 (q := (31, .putfield 5021, 3)) rfl) sa3 rfl rfl (fun g7 A7 G7 => ?_)
  rw [ln2] at A7
  have F7 : fd g7 sh.length ((2, sh.length + 5) :: [(1, sh.length + 4), (0, sh.length + 1)]) := fd_put F6 A7 G7 rfl
  refine s_aload_n (f 16 (q := (34, .aload_n 0, 1)) rfl) rfl ?_
  refine s_sipush (f 17 (q := (35, .sipush 302, 3)) rfl) ?_
  refine n_arr (v := 302) (t := 0) (f 18 (q := (38, .newarray .int, 2)) rfl) rfl (by decide) (by decide) (by decide) (fun g8 G8 => ?_)
  rw [ln3] at G8
  have F8 := fd_kept F7 (G8 _ (by omega))
  have sa4 : (sh ++ [(10, 8)] ++ ls_L 60 ++ [(0, 12)] ++ [(0, 302)] ++ [(0, 302)])[sh.length]? = _ := sh_app sa3
  have ln4 : (sh ++ [(10, 8)] ++ ls_L 60 ++ [(0, 12)] ++ [(0, 302)] ++ [(0, 302)]).length = sh.length + 7 := by rw [List.length_append, ln3]; rfl
  refine n_putr (f 19 (q := (40, .putfield 5031, 3)) rfl) sa4 rfl rfl (fun g9 A9 G9 => ?_)
  rw [ln3] at A9
  have F9 : fd g9 sh.length ((3, sh.length + 6) :: [(2, sh.length + 5), (1, sh.length + 4), (0, sh.length + 1)]) := fd_put F8 A9 G9 rfl
  refine s_aload_n (f 20 (q := (43, .aload_n 0, 1)) rfl) rfl ?_
  refine s_iconst (f 21 (q := (44, .iconst 0, 1)) rfl) ?_
  refine n_put0 (f 22 (q := (45, .putfield 5040, 3)) rfl) sa4 rfl (Or.inl rfl) ?_
  refine s_aload_n (f 23 (q := (48, .aload_n 0, 1)) rfl) rfl ?_
  refine n_new (f 24 (q := (49, .new 3, 3)) rfl) (by decide) (by decide) (fun g10 G10 => ?_)
  rw [ln4] at G10
  have F10 := fd_kept F9 (G10 _ (by omega))
  refine s_dup (f 25 (q := (52, .dup, 1)) rfl) trivial ?_
  refine s_sipush (f 26 (q := (53, .sipush 300, 3)) rfl) ?_
  refine n_call1 (f 27 (q := (56, .invokespecial 99031, 3)) rfl) (by decide) rfl (by simp) (by decide) (by decide) ?_
  refine k_letters (sh := sh ++ [(10, 8)] ++ ls_L 60 ++ [(0, 12)] ++ [(0, 302)] ++ [(0, 302)]) (cap := 300) (by omega) (by decide) (fun g11 S11 G11 => ?_)
  rw [ln4] at G11
  have F11 := fd_kept F10 (G11 _ (by omega))
  have sa5 : (sh ++ [(10, 8)] ++ ls_L 60 ++ [(0, 12)] ++ [(0, 302)] ++ [(0, 302)] ++ ls_L 300)[sh.length]? = _ := sh_app sa4
  have ln5 : (sh ++ [(10, 8)] ++ ls_L 60 ++ [(0, 12)] ++ [(0, 302)] ++ [(0, 302)] ++ ls_L 300).length = sh.length + 10 := by rw [List.length_append, ln4]; rfl
  rw [ln4] at S11
  show oe_V (oe_cost 114) 114 (oe_M (d + 1)) none Q 59 _ [.inr (.inl (sh ++ [(10, 8)] ++ ls_L 60 ++ [(0, 12)] ++ [(0, 302)] ++ [(0, 302)]).length), .inr (.inl sh.length)] _ 9 1822
  refine n_putr (f 28 (q := (59, .putfield 5051, 3)) rfl) sa5 rfl rfl (fun g12 A12 G12 => ?_)
  rw [ln4] at A12
  have F12 : fd g12 sh.length ((5, sh.length + 7) :: [(3, sh.length + 6), (2, sh.length + 5), (1, sh.length + 4), (0, sh.length + 1)]) := fd_put F11 A12 G12 rfl
  refine s_aload_n (f 29 (q := (62, .aload_n 0, 1)) rfl) rfl ?_
  refine s_bipush (f 30 (q := (63, .bipush 13, 2)) rfl) ?_
  refine n_arr (v := 13) (t := 0) (f 31 (q := (65, .newarray .int, 2)) rfl) rfl (by decide) (by decide) (by decide) (fun g13 G13 => ?_)
  rw [ln5] at G13
  have F13 := fd_kept F12 (G13 _ (by omega))
  have sa6 : (sh ++ [(10, 8)] ++ ls_L 60 ++ [(0, 12)] ++ [(0, 302)] ++ [(0, 302)] ++ ls_L 300 ++ [(0, 13)])[sh.length]? = _ := sh_app sa5
  have ln6 : (sh ++ [(10, 8)] ++ ls_L 60 ++ [(0, 12)] ++ [(0, 302)] ++ [(0, 302)] ++ ls_L 300 ++ [(0, 13)]).length = sh.length + 11 := by rw [List.length_append, ln5]; rfl
  refine n_putr (f 32 (q := (67, .putfield 5061, 3)) rfl) sa6 rfl rfl (fun g14 A14 G14 => ?_)
  rw [ln5] at A14
  have F14 : fd g14 sh.length ((6, sh.length + 10) :: [(5, sh.length + 7), (3, sh.length + 6), (2, sh.length + 5), (1, sh.length + 4), (0, sh.length + 1)]) := fd_put F13 A14 G14 rfl
  refine s_aload_n (f 33 (q := (70, .aload_n 0, 1)) rfl) rfl ?_
  refine s_bipush (f 34 (q := (71, .bipush 13, 2)) rfl) ?_
  refine n_arr (v := 13) (t := 0) (f 35 (q := (73, .newarray .int, 2)) rfl) rfl (by decide) (by decide) (by decide) (fun g15 G15 => ?_)
  rw [ln6] at G15
  have F15 := fd_kept F14 (G15 _ (by omega))
  have sa7 : (sh ++ [(10, 8)] ++ ls_L 60 ++ [(0, 12)] ++ [(0, 302)] ++ [(0, 302)] ++ ls_L 300 ++ [(0, 13)] ++ [(0, 13)])[sh.length]? = _ := sh_app sa6
  have ln7 : (sh ++ [(10, 8)] ++ ls_L 60 ++ [(0, 12)] ++ [(0, 302)] ++ [(0, 302)] ++ ls_L 300 ++ [(0, 13)] ++ [(0, 13)]).length = sh.length + 12 := by rw [List.length_append, ln6]; rfl
  refine n_putr (f 36 (q := (75, .putfield 5071, 3)) rfl) sa7 rfl rfl (fun g16 A16 G16 => ?_)
  rw [ln6] at A16
  have F16 : fd g16 sh.length ((7, sh.length + 11) :: [(6, sh.length + 10), (5, sh.length + 7), (3, sh.length + 6), (2, sh.length + 5), (1, sh.length + 4), (0, sh.length + 1)]) := fd_put F15 A16 G16 rfl
  refine s_ret (f 37 (q := (78, .return_, 1)) rfl) rfl ?_
  have E16 : ∀ c, c ≠ sh.length → c < sh.length + 12 → g16 c = g16 c := fun _ _ _ => rfl
  have E15 : ∀ c, c ≠ sh.length → c < sh.length + 12 → g16 c = g15 c := fun c z1 z2 => (E16 c z1 (by omega)).trans (funext fun i => G16 c i (Or.inl z1))
  have E14 : ∀ c, c ≠ sh.length → c < sh.length + 11 → g16 c = g14 c := fun c z1 z2 => (E15 c z1 (by omega)).trans (G15 c (by omega))
  have E13 : ∀ c, c ≠ sh.length → c < sh.length + 11 → g16 c = g13 c := fun c z1 z2 => (E14 c z1 (by omega)).trans (funext fun i => G14 c i (Or.inl z1))
  have E12 : ∀ c, c ≠ sh.length → c < sh.length + 10 → g16 c = g12 c := fun c z1 z2 => (E13 c z1 (by omega)).trans (G13 c (by omega))
  have E11 : ∀ c, c ≠ sh.length → c < sh.length + 10 → g16 c = g11 c := fun c z1 z2 => (E12 c z1 (by omega)).trans (funext fun i => G12 c i (Or.inl z1))
  have E10 : ∀ c, c ≠ sh.length → c < sh.length + 7 → g16 c = g10 c := fun c z1 z2 => (E11 c z1 (by omega)).trans (G11 c (by omega))
  have E9 : ∀ c, c ≠ sh.length → c < sh.length + 7 → g16 c = g9 c := fun c z1 z2 => (E10 c z1 (by omega)).trans (G10 c (by omega))
  have E8 : ∀ c, c ≠ sh.length → c < sh.length + 7 → g16 c = g8 c := fun c z1 z2 => (E9 c z1 (by omega)).trans (funext fun i => G9 c i (Or.inl z1))
  have E7 : ∀ c, c ≠ sh.length → c < sh.length + 6 → g16 c = g7 c := fun c z1 z2 => (E8 c z1 (by omega)).trans (G8 c (by omega))
  have E6 : ∀ c, c ≠ sh.length → c < sh.length + 6 → g16 c = g6 c := fun c z1 z2 => (E7 c z1 (by omega)).trans (funext fun i => G7 c i (Or.inl z1))
  have E5 : ∀ c, c ≠ sh.length → c < sh.length + 5 → g16 c = g5 c := fun c z1 z2 => (E6 c z1 (by omega)).trans (G6 c (by omega))
  have E4 : ∀ c, c ≠ sh.length → c < sh.length + 5 → g16 c = g4 c := fun c z1 z2 => (E5 c z1 (by omega)).trans (funext fun i => G5 c i (Or.inl z1))
  have E3 : ∀ c, c ≠ sh.length → c < sh.length + 4 → g16 c = g3 c := fun c z1 z2 => (E4 c z1 (by omega)).trans (G4 c (by omega))
  have E2 : ∀ c, c ≠ sh.length → c < sh.length + 4 → g16 c = g2 c := fun c z1 z2 => (E3 c z1 (by omega)).trans (funext fun i => G3 c i (Or.inl z1))
  have E1 : ∀ c, c ≠ sh.length → c < sh.length + 1 → g16 c = g1 c := fun c z1 z2 => (E2 c z1 (by omega)).trans (G2 c (by omega))
  have E0 : ∀ c, c ≠ sh.length → c < sh.length + 1 → g16 c = g c := fun c z1 z2 => (E1 c z1 (by omega)).trans (G1 c (by omega))
  have e1 : sh ++ [(10, 8)] ++ ls_L 60 ++ [(0, 12)] ++ [(0, 302)] ++ [(0, 302)] ++ ls_L 300 ++ [(0, 13)] ++ [(0, 13)] = sh ++ ls_U := by simp only [ls_U, List.append_assoc]
  rw [e1]
  refine k g16 ⟨sh_at (i := 0) rfl, F16 (0, _) (by simp), LtS.ext S2 (fun c q hq => by rw [← e1]; exact sh_app (sh_app (sh_app (sh_app (sh_app (sh_app (hq))))))) (E2 _ (by omega) (by omega)), F16 (1, _) (by simp), sh_at (i := 4) rfl, F16 (2, _) (by simp), sh_at (i := 5) rfl, F16 (3, _) (by simp), sh_at (i := 6) rfl, F16 (5, _) (by simp), LtS.ext S11 (fun c q hq => by rw [← e1]; exact sh_app (sh_app (hq))) (E11 _ (by omega) (by omega)), F16 (6, _) (by simp), sh_at (i := 10) rfl, F16 (7, _) (by simp), sh_at (i := 11) rfl⟩ (fun c hc => E0 c (by omega) (by omega))
theorem k_overlap (hDD : 8 ≤ D)
    (k : ∀ g' : Nat → Nat → Option Nat, OvS (sh ++ ls_O) g' sh.length → (∀ c, c < sh.length → g' c = g c) → Q none (sh ++ ls_O, g', oe_z)) :
    oe_M D 111 [.inr (.inl sh.length)] (sh ++ [(9, 3)], g, oe_z) Q := by
  obtain ⟨d, rfl⟩ : ∃ d, D = d + 2 := ⟨D - 2, by omega⟩
  have f : ∀ (i : Nat) {q : Nat × Jvm.ClassFile.Instr × Nat}, oe_c111[i]? = some q → oe_find (oe_code 111) q.1 = some q.2 := fun i q hq => oe_ft (c := oe_c111) (by decide +kernel) hq
  refine oe_M.of (by simp [oe_c1]) (Nat.le_of_ble_eq_true rfl) ?_
  show oe_V (oe_cost 111) 111 (oe_M (d + 1)) none Q 0 [some (.inr (.inl sh.length))] [] (sh ++ [(9, 3)], g, oe_z) 0 0
  have sa0 : (sh ++ [(9, 3)])[sh.length]? = some (9, 3) := sh_last
  have ln0 : (sh ++ [(9, 3)]).length = sh.length + 1 := by simp
  have F0 : fd g sh.length [] := fd_nil
  refine s_aload_n (f 0 (q := (0, .aload_n 0, 1)) rfl) rfl ?_
  refine n_obj (f 1 (q := (1, .invokespecial 0, 3)) rfl) (by simp) ?_
  refine s_aload_n (f 2 (q := (4, .aload_n 0, 1)) rfl) rfl ?_
  refine n_new (f 3 (q := (5, .new 5, 3)) rfl) (by decide) (by decide) (fun g1 G1 => ?_)
  rw [ln0] at G1
  have F1 := fd_kept F0 (G1 _ (by omega))
  refine s_dup (f 4 (q := (8, .dup, 1)) rfl) trivial ?_
  refine n_call0 (f 5 (q := (9, .invokespecial 114050, 3)) rfl) (by decide) rfl (by simp) (by decide) (by decide) ?_
  refine k_unifier (sh := sh ++ [(9, 3)]) (by omega) (fun g2 S2 G2 => ?_)
  rw [ln0] at G2
  have F2 := fd_kept F1 (G2 _ (by omega))
  have sa1 : (sh ++ [(9, 3)] ++ ls_U)[sh.length]? = _ := sh_app sa0
  have ln1 : (sh ++ [(9, 3)] ++ ls_U).length = sh.length + 13 := by rw [List.length_append, ln0]; rfl
  rw [ln0] at S2
  show oe_V (oe_cost 111) 111 (oe_M (d + 1)) none Q 12 _ [.inr (.inl (sh ++ [(9, 3)]).length), .inr (.inl sh.length)] _ 12 1856
  refine n_putr (f 6 (q := (12, .putfield 4001, 3)) rfl) sa1 rfl rfl (fun g3 A3 G3 => ?_)
  rw [ln0] at A3
  have F3 : fd g3 sh.length ((0, sh.length + 1) :: []) := fd_put F2 A3 G3 rfl
  refine s_aload_n (f 7 (q := (15, .aload_n 0, 1)) rfl) rfl ?_
  refine n_new (f 8 (q := (16, .new 2, 3)) rfl) (by decide) (by decide) (fun g4 G4 => ?_)
  rw [ln1] at G4
  have F4 := fd_kept F3 (G4 _ (by omega))
  refine s_dup (f 9 (q := (19, .dup, 1)) rfl) trivial ?_
  refine s_bipush (f 10 (q := (20, .bipush 30, 2)) rfl) ?_
  refine n_call1 (f 11 (q := (22, .invokespecial 92021, 3)) rfl) (by decide) rfl (by simp) (by decide) (by decide) ?_
  refine k_equation (sh := sh ++ [(9, 3)] ++ ls_U) (cap := 30) (by omega) (by decide) (fun g5 S5 G5 => ?_)
  rw [ln1] at G5
  have F5 := fd_kept F4 (G5 _ (by omega))
  have sa2 : (sh ++ [(9, 3)] ++ ls_U ++ ls_E 30)[sh.length]? = _ := sh_app sa1
  have ln2 : (sh ++ [(9, 3)] ++ ls_U ++ ls_E 30).length = sh.length + 20 := by rw [List.length_append, ln1]; rfl
  rw [ln1] at S5
  show oe_V (oe_cost 111) 111 (oe_M (d + 1)) none Q 25 _ [.inr (.inl (sh ++ [(9, 3)] ++ ls_U).length), .inr (.inl sh.length)] _ 19 3064
  refine n_putr (f 12 (q := (25, .putfield 4011, 3)) rfl) sa2 rfl rfl (fun g6 A6 G6 => ?_)
  rw [ln1] at A6
  have F6 : fd g6 sh.length ((1, sh.length + 13) :: [(0, sh.length + 1)]) := fd_put F5 A6 G6 rfl
  refine s_aload_n (f 13 (q := (28, .aload_n 0, 1)) rfl) rfl ?_
  refine n_new (f 14 (q := (29, .new 2, 3)) rfl) (by decide) (by decide) (fun g7 G7 => ?_)
  rw [ln2] at G7
  have F7 := fd_kept F6 (G7 _ (by omega))
  refine s_dup (f 15 (q := (32, .dup, 1)) rfl) trivial ?_
  refine s_bipush (f 16 (q := (33, .bipush 30, 2)) rfl) ?_
  refine n_call1 (f 17 (q := (35, .invokespecial 92021, 3)) rfl) (by decide) rfl (by simp) (by decide) (by decide) ?_
  refine k_equation (sh := sh ++ [(9, 3)] ++ ls_U ++ ls_E 30) (cap := 30) (by omega) (by decide) (fun g8 S8 G8 => ?_)
  rw [ln2] at G8
  have F8 := fd_kept F7 (G8 _ (by omega))
  have sa3 : (sh ++ [(9, 3)] ++ ls_U ++ ls_E 30 ++ ls_E 30)[sh.length]? = _ := sh_app sa2
  have ln3 : (sh ++ [(9, 3)] ++ ls_U ++ ls_E 30 ++ ls_E 30).length = sh.length + 27 := by rw [List.length_append, ln2]; rfl
  rw [ln2] at S8
  show oe_V (oe_cost 111) 111 (oe_M (d + 1)) none Q 38 _ [.inr (.inl (sh ++ [(9, 3)] ++ ls_U ++ ls_E 30).length), .inr (.inl sh.length)] _ 26 4272
  refine n_putr (f 18 (q := (38, .putfield 4021, 3)) rfl) sa3 rfl rfl (fun g9 A9 G9 => ?_)
  rw [ln2] at A9
  have F9 : fd g9 sh.length ((2, sh.length + 20) :: [(1, sh.length + 13), (0, sh.length + 1)]) := fd_put F8 A9 G9 rfl
  refine s_ret (f 19 (q := (41, .return_, 1)) rfl) rfl ?_
  have E9 : ∀ c, c ≠ sh.length → c < sh.length + 27 → g9 c = g9 c := fun _ _ _ => rfl
  have E8 : ∀ c, c ≠ sh.length → c < sh.length + 27 → g9 c = g8 c := fun c z1 z2 => (E9 c z1 (by omega)).trans (funext fun i => G9 c i (Or.inl z1))
  have E7 : ∀ c, c ≠ sh.length → c < sh.length + 20 → g9 c = g7 c := fun c z1 z2 => (E8 c z1 (by omega)).trans (G8 c (by omega))
  have E6 : ∀ c, c ≠ sh.length → c < sh.length + 20 → g9 c = g6 c := fun c z1 z2 => (E7 c z1 (by omega)).trans (G7 c (by omega))
  have E5 : ∀ c, c ≠ sh.length → c < sh.length + 20 → g9 c = g5 c := fun c z1 z2 => (E6 c z1 (by omega)).trans (funext fun i => G6 c i (Or.inl z1))
  have E4 : ∀ c, c ≠ sh.length → c < sh.length + 13 → g9 c = g4 c := fun c z1 z2 => (E5 c z1 (by omega)).trans (G5 c (by omega))
  have E3 : ∀ c, c ≠ sh.length → c < sh.length + 13 → g9 c = g3 c := fun c z1 z2 => (E4 c z1 (by omega)).trans (G4 c (by omega))
  have E2 : ∀ c, c ≠ sh.length → c < sh.length + 13 → g9 c = g2 c := fun c z1 z2 => (E3 c z1 (by omega)).trans (funext fun i => G3 c i (Or.inl z1))
  have E1 : ∀ c, c ≠ sh.length → c < sh.length + 1 → g9 c = g1 c := fun c z1 z2 => (E2 c z1 (by omega)).trans (G2 c (by omega))
  have E0 : ∀ c, c ≠ sh.length → c < sh.length + 1 → g9 c = g c := fun c z1 z2 => (E1 c z1 (by omega)).trans (G1 c (by omega))
  have e1 : sh ++ [(9, 3)] ++ ls_U ++ ls_E 30 ++ ls_E 30 = sh ++ ls_O := by simp only [ls_O, List.append_assoc]
  rw [e1]
  refine k g9 ⟨sh_at (i := 0) rfl, F9 (0, _) (by simp), UnS.ext S2 (fun c q hq => by rw [← e1]; exact sh_app (sh_app (hq))) (fun c z1 z2 => E2 c (by omega) (by omega)), F9 (1, _) (by simp), EqS.ext S5 (fun c q hq => by rw [← e1]; exact sh_app (hq)) (fun c z1 z2 => E5 c (by omega) (by omega)), F9 (2, _) (by simp), EqS.ext S8 (fun c q hq => by rw [← e1]; exact hq) (fun c z1 z2 => E8 c (by omega) (by omega))⟩ (fun c hc => E0 c (by omega) (by omega))
end
