/-! The constructors of the object and of the reference, laid by program. -/
def ls_X : List (Nat × Nat) := [(5, 14)] ++ [(1, 60)] ++ [(1, 61)] ++ ls_W ++ ls_A ++ ls_O ++ ls_E 30 ++ ls_E 60 ++ ls_E 30 ++ ls_E 30 ++ [(0, 12)]
def OeA (sh : List (Nat × Nat)) (g : Nat → Nat → Option Nat) (a : Nat) : Prop := sh[a]? = some (5, 14) ∧ (g a 0 = some (a + 1) ∧ sh[a + 1]? = some (1, 60) ∧ g a 2 = some (a + 2) ∧ sh[a + 2]? = some (1, 61)) ∧ (g a 4 = some (a + 3) ∧ WtS sh g (a + 3) (fun i => i)) ∧ (g a 5 = some (a + 215) ∧ AcS sh g (a + 215)) ∧ (g a 6 = some (a + 292) ∧ OvS sh g (a + 292)) ∧ (g a 8 = some (a + 319) ∧ EqS sh g (a + 319) 30) ∧ (g a 10 = some (a + 326) ∧ EqS sh g (a + 326) 60) ∧ (g a 11 = some (a + 333) ∧ EqS sh g (a + 333) 30) ∧ (g a 12 = some (a + 340) ∧ EqS sh g (a + 340) 30) ∧ g a 13 = some (a + 347) ∧ sh[a + 347]? = some (0, 12)
section
variable {D : Nat} {sh : List (Nat × Nat)} {g : Nat → Nat → Option Nat} {Q : oeQ}
theorem k_object0 (hDD : 10 ≤ D)
    (k : ∀ g' : Nat → Nat → Option Nat, OeA (sh ++ ls_X) g' sh.length → (∀ c, c < sh.length → g' c = g c) → Q none (sh ++ ls_X, g', oe_z)) :
    oe_M D 2 [.inr (.inl sh.length)] (sh ++ [(5, 14)], g, oe_z) Q := by
  obtain ⟨d, rfl⟩ : ∃ d, D = d + 2 := ⟨D - 2, by omega⟩
  have f : ∀ (i : Nat) {q : Nat × Jvm.ClassFile.Instr × Nat}, oe_c2[i]? = some q → oe_find (oe_code 2) q.1 = some q.2 := fun i q hq => oe_ft (c := oe_c2) (by decide +kernel) hq
  refine oe_M.of (by simp [oe_c1]) (Nat.le_of_ble_eq_true rfl) ?_
  show oe_V (oe_cost 2) 2 (oe_M (d + 1)) none Q 0 [some (.inr (.inl sh.length))] [] (sh ++ [(5, 14)], g, oe_z) 0 0
  have sa0 : (sh ++ [(5, 14)])[sh.length]? = some (5, 14) := sh_last
  have ln0 : (sh ++ [(5, 14)]).length = sh.length + 1 := by simp
  have F0 : fd g sh.length [] := fd_nil
  refine s_aload_n (f 0 (q := (0, .aload_n 0, 1)) rfl) rfl ?_
  refine n_obj (f 1 (q := (1, .invokespecial 0, 3)) rfl) (by simp) ?_
  refine s_aload_n (f 2 (q := (4, .aload_n 0, 1)) rfl) rfl ?_
  refine s_bipush (f 3 (q := (5, .bipush 60, 2)) rfl) ?_
  refine n_arr (v := 60) (t := 1) (f 4 (q := (7, .newarray .char, 2)) rfl) rfl (by decide) (by decide) (by decide) (fun g1 G1 => ?_)
  rw [ln0] at G1
  have F1 := fd_kept F0 (G1 _ (by omega))
  have sa1 : (sh ++ [(5, 14)] ++ [(1, 60)])[sh.length]? = _ := sh_app sa0
  have ln1 : (sh ++ [(5, 14)] ++ [(1, 60)]).length = sh.length + 2 := by rw [List.length_append, ln0]; rfl
  refine n_putr (f 5 (q := (9, .putfield 1, 3)) rfl) sa1 rfl rfl (fun g2 A2 G2 => ?_)
  rw [ln0] at A2
  have F2 : fd g2 sh.length ((0, sh.length + 1) :: []) := fd_put F1 A2 G2 rfl
  refine s_aload_n (f 6 (q := (12, .aload_n 0, 1)) rfl) rfl ?_
  refine s_iconst (f 7 (q := (13, .iconst 0, 1)) rfl) ?_
  refine n_put0 (f 8 (q := (14, .putfield 10, 3)) rfl) sa1 rfl (Or.inl rfl) ?_
  refine s_aload_n (f 9 (q := (17, .aload_n 0, 1)) rfl) rfl ?_
  refine s_bipush (f 10 (q := (18, .bipush 61, 2)) rfl) ?_
  refine n_arr (v := 61) (t := 1) (f 11 (q := (20, .newarray .char, 2)) rfl) rfl (by decide) (by decide) (by decide) (fun g3 G3 => ?_)
  rw [ln1] at G3
  have F3 := fd_kept F2 (G3 _ (by omega))
  have sa2 : (sh ++ [(5, 14)] ++ [(1, 60)] ++ [(1, 61)])[sh.length]? = _ := sh_app sa1
  have ln2 : (sh ++ [(5, 14)] ++ [(1, 60)] ++ [(1, 61)]).length = sh.length + 3 := by rw [List.length_append, ln1]; rfl
  refine n_putr (f 12 (q := (22, .putfield 21, 3)) rfl) sa2 rfl rfl (fun g4 A4 G4 => ?_)
  rw [ln1] at A4
  have F4 : fd g4 sh.length ((2, sh.length + 2) :: [(0, sh.length + 1)]) := fd_put F3 A4 G4 rfl
  refine s_aload_n (f 13 (q := (25, .aload_n 0, 1)) rfl) rfl ?_
  refine s_iconst (f 14 (q := (26, .iconst 0, 1)) rfl) ?_
  refine n_put0 (f 15 (q := (27, .putfield 30, 3)) rfl) sa2 rfl (Or.inl rfl) ?_
  refine s_aload_n (f 16 (q := (30, .aload_n 0, 1)) rfl) rfl ?_
  refine n_new (f 17 (q := (31, .new 6, 3)) rfl) (by decide) (by decide) (fun g5 G5 => ?_)
  rw [ln2] at G5
  have F5 := fd_kept F4 (G5 _ (by omega))
  refine s_dup (f 18 (q := (34, .dup, 1)) rfl) trivial ?_
  refine n_call0 (f 19 (q := (35, .invokespecial 125060, 3)) rfl) (by decide) rfl (by simp) (by decide) (by decide) ?_
  refine k_waiting (sh := sh ++ [(5, 14)] ++ [(1, 60)] ++ [(1, 61)]) (by omega) (fun g6 S6 G6 => ?_)
  rw [ln2] at G6
  have F6 := fd_kept F5 (G6 _ (by omega))
  have sa3 : (sh ++ [(5, 14)] ++ [(1, 60)] ++ [(1, 61)] ++ ls_W)[sh.length]? = _ := sh_app sa2
  have ln3 : (sh ++ [(5, 14)] ++ [(1, 60)] ++ [(1, 61)] ++ ls_W).length = sh.length + 215 := by rw [List.length_append, ln2, ls_W_len]
  rw [ln2] at S6
  show oe_V (oe_cost 2) 2 (oe_M (d + 1)) none Q 38 _ [.inr (.inl (sh ++ [(5, 14)] ++ [(1, 60)] ++ [(1, 61)]).length), .inr (.inl sh.length)] _ 214 36393
  refine n_putr (f 20 (q := (38, .putfield 41, 3)) rfl) sa3 rfl rfl (fun g7 A7 G7 => ?_)
  rw [ln2] at A7
  have F7 : fd g7 sh.length ((4, sh.length + 3) :: [(2, sh.length + 2), (0, sh.length + 1)]) := fd_put F6 A7 G7 rfl
  refine s_aload_n (f 21 (q := (41, .aload_n 0, 1)) rfl) rfl ?_
  refine n_new (f 22 (q := (42, .new 1, 3)) rfl) (by decide) (by decide) (fun g8 G8 => ?_)
  rw [ln3] at G8
  have F8 := fd_kept F7 (G8 _ (by omega))
  refine s_dup (f 23 (q := (45, .dup, 1)) rfl) trivial ?_
  refine n_call0 (f 24 (q := (46, .invokespecial 85010, 3)) rfl) (by decide) rfl (by simp) (by decide) (by decide) ?_
  refine k_actives (sh := sh ++ [(5, 14)] ++ [(1, 60)] ++ [(1, 61)] ++ ls_W) (by omega) (fun g9 S9 G9 => ?_)
  rw [ln3] at G9
  have F9 := fd_kept F8 (G9 _ (by omega))
  have sa4 : (sh ++ [(5, 14)] ++ [(1, 60)] ++ [(1, 61)] ++ ls_W ++ ls_A)[sh.length]? = _ := sh_app sa3
  have ln4 : (sh ++ [(5, 14)] ++ [(1, 60)] ++ [(1, 61)] ++ ls_W ++ ls_A).length = sh.length + 292 := by rw [List.length_append, ln3, ls_A_len]
  rw [ln3] at S9
  show oe_V (oe_cost 2) 2 (oe_M (d + 1)) none Q 49 _ [.inr (.inl (sh ++ [(5, 14)] ++ [(1, 60)] ++ [(1, 61)] ++ ls_W).length), .inr (.inl sh.length)] _ 291 49123
  refine n_putr (f 25 (q := (49, .putfield 51, 3)) rfl) sa4 rfl rfl (fun g10 A10 G10 => ?_)
  rw [ln3] at A10
  have F10 : fd g10 sh.length ((5, sh.length + 215) :: [(4, sh.length + 3), (2, sh.length + 2), (0, sh.length + 1)]) := fd_put F9 A10 G10 rfl
  refine s_aload_n (f 26 (q := (52, .aload_n 0, 1)) rfl) rfl ?_
  refine n_new (f 27 (q := (53, .new 4, 3)) rfl) (by decide) (by decide) (fun g11 G11 => ?_)
  rw [ln4] at G11
  have F11 := fd_kept F10 (G11 _ (by omega))
  refine s_dup (f 28 (q := (56, .dup, 1)) rfl) trivial ?_
  refine n_call0 (f 29 (q := (57, .invokespecial 111040, 3)) rfl) (by decide) rfl (by simp) (by decide) (by decide) ?_
  refine k_overlap (sh := sh ++ [(5, 14)] ++ [(1, 60)] ++ [(1, 61)] ++ ls_W ++ ls_A) (by omega) (fun g12 S12 G12 => ?_)
  rw [ln4] at G12
  have F12 := fd_kept F11 (G12 _ (by omega))
  have sa5 : (sh ++ [(5, 14)] ++ [(1, 60)] ++ [(1, 61)] ++ ls_W ++ ls_A ++ ls_O)[sh.length]? = _ := sh_app sa4
  have ln5 : (sh ++ [(5, 14)] ++ [(1, 60)] ++ [(1, 61)] ++ ls_W ++ ls_A ++ ls_O).length = sh.length + 319 := by rw [List.length_append, ln4]; rfl
  rw [ln4] at S12
  show oe_V (oe_cost 2) 2 (oe_M (d + 1)) none Q 60 _ [.inr (.inl (sh ++ [(5, 14)] ++ [(1, 60)] ++ [(1, 61)] ++ ls_W ++ ls_A).length), .inr (.inl sh.length)] _ 318 53398
  refine n_putr (f 30 (q := (60, .putfield 61, 3)) rfl) sa5 rfl rfl (fun g13 A13 G13 => ?_)
  rw [ln4] at A13
  have F13 : fd g13 sh.length ((6, sh.length + 292) :: [(5, sh.length + 215), (4, sh.length + 3), (2, sh.length + 2), (0, sh.length + 1)]) := fd_put F12 A13 G13 rfl
  refine s_aload_n (f 31 (q := (63, .aload_n 0, 1)) rfl) rfl ?_
  refine s_iconst (f 32 (q := (64, .iconst 0, 1)) rfl) ?_
  refine n_put0 (f 33 (q := (65, .putfield 70, 3)) rfl) sa5 rfl (Or.inl rfl) ?_
  refine s_aload_n (f 34 (q := (68, .aload_n 0, 1)) rfl) rfl ?_
  refine n_new (f 35 (q := (69, .new 2, 3)) rfl) (by decide) (by decide) (fun g14 G14 => ?_)
  rw [ln5] at G14
  have F14 := fd_kept F13 (G14 _ (by omega))
  refine s_dup (f 36 (q := (72, .dup, 1)) rfl) trivial ?_
  refine s_bipush (f 37 (q := (73, .bipush 30, 2)) rfl) ?_
  refine n_call1 (f 38 (q := (75, .invokespecial 92021, 3)) rfl) (by decide) rfl (by simp) (by decide) (by decide) ?_
  refine k_equation (sh := sh ++ [(5, 14)] ++ [(1, 60)] ++ [(1, 61)] ++ ls_W ++ ls_A ++ ls_O) (cap := 30) (by omega) (by decide) (fun g15 S15 G15 => ?_)
  rw [ln5] at G15
  have F15 := fd_kept F14 (G15 _ (by omega))
  have sa6 : (sh ++ [(5, 14)] ++ [(1, 60)] ++ [(1, 61)] ++ ls_W ++ ls_A ++ ls_O ++ ls_E 30)[sh.length]? = _ := sh_app sa5
  have ln6 : (sh ++ [(5, 14)] ++ [(1, 60)] ++ [(1, 61)] ++ ls_W ++ ls_A ++ ls_O ++ ls_E 30).length = sh.length + 326 := by rw [List.length_append, ln5]; rfl
  rw [ln5] at S15
  show oe_V (oe_cost 2) 2 (oe_M (d + 1)) none Q 78 _ [.inr (.inl (sh ++ [(5, 14)] ++ [(1, 60)] ++ [(1, 61)] ++ ls_W ++ ls_A ++ ls_O).length), .inr (.inl sh.length)] _ 325 54606
  refine n_putr (f 39 (q := (78, .putfield 81, 3)) rfl) sa6 rfl rfl (fun g16 A16 G16 => ?_)
  rw [ln5] at A16
  have F16 : fd g16 sh.length ((8, sh.length + 319) :: [(6, sh.length + 292), (5, sh.length + 215), (4, sh.length + 3), (2, sh.length + 2), (0, sh.length + 1)]) := fd_put F15 A16 G16 rfl
  refine s_aload_n (f 40 (q := (81, .aload_n 0, 1)) rfl) rfl ?_
  refine s_iconst (f 41 (q := (82, .iconst 0, 1)) rfl) ?_
  refine n_put0 (f 42 (q := (83, .putfield 92, 3)) rfl) sa6 rfl (Or.inr rfl) ?_
  refine s_aload_n (f 43 (q := (86, .aload_n 0, 1)) rfl) rfl ?_
  refine n_new (f 44 (q := (87, .new 2, 3)) rfl) (by decide) (by decide) (fun g17 G17 => ?_)
  rw [ln6] at G17
  have F17 := fd_kept F16 (G17 _ (by omega))
  refine s_dup (f 45 (q := (90, .dup, 1)) rfl) trivial ?_
  refine s_bipush (f 46 (q := (91, .bipush 60, 2)) rfl) ?_
  refine n_call1 (f 47 (q := (93, .invokespecial 92021, 3)) rfl) (by decide) rfl (by simp) (by decide) (by decide) ?_
  refine k_equation (sh := sh ++ [(5, 14)] ++ [(1, 60)] ++ [(1, 61)] ++ ls_W ++ ls_A ++ ls_O ++ ls_E 30) (cap := 60) (by omega) (by decide) (fun g18 S18 G18 => ?_)
  rw [ln6] at G18
  have F18 := fd_kept F17 (G18 _ (by omega))
  have sa7 : (sh ++ [(5, 14)] ++ [(1, 60)] ++ [(1, 61)] ++ ls_W ++ ls_A ++ ls_O ++ ls_E 30 ++ ls_E 60)[sh.length]? = _ := sh_app sa6
  have ln7 : (sh ++ [(5, 14)] ++ [(1, 60)] ++ [(1, 61)] ++ ls_W ++ ls_A ++ ls_O ++ ls_E 30 ++ ls_E 60).length = sh.length + 333 := by rw [List.length_append, ln6]; rfl
  rw [ln6] at S18
  show oe_V (oe_cost 2) 2 (oe_M (d + 1)) none Q 96 _ [.inr (.inl (sh ++ [(5, 14)] ++ [(1, 60)] ++ [(1, 61)] ++ ls_W ++ ls_A ++ ls_O ++ ls_E 30).length), .inr (.inl sh.length)] _ 332 55814
  refine n_putr (f 48 (q := (96, .putfield 101, 3)) rfl) sa7 rfl rfl (fun g19 A19 G19 => ?_)
  rw [ln6] at A19
  have F19 : fd g19 sh.length ((10, sh.length + 326) :: [(8, sh.length + 319), (6, sh.length + 292), (5, sh.length + 215), (4, sh.length + 3), (2, sh.length + 2), (0, sh.length + 1)]) := fd_put F18 A19 G19 rfl
  refine s_aload_n (f 49 (q := (99, .aload_n 0, 1)) rfl) rfl ?_
  refine n_new (f 50 (q := (100, .new 2, 3)) rfl) (by decide) (by decide) (fun g20 G20 => ?_)
  rw [ln7] at G20
  have F20 := fd_kept F19 (G20 _ (by omega))
  refine s_dup (f 51 (q := (103, .dup, 1)) rfl) trivial ?_
  refine s_bipush (f 52 (q := (104, .bipush 30, 2)) rfl) ?_
  refine n_call1 (f 53 (q := (106, .invokespecial 92021, 3)) rfl) (by decide) rfl (by simp) (by decide) (by decide) ?_
  refine k_equation (sh := sh ++ [(5, 14)] ++ [(1, 60)] ++ [(1, 61)] ++ ls_W ++ ls_A ++ ls_O ++ ls_E 30 ++ ls_E 60) (cap := 30) (by omega) (by decide) (fun g21 S21 G21 => ?_)
  rw [ln7] at G21
  have F21 := fd_kept F20 (G21 _ (by omega))
  have sa8 : (sh ++ [(5, 14)] ++ [(1, 60)] ++ [(1, 61)] ++ ls_W ++ ls_A ++ ls_O ++ ls_E 30 ++ ls_E 60 ++ ls_E 30)[sh.length]? = _ := sh_app sa7
  have ln8 : (sh ++ [(5, 14)] ++ [(1, 60)] ++ [(1, 61)] ++ ls_W ++ ls_A ++ ls_O ++ ls_E 30 ++ ls_E 60 ++ ls_E 30).length = sh.length + 340 := by rw [List.length_append, ln7]; rfl
  rw [ln7] at S21
  show oe_V (oe_cost 2) 2 (oe_M (d + 1)) none Q 109 _ [.inr (.inl (sh ++ [(5, 14)] ++ [(1, 60)] ++ [(1, 61)] ++ ls_W ++ ls_A ++ ls_O ++ ls_E 30 ++ ls_E 60).length), .inr (.inl sh.length)] _ 339 57022
  refine n_putr (f 54 (q := (109, .putfield 111, 3)) rfl) sa8 rfl rfl (fun g22 A22 G22 => ?_)
  rw [ln7] at A22
  have F22 : fd g22 sh.length ((11, sh.length + 333) :: [(10, sh.length + 326), (8, sh.length + 319), (6, sh.length + 292), (5, sh.length + 215), (4, sh.length + 3), (2, sh.length + 2), (0, sh.length + 1)]) := fd_put F21 A22 G22 rfl
  refine s_aload_n (f 55 (q := (112, .aload_n 0, 1)) rfl) rfl ?_
  refine n_new (f 56 (q := (113, .new 2, 3)) rfl) (by decide) (by decide) (fun g23 G23 => ?_)
  rw [ln8] at G23
  have F23 := fd_kept F22 (G23 _ (by omega))
  refine s_dup (f 57 (q := (116, .dup, 1)) rfl) trivial ?_
  refine s_bipush (f 58 (q := (117, .bipush 30, 2)) rfl) ?_
  refine n_call1 (f 59 (q := (119, .invokespecial 92021, 3)) rfl) (by decide) rfl (by simp) (by decide) (by decide) ?_
  refine k_equation (sh := sh ++ [(5, 14)] ++ [(1, 60)] ++ [(1, 61)] ++ ls_W ++ ls_A ++ ls_O ++ ls_E 30 ++ ls_E 60 ++ ls_E 30) (cap := 30) (by omega) (by decide) (fun g24 S24 G24 => ?_)
  rw [ln8] at G24
  have F24 := fd_kept F23 (G24 _ (by omega))
  have sa9 : (sh ++ [(5, 14)] ++ [(1, 60)] ++ [(1, 61)] ++ ls_W ++ ls_A ++ ls_O ++ ls_E 30 ++ ls_E 60 ++ ls_E 30 ++ ls_E 30)[sh.length]? = _ := sh_app sa8
  have ln9 : (sh ++ [(5, 14)] ++ [(1, 60)] ++ [(1, 61)] ++ ls_W ++ ls_A ++ ls_O ++ ls_E 30 ++ ls_E 60 ++ ls_E 30 ++ ls_E 30).length = sh.length + 347 := by rw [List.length_append, ln8]; rfl
  rw [ln8] at S24
  show oe_V (oe_cost 2) 2 (oe_M (d + 1)) none Q 122 _ [.inr (.inl (sh ++ [(5, 14)] ++ [(1, 60)] ++ [(1, 61)] ++ ls_W ++ ls_A ++ ls_O ++ ls_E 30 ++ ls_E 60 ++ ls_E 30).length), .inr (.inl sh.length)] _ 346 58230
  refine n_putr (f 60 (q := (122, .putfield 121, 3)) rfl) sa9 rfl rfl (fun g25 A25 G25 => ?_)
  rw [ln8] at A25
  have F25 : fd g25 sh.length ((12, sh.length + 340) :: [(11, sh.length + 333), (10, sh.length + 326), (8, sh.length + 319), (6, sh.length + 292), (5, sh.length + 215), (4, sh.length + 3), (2, sh.length + 2), (0, sh.length + 1)]) := fd_put F24 A25 G25 rfl
  refine s_aload_n (f 61 (q := (125, .aload_n 0, 1)) rfl) rfl ?_
  refine s_bipush (f 62 (q := (126, .bipush 12, 2)) rfl) ?_
  refine n_arr (v := 12) (t := 0) (f 63 (q := (128, .newarray .int, 2)) rfl) rfl (by decide) (by decide) (by decide) (fun g26 G26 => ?_)
  rw [ln9] at G26
  have F26 := fd_kept F25 (G26 _ (by omega))
  have sa10 : (sh ++ [(5, 14)] ++ [(1, 60)] ++ [(1, 61)] ++ ls_W ++ ls_A ++ ls_O ++ ls_E 30 ++ ls_E 60 ++ ls_E 30 ++ ls_E 30 ++ [(0, 12)])[sh.length]? = _ := sh_app sa9
  have ln10 : (sh ++ [(5, 14)] ++ [(1, 60)] ++ [(1, 61)] ++ ls_W ++ ls_A ++ ls_O ++ ls_E 30 ++ ls_E 60 ++ ls_E 30 ++ ls_E 30 ++ [(0, 12)]).length = sh.length + 348 := by rw [List.length_append, ln9]; rfl
  refine n_putr (f 64 (q := (130, .putfield 131, 3)) rfl) sa10 rfl rfl (fun g27 A27 G27 => ?_)
  rw [ln9] at A27
  have F27 : fd g27 sh.length ((13, sh.length + 347) :: [(12, sh.length + 340), (11, sh.length + 333), (10, sh.length + 326), (8, sh.length + 319), (6, sh.length + 292), (5, sh.length + 215), (4, sh.length + 3), (2, sh.length + 2), (0, sh.length + 1)]) := fd_put F26 A27 G27 rfl
  refine s_ret (f 65 (q := (133, .return_, 1)) rfl) rfl ?_
  have E27 : ∀ c, c ≠ sh.length → c < sh.length + 348 → g27 c = g27 c := fun _ _ _ => rfl
  have E26 : ∀ c, c ≠ sh.length → c < sh.length + 348 → g27 c = g26 c := fun c z1 z2 => (E27 c z1 (by omega)).trans (funext fun i => G27 c i (Or.inl z1))
  have E25 : ∀ c, c ≠ sh.length → c < sh.length + 347 → g27 c = g25 c := fun c z1 z2 => (E26 c z1 (by omega)).trans (G26 c (by omega))
  have E24 : ∀ c, c ≠ sh.length → c < sh.length + 347 → g27 c = g24 c := fun c z1 z2 => (E25 c z1 (by omega)).trans (funext fun i => G25 c i (Or.inl z1))
  have E23 : ∀ c, c ≠ sh.length → c < sh.length + 340 → g27 c = g23 c := fun c z1 z2 => (E24 c z1 (by omega)).trans (G24 c (by omega))
  have E22 : ∀ c, c ≠ sh.length → c < sh.length + 340 → g27 c = g22 c := fun c z1 z2 => (E23 c z1 (by omega)).trans (G23 c (by omega))
  have E21 : ∀ c, c ≠ sh.length → c < sh.length + 340 → g27 c = g21 c := fun c z1 z2 => (E22 c z1 (by omega)).trans (funext fun i => G22 c i (Or.inl z1))
  have E20 : ∀ c, c ≠ sh.length → c < sh.length + 333 → g27 c = g20 c := fun c z1 z2 => (E21 c z1 (by omega)).trans (G21 c (by omega))
  have E19 : ∀ c, c ≠ sh.length → c < sh.length + 333 → g27 c = g19 c := fun c z1 z2 => (E20 c z1 (by omega)).trans (G20 c (by omega))
  have E18 : ∀ c, c ≠ sh.length → c < sh.length + 333 → g27 c = g18 c := fun c z1 z2 => (E19 c z1 (by omega)).trans (funext fun i => G19 c i (Or.inl z1))
  have E17 : ∀ c, c ≠ sh.length → c < sh.length + 326 → g27 c = g17 c := fun c z1 z2 => (E18 c z1 (by omega)).trans (G18 c (by omega))
  have E16 : ∀ c, c ≠ sh.length → c < sh.length + 326 → g27 c = g16 c := fun c z1 z2 => (E17 c z1 (by omega)).trans (G17 c (by omega))
  have E15 : ∀ c, c ≠ sh.length → c < sh.length + 326 → g27 c = g15 c := fun c z1 z2 => (E16 c z1 (by omega)).trans (funext fun i => G16 c i (Or.inl z1))
  have E14 : ∀ c, c ≠ sh.length → c < sh.length + 319 → g27 c = g14 c := fun c z1 z2 => (E15 c z1 (by omega)).trans (G15 c (by omega))
  have E13 : ∀ c, c ≠ sh.length → c < sh.length + 319 → g27 c = g13 c := fun c z1 z2 => (E14 c z1 (by omega)).trans (G14 c (by omega))
  have E12 : ∀ c, c ≠ sh.length → c < sh.length + 319 → g27 c = g12 c := fun c z1 z2 => (E13 c z1 (by omega)).trans (funext fun i => G13 c i (Or.inl z1))
  have E11 : ∀ c, c ≠ sh.length → c < sh.length + 292 → g27 c = g11 c := fun c z1 z2 => (E12 c z1 (by omega)).trans (G12 c (by omega))
  have E10 : ∀ c, c ≠ sh.length → c < sh.length + 292 → g27 c = g10 c := fun c z1 z2 => (E11 c z1 (by omega)).trans (G11 c (by omega))
  have E9 : ∀ c, c ≠ sh.length → c < sh.length + 292 → g27 c = g9 c := fun c z1 z2 => (E10 c z1 (by omega)).trans (funext fun i => G10 c i (Or.inl z1))
  have E8 : ∀ c, c ≠ sh.length → c < sh.length + 215 → g27 c = g8 c := fun c z1 z2 => (E9 c z1 (by omega)).trans (G9 c (by omega))
  have E7 : ∀ c, c ≠ sh.length → c < sh.length + 215 → g27 c = g7 c := fun c z1 z2 => (E8 c z1 (by omega)).trans (G8 c (by omega))
  have E6 : ∀ c, c ≠ sh.length → c < sh.length + 215 → g27 c = g6 c := fun c z1 z2 => (E7 c z1 (by omega)).trans (funext fun i => G7 c i (Or.inl z1))
  have E5 : ∀ c, c ≠ sh.length → c < sh.length + 3 → g27 c = g5 c := fun c z1 z2 => (E6 c z1 (by omega)).trans (G6 c (by omega))
  have E4 : ∀ c, c ≠ sh.length → c < sh.length + 3 → g27 c = g4 c := fun c z1 z2 => (E5 c z1 (by omega)).trans (G5 c (by omega))
  have E3 : ∀ c, c ≠ sh.length → c < sh.length + 3 → g27 c = g3 c := fun c z1 z2 => (E4 c z1 (by omega)).trans (funext fun i => G4 c i (Or.inl z1))
  have E2 : ∀ c, c ≠ sh.length → c < sh.length + 2 → g27 c = g2 c := fun c z1 z2 => (E3 c z1 (by omega)).trans (G3 c (by omega))
  have E1 : ∀ c, c ≠ sh.length → c < sh.length + 2 → g27 c = g1 c := fun c z1 z2 => (E2 c z1 (by omega)).trans (funext fun i => G2 c i (Or.inl z1))
  have E0 : ∀ c, c ≠ sh.length → c < sh.length + 1 → g27 c = g c := fun c z1 z2 => (E1 c z1 (by omega)).trans (G1 c (by omega))
  have e1 : sh ++ [(5, 14)] ++ [(1, 60)] ++ [(1, 61)] ++ ls_W ++ ls_A ++ ls_O ++ ls_E 30 ++ ls_E 60 ++ ls_E 30 ++ ls_E 30 ++ [(0, 12)] = sh ++ ls_X := by simp only [ls_X, List.append_assoc]
  have top : (sh ++ [(5, 14)] ++ [(1, 60)] ++ [(1, 61)] ++ ls_W ++ ls_A ++ ls_O ++ ls_E 30 ++ ls_E 60 ++ ls_E 30 ++ ls_E 30 ++ [(0, 12)])[sh.length + 347]? = some (0, 12) := by rw [← ln9]; exact sh_last
  rw [e1] at top ⊢
  refine k g27 ⟨sh_at (i := 0) rfl, ⟨F27 (0, _) (by simp), sh_at (i := 1) rfl, F27 (2, _) (by simp), sh_at (i := 2) rfl⟩, ⟨F27 (4, _) (by simp), WtS.ext S6 (fun c q hq => by rw [← e1]; exact sh_app (sh_app (sh_app (sh_app (sh_app (sh_app (sh_app (hq)))))))) (fun c z1 z2 => E6 c (by omega) (by omega))⟩, ⟨F27 (5, _) (by simp), AcS.ext S9 (fun c q hq => by rw [← e1]; exact sh_app (sh_app (sh_app (sh_app (sh_app (sh_app (hq))))))) (fun c z1 z2 => E9 c (by omega) (by omega))⟩, ⟨F27 (6, _) (by simp), OvS.ext S12 (fun c q hq => by rw [← e1]; exact sh_app (sh_app (sh_app (sh_app (sh_app (hq)))))) (fun c z1 z2 => E12 c (by omega) (by omega))⟩, ⟨F27 (8, _) (by simp), EqS.ext S15 (fun c q hq => by rw [← e1]; exact sh_app (sh_app (sh_app (sh_app (hq))))) (fun c z1 z2 => E15 c (by omega) (by omega))⟩, ⟨F27 (10, _) (by simp), EqS.ext S18 (fun c q hq => by rw [← e1]; exact sh_app (sh_app (sh_app (hq)))) (fun c z1 z2 => E18 c (by omega) (by omega))⟩, ⟨F27 (11, _) (by simp), EqS.ext S21 (fun c q hq => by rw [← e1]; exact sh_app (sh_app (hq))) (fun c z1 z2 => E21 c (by omega) (by omega))⟩, ⟨F27 (12, _) (by simp), EqS.ext S24 (fun c q hq => by rw [← e1]; exact sh_app (hq)) (fun c z1 z2 => E24 c (by omega) (by omega))⟩, F27 (13, _) (by simp), top⟩ (fun c hc => E0 c (by omega) (by omega))
theorem k_object (hDD : 10 ≤ D) (k : ∀ g' : Nat → Nat → Option Nat, OeS ls_X g' (fun i => i) → Q none (ls_X, g', oe_z)) : oe_M D 2 [.inr (.inl 0)] ([(5, 14)], g, oe_z) Q := by
  refine k_object0 (sh := []) hDD (fun g' H _ => ?_)
  have H : OeA ls_X g' 0 := H
  obtain ⟨a1, ⟨a2, a3, a4, a5⟩, ⟨b1, b2⟩, ⟨c1, c2⟩, ⟨d1, d2⟩, ⟨e1, e2⟩, ⟨f1, f2⟩, ⟨h1, h2⟩, ⟨i1, i2⟩, j1, j2⟩ := H
  rw [Nat.zero_add] at *
  exact k g' ⟨a1, ⟨a2, a3, a4, a5⟩, ⟨b1, b2⟩, ⟨c1, c2⟩, ⟨d1, d2⟩, ⟨e1, e2⟩, ⟨f1, f2⟩, ⟨h1, h2⟩, ⟨i1, i2⟩, j1, j2⟩
end
