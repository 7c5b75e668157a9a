/-! The constructor of the reference, laid by program. -/
def ls_M : List (Nat × Nat) := [(12, 45)] ++ [(0, 60)] ++ [(0, 70)] ++ [(0, 60)] ++ [(0, 600)] ++ [(0, 30)] ++ [(0, 30)] ++ [(0, 200)] ++ [(0, 10)] ++ [(0, 10)] ++ [(0, 240)] ++ [(0, 6)] ++ [(0, 12)] ++ [(0, 60)] ++ [(0, 60)] ++ [(0, 60)] ++ [(0, 60)] ++ [(2, 3600)] ++ [(0, 64)] ++ [(0, 6)] ++ [(0, 6)] ++ [(0, 64)] ++ [(0, 64)] ++ [(0, 12)] ++ [(0, 620)] ++ [(0, 620)] ++ [(0, 320)] ++ [(0, 16)] ++ [(0, 16)] ++ [(0, 128)] ++ [(0, 4)]
section
variable {D : Nat} {sh : List (Nat × Nat)} {g : Nat → Nat → Option Nat} {Q : oeQ}
set_option maxHeartbeats 16000000 in
theorem k_model (hDD : 4 ≤ D)
    (k : ∀ g' : Nat → Nat → Option Nat, MdS (sh ++ ls_M) g' sh.length → (∀ c, c < sh.length → g' c = g c) → Q none (sh ++ ls_M, g', oe_z)) :
    oe_M D 28 [.inr (.inl sh.length)] (sh ++ [(12, 45)], g, oe_z) Q := by
  obtain ⟨d, rfl⟩ : ∃ d, D = d + 2 := ⟨D - 2, by omega⟩
  have f : ∀ (i : Nat) {q : Nat × Jvm.ClassFile.Instr × Nat}, oe_c28[i]? = some q → oe_find (oe_code 28) q.1 = some q.2 := fun i q hq => oe_ft (c := oe_c28) (by decide +kernel) hq
  refine oe_M.of (by simp [oe_c1]) (Nat.le_of_ble_eq_true rfl) ?_
  show oe_V (oe_cost 28) 28 (oe_M (d + 1)) none Q 0 [some (.inr (.inl sh.length))] [] (sh ++ [(12, 45)], g, oe_z) 0 0
  have sa0 : (sh ++ [(12, 45)])[sh.length]? = some (12, 45) := sh_last
  have ln0 : (sh ++ [(12, 45)]).length = sh.length + 1 := by simp
  have F0 : fd g sh.length [] := fd_nil
  refine s_aload_n (f 0 (q := (0, .aload_n 0, 1)) rfl) rfl ?_
  refine n_obj (f 1 (q := (1, .invokespecial 0, 3)) rfl) (by simp) ?_
  refine s_aload_n (f 2 (q := (4, .aload_n 0, 1)) rfl) rfl ?_
  refine s_bipush (f 3 (q := (5, .bipush 60, 2)) rfl) ?_
  refine n_arr (v := 60) (t := 0) (f 4 (q := (7, .newarray .int, 2)) rfl) rfl (by decide) (by decide) (by decide) (fun g1 G1 => ?_)
  rw [ln0] at G1
  have F1 := fd_kept F0 (G1 _ (by omega))
  have sa1 : (sh ++ [(12, 45)] ++ [(0, 60)])[sh.length]? = _ := sh_app sa0
  have ln1 : (sh ++ [(12, 45)] ++ [(0, 60)]).length = sh.length + 2 := by rw [List.length_append, ln0]; rfl
  refine n_putr (f 5 (q := (9, .putfield 7021, 3)) rfl) sa1 rfl rfl (fun g2 A2 G2 => ?_)
  rw [ln0] at A2
  have F2 : fd g2 sh.length ((2, sh.length + 1) :: []) := fd_put F1 A2 G2 rfl
  refine s_aload_n (f 6 (q := (12, .aload_n 0, 1)) rfl) rfl ?_
  refine s_bipush (f 7 (q := (13, .bipush 70, 2)) rfl) ?_
  refine n_arr (v := 70) (t := 0) (f 8 (q := (15, .newarray .int, 2)) rfl) rfl (by decide) (by decide) (by decide) (fun g3 G3 => ?_)
  rw [ln1] at G3
  have F3 := fd_kept F2 (G3 _ (by omega))
  have sa2 : (sh ++ [(12, 45)] ++ [(0, 60)] ++ [(0, 70)])[sh.length]? = _ := sh_app sa1
  have ln2 : (sh ++ [(12, 45)] ++ [(0, 60)] ++ [(0, 70)]).length = sh.length + 3 := by rw [List.length_append, ln1]; rfl
  refine n_putr (f 9 (q := (17, .putfield 7041, 3)) rfl) sa2 rfl rfl (fun g4 A4 G4 => ?_)
  rw [ln1] at A4
  have F4 : fd g4 sh.length ((4, sh.length + 2) :: [(2, sh.length + 1)]) := fd_put F3 A4 G4 rfl
  refine s_aload_n (f 10 (q := (20, .aload_n 0, 1)) rfl) rfl ?_
  refine s_bipush (f 11 (q := (21, .bipush 60, 2)) rfl) ?_
  refine n_arr (v := 60) (t := 0) (f 12 (q := (23, .newarray .int, 2)) rfl) rfl (by decide) (by decide) (by decide) (fun g5 G5 => ?_)
  rw [ln2] at G5
  have F5 := fd_kept F4 (G5 _ (by omega))
  have sa3 : (sh ++ [(12, 45)] ++ [(0, 60)] ++ [(0, 70)] ++ [(0, 60)])[sh.length]? = _ := sh_app sa2
  have ln3 : (sh ++ [(12, 45)] ++ [(0, 60)] ++ [(0, 70)] ++ [(0, 60)]).length = sh.length + 4 := by rw [List.length_append, ln2]; rfl
  refine n_putr (f 13 (q := (25, .putfield 7051, 3)) rfl) sa3 rfl rfl (fun g6 A6 G6 => ?_)
  rw [ln2] at A6
  have F6 : fd g6 sh.length ((5, sh.length + 3) :: [(4, sh.length + 2), (2, sh.length + 1)]) := fd_put F5 A6 G6 rfl
  refine s_aload_n (f 14 (q := (28, .aload_n 0, 1)) rfl) rfl ?_
  refine s_sipush (f 15 (q := (29, .sipush 600, 3)) rfl) ?_
  refine n_arr (v := 600) (t := 0) (f 16 (q := (32, .newarray .int, 2)) rfl) rfl (by decide) (by decide) (by decide) (fun g7 G7 => ?_)
  rw [ln3] at G7
  have F7 := fd_kept F6 (G7 _ (by omega))
  have sa4 : (sh ++ [(12, 45)] ++ [(0, 60)] ++ [(0, 70)] ++ [(0, 60)] ++ [(0, 600)])[sh.length]? = _ := sh_app sa3
  have ln4 : (sh ++ [(12, 45)] ++ [(0, 60)] ++ [(0, 70)] ++ [(0, 60)] ++ [(0, 600)]).length = sh.length + 5 := by rw [List.length_append, ln3]; rfl
  refine n_putr (f 17 (q := (34, .putfield 7091, 3)) rfl) sa4 rfl rfl (fun g8 A8 G8 => ?_)
  rw [ln3] at A8
  have F8 : fd g8 sh.length ((9, sh.length + 4) :: [(5, sh.length + 3), (4, sh.length + 2), (2, sh.length + 1)]) := fd_put F7 A8 G8 rfl
  refine s_aload_n (f 18 (q := (37, .aload_n 0, 1)) rfl) rfl ?_
  refine s_bipush (f 19 (q := (38, .bipush 30, 2)) rfl) ?_
  refine n_arr (v := 30) (t := 0) (f 20 (q := (40, .newarray .int, 2)) rfl) rfl (by decide) (by decide) (by decide) (fun g9 G9 => ?_)
  rw [ln4] at G9
  have F9 := fd_kept F8 (G9 _ (by omega))
  have sa5 : (sh ++ [(12, 45)] ++ [(0, 60)] ++ [(0, 70)] ++ [(0, 60)] ++ [(0, 600)] ++ [(0, 30)])[sh.length]? = _ := sh_app sa4
  have ln5 : (sh ++ [(12, 45)] ++ [(0, 60)] ++ [(0, 70)] ++ [(0, 60)] ++ [(0, 600)] ++ [(0, 30)]).length = sh.length + 6 := by rw [List.length_append, ln4]; rfl
  refine n_putr (f 21 (q := (42, .putfield 7101, 3)) rfl) sa5 rfl rfl (fun g10 A10 G10 => ?_)
  rw [ln4] at A10
  have F10 : fd g10 sh.length ((10, sh.length + 5) :: [(9, sh.length + 4), (5, sh.length + 3), (4, sh.length + 2), (2, sh.length + 1)]) := fd_put F9 A10 G10 rfl
  refine s_aload_n (f 22 (q := (45, .aload_n 0, 1)) rfl) rfl ?_
  refine s_bipush (f 23 (q := (46, .bipush 30, 2)) rfl) ?_
  refine n_arr (v := 30) (t := 0) (f 24 (q := (48, .newarray .int, 2)) rfl) rfl (by decide) (by decide) (by decide) (fun g11 G11 => ?_)
  rw [ln5] at G11
  have F11 := fd_kept F10 (G11 _ (by omega))
  have sa6 : (sh ++ [(12, 45)] ++ [(0, 60)] ++ [(0, 70)] ++ [(0, 60)] ++ [(0, 600)] ++ [(0, 30)] ++ [(0, 30)])[sh.length]? = _ := sh_app sa5
  have ln6 : (sh ++ [(12, 45)] ++ [(0, 60)] ++ [(0, 70)] ++ [(0, 60)] ++ [(0, 600)] ++ [(0, 30)] ++ [(0, 30)]).length = sh.length + 7 := by rw [List.length_append, ln5]; rfl
  refine n_putr (f 25 (q := (50, .putfield 7111, 3)) rfl) sa6 rfl rfl (fun g12 A12 G12 => ?_)
  rw [ln5] at A12
  have F12 : fd g12 sh.length ((11, sh.length + 6) :: [(10, sh.length + 5), (9, sh.length + 4), (5, sh.length + 3), (4, sh.length + 2), (2, sh.length + 1)]) := fd_put F11 A12 G12 rfl
  refine s_aload_n (f 26 (q := (53, .aload_n 0, 1)) rfl) rfl ?_
  refine s_sipush (f 27 (q := (54, .sipush 200, 3)) rfl) ?_
  refine n_arr (v := 200) (t := 0) (f 28 (q := (57, .newarray .int, 2)) rfl) rfl (by decide) (by decide) (by decide) (fun g13 G13 => ?_)
  rw [ln6] at G13
  have F13 := fd_kept F12 (G13 _ (by omega))
  have sa7 : (sh ++ [(12, 45)] ++ [(0, 60)] ++ [(0, 70)] ++ [(0, 60)] ++ [(0, 600)] ++ [(0, 30)] ++ [(0, 30)] ++ [(0, 200)])[sh.length]? = _ := sh_app sa6
  have ln7 : (sh ++ [(12, 45)] ++ [(0, 60)] ++ [(0, 70)] ++ [(0, 60)] ++ [(0, 600)] ++ [(0, 30)] ++ [(0, 30)] ++ [(0, 200)]).length = sh.length + 8 := by rw [List.length_append, ln6]; rfl
  refine n_putr (f 29 (q := (59, .putfield 7131, 3)) rfl) sa7 rfl rfl (fun g14 A14 G14 => ?_)
  rw [ln6] at A14
  have F14 : fd g14 sh.length ((13, sh.length + 7) :: [(11, sh.length + 6), (10, sh.length + 5), (9, sh.length + 4), (5, sh.length + 3), (4, sh.length + 2), (2, sh.length + 1)]) := fd_put F13 A14 G14 rfl
  refine s_aload_n (f 30 (q := (62, .aload_n 0, 1)) rfl) rfl ?_
  refine s_bipush (f 31 (q := (63, .bipush 10, 2)) rfl) ?_
  refine n_arr (v := 10) (t := 0) (f 32 (q := (65, .newarray .int, 2)) rfl) rfl (by decide) (by decide) (by decide) (fun g15 G15 => ?_)
  rw [ln7] at G15
  have F15 := fd_kept F14 (G15 _ (by omega))
  have sa8 : (sh ++ [(12, 45)] ++ [(0, 60)] ++ [(0, 70)] ++ [(0, 60)] ++ [(0, 600)] ++ [(0, 30)] ++ [(0, 30)] ++ [(0, 200)] ++ [(0, 10)])[sh.length]? = _ := sh_app sa7
  have ln8 : (sh ++ [(12, 45)] ++ [(0, 60)] ++ [(0, 70)] ++ [(0, 60)] ++ [(0, 600)] ++ [(0, 30)] ++ [(0, 30)] ++ [(0, 200)] ++ [(0, 10)]).length = sh.length + 9 := by rw [List.length_append, ln7]; rfl
  refine n_putr (f 33 (q := (67, .putfield 7141, 3)) rfl) sa8 rfl rfl (fun g16 A16 G16 => ?_)
  rw [ln7] at A16
  have F16 : fd g16 sh.length ((14, sh.length + 8) :: [(13, sh.length + 7), (11, sh.length + 6), (10, sh.length + 5), (9, sh.length + 4), (5, sh.length + 3), (4, sh.length + 2), (2, sh.length + 1)]) := fd_put F15 A16 G16 rfl
  refine s_aload_n (f 34 (q := (70, .aload_n 0, 1)) rfl) rfl ?_
  refine s_bipush (f 35 (q := (71, .bipush 10, 2)) rfl) ?_
  refine n_arr (v := 10) (t := 0) (f 36 (q := (73, .newarray .int, 2)) rfl) rfl (by decide) (by decide) (by decide) (fun g17 G17 => ?_)
  rw [ln8] at G17
  have F17 := fd_kept F16 (G17 _ (by omega))
  have sa9 : (sh ++ [(12, 45)] ++ [(0, 60)] ++ [(0, 70)] ++ [(0, 60)] ++ [(0, 600)] ++ [(0, 30)] ++ [(0, 30)] ++ [(0, 200)] ++ [(0, 10)] ++ [(0, 10)])[sh.length]? = _ := sh_app sa8
  have ln9 : (sh ++ [(12, 45)] ++ [(0, 60)] ++ [(0, 70)] ++ [(0, 60)] ++ [(0, 600)] ++ [(0, 30)] ++ [(0, 30)] ++ [(0, 200)] ++ [(0, 10)] ++ [(0, 10)]).length = sh.length + 10 := by rw [List.length_append, ln8]; rfl
  refine n_putr (f 37 (q := (75, .putfield 7151, 3)) rfl) sa9 rfl rfl (fun g18 A18 G18 => ?_)
  rw [ln8] at A18
  have F18 : fd g18 sh.length ((15, sh.length + 9) :: [(14, sh.length + 8), (13, sh.length + 7), (11, sh.length + 6), (10, sh.length + 5), (9, sh.length + 4), (5, sh.length + 3), (4, sh.length + 2), (2, sh.length + 1)]) := fd_put F17 A18 G18 rfl
  refine s_aload_n (f 38 (q := (78, .aload_n 0, 1)) rfl) rfl ?_
  refine s_sipush (f 39 (q := (79, .sipush 240, 3)) rfl) ?_
  refine n_arr (v := 240) (t := 0) (f 40 (q := (82, .newarray .int, 2)) rfl) rfl (by decide) (by decide) (by decide) (fun g19 G19 => ?_)
  rw [ln9] at G19
  have F19 := fd_kept F18 (G19 _ (by omega))
  have sa10 : (sh ++ [(12, 45)] ++ [(0, 60)] ++ [(0, 70)] ++ [(0, 60)] ++ [(0, 600)] ++ [(0, 30)] ++ [(0, 30)] ++ [(0, 200)] ++ [(0, 10)] ++ [(0, 10)] ++ [(0, 240)])[sh.length]? = _ := sh_app sa9
  have ln10 : (sh ++ [(12, 45)] ++ [(0, 60)] ++ [(0, 70)] ++ [(0, 60)] ++ [(0, 600)] ++ [(0, 30)] ++ [(0, 30)] ++ [(0, 200)] ++ [(0, 10)] ++ [(0, 10)] ++ [(0, 240)]).length = sh.length + 11 := by rw [List.length_append, ln9]; rfl
  refine n_putr (f 41 (q := (84, .putfield 7181, 3)) rfl) sa10 rfl rfl (fun g20 A20 G20 => ?_)
  rw [ln9] at A20
  have F20 : fd g20 sh.length ((18, sh.length + 10) :: [(15, sh.length + 9), (14, sh.length + 8), (13, sh.length + 7), (11, sh.length + 6), (10, sh.length + 5), (9, sh.length + 4), (5, sh.length + 3), (4, sh.length + 2), (2, sh.length + 1)]) := fd_put F19 A20 G20 rfl
  refine s_aload_n (f 42 (q := (87, .aload_n 0, 1)) rfl) rfl ?_
  refine s_bipush (f 43 (q := (88, .bipush 6, 2)) rfl) ?_
  refine n_arr (v := 6) (t := 0) (f 44 (q := (90, .newarray .int, 2)) rfl) rfl (by decide) (by decide) (by decide) (fun g21 G21 => ?_)
  rw [ln10] at G21
  have F21 := fd_kept F20 (G21 _ (by omega))
  have sa11 : (sh ++ [(12, 45)] ++ [(0, 60)] ++ [(0, 70)] ++ [(0, 60)] ++ [(0, 600)] ++ [(0, 30)] ++ [(0, 30)] ++ [(0, 200)] ++ [(0, 10)] ++ [(0, 10)] ++ [(0, 240)] ++ [(0, 6)])[sh.length]? = _ := sh_app sa10
  have ln11 : (sh ++ [(12, 45)] ++ [(0, 60)] ++ [(0, 70)] ++ [(0, 60)] ++ [(0, 600)] ++ [(0, 30)] ++ [(0, 30)] ++ [(0, 200)] ++ [(0, 10)] ++ [(0, 10)] ++ [(0, 240)] ++ [(0, 6)]).length = sh.length + 12 := by rw [List.length_append, ln10]; rfl
  refine n_putr (f 45 (q := (92, .putfield 7191, 3)) rfl) sa11 rfl rfl (fun g22 A22 G22 => ?_)
  rw [ln10] at A22
  have F22 : fd g22 sh.length ((19, sh.length + 11) :: [(18, sh.length + 10), (15, sh.length + 9), (14, sh.length + 8), (13, sh.length + 7), (11, sh.length + 6), (10, sh.length + 5), (9, sh.length + 4), (5, sh.length + 3), (4, sh.length + 2), (2, sh.length + 1)]) := fd_put F21 A22 G22 rfl
  refine s_aload_n (f 46 (q := (95, .aload_n 0, 1)) rfl) rfl ?_
  refine s_bipush (f 47 (q := (96, .bipush 12, 2)) rfl) ?_
  refine n_arr (v := 12) (t := 0) (f 48 (q := (98, .newarray .int, 2)) rfl) rfl (by decide) (by decide) (by decide) (fun g23 G23 => ?_)
  rw [ln11] at G23
  have F23 := fd_kept F22 (G23 _ (by omega))
  have sa12 : (sh ++ [(12, 45)] ++ [(0, 60)] ++ [(0, 70)] ++ [(0, 60)] ++ [(0, 600)] ++ [(0, 30)] ++ [(0, 30)] ++ [(0, 200)] ++ [(0, 10)] ++ [(0, 10)] ++ [(0, 240)] ++ [(0, 6)] ++ [(0, 12)])[sh.length]? = _ := sh_app sa11
  have ln12 : (sh ++ [(12, 45)] ++ [(0, 60)] ++ [(0, 70)] ++ [(0, 60)] ++ [(0, 600)] ++ [(0, 30)] ++ [(0, 30)] ++ [(0, 200)] ++ [(0, 10)] ++ [(0, 10)] ++ [(0, 240)] ++ [(0, 6)] ++ [(0, 12)]).length = sh.length + 13 := by rw [List.length_append, ln11]; rfl
  refine n_putr (f 49 (q := (100, .putfield 7201, 3)) rfl) sa12 rfl rfl (fun g24 A24 G24 => ?_)
  rw [ln11] at A24
  have F24 : fd g24 sh.length ((20, sh.length + 12) :: [(19, sh.length + 11), (18, sh.length + 10), (15, sh.length + 9), (14, sh.length + 8), (13, sh.length + 7), (11, sh.length + 6), (10, sh.length + 5), (9, sh.length + 4), (5, sh.length + 3), (4, sh.length + 2), (2, sh.length + 1)]) := fd_put F23 A24 G24 rfl
  refine s_aload_n (f 50 (q := (103, .aload_n 0, 1)) rfl) rfl ?_
  refine s_bipush (f 51 (q := (104, .bipush 60, 2)) rfl) ?_
  refine n_arr (v := 60) (t := 0) (f 52 (q := (106, .newarray .int, 2)) rfl) rfl (by decide) (by decide) (by decide) (fun g25 G25 => ?_)
  rw [ln12] at G25
  have F25 := fd_kept F24 (G25 _ (by omega))
  have sa13 : (sh ++ [(12, 45)] ++ [(0, 60)] ++ [(0, 70)] ++ [(0, 60)] ++ [(0, 600)] ++ [(0, 30)] ++ [(0, 30)] ++ [(0, 200)] ++ [(0, 10)] ++ [(0, 10)] ++ [(0, 240)] ++ [(0, 6)] ++ [(0, 12)] ++ [(0, 60)])[sh.length]? = _ := sh_app sa12
  have ln13 : (sh ++ [(12, 45)] ++ [(0, 60)] ++ [(0, 70)] ++ [(0, 60)] ++ [(0, 600)] ++ [(0, 30)] ++ [(0, 30)] ++ [(0, 200)] ++ [(0, 10)] ++ [(0, 10)] ++ [(0, 240)] ++ [(0, 6)] ++ [(0, 12)] ++ [(0, 60)]).length = sh.length + 14 := by rw [List.length_append, ln12]; rfl
  refine n_putr (f 53 (q := (108, .putfield 7211, 3)) rfl) sa13 rfl rfl (fun g26 A26 G26 => ?_)
  rw [ln12] at A26
  have F26 : fd g26 sh.length ((21, sh.length + 13) :: [(20, sh.length + 12), (19, sh.length + 11), (18, sh.length + 10), (15, sh.length + 9), (14, sh.length + 8), (13, sh.length + 7), (11, sh.length + 6), (10, sh.length + 5), (9, sh.length + 4), (5, sh.length + 3), (4, sh.length + 2), (2, sh.length + 1)]) := fd_put F25 A26 G26 rfl
  refine s_aload_n (f 54 (q := (111, .aload_n 0, 1)) rfl) rfl ?_
  refine s_bipush (f 55 (q := (112, .bipush 60, 2)) rfl) ?_
  refine n_arr (v := 60) (t := 0) (f 56 (q := (114, .newarray .int, 2)) rfl) rfl (by decide) (by decide) (by decide) (fun g27 G27 => ?_)
  rw [ln13] at G27
  have F27 := fd_kept F26 (G27 _ (by omega))
  have sa14 : (sh ++ [(12, 45)] ++ [(0, 60)] ++ [(0, 70)] ++ [(0, 60)] ++ [(0, 600)] ++ [(0, 30)] ++ [(0, 30)] ++ [(0, 200)] ++ [(0, 10)] ++ [(0, 10)] ++ [(0, 240)] ++ [(0, 6)] ++ [(0, 12)] ++ [(0, 60)] ++ [(0, 60)])[sh.length]? = _ := sh_app sa13
  have ln14 : (sh ++ [(12, 45)] ++ [(0, 60)] ++ [(0, 70)] ++ [(0, 60)] ++ [(0, 600)] ++ [(0, 30)] ++ [(0, 30)] ++ [(0, 200)] ++ [(0, 10)] ++ [(0, 10)] ++ [(0, 240)] ++ [(0, 6)] ++ [(0, 12)] ++ [(0, 60)] ++ [(0, 60)]).length = sh.length + 15 := by rw [List.length_append, ln13]; rfl
  refine n_putr (f 57 (q := (116, .putfield 7231, 3)) rfl) sa14 rfl rfl (fun g28 A28 G28 => ?_)
  rw [ln13] at A28
  have F28 : fd g28 sh.length ((23, sh.length + 14) :: [(21, sh.length + 13), (20, sh.length + 12), (19, sh.length + 11), (18, sh.length + 10), (15, sh.length + 9), (14, sh.length + 8), (13, sh.length + 7), (11, sh.length + 6), (10, sh.length + 5), (9, sh.length + 4), (5, sh.length + 3), (4, sh.length + 2), (2, sh.length + 1)]) := fd_put F27 A28 G28 rfl
  refine s_aload_n (f 58 (q := (119, .aload_n 0, 1)) rfl) rfl ?_
  refine s_bipush (f 59 (q := (120, .bipush 60, 2)) rfl) ?_
  refine n_arr (v := 60) (t := 0) (f 60 (q := (122, .newarray .int, 2)) rfl) rfl (by decide) (by decide) (by decide) (fun g29 G29 => ?_)
  rw [ln14] at G29
  have F29 := fd_kept F28 (G29 _ (by omega))
  have sa15 : (sh ++ [(12, 45)] ++ [(0, 60)] ++ [(0, 70)] ++ [(0, 60)] ++ [(0, 600)] ++ [(0, 30)] ++ [(0, 30)] ++ [(0, 200)] ++ [(0, 10)] ++ [(0, 10)] ++ [(0, 240)] ++ [(0, 6)] ++ [(0, 12)] ++ [(0, 60)] ++ [(0, 60)] ++ [(0, 60)])[sh.length]? = _ := sh_app sa14
  have ln15 : (sh ++ [(12, 45)] ++ [(0, 60)] ++ [(0, 70)] ++ [(0, 60)] ++ [(0, 600)] ++ [(0, 30)] ++ [(0, 30)] ++ [(0, 200)] ++ [(0, 10)] ++ [(0, 10)] ++ [(0, 240)] ++ [(0, 6)] ++ [(0, 12)] ++ [(0, 60)] ++ [(0, 60)] ++ [(0, 60)]).length = sh.length + 16 := by rw [List.length_append, ln14]; rfl
  refine n_putr (f 61 (q := (124, .putfield 7251, 3)) rfl) sa15 rfl rfl (fun g30 A30 G30 => ?_)
  rw [ln14] at A30
  have F30 : fd g30 sh.length ((25, sh.length + 15) :: [(23, sh.length + 14), (21, sh.length + 13), (20, sh.length + 12), (19, sh.length + 11), (18, sh.length + 10), (15, sh.length + 9), (14, sh.length + 8), (13, sh.length + 7), (11, sh.length + 6), (10, sh.length + 5), (9, sh.length + 4), (5, sh.length + 3), (4, sh.length + 2), (2, sh.length + 1)]) := fd_put F29 A30 G30 rfl
  refine s_aload_n (f 62 (q := (127, .aload_n 0, 1)) rfl) rfl ?_
  refine s_bipush (f 63 (q := (128, .bipush 60, 2)) rfl) ?_
  refine n_arr (v := 60) (t := 0) (f 64 (q := (130, .newarray .int, 2)) rfl) rfl (by decide) (by decide) (by decide) (fun g31 G31 => ?_)
  rw [ln15] at G31
  have F31 := fd_kept F30 (G31 _ (by omega))
  have sa16 : (sh ++ [(12, 45)] ++ [(0, 60)] ++ [(0, 70)] ++ [(0, 60)] ++ [(0, 600)] ++ [(0, 30)] ++ [(0, 30)] ++ [(0, 200)] ++ [(0, 10)] ++ [(0, 10)] ++ [(0, 240)] ++ [(0, 6)] ++ [(0, 12)] ++ [(0, 60)] ++ [(0, 60)] ++ [(0, 60)] ++ [(0, 60)])[sh.length]? = _ := sh_app sa15
  have ln16 : (sh ++ [(12, 45)] ++ [(0, 60)] ++ [(0, 70)] ++ [(0, 60)] ++ [(0, 600)] ++ [(0, 30)] ++ [(0, 30)] ++ [(0, 200)] ++ [(0, 10)] ++ [(0, 10)] ++ [(0, 240)] ++ [(0, 6)] ++ [(0, 12)] ++ [(0, 60)] ++ [(0, 60)] ++ [(0, 60)] ++ [(0, 60)]).length = sh.length + 17 := by rw [List.length_append, ln15]; rfl
  refine n_putr (f 65 (q := (132, .putfield 7261, 3)) rfl) sa16 rfl rfl (fun g32 A32 G32 => ?_)
  rw [ln15] at A32
  have F32 : fd g32 sh.length ((26, sh.length + 16) :: [(25, sh.length + 15), (23, sh.length + 14), (21, sh.length + 13), (20, sh.length + 12), (19, sh.length + 11), (18, sh.length + 10), (15, sh.length + 9), (14, sh.length + 8), (13, sh.length + 7), (11, sh.length + 6), (10, sh.length + 5), (9, sh.length + 4), (5, sh.length + 3), (4, sh.length + 2), (2, sh.length + 1)]) := fd_put F31 A32 G32 rfl
  refine s_aload_n (f 66 (q := (135, .aload_n 0, 1)) rfl) rfl ?_
  refine s_sipush (f 67 (q := (136, .sipush 3600, 3)) rfl) ?_
  refine n_arr (v := 3600) (t := 2) (f 68 (q := (139, .newarray .boolean, 2)) rfl) rfl (by decide) (by decide) (by decide) (fun g33 G33 => ?_)
  rw [ln16] at G33
  have F33 := fd_kept F32 (G33 _ (by omega))
  have sa17 : (sh ++ [(12, 45)] ++ [(0, 60)] ++ [(0, 70)] ++ [(0, 60)] ++ [(0, 600)] ++ [(0, 30)] ++ [(0, 30)] ++ [(0, 200)] ++ [(0, 10)] ++ [(0, 10)] ++ [(0, 240)] ++ [(0, 6)] ++ [(0, 12)] ++ [(0, 60)] ++ [(0, 60)] ++ [(0, 60)] ++ [(0, 60)] ++ [(2, 3600)])[sh.length]? = _ := sh_app sa16
  have ln17 : (sh ++ [(12, 45)] ++ [(0, 60)] ++ [(0, 70)] ++ [(0, 60)] ++ [(0, 600)] ++ [(0, 30)] ++ [(0, 30)] ++ [(0, 200)] ++ [(0, 10)] ++ [(0, 10)] ++ [(0, 240)] ++ [(0, 6)] ++ [(0, 12)] ++ [(0, 60)] ++ [(0, 60)] ++ [(0, 60)] ++ [(0, 60)] ++ [(2, 3600)]).length = sh.length + 18 := by rw [List.length_append, ln16]; rfl
  refine n_putr (f 69 (q := (141, .putfield 7271, 3)) rfl) sa17 rfl rfl (fun g34 A34 G34 => ?_)
  rw [ln16] at A34
  have F34 : fd g34 sh.length ((27, sh.length + 17) :: [(26, sh.length + 16), (25, sh.length + 15), (23, sh.length + 14), (21, sh.length + 13), (20, sh.length + 12), (19, sh.length + 11), (18, sh.length + 10), (15, sh.length + 9), (14, sh.length + 8), (13, sh.length + 7), (11, sh.length + 6), (10, sh.length + 5), (9, sh.length + 4), (5, sh.length + 3), (4, sh.length + 2), (2, sh.length + 1)]) := fd_put F33 A34 G34 rfl
  refine s_aload_n (f 70 (q := (144, .aload_n 0, 1)) rfl) rfl ?_
  refine s_bipush (f 71 (q := (145, .bipush 64, 2)) rfl) ?_
  refine n_arr (v := 64) (t := 0) (f 72 (q := (147, .newarray .int, 2)) rfl) rfl (by decide) (by decide) (by decide) (fun g35 G35 => ?_)
  rw [ln17] at G35
  have F35 := fd_kept F34 (G35 _ (by omega))
  have sa18 : (sh ++ [(12, 45)] ++ [(0, 60)] ++ [(0, 70)] ++ [(0, 60)] ++ [(0, 600)] ++ [(0, 30)] ++ [(0, 30)] ++ [(0, 200)] ++ [(0, 10)] ++ [(0, 10)] ++ [(0, 240)] ++ [(0, 6)] ++ [(0, 12)] ++ [(0, 60)] ++ [(0, 60)] ++ [(0, 60)] ++ [(0, 60)] ++ [(2, 3600)] ++ [(0, 64)])[sh.length]? = _ := sh_app sa17
  have ln18 : (sh ++ [(12, 45)] ++ [(0, 60)] ++ [(0, 70)] ++ [(0, 60)] ++ [(0, 600)] ++ [(0, 30)] ++ [(0, 30)] ++ [(0, 200)] ++ [(0, 10)] ++ [(0, 10)] ++ [(0, 240)] ++ [(0, 6)] ++ [(0, 12)] ++ [(0, 60)] ++ [(0, 60)] ++ [(0, 60)] ++ [(0, 60)] ++ [(2, 3600)] ++ [(0, 64)]).length = sh.length + 19 := by rw [List.length_append, ln17]; rfl
  refine n_putr (f 73 (q := (149, .putfield 7281, 3)) rfl) sa18 rfl rfl (fun g36 A36 G36 => ?_)
  rw [ln17] at A36
  have F36 : fd g36 sh.length ((28, sh.length + 18) :: [(27, sh.length + 17), (26, sh.length + 16), (25, sh.length + 15), (23, sh.length + 14), (21, sh.length + 13), (20, sh.length + 12), (19, sh.length + 11), (18, sh.length + 10), (15, sh.length + 9), (14, sh.length + 8), (13, sh.length + 7), (11, sh.length + 6), (10, sh.length + 5), (9, sh.length + 4), (5, sh.length + 3), (4, sh.length + 2), (2, sh.length + 1)]) := fd_put F35 A36 G36 rfl
  refine s_aload_n (f 74 (q := (152, .aload_n 0, 1)) rfl) rfl ?_
  refine s_bipush (f 75 (q := (153, .bipush 6, 2)) rfl) ?_
  refine n_arr (v := 6) (t := 0) (f 76 (q := (155, .newarray .int, 2)) rfl) rfl (by decide) (by decide) (by decide) (fun g37 G37 => ?_)
  rw [ln18] at G37
  have F37 := fd_kept F36 (G37 _ (by omega))
  have sa19 : (sh ++ [(12, 45)] ++ [(0, 60)] ++ [(0, 70)] ++ [(0, 60)] ++ [(0, 600)] ++ [(0, 30)] ++ [(0, 30)] ++ [(0, 200)] ++ [(0, 10)] ++ [(0, 10)] ++ [(0, 240)] ++ [(0, 6)] ++ [(0, 12)] ++ [(0, 60)] ++ [(0, 60)] ++ [(0, 60)] ++ [(0, 60)] ++ [(2, 3600)] ++ [(0, 64)] ++ [(0, 6)])[sh.length]? = _ := sh_app sa18
  have ln19 : (sh ++ [(12, 45)] ++ [(0, 60)] ++ [(0, 70)] ++ [(0, 60)] ++ [(0, 600)] ++ [(0, 30)] ++ [(0, 30)] ++ [(0, 200)] ++ [(0, 10)] ++ [(0, 10)] ++ [(0, 240)] ++ [(0, 6)] ++ [(0, 12)] ++ [(0, 60)] ++ [(0, 60)] ++ [(0, 60)] ++ [(0, 60)] ++ [(2, 3600)] ++ [(0, 64)] ++ [(0, 6)]).length = sh.length + 20 := by rw [List.length_append, ln18]; rfl
  refine n_putr (f 77 (q := (157, .putfield 7301, 3)) rfl) sa19 rfl rfl (fun g38 A38 G38 => ?_)
  rw [ln18] at A38
  have F38 : fd g38 sh.length ((30, sh.length + 19) :: [(28, sh.length + 18), (27, sh.length + 17), (26, sh.length + 16), (25, sh.length + 15), (23, sh.length + 14), (21, sh.length + 13), (20, sh.length + 12), (19, sh.length + 11), (18, sh.length + 10), (15, sh.length + 9), (14, sh.length + 8), (13, sh.length + 7), (11, sh.length + 6), (10, sh.length + 5), (9, sh.length + 4), (5, sh.length + 3), (4, sh.length + 2), (2, sh.length + 1)]) := fd_put F37 A38 G38 rfl
  refine s_aload_n (f 78 (q := (160, .aload_n 0, 1)) rfl) rfl ?_
  refine s_bipush (f 79 (q := (161, .bipush 6, 2)) rfl) ?_
  refine n_arr (v := 6) (t := 0) (f 80 (q := (163, .newarray .int, 2)) rfl) rfl (by decide) (by decide) (by decide) (fun g39 G39 => ?_)
  rw [ln19] at G39
  have F39 := fd_kept F38 (G39 _ (by omega))
  have sa20 : (sh ++ [(12, 45)] ++ [(0, 60)] ++ [(0, 70)] ++ [(0, 60)] ++ [(0, 600)] ++ [(0, 30)] ++ [(0, 30)] ++ [(0, 200)] ++ [(0, 10)] ++ [(0, 10)] ++ [(0, 240)] ++ [(0, 6)] ++ [(0, 12)] ++ [(0, 60)] ++ [(0, 60)] ++ [(0, 60)] ++ [(0, 60)] ++ [(2, 3600)] ++ [(0, 64)] ++ [(0, 6)] ++ [(0, 6)])[sh.length]? = _ := sh_app sa19
  have ln20 : (sh ++ [(12, 45)] ++ [(0, 60)] ++ [(0, 70)] ++ [(0, 60)] ++ [(0, 600)] ++ [(0, 30)] ++ [(0, 30)] ++ [(0, 200)] ++ [(0, 10)] ++ [(0, 10)] ++ [(0, 240)] ++ [(0, 6)] ++ [(0, 12)] ++ [(0, 60)] ++ [(0, 60)] ++ [(0, 60)] ++ [(0, 60)] ++ [(2, 3600)] ++ [(0, 64)] ++ [(0, 6)] ++ [(0, 6)]).length = sh.length + 21 := by rw [List.length_append, ln19]; rfl
  refine n_putr (f 81 (q := (165, .putfield 7311, 3)) rfl) sa20 rfl rfl (fun g40 A40 G40 => ?_)
  rw [ln19] at A40
  have F40 : fd g40 sh.length ((31, sh.length + 20) :: [(30, sh.length + 19), (28, sh.length + 18), (27, sh.length + 17), (26, sh.length + 16), (25, sh.length + 15), (23, sh.length + 14), (21, sh.length + 13), (20, sh.length + 12), (19, sh.length + 11), (18, sh.length + 10), (15, sh.length + 9), (14, sh.length + 8), (13, sh.length + 7), (11, sh.length + 6), (10, sh.length + 5), (9, sh.length + 4), (5, sh.length + 3), (4, sh.length + 2), (2, sh.length + 1)]) := fd_put F39 A40 G40 rfl
  refine s_aload_n (f 82 (q := (168, .aload_n 0, 1)) rfl) rfl ?_
  refine s_bipush (f 83 (q := (169, .bipush 64, 2)) rfl) ?_
  refine n_arr (v := 64) (t := 0) (f 84 (q := (171, .newarray .int, 2)) rfl) rfl (by decide) (by decide) (by decide) (fun g41 G41 => ?_)
  rw [ln20] at G41
  have F41 := fd_kept F40 (G41 _ (by omega))
  have sa21 : (sh ++ [(12, 45)] ++ [(0, 60)] ++ [(0, 70)] ++ [(0, 60)] ++ [(0, 600)] ++ [(0, 30)] ++ [(0, 30)] ++ [(0, 200)] ++ [(0, 10)] ++ [(0, 10)] ++ [(0, 240)] ++ [(0, 6)] ++ [(0, 12)] ++ [(0, 60)] ++ [(0, 60)] ++ [(0, 60)] ++ [(0, 60)] ++ [(2, 3600)] ++ [(0, 64)] ++ [(0, 6)] ++ [(0, 6)] ++ [(0, 64)])[sh.length]? = _ := sh_app sa20
  have ln21 : (sh ++ [(12, 45)] ++ [(0, 60)] ++ [(0, 70)] ++ [(0, 60)] ++ [(0, 600)] ++ [(0, 30)] ++ [(0, 30)] ++ [(0, 200)] ++ [(0, 10)] ++ [(0, 10)] ++ [(0, 240)] ++ [(0, 6)] ++ [(0, 12)] ++ [(0, 60)] ++ [(0, 60)] ++ [(0, 60)] ++ [(0, 60)] ++ [(2, 3600)] ++ [(0, 64)] ++ [(0, 6)] ++ [(0, 6)] ++ [(0, 64)]).length = sh.length + 22 := by rw [List.length_append, ln20]; rfl
  refine n_putr (f 85 (q := (173, .putfield 7321, 3)) rfl) sa21 rfl rfl (fun g42 A42 G42 => ?_)
  rw [ln20] at A42
  have F42 : fd g42 sh.length ((32, sh.length + 21) :: [(31, sh.length + 20), (30, sh.length + 19), (28, sh.length + 18), (27, sh.length + 17), (26, sh.length + 16), (25, sh.length + 15), (23, sh.length + 14), (21, sh.length + 13), (20, sh.length + 12), (19, sh.length + 11), (18, sh.length + 10), (15, sh.length + 9), (14, sh.length + 8), (13, sh.length + 7), (11, sh.length + 6), (10, sh.length + 5), (9, sh.length + 4), (5, sh.length + 3), (4, sh.length + 2), (2, sh.length + 1)]) := fd_put F41 A42 G42 rfl
  refine s_aload_n (f 86 (q := (176, .aload_n 0, 1)) rfl) rfl ?_
  refine s_bipush (f 87 (q := (177, .bipush 64, 2)) rfl) ?_
  refine n_arr (v := 64) (t := 0) (f 88 (q := (179, .newarray .int, 2)) rfl) rfl (by decide) (by decide) (by decide) (fun g43 G43 => ?_)
  rw [ln21] at G43
  have F43 := fd_kept F42 (G43 _ (by omega))
  have sa22 : (sh ++ [(12, 45)] ++ [(0, 60)] ++ [(0, 70)] ++ [(0, 60)] ++ [(0, 600)] ++ [(0, 30)] ++ [(0, 30)] ++ [(0, 200)] ++ [(0, 10)] ++ [(0, 10)] ++ [(0, 240)] ++ [(0, 6)] ++ [(0, 12)] ++ [(0, 60)] ++ [(0, 60)] ++ [(0, 60)] ++ [(0, 60)] ++ [(2, 3600)] ++ [(0, 64)] ++ [(0, 6)] ++ [(0, 6)] ++ [(0, 64)] ++ [(0, 64)])[sh.length]? = _ := sh_app sa21
  have ln22 : (sh ++ [(12, 45)] ++ [(0, 60)] ++ [(0, 70)] ++ [(0, 60)] ++ [(0, 600)] ++ [(0, 30)] ++ [(0, 30)] ++ [(0, 200)] ++ [(0, 10)] ++ [(0, 10)] ++ [(0, 240)] ++ [(0, 6)] ++ [(0, 12)] ++ [(0, 60)] ++ [(0, 60)] ++ [(0, 60)] ++ [(0, 60)] ++ [(2, 3600)] ++ [(0, 64)] ++ [(0, 6)] ++ [(0, 6)] ++ [(0, 64)] ++ [(0, 64)]).length = sh.length + 23 := by rw [List.length_append, ln21]; rfl
  refine n_putr (f 89 (q := (181, .putfield 7341, 3)) rfl) sa22 rfl rfl (fun g44 A44 G44 => ?_)
  rw [ln21] at A44
  have F44 : fd g44 sh.length ((34, sh.length + 22) :: [(32, sh.length + 21), (31, sh.length + 20), (30, sh.length + 19), (28, sh.length + 18), (27, sh.length + 17), (26, sh.length + 16), (25, sh.length + 15), (23, sh.length + 14), (21, sh.length + 13), (20, sh.length + 12), (19, sh.length + 11), (18, sh.length + 10), (15, sh.length + 9), (14, sh.length + 8), (13, sh.length + 7), (11, sh.length + 6), (10, sh.length + 5), (9, sh.length + 4), (5, sh.length + 3), (4, sh.length + 2), (2, sh.length + 1)]) := fd_put F43 A44 G44 rfl
  refine s_aload_n (f 90 (q := (184, .aload_n 0, 1)) rfl) rfl ?_
  refine s_bipush (f 91 (q := (185, .bipush 12, 2)) rfl) ?_
  refine n_arr (v := 12) (t := 0) (f 92 (q := (187, .newarray .int, 2)) rfl) rfl (by decide) (by decide) (by decide) (fun g45 G45 => ?_)
  rw [ln22] at G45
  have F45 := fd_kept F44 (G45 _ (by omega))
  have sa23 : (sh ++ [(12, 45)] ++ [(0, 60)] ++ [(0, 70)] ++ [(0, 60)] ++ [(0, 600)] ++ [(0, 30)] ++ [(0, 30)] ++ [(0, 200)] ++ [(0, 10)] ++ [(0, 10)] ++ [(0, 240)] ++ [(0, 6)] ++ [(0, 12)] ++ [(0, 60)] ++ [(0, 60)] ++ [(0, 60)] ++ [(0, 60)] ++ [(2, 3600)] ++ [(0, 64)] ++ [(0, 6)] ++ [(0, 6)] ++ [(0, 64)] ++ [(0, 64)] ++ [(0, 12)])[sh.length]? = _ := sh_app sa22
  have ln23 : (sh ++ [(12, 45)] ++ [(0, 60)] ++ [(0, 70)] ++ [(0, 60)] ++ [(0, 600)] ++ [(0, 30)] ++ [(0, 30)] ++ [(0, 200)] ++ [(0, 10)] ++ [(0, 10)] ++ [(0, 240)] ++ [(0, 6)] ++ [(0, 12)] ++ [(0, 60)] ++ [(0, 60)] ++ [(0, 60)] ++ [(0, 60)] ++ [(2, 3600)] ++ [(0, 64)] ++ [(0, 6)] ++ [(0, 6)] ++ [(0, 64)] ++ [(0, 64)] ++ [(0, 12)]).length = sh.length + 24 := by rw [List.length_append, ln22]; rfl
  refine n_putr (f 93 (q := (189, .putfield 7351, 3)) rfl) sa23 rfl rfl (fun g46 A46 G46 => ?_)
  rw [ln22] at A46
  have F46 : fd g46 sh.length ((35, sh.length + 23) :: [(34, sh.length + 22), (32, sh.length + 21), (31, sh.length + 20), (30, sh.length + 19), (28, sh.length + 18), (27, sh.length + 17), (26, sh.length + 16), (25, sh.length + 15), (23, sh.length + 14), (21, sh.length + 13), (20, sh.length + 12), (19, sh.length + 11), (18, sh.length + 10), (15, sh.length + 9), (14, sh.length + 8), (13, sh.length + 7), (11, sh.length + 6), (10, sh.length + 5), (9, sh.length + 4), (5, sh.length + 3), (4, sh.length + 2), (2, sh.length + 1)]) := fd_put F45 A46 G46 rfl
  refine s_aload_n (f 94 (q := (192, .aload_n 0, 1)) rfl) rfl ?_
  refine s_sipush (f 95 (q := (193, .sipush 620, 3)) rfl) ?_
  refine n_arr (v := 620) (t := 0) (f 96 (q := (196, .newarray .int, 2)) rfl) rfl (by decide) (by decide) (by decide) (fun g47 G47 => ?_)
  rw [ln23] at G47
  have F47 := fd_kept F46 (G47 _ (by omega))
  have sa24 : (sh ++ [(12, 45)] ++ [(0, 60)] ++ [(0, 70)] ++ [(0, 60)] ++ [(0, 600)] ++ [(0, 30)] ++ [(0, 30)] ++ [(0, 200)] ++ [(0, 10)] ++ [(0, 10)] ++ [(0, 240)] ++ [(0, 6)] ++ [(0, 12)] ++ [(0, 60)] ++ [(0, 60)] ++ [(0, 60)] ++ [(0, 60)] ++ [(2, 3600)] ++ [(0, 64)] ++ [(0, 6)] ++ [(0, 6)] ++ [(0, 64)] ++ [(0, 64)] ++ [(0, 12)] ++ [(0, 620)])[sh.length]? = _ := sh_app sa23
  have ln24 : (sh ++ [(12, 45)] ++ [(0, 60)] ++ [(0, 70)] ++ [(0, 60)] ++ [(0, 600)] ++ [(0, 30)] ++ [(0, 30)] ++ [(0, 200)] ++ [(0, 10)] ++ [(0, 10)] ++ [(0, 240)] ++ [(0, 6)] ++ [(0, 12)] ++ [(0, 60)] ++ [(0, 60)] ++ [(0, 60)] ++ [(0, 60)] ++ [(2, 3600)] ++ [(0, 64)] ++ [(0, 6)] ++ [(0, 6)] ++ [(0, 64)] ++ [(0, 64)] ++ [(0, 12)] ++ [(0, 620)]).length = sh.length + 25 := by rw [List.length_append, ln23]; rfl
  refine n_putr (f 97 (q := (198, .putfield 7371, 3)) rfl) sa24 rfl rfl (fun g48 A48 G48 => ?_)
  rw [ln23] at A48
  have F48 : fd g48 sh.length ((37, sh.length + 24) :: [(35, sh.length + 23), (34, sh.length + 22), (32, sh.length + 21), (31, sh.length + 20), (30, sh.length + 19), (28, sh.length + 18), (27, sh.length + 17), (26, sh.length + 16), (25, sh.length + 15), (23, sh.length + 14), (21, sh.length + 13), (20, sh.length + 12), (19, sh.length + 11), (18, sh.length + 10), (15, sh.length + 9), (14, sh.length + 8), (13, sh.length + 7), (11, sh.length + 6), (10, sh.length + 5), (9, sh.length + 4), (5, sh.length + 3), (4, sh.length + 2), (2, sh.length + 1)]) := fd_put F47 A48 G48 rfl
  refine s_aload_n (f 98 (q := (201, .aload_n 0, 1)) rfl) rfl ?_
  refine s_sipush (f 99 (q := (202, .sipush 620, 3)) rfl) ?_
  refine n_arr (v := 620) (t := 0) (f 100 (q := (205, .newarray .int, 2)) rfl) rfl (by decide) (by decide) (by decide) (fun g49 G49 => ?_)
  rw [ln24] at G49
  have F49 := fd_kept F48 (G49 _ (by omega))
  have sa25 : (sh ++ [(12, 45)] ++ [(0, 60)] ++ [(0, 70)] ++ [(0, 60)] ++ [(0, 600)] ++ [(0, 30)] ++ [(0, 30)] ++ [(0, 200)] ++ [(0, 10)] ++ [(0, 10)] ++ [(0, 240)] ++ [(0, 6)] ++ [(0, 12)] ++ [(0, 60)] ++ [(0, 60)] ++ [(0, 60)] ++ [(0, 60)] ++ [(2, 3600)] ++ [(0, 64)] ++ [(0, 6)] ++ [(0, 6)] ++ [(0, 64)] ++ [(0, 64)] ++ [(0, 12)] ++ [(0, 620)] ++ [(0, 620)])[sh.length]? = _ := sh_app sa24
  have ln25 : (sh ++ [(12, 45)] ++ [(0, 60)] ++ [(0, 70)] ++ [(0, 60)] ++ [(0, 600)] ++ [(0, 30)] ++ [(0, 30)] ++ [(0, 200)] ++ [(0, 10)] ++ [(0, 10)] ++ [(0, 240)] ++ [(0, 6)] ++ [(0, 12)] ++ [(0, 60)] ++ [(0, 60)] ++ [(0, 60)] ++ [(0, 60)] ++ [(2, 3600)] ++ [(0, 64)] ++ [(0, 6)] ++ [(0, 6)] ++ [(0, 64)] ++ [(0, 64)] ++ [(0, 12)] ++ [(0, 620)] ++ [(0, 620)]).length = sh.length + 26 := by rw [List.length_append, ln24]; rfl
  refine n_putr (f 101 (q := (207, .putfield 7381, 3)) rfl) sa25 rfl rfl (fun g50 A50 G50 => ?_)
  rw [ln24] at A50
  have F50 : fd g50 sh.length ((38, sh.length + 25) :: [(37, sh.length + 24), (35, sh.length + 23), (34, sh.length + 22), (32, sh.length + 21), (31, sh.length + 20), (30, sh.length + 19), (28, sh.length + 18), (27, sh.length + 17), (26, sh.length + 16), (25, sh.length + 15), (23, sh.length + 14), (21, sh.length + 13), (20, sh.length + 12), (19, sh.length + 11), (18, sh.length + 10), (15, sh.length + 9), (14, sh.length + 8), (13, sh.length + 7), (11, sh.length + 6), (10, sh.length + 5), (9, sh.length + 4), (5, sh.length + 3), (4, sh.length + 2), (2, sh.length + 1)]) := fd_put F49 A50 G50 rfl
  refine s_aload_n (f 102 (q := (210, .aload_n 0, 1)) rfl) rfl ?_
  refine s_sipush (f 103 (q := (211, .sipush 320, 3)) rfl) ?_
  refine n_arr (v := 320) (t := 0) (f 104 (q := (214, .newarray .int, 2)) rfl) rfl (by decide) (by decide) (by decide) (fun g51 G51 => ?_)
  rw [ln25] at G51
  have F51 := fd_kept F50 (G51 _ (by omega))
  have sa26 : (sh ++ [(12, 45)] ++ [(0, 60)] ++ [(0, 70)] ++ [(0, 60)] ++ [(0, 600)] ++ [(0, 30)] ++ [(0, 30)] ++ [(0, 200)] ++ [(0, 10)] ++ [(0, 10)] ++ [(0, 240)] ++ [(0, 6)] ++ [(0, 12)] ++ [(0, 60)] ++ [(0, 60)] ++ [(0, 60)] ++ [(0, 60)] ++ [(2, 3600)] ++ [(0, 64)] ++ [(0, 6)] ++ [(0, 6)] ++ [(0, 64)] ++ [(0, 64)] ++ [(0, 12)] ++ [(0, 620)] ++ [(0, 620)] ++ [(0, 320)])[sh.length]? = _ := sh_app sa25
  have ln26 : (sh ++ [(12, 45)] ++ [(0, 60)] ++ [(0, 70)] ++ [(0, 60)] ++ [(0, 600)] ++ [(0, 30)] ++ [(0, 30)] ++ [(0, 200)] ++ [(0, 10)] ++ [(0, 10)] ++ [(0, 240)] ++ [(0, 6)] ++ [(0, 12)] ++ [(0, 60)] ++ [(0, 60)] ++ [(0, 60)] ++ [(0, 60)] ++ [(2, 3600)] ++ [(0, 64)] ++ [(0, 6)] ++ [(0, 6)] ++ [(0, 64)] ++ [(0, 64)] ++ [(0, 12)] ++ [(0, 620)] ++ [(0, 620)] ++ [(0, 320)]).length = sh.length + 27 := by rw [List.length_append, ln25]; rfl
  refine n_putr (f 105 (q := (216, .putfield 7391, 3)) rfl) sa26 rfl rfl (fun g52 A52 G52 => ?_)
  rw [ln25] at A52
  have F52 : fd g52 sh.length ((39, sh.length + 26) :: [(38, sh.length + 25), (37, sh.length + 24), (35, sh.length + 23), (34, sh.length + 22), (32, sh.length + 21), (31, sh.length + 20), (30, sh.length + 19), (28, sh.length + 18), (27, sh.length + 17), (26, sh.length + 16), (25, sh.length + 15), (23, sh.length + 14), (21, sh.length + 13), (20, sh.length + 12), (19, sh.length + 11), (18, sh.length + 10), (15, sh.length + 9), (14, sh.length + 8), (13, sh.length + 7), (11, sh.length + 6), (10, sh.length + 5), (9, sh.length + 4), (5, sh.length + 3), (4, sh.length + 2), (2, sh.length + 1)]) := fd_put F51 A52 G52 rfl
  refine s_aload_n (f 106 (q := (219, .aload_n 0, 1)) rfl) rfl ?_
  refine s_bipush (f 107 (q := (220, .bipush 16, 2)) rfl) ?_
  refine n_arr (v := 16) (t := 0) (f 108 (q := (222, .newarray .int, 2)) rfl) rfl (by decide) (by decide) (by decide) (fun g53 G53 => ?_)
  rw [ln26] at G53
  have F53 := fd_kept F52 (G53 _ (by omega))
  have sa27 : (sh ++ [(12, 45)] ++ [(0, 60)] ++ [(0, 70)] ++ [(0, 60)] ++ [(0, 600)] ++ [(0, 30)] ++ [(0, 30)] ++ [(0, 200)] ++ [(0, 10)] ++ [(0, 10)] ++ [(0, 240)] ++ [(0, 6)] ++ [(0, 12)] ++ [(0, 60)] ++ [(0, 60)] ++ [(0, 60)] ++ [(0, 60)] ++ [(2, 3600)] ++ [(0, 64)] ++ [(0, 6)] ++ [(0, 6)] ++ [(0, 64)] ++ [(0, 64)] ++ [(0, 12)] ++ [(0, 620)] ++ [(0, 620)] ++ [(0, 320)] ++ [(0, 16)])[sh.length]? = _ := sh_app sa26
  have ln27 : (sh ++ [(12, 45)] ++ [(0, 60)] ++ [(0, 70)] ++ [(0, 60)] ++ [(0, 600)] ++ [(0, 30)] ++ [(0, 30)] ++ [(0, 200)] ++ [(0, 10)] ++ [(0, 10)] ++ [(0, 240)] ++ [(0, 6)] ++ [(0, 12)] ++ [(0, 60)] ++ [(0, 60)] ++ [(0, 60)] ++ [(0, 60)] ++ [(2, 3600)] ++ [(0, 64)] ++ [(0, 6)] ++ [(0, 6)] ++ [(0, 64)] ++ [(0, 64)] ++ [(0, 12)] ++ [(0, 620)] ++ [(0, 620)] ++ [(0, 320)] ++ [(0, 16)]).length = sh.length + 28 := by rw [List.length_append, ln26]; rfl
  refine n_putr (f 109 (q := (224, .putfield 7411, 3)) rfl) sa27 rfl rfl (fun g54 A54 G54 => ?_)
  rw [ln26] at A54
  have F54 : fd g54 sh.length ((41, sh.length + 27) :: [(39, sh.length + 26), (38, sh.length + 25), (37, sh.length + 24), (35, sh.length + 23), (34, sh.length + 22), (32, sh.length + 21), (31, sh.length + 20), (30, sh.length + 19), (28, sh.length + 18), (27, sh.length + 17), (26, sh.length + 16), (25, sh.length + 15), (23, sh.length + 14), (21, sh.length + 13), (20, sh.length + 12), (19, sh.length + 11), (18, sh.length + 10), (15, sh.length + 9), (14, sh.length + 8), (13, sh.length + 7), (11, sh.length + 6), (10, sh.length + 5), (9, sh.length + 4), (5, sh.length + 3), (4, sh.length + 2), (2, sh.length + 1)]) := fd_put F53 A54 G54 rfl
  refine s_aload_n (f 110 (q := (227, .aload_n 0, 1)) rfl) rfl ?_
  refine s_bipush (f 111 (q := (228, .bipush 16, 2)) rfl) ?_
  refine n_arr (v := 16) (t := 0) (f 112 (q := (230, .newarray .int, 2)) rfl) rfl (by decide) (by decide) (by decide) (fun g55 G55 => ?_)
  rw [ln27] at G55
  have F55 := fd_kept F54 (G55 _ (by omega))
  have sa28 : (sh ++ [(12, 45)] ++ [(0, 60)] ++ [(0, 70)] ++ [(0, 60)] ++ [(0, 600)] ++ [(0, 30)] ++ [(0, 30)] ++ [(0, 200)] ++ [(0, 10)] ++ [(0, 10)] ++ [(0, 240)] ++ [(0, 6)] ++ [(0, 12)] ++ [(0, 60)] ++ [(0, 60)] ++ [(0, 60)] ++ [(0, 60)] ++ [(2, 3600)] ++ [(0, 64)] ++ [(0, 6)] ++ [(0, 6)] ++ [(0, 64)] ++ [(0, 64)] ++ [(0, 12)] ++ [(0, 620)] ++ [(0, 620)] ++ [(0, 320)] ++ [(0, 16)] ++ [(0, 16)])[sh.length]? = _ := sh_app sa27
  have ln28 : (sh ++ [(12, 45)] ++ [(0, 60)] ++ [(0, 70)] ++ [(0, 60)] ++ [(0, 600)] ++ [(0, 30)] ++ [(0, 30)] ++ [(0, 200)] ++ [(0, 10)] ++ [(0, 10)] ++ [(0, 240)] ++ [(0, 6)] ++ [(0, 12)] ++ [(0, 60)] ++ [(0, 60)] ++ [(0, 60)] ++ [(0, 60)] ++ [(2, 3600)] ++ [(0, 64)] ++ [(0, 6)] ++ [(0, 6)] ++ [(0, 64)] ++ [(0, 64)] ++ [(0, 12)] ++ [(0, 620)] ++ [(0, 620)] ++ [(0, 320)] ++ [(0, 16)] ++ [(0, 16)]).length = sh.length + 29 := by rw [List.length_append, ln27]; rfl
  refine n_putr (f 113 (q := (232, .putfield 7421, 3)) rfl) sa28 rfl rfl (fun g56 A56 G56 => ?_)
  rw [ln27] at A56
  have F56 : fd g56 sh.length ((42, sh.length + 28) :: [(41, sh.length + 27), (39, sh.length + 26), (38, sh.length + 25), (37, sh.length + 24), (35, sh.length + 23), (34, sh.length + 22), (32, sh.length + 21), (31, sh.length + 20), (30, sh.length + 19), (28, sh.length + 18), (27, sh.length + 17), (26, sh.length + 16), (25, sh.length + 15), (23, sh.length + 14), (21, sh.length + 13), (20, sh.length + 12), (19, sh.length + 11), (18, sh.length + 10), (15, sh.length + 9), (14, sh.length + 8), (13, sh.length + 7), (11, sh.length + 6), (10, sh.length + 5), (9, sh.length + 4), (5, sh.length + 3), (4, sh.length + 2), (2, sh.length + 1)]) := fd_put F55 A56 G56 rfl
  refine s_aload_n (f 114 (q := (235, .aload_n 0, 1)) rfl) rfl ?_
  refine s_sipush (f 115 (q := (236, .sipush 128, 3)) rfl) ?_
  refine n_arr (v := 128) (t := 0) (f 116 (q := (239, .newarray .int, 2)) rfl) rfl (by decide) (by decide) (by decide) (fun g57 G57 => ?_)
  rw [ln28] at G57
  have F57 := fd_kept F56 (G57 _ (by omega))
  have sa29 : (sh ++ [(12, 45)] ++ [(0, 60)] ++ [(0, 70)] ++ [(0, 60)] ++ [(0, 600)] ++ [(0, 30)] ++ [(0, 30)] ++ [(0, 200)] ++ [(0, 10)] ++ [(0, 10)] ++ [(0, 240)] ++ [(0, 6)] ++ [(0, 12)] ++ [(0, 60)] ++ [(0, 60)] ++ [(0, 60)] ++ [(0, 60)] ++ [(2, 3600)] ++ [(0, 64)] ++ [(0, 6)] ++ [(0, 6)] ++ [(0, 64)] ++ [(0, 64)] ++ [(0, 12)] ++ [(0, 620)] ++ [(0, 620)] ++ [(0, 320)] ++ [(0, 16)] ++ [(0, 16)] ++ [(0, 128)])[sh.length]? = _ := sh_app sa28
  have ln29 : (sh ++ [(12, 45)] ++ [(0, 60)] ++ [(0, 70)] ++ [(0, 60)] ++ [(0, 600)] ++ [(0, 30)] ++ [(0, 30)] ++ [(0, 200)] ++ [(0, 10)] ++ [(0, 10)] ++ [(0, 240)] ++ [(0, 6)] ++ [(0, 12)] ++ [(0, 60)] ++ [(0, 60)] ++ [(0, 60)] ++ [(0, 60)] ++ [(2, 3600)] ++ [(0, 64)] ++ [(0, 6)] ++ [(0, 6)] ++ [(0, 64)] ++ [(0, 64)] ++ [(0, 12)] ++ [(0, 620)] ++ [(0, 620)] ++ [(0, 320)] ++ [(0, 16)] ++ [(0, 16)] ++ [(0, 128)]).length = sh.length + 30 := by rw [List.length_append, ln28]; rfl
  refine n_putr (f 117 (q := (241, .putfield 7431, 3)) rfl) sa29 rfl rfl (fun g58 A58 G58 => ?_)
  rw [ln28] at A58
  have F58 : fd g58 sh.length ((43, sh.length + 29) :: [(42, sh.length + 28), (41, sh.length + 27), (39, sh.length + 26), (38, sh.length + 25), (37, sh.length + 24), (35, sh.length + 23), (34, sh.length + 22), (32, sh.length + 21), (31, sh.length + 20), (30, sh.length + 19), (28, sh.length + 18), (27, sh.length + 17), (26, sh.length + 16), (25, sh.length + 15), (23, sh.length + 14), (21, sh.length + 13), (20, sh.length + 12), (19, sh.length + 11), (18, sh.length + 10), (15, sh.length + 9), (14, sh.length + 8), (13, sh.length + 7), (11, sh.length + 6), (10, sh.length + 5), (9, sh.length + 4), (5, sh.length + 3), (4, sh.length + 2), (2, sh.length + 1)]) := fd_put F57 A58 G58 rfl
  refine s_aload_n (f 118 (q := (244, .aload_n 0, 1)) rfl) rfl ?_
  refine s_iconst (f 119 (q := (245, .iconst 4, 1)) rfl) ?_
  refine n_arr (v := 4) (t := 0) (f 120 (q := (246, .newarray .int, 2)) rfl) rfl (by decide) (by decide) (by decide) (fun g59 G59 => ?_)
  rw [ln29] at G59
  have F59 := fd_kept F58 (G59 _ (by omega))
  have sa30 : (sh ++ [(12, 45)] ++ [(0, 60)] ++ [(0, 70)] ++ [(0, 60)] ++ [(0, 600)] ++ [(0, 30)] ++ [(0, 30)] ++ [(0, 200)] ++ [(0, 10)] ++ [(0, 10)] ++ [(0, 240)] ++ [(0, 6)] ++ [(0, 12)] ++ [(0, 60)] ++ [(0, 60)] ++ [(0, 60)] ++ [(0, 60)] ++ [(2, 3600)] ++ [(0, 64)] ++ [(0, 6)] ++ [(0, 6)] ++ [(0, 64)] ++ [(0, 64)] ++ [(0, 12)] ++ [(0, 620)] ++ [(0, 620)] ++ [(0, 320)] ++ [(0, 16)] ++ [(0, 16)] ++ [(0, 128)] ++ [(0, 4)])[sh.length]? = _ := sh_app sa29
  have ln30 : (sh ++ [(12, 45)] ++ [(0, 60)] ++ [(0, 70)] ++ [(0, 60)] ++ [(0, 600)] ++ [(0, 30)] ++ [(0, 30)] ++ [(0, 200)] ++ [(0, 10)] ++ [(0, 10)] ++ [(0, 240)] ++ [(0, 6)] ++ [(0, 12)] ++ [(0, 60)] ++ [(0, 60)] ++ [(0, 60)] ++ [(0, 60)] ++ [(2, 3600)] ++ [(0, 64)] ++ [(0, 6)] ++ [(0, 6)] ++ [(0, 64)] ++ [(0, 64)] ++ [(0, 12)] ++ [(0, 620)] ++ [(0, 620)] ++ [(0, 320)] ++ [(0, 16)] ++ [(0, 16)] ++ [(0, 128)] ++ [(0, 4)]).length = sh.length + 31 := by rw [List.length_append, ln29]; rfl
  refine n_putr (f 121 (q := (248, .putfield 7441, 3)) rfl) sa30 rfl rfl (fun g60 A60 G60 => ?_)
  rw [ln29] at A60
  have F60 : fd g60 sh.length ((44, sh.length + 30) :: [(43, sh.length + 29), (42, sh.length + 28), (41, sh.length + 27), (39, sh.length + 26), (38, sh.length + 25), (37, sh.length + 24), (35, sh.length + 23), (34, sh.length + 22), (32, sh.length + 21), (31, sh.length + 20), (30, sh.length + 19), (28, sh.length + 18), (27, sh.length + 17), (26, sh.length + 16), (25, sh.length + 15), (23, sh.length + 14), (21, sh.length + 13), (20, sh.length + 12), (19, sh.length + 11), (18, sh.length + 10), (15, sh.length + 9), (14, sh.length + 8), (13, sh.length + 7), (11, sh.length + 6), (10, sh.length + 5), (9, sh.length + 4), (5, sh.length + 3), (4, sh.length + 2), (2, sh.length + 1)]) := fd_put F59 A60 G60 rfl
  refine s_ret (f 122 (q := (251, .return_, 1)) rfl) rfl ?_
  have E60 : ∀ c, c ≠ sh.length → c < sh.length + 31 → g60 c = g60 c := fun _ _ _ => rfl
  have E59 : ∀ c, c ≠ sh.length → c < sh.length + 31 → g60 c = g59 c := fun c z1 z2 => (E60 c z1 (by omega)).trans (funext fun i => G60 c i (Or.inl z1))
  have E58 : ∀ c, c ≠ sh.length → c < sh.length + 30 → g60 c = g58 c := fun c z1 z2 => (E59 c z1 (by omega)).trans (G59 c (by omega))
  have E57 : ∀ c, c ≠ sh.length → c < sh.length + 30 → g60 c = g57 c := fun c z1 z2 => (E58 c z1 (by omega)).trans (funext fun i => G58 c i (Or.inl z1))
  have E56 : ∀ c, c ≠ sh.length → c < sh.length + 29 → g60 c = g56 c := fun c z1 z2 => (E57 c z1 (by omega)).trans (G57 c (by omega))
  have E55 : ∀ c, c ≠ sh.length → c < sh.length + 29 → g60 c = g55 c := fun c z1 z2 => (E56 c z1 (by omega)).trans (funext fun i => G56 c i (Or.inl z1))
  have E54 : ∀ c, c ≠ sh.length → c < sh.length + 28 → g60 c = g54 c := fun c z1 z2 => (E55 c z1 (by omega)).trans (G55 c (by omega))
  have E53 : ∀ c, c ≠ sh.length → c < sh.length + 28 → g60 c = g53 c := fun c z1 z2 => (E54 c z1 (by omega)).trans (funext fun i => G54 c i (Or.inl z1))
  have E52 : ∀ c, c ≠ sh.length → c < sh.length + 27 → g60 c = g52 c := fun c z1 z2 => (E53 c z1 (by omega)).trans (G53 c (by omega))
  have E51 : ∀ c, c ≠ sh.length → c < sh.length + 27 → g60 c = g51 c := fun c z1 z2 => (E52 c z1 (by omega)).trans (funext fun i => G52 c i (Or.inl z1))
  have E50 : ∀ c, c ≠ sh.length → c < sh.length + 26 → g60 c = g50 c := fun c z1 z2 => (E51 c z1 (by omega)).trans (G51 c (by omega))
  have E49 : ∀ c, c ≠ sh.length → c < sh.length + 26 → g60 c = g49 c := fun c z1 z2 => (E50 c z1 (by omega)).trans (funext fun i => G50 c i (Or.inl z1))
  have E48 : ∀ c, c ≠ sh.length → c < sh.length + 25 → g60 c = g48 c := fun c z1 z2 => (E49 c z1 (by omega)).trans (G49 c (by omega))
  have E47 : ∀ c, c ≠ sh.length → c < sh.length + 25 → g60 c = g47 c := fun c z1 z2 => (E48 c z1 (by omega)).trans (funext fun i => G48 c i (Or.inl z1))
  have E46 : ∀ c, c ≠ sh.length → c < sh.length + 24 → g60 c = g46 c := fun c z1 z2 => (E47 c z1 (by omega)).trans (G47 c (by omega))
  have E45 : ∀ c, c ≠ sh.length → c < sh.length + 24 → g60 c = g45 c := fun c z1 z2 => (E46 c z1 (by omega)).trans (funext fun i => G46 c i (Or.inl z1))
  have E44 : ∀ c, c ≠ sh.length → c < sh.length + 23 → g60 c = g44 c := fun c z1 z2 => (E45 c z1 (by omega)).trans (G45 c (by omega))
  have E43 : ∀ c, c ≠ sh.length → c < sh.length + 23 → g60 c = g43 c := fun c z1 z2 => (E44 c z1 (by omega)).trans (funext fun i => G44 c i (Or.inl z1))
  have E42 : ∀ c, c ≠ sh.length → c < sh.length + 22 → g60 c = g42 c := fun c z1 z2 => (E43 c z1 (by omega)).trans (G43 c (by omega))
  have E41 : ∀ c, c ≠ sh.length → c < sh.length + 22 → g60 c = g41 c := fun c z1 z2 => (E42 c z1 (by omega)).trans (funext fun i => G42 c i (Or.inl z1))
  have E40 : ∀ c, c ≠ sh.length → c < sh.length + 21 → g60 c = g40 c := fun c z1 z2 => (E41 c z1 (by omega)).trans (G41 c (by omega))
  have E39 : ∀ c, c ≠ sh.length → c < sh.length + 21 → g60 c = g39 c := fun c z1 z2 => (E40 c z1 (by omega)).trans (funext fun i => G40 c i (Or.inl z1))
  have E38 : ∀ c, c ≠ sh.length → c < sh.length + 20 → g60 c = g38 c := fun c z1 z2 => (E39 c z1 (by omega)).trans (G39 c (by omega))
  have E37 : ∀ c, c ≠ sh.length → c < sh.length + 20 → g60 c = g37 c := fun c z1 z2 => (E38 c z1 (by omega)).trans (funext fun i => G38 c i (Or.inl z1))
  have E36 : ∀ c, c ≠ sh.length → c < sh.length + 19 → g60 c = g36 c := fun c z1 z2 => (E37 c z1 (by omega)).trans (G37 c (by omega))
  have E35 : ∀ c, c ≠ sh.length → c < sh.length + 19 → g60 c = g35 c := fun c z1 z2 => (E36 c z1 (by omega)).trans (funext fun i => G36 c i (Or.inl z1))
  have E34 : ∀ c, c ≠ sh.length → c < sh.length + 18 → g60 c = g34 c := fun c z1 z2 => (E35 c z1 (by omega)).trans (G35 c (by omega))
  have E33 : ∀ c, c ≠ sh.length → c < sh.length + 18 → g60 c = g33 c := fun c z1 z2 => (E34 c z1 (by omega)).trans (funext fun i => G34 c i (Or.inl z1))
  have E32 : ∀ c, c ≠ sh.length → c < sh.length + 17 → g60 c = g32 c := fun c z1 z2 => (E33 c z1 (by omega)).trans (G33 c (by omega))
  have E31 : ∀ c, c ≠ sh.length → c < sh.length + 17 → g60 c = g31 c := fun c z1 z2 => (E32 c z1 (by omega)).trans (funext fun i => G32 c i (Or.inl z1))
  have E30 : ∀ c, c ≠ sh.length → c < sh.length + 16 → g60 c = g30 c := fun c z1 z2 => (E31 c z1 (by omega)).trans (G31 c (by omega))
  have E29 : ∀ c, c ≠ sh.length → c < sh.length + 16 → g60 c = g29 c := fun c z1 z2 => (E30 c z1 (by omega)).trans (funext fun i => G30 c i (Or.inl z1))
  have E28 : ∀ c, c ≠ sh.length → c < sh.length + 15 → g60 c = g28 c := fun c z1 z2 => (E29 c z1 (by omega)).trans (G29 c (by omega))
  have E27 : ∀ c, c ≠ sh.length → c < sh.length + 15 → g60 c = g27 c := fun c z1 z2 => (E28 c z1 (by omega)).trans (funext fun i => G28 c i (Or.inl z1))
  have E26 : ∀ c, c ≠ sh.length → c < sh.length + 14 → g60 c = g26 c := fun c z1 z2 => (E27 c z1 (by omega)).trans (G27 c (by omega))
  have E25 : ∀ c, c ≠ sh.length → c < sh.length + 14 → g60 c = g25 c := fun c z1 z2 => (E26 c z1 (by omega)).trans (funext fun i => G26 c i (Or.inl z1))
  have E24 : ∀ c, c ≠ sh.length → c < sh.length + 13 → g60 c = g24 c := fun c z1 z2 => (E25 c z1 (by omega)).trans (G25 c (by omega))
  have E23 : ∀ c, c ≠ sh.length → c < sh.length + 13 → g60 c = g23 c := fun c z1 z2 => (E24 c z1 (by omega)).trans (funext fun i => G24 c i (Or.inl z1))
  have E22 : ∀ c, c ≠ sh.length → c < sh.length + 12 → g60 c = g22 c := fun c z1 z2 => (E23 c z1 (by omega)).trans (G23 c (by omega))
  have E21 : ∀ c, c ≠ sh.length → c < sh.length + 12 → g60 c = g21 c := fun c z1 z2 => (E22 c z1 (by omega)).trans (funext fun i => G22 c i (Or.inl z1))
  have E20 : ∀ c, c ≠ sh.length → c < sh.length + 11 → g60 c = g20 c := fun c z1 z2 => (E21 c z1 (by omega)).trans (G21 c (by omega))
  have E19 : ∀ c, c ≠ sh.length → c < sh.length + 11 → g60 c = g19 c := fun c z1 z2 => (E20 c z1 (by omega)).trans (funext fun i => G20 c i (Or.inl z1))
  have E18 : ∀ c, c ≠ sh.length → c < sh.length + 10 → g60 c = g18 c := fun c z1 z2 => (E19 c z1 (by omega)).trans (G19 c (by omega))
  have E17 : ∀ c, c ≠ sh.length → c < sh.length + 10 → g60 c = g17 c := fun c z1 z2 => (E18 c z1 (by omega)).trans (funext fun i => G18 c i (Or.inl z1))
  have E16 : ∀ c, c ≠ sh.length → c < sh.length + 9 → g60 c = g16 c := fun c z1 z2 => (E17 c z1 (by omega)).trans (G17 c (by omega))
  have E15 : ∀ c, c ≠ sh.length → c < sh.length + 9 → g60 c = g15 c := fun c z1 z2 => (E16 c z1 (by omega)).trans (funext fun i => G16 c i (Or.inl z1))
  have E14 : ∀ c, c ≠ sh.length → c < sh.length + 8 → g60 c = g14 c := fun c z1 z2 => (E15 c z1 (by omega)).trans (G15 c (by omega))
  have E13 : ∀ c, c ≠ sh.length → c < sh.length + 8 → g60 c = g13 c := fun c z1 z2 => (E14 c z1 (by omega)).trans (funext fun i => G14 c i (Or.inl z1))
  have E12 : ∀ c, c ≠ sh.length → c < sh.length + 7 → g60 c = g12 c := fun c z1 z2 => (E13 c z1 (by omega)).trans (G13 c (by omega))
  have E11 : ∀ c, c ≠ sh.length → c < sh.length + 7 → g60 c = g11 c := fun c z1 z2 => (E12 c z1 (by omega)).trans (funext fun i => G12 c i (Or.inl z1))
  have E10 : ∀ c, c ≠ sh.length → c < sh.length + 6 → g60 c = g10 c := fun c z1 z2 => (E11 c z1 (by omega)).trans (G11 c (by omega))
  have E9 : ∀ c, c ≠ sh.length → c < sh.length + 6 → g60 c = g9 c := fun c z1 z2 => (E10 c z1 (by omega)).trans (funext fun i => G10 c i (Or.inl z1))
  have E8 : ∀ c, c ≠ sh.length → c < sh.length + 5 → g60 c = g8 c := fun c z1 z2 => (E9 c z1 (by omega)).trans (G9 c (by omega))
  have E7 : ∀ c, c ≠ sh.length → c < sh.length + 5 → g60 c = g7 c := fun c z1 z2 => (E8 c z1 (by omega)).trans (funext fun i => G8 c i (Or.inl z1))
  have E6 : ∀ c, c ≠ sh.length → c < sh.length + 4 → g60 c = g6 c := fun c z1 z2 => (E7 c z1 (by omega)).trans (G7 c (by omega))
  have E5 : ∀ c, c ≠ sh.length → c < sh.length + 4 → g60 c = g5 c := fun c z1 z2 => (E6 c z1 (by omega)).trans (funext fun i => G6 c i (Or.inl z1))
  have E4 : ∀ c, c ≠ sh.length → c < sh.length + 3 → g60 c = g4 c := fun c z1 z2 => (E5 c z1 (by omega)).trans (G5 c (by omega))
  have E3 : ∀ c, c ≠ sh.length → c < sh.length + 3 → g60 c = g3 c := fun c z1 z2 => (E4 c z1 (by omega)).trans (funext fun i => G4 c i (Or.inl z1))
  have E2 : ∀ c, c ≠ sh.length → c < sh.length + 2 → g60 c = g2 c := fun c z1 z2 => (E3 c z1 (by omega)).trans (G3 c (by omega))
  have E1 : ∀ c, c ≠ sh.length → c < sh.length + 2 → g60 c = g1 c := fun c z1 z2 => (E2 c z1 (by omega)).trans (funext fun i => G2 c i (Or.inl z1))
  have E0 : ∀ c, c ≠ sh.length → c < sh.length + 1 → g60 c = g c := fun c z1 z2 => (E1 c z1 (by omega)).trans (G1 c (by omega))
  have e1 : sh ++ [(12, 45)] ++ [(0, 60)] ++ [(0, 70)] ++ [(0, 60)] ++ [(0, 600)] ++ [(0, 30)] ++ [(0, 30)] ++ [(0, 200)] ++ [(0, 10)] ++ [(0, 10)] ++ [(0, 240)] ++ [(0, 6)] ++ [(0, 12)] ++ [(0, 60)] ++ [(0, 60)] ++ [(0, 60)] ++ [(0, 60)] ++ [(2, 3600)] ++ [(0, 64)] ++ [(0, 6)] ++ [(0, 6)] ++ [(0, 64)] ++ [(0, 64)] ++ [(0, 12)] ++ [(0, 620)] ++ [(0, 620)] ++ [(0, 320)] ++ [(0, 16)] ++ [(0, 16)] ++ [(0, 128)] ++ [(0, 4)] = sh ++ ls_M := by simp only [ls_M, List.append_assoc]
  rw [e1]
  refine k g60 ⟨sh_at (i := 0) rfl, fun q hq => ?_⟩ (fun c hc => E0 c (by omega) (by omega))
  simp only [mdA, List.mem_cons, List.not_mem_nil, or_false] at hq
  rcases hq with rfl | rfl | rfl | rfl | rfl | rfl | rfl | rfl | rfl | rfl | rfl | rfl | rfl | rfl | rfl | rfl | rfl | rfl | rfl | rfl | rfl | rfl | rfl | rfl | rfl | rfl | rfl | rfl | rfl | rfl
  · exact ⟨F60 (2, sh.length + 1) (by simp), sh_at (i := 1) rfl⟩
  · exact ⟨F60 (4, sh.length + 2) (by simp), sh_at (i := 2) rfl⟩
  · exact ⟨F60 (5, sh.length + 3) (by simp), sh_at (i := 3) rfl⟩
  · exact ⟨F60 (9, sh.length + 4) (by simp), sh_at (i := 4) rfl⟩
  · exact ⟨F60 (10, sh.length + 5) (by simp), sh_at (i := 5) rfl⟩
  · exact ⟨F60 (11, sh.length + 6) (by simp), sh_at (i := 6) rfl⟩
  · exact ⟨F60 (13, sh.length + 7) (by simp), sh_at (i := 7) rfl⟩
  · exact ⟨F60 (14, sh.length + 8) (by simp), sh_at (i := 8) rfl⟩
  · exact ⟨F60 (15, sh.length + 9) (by simp), sh_at (i := 9) rfl⟩
  · exact ⟨F60 (18, sh.length + 10) (by simp), sh_at (i := 10) rfl⟩
  · exact ⟨F60 (19, sh.length + 11) (by simp), sh_at (i := 11) rfl⟩
  · exact ⟨F60 (20, sh.length + 12) (by simp), sh_at (i := 12) rfl⟩
  · exact ⟨F60 (21, sh.length + 13) (by simp), sh_at (i := 13) rfl⟩
  · exact ⟨F60 (23, sh.length + 14) (by simp), sh_at (i := 14) rfl⟩
  · exact ⟨F60 (25, sh.length + 15) (by simp), sh_at (i := 15) rfl⟩
  · exact ⟨F60 (26, sh.length + 16) (by simp), sh_at (i := 16) rfl⟩
  · exact ⟨F60 (27, sh.length + 17) (by simp), sh_at (i := 17) rfl⟩
  · exact ⟨F60 (28, sh.length + 18) (by simp), sh_at (i := 18) rfl⟩
  · exact ⟨F60 (30, sh.length + 19) (by simp), sh_at (i := 19) rfl⟩
  · exact ⟨F60 (31, sh.length + 20) (by simp), sh_at (i := 20) rfl⟩
  · exact ⟨F60 (32, sh.length + 21) (by simp), sh_at (i := 21) rfl⟩
  · exact ⟨F60 (34, sh.length + 22) (by simp), sh_at (i := 22) rfl⟩
  · exact ⟨F60 (35, sh.length + 23) (by simp), sh_at (i := 23) rfl⟩
  · exact ⟨F60 (37, sh.length + 24) (by simp), sh_at (i := 24) rfl⟩
  · exact ⟨F60 (38, sh.length + 25) (by simp), sh_at (i := 25) rfl⟩
  · exact ⟨F60 (39, sh.length + 26) (by simp), sh_at (i := 26) rfl⟩
  · exact ⟨F60 (41, sh.length + 27) (by simp), sh_at (i := 27) rfl⟩
  · exact ⟨F60 (42, sh.length + 28) (by simp), sh_at (i := 28) rfl⟩
  · exact ⟨F60 (43, sh.length + 29) (by simp), sh_at (i := 29) rfl⟩
  · exact ⟨F60 (44, sh.length + 30) (by simp), sh_at (i := 30) rfl⟩
end
