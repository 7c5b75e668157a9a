/-! The constructors (class) with loops, laid by program; the object. -/
def ls_R (n : Nat) : List (Nat × Nat) := (List.replicate n (ls_E 20)).flatten
theorem ls_R_succ (n : Nat) : ls_R (n + 1) = ls_R n ++ ls_E 20 := by
  unfold ls_R
  rw [List.replicate_succ', List.flatten_append]
  simp
theorem ls_R_len : ∀ n, (ls_R n).length = 7 * n
  | 0 => rfl
  | n + 1 => by rw [ls_R_succ, List.length_append, ls_R_len n]; show 7 * n + 7 = _; omega
def ls_W : List (Nat × Nat) := [(11, 2)] ++ [(4, 30)] ++ ls_R 30
def ls_A : List (Nat × Nat) := [(6, 5)] ++ [(4, 10)] ++ [(2, 20)] ++ [(0, 12)] ++ ls_L 30 ++ ls_R 10
theorem ls_W_len : ls_W.length = 212 := by unfold ls_W; rw [List.length_append, ls_R_len]; rfl
theorem ls_A_len : ls_A.length = 77 := by unfold ls_A; rw [List.length_append, ls_R_len]; rfl
section
variable {D : Nat} {sh : List (Nat × Nat)} {g : Nat → Nat → Option Nat} {Q : oeQ}
theorem k_waiting (hDD : 6 ≤ D)
    (k : ∀ g' : Nat → Nat → Option Nat, WtS (sh ++ ls_W) g' sh.length (fun i => i) → (∀ c, c < sh.length → g' c = g c) → Q none (sh ++ ls_W, g', oe_z)) :
    oe_M D 125 [.inr (.inl sh.length)] (sh ++ [(11, 2)], g, oe_z) Q := by
  obtain ⟨d, rfl⟩ : ∃ d, D = d + 2 := ⟨D - 2, by omega⟩
  have f : ∀ (i : Nat) {q : Nat × Jvm.ClassFile.Instr × Nat}, oe_c125[i]? = some q → oe_find (oe_code 125) q.1 = some q.2 := fun i q hq => oe_ft (c := oe_c125) (by decide +kernel) hq
  refine oe_M.of (by simp [oe_c1]) (Nat.le_of_ble_eq_true rfl) ?_
  show oe_V (oe_cost 125) 125 (oe_M (d + 1)) none Q 0 [some (.inr (.inl sh.length)), none] [] (sh ++ [(11, 2)], g, oe_z) 0 0
  have sa0 : (sh ++ [(11, 2)])[sh.length]? = some (11, 2) := sh_last
  have ln0 : (sh ++ [(11, 2)]).length = sh.length + 1 := by simp
  have F0 : fd g sh.length [] := fd_nil
  refine s_aload_n (f 0 (q := (0, .aload_n 0, 1)) rfl) rfl ?_
  refine n_obj (f 1 (q := (1, .invokespecial 0, 3)) rfl) (by simp) ?_
  refine s_aload_n (f 2 (q := (4, .aload_n 0, 1)) rfl) rfl ?_
  refine s_bipush (f 3 (q := (5, .bipush 30, 2)) rfl) ?_
  refine n_anew (v := 30) (f 4 (q := (7, .anewarray 0, 3)) rfl) (by decide) (by decide) (by decide) (fun g1 G1 => ?_)
  rw [ln0] at G1
  have F1 := fd_kept F0 (G1 _ (by omega))
  have sa1 : (sh ++ [(11, 2)] ++ [(4, 30)])[sh.length]? = _ := sh_app sa0
  have ln1 : (sh ++ [(11, 2)] ++ [(4, 30)]).length = sh.length + 2 := by rw [List.length_append, ln0]; rfl
  refine n_putr (f 5 (q := (10, .putfield 6001, 3)) rfl) sa1 rfl rfl (fun g2 A2 G2 => ?_)
  rw [ln0] at A2
  have F2 : fd g2 sh.length ((0, sh.length + 1) :: []) := fd_put F1 A2 G2 rfl
  refine s_aload_n (f 6 (q := (13, .aload_n 0, 1)) rfl) rfl ?_
  refine s_iconst (f 7 (q := (14, .iconst 0, 1)) rfl) ?_
  refine n_put0 (f 8 (q := (15, .putfield 6010, 3)) rfl) sa1 rfl (Or.inl rfl) ?_
  have E2 : ∀ c, c ≠ sh.length → c < sh.length + 2 → g2 c = g2 c := fun _ _ _ => rfl
  have E1 : ∀ c, c ≠ sh.length → c < sh.length + 2 → g2 c = g1 c := fun c z1 z2 => (E2 c z1 (by omega)).trans (funext fun i => G2 c i (Or.inl z1))
  have E0 : ∀ c, c ≠ sh.length → c < sh.length + 1 → g2 c = g c := fun c z1 z2 => (E1 c z1 (by omega)).trans (G1 c (by omega))
  generalize hB : sh ++ [(11, 2)] ++ [(4, 30)] = B at *
  have saB : B[sh.length]? = some (11, 2) := sa1
  have rows : B[sh.length + 1]? = some (4, 30) := by rw [← hB]; exact (show _ from by rw [← ln0]; exact sh_last)
  have loop : ∀ (m i : Nat) (gi : Nat → Nat → Option Nat), 30 - i = m → i ≤ 30 → gi sh.length = g2 sh.length → (∀ c, c ≠ sh.length + 1 → c < sh.length + 2 → gi c = g2 c) → (∀ x, x < i → gi (sh.length + 1) x = some (sh.length + 2 + 7 * x) ∧ EqS (B ++ ls_R i) gi (sh.length + 2 + 7 * x) 20) →
      oe_V (oe_cost 125) 125 (oe_M (d + 1)) none Q 20 [some (.inr (.inl sh.length)), some (.inl (i : Int))] [] (B ++ ls_R i, gi, oe_z) (1 + 7 * i) (30 + 1208 * i) := by
    intro m
    induction m with
    | zero =>
      intro i gi hm hi e0 ef er
      have fr : gi sh.length 0 = some (sh.length + 1) := by rw [e0]; exact F2 (0, _) (by simp)
      refine s_iload_n (f 11 (q := (20, .iload_n 1, 1)) rfl) rfl ?_
      refine s_aload_n (f 12 (q := (21, .aload_n 0, 1)) rfl) rfl ?_
      refine s_getr (f 13 (q := (22, .getfield 6001, 3)) rfl) (sh_app saB) rfl rfl fr ?_
      refine s_alen (f 14 (q := (25, .arraylength, 1)) rfl) (sh_app rows) (by decide) ?_
      refine s_ic_ge (f 15 (q := (26, .if_icmp .ge 50, 3)) rfl) (fun _ => ?_) (fun c => by omega)
      refine s_ret (f 26 (q := (50, .return_, 1)) rfl) rfl ?_
      have ei : i = 30 := by omega
      subst ei
      have e1 : B ++ ls_R 30 = sh ++ ls_W := by rw [← hB]; simp only [ls_W, List.append_assoc]
      rw [e1] at er ⊢
      refine k gi ⟨sh_at (i := 0) rfl, fr, by rw [← e1]; exact sh_app rows, fun x hx => (er x hx).2, fun x hx => ⟨hx, (er x hx).1⟩, fun x y _ _ z => z⟩ (fun c hc => by rw [ef c (by omega) (by omega)]; exact E0 c (by omega) (by omega))
    | succ m ih =>
      intro i gi hm hi e0 ef er
      have fr : gi sh.length 0 = some (sh.length + 1) := by rw [e0]; exact F2 (0, _) (by simp)
      refine s_iload_n (f 11 (q := (20, .iload_n 1, 1)) rfl) rfl ?_
      refine s_aload_n (f 12 (q := (21, .aload_n 0, 1)) rfl) rfl ?_
      refine s_getr (f 13 (q := (22, .getfield 6001, 3)) rfl) (sh_app saB) rfl rfl fr ?_
      refine s_alen (f 14 (q := (25, .arraylength, 1)) rfl) (sh_app rows) (by decide) ?_
      refine s_ic_ge (f 15 (q := (26, .if_icmp .ge 50, 3)) rfl) (fun c => by omega) (fun _ => ?_)
      refine s_aload_n (f 16 (q := (29, .aload_n 0, 1)) rfl) rfl ?_
      refine s_getr (f 17 (q := (30, .getfield 6001, 3)) rfl) (sh_app saB) rfl rfl fr ?_
      refine s_iload_n (f 18 (q := (33, .iload_n 1, 1)) rfl) rfl ?_
      have lni : (B ++ ls_R i).length = sh.length + 2 + 7 * i := by rw [List.length_append, ln1, ls_R_len]
      refine n_new (f 19 (q := (34, .new 2, 3)) rfl) (by show 1 + 7 * i + 1 ≤ 211; omega) (by show 30 + 1208 * i + 2 ≤ 36270; omega) (fun h1 H1 => ?_)
      refine s_dup (f 20 (q := (37, .dup, 1)) rfl) trivial ?_
      refine s_bipush (f 21 (q := (38, .bipush 20, 2)) rfl) ?_
      refine n_call1 (f 22 (q := (40, .invokespecial 92021, 3)) rfl) (by decide) rfl (by simp) (by show 1 + 7 * i + 1 + 6 ≤ 211; omega) (by show 30 + 1208 * i + 2 + 1206 ≤ 36270; omega) ?_
      refine k_equation (sh := B ++ ls_R i) (cap := 20) (by omega) (by decide) (fun h2 S2 H2 => ?_)
      show oe_V (oe_cost 125) 125 (oe_M (d + 1)) none Q 43 _ [.inr (.inl (B ++ ls_R i).length), .inl (i : Int), .inr (.inl (sh.length + 1))] _ (1 + 7 * i + 1 + 6) (30 + 1208 * i + 2 + 1206)
      rw [lni] at H1 H2 S2 ⊢
      have e2 : B ++ ls_R i ++ ls_E 20 = B ++ ls_R (i + 1) := by rw [ls_R_succ, List.append_assoc]
      rw [e2] at S2 ⊢
      have up : ∀ c q, (B ++ ls_R i)[c]? = some q → (B ++ ls_R (i + 1))[c]? = some q := fun c q hq => by rw [← e2]; exact sh_app hq
      refine t_aastore (f 23 (q := (43, .aastore, 1)) rfl) (M := 2) S2.1 (up _ _ (sh_app rows)) (by omega) (by omega) (fun h3 e3 => ?_)
      rw [Int.toNat_natCast] at e3
      refine s_iinc (f 24 (q := (44, .iinc 1 1, 3)) rfl) rfl (by unfold oe_rg; omega) ?_
      refine s_goto (f 25 (q := (47, .goto 20, 3)) rfl) ?_
      have old : ∀ c, c ≠ sh.length + 1 → c < sh.length + 2 + 7 * i → h3 c = gi c := fun c z1 z2 => by rw [e3, up_ne z1, H2 c z2, H1 c z2]
      have nx := ih (i + 1) h3 (by omega) (by omega) (by rw [old _ (by omega) (by omega)]; exact e0) (fun c z1 z2 => by rw [old c z1 (by omega)]; exact ef c z1 z2) (fun x hx => ?_)
      · have k1 : 1 + 7 * i + 1 + 6 = 1 + 7 * (i + 1) := by omega
        have k2 : 30 + 1208 * i + 2 + 1206 = 30 + 1208 * (i + 1) := by omega
        rw [← k1, ← k2] at nx
        exact nx
      · by_cases ex : x = i
        · subst ex
          exact ⟨by rw [e3, up_eq], EqS.ext S2 (fun c q hq => hq) (fun c z1 z2 => by rw [e3, up_ne (by omega)])⟩
        · obtain ⟨y1, y2⟩ := er x (by omega)
          refine ⟨by rw [e3, up_col ex, H2 _ (by omega), H1 _ (by omega)]; exact y1, EqS.ext y2 up (fun c z1 z2 => old c (by omega) (by omega))⟩
  refine s_iconst (f 9 (q := (18, .iconst 0, 1)) rfl) ?_
  refine s_istore_n (f 10 (q := (19, .istore_n 1, 1)) rfl) ?_
  have st := loop 30 0 g2 rfl (by omega) rfl (fun _ _ _ => rfl) (fun x hx => by omega)
  have eB : B ++ ls_R 0 = B := by unfold ls_R; simp
  rw [eB] at st
  exact st
theorem k_actives (hDD : 6 ≤ D)
    (k : ∀ g' : Nat → Nat → Option Nat, AcS (sh ++ ls_A) g' sh.length → (∀ c, c < sh.length → g' c = g c) → Q none (sh ++ ls_A, g', oe_z)) :
    oe_M D 85 [.inr (.inl sh.length)] (sh ++ [(6, 5)], g, oe_z) Q := by
  obtain ⟨d, rfl⟩ : ∃ d, D = d + 2 := ⟨D - 2, by omega⟩
  have f : ∀ (i : Nat) {q : Nat × Jvm.ClassFile.Instr × Nat}, oe_c85[i]? = some q → oe_find (oe_code 85) q.1 = some q.2 := fun i q hq => oe_ft (c := oe_c85) (by decide +kernel) hq
  refine oe_M.of (by simp [oe_c1]) (Nat.le_of_ble_eq_true rfl) ?_
  show oe_V (oe_cost 85) 85 (oe_M (d + 1)) none Q 0 [some (.inr (.inl sh.length)), none] [] (sh ++ [(6, 5)], g, oe_z) 0 0
  have sa0 : (sh ++ [(6, 5)])[sh.length]? = some (6, 5) := sh_last
  have ln0 : (sh ++ [(6, 5)]).length = sh.length + 1 := by simp
  have F0 : fd g sh.length [] := fd_nil
  refine s_aload_n (f 0 (q := (0, .aload_n 0, 1)) rfl) rfl ?_
  refine n_obj (f 1 (q := (1, .invokespecial 0, 3)) rfl) (by simp) ?_
  refine s_aload_n (f 2 (q := (4, .aload_n 0, 1)) rfl) rfl ?_
  refine s_bipush (f 3 (q := (5, .bipush 10, 2)) rfl) ?_
  refine n_anew (v := 10) (f 4 (q := (7, .anewarray 0, 3)) rfl) (by decide) (by decide) (by decide) (fun g1 G1 => ?_)
  rw [ln0] at G1
  have F1 := fd_kept F0 (G1 _ (by omega))
  have sa1 : (sh ++ [(6, 5)] ++ [(4, 10)])[sh.length]? = _ := sh_app sa0
  have ln1 : (sh ++ [(6, 5)] ++ [(4, 10)]).length = sh.length + 2 := by rw [List.length_append, ln0]; rfl
  refine n_putr (f 5 (q := (10, .putfield 1001, 3)) rfl) sa1 rfl rfl (fun g2 A2 G2 => ?_)
  rw [ln0] at A2
  have F2 : fd g2 sh.length ((0, sh.length + 1) :: []) := fd_put F1 A2 G2 rfl
  refine s_aload_n (f 6 (q := (13, .aload_n 0, 1)) rfl) rfl ?_
  refine s_iconst (f 7 (q := (14, .iconst 0, 1)) rfl) ?_
  refine n_put0 (f 8 (q := (15, .putfield 1010, 3)) rfl) sa1 rfl (Or.inl rfl) ?_
  refine s_aload_n (f 9 (q := (18, .aload_n 0, 1)) rfl) rfl ?_
  refine s_bipush (f 10 (q := (19, .bipush 20, 2)) rfl) ?_
  refine n_arr (v := 20) (t := 2) (f 11 (q := (21, .newarray .boolean, 2)) rfl) rfl (by decide) (by decide) (by decide) (fun g3 G3 => ?_)
  rw [ln1] at G3
  have F3 := fd_kept F2 (G3 _ (by omega))
  have sa2 : (sh ++ [(6, 5)] ++ [(4, 10)] ++ [(2, 20)])[sh.length]? = _ := sh_app sa1
  have ln2 : (sh ++ [(6, 5)] ++ [(4, 10)] ++ [(2, 20)]).length = sh.length + 3 := by rw [List.length_append, ln1]; rfl
  refine n_putr (f 12 (q := (23, .putfield 1021, 3)) rfl) sa2 rfl rfl (fun g4 A4 G4 => ?_)
  rw [ln1] at A4
  have F4 : fd g4 sh.length ((2, sh.length + 2) :: [(0, sh.length + 1)]) := fd_put F3 A4 G4 rfl
  refine s_aload_n (f 13 (q := (26, .aload_n 0, 1)) rfl) rfl ?_
  refine s_bipush (f 14 (q := (27, .bipush 12, 2)) rfl) ?_
  refine n_arr (v := 12) (t := 0) (f 15 (q := (29, .newarray .int, 2)) rfl) rfl (by decide) (by decide) (by decide) (fun g5 G5 => ?_)
  rw [ln2] at G5
  have F5 := fd_kept F4 (G5 _ (by omega))
  have sa3 : (sh ++ [(6, 5)] ++ [(4, 10)] ++ [(2, 20)] ++ [(0, 12)])[sh.length]? = _ := sh_app sa2
  have ln3 : (sh ++ [(6, 5)] ++ [(4, 10)] ++ [(2, 20)] ++ [(0, 12)]).length = sh.length + 4 := by rw [List.length_append, ln2]; rfl
  refine n_putr (f 16 (q := (31, .putfield 1031, 3)) rfl) sa3 rfl rfl (fun g6 A6 G6 => ?_)
  rw [ln2] at A6
  have F6 : fd g6 sh.length ((3, sh.length + 3) :: [(2, sh.length + 2), (0, sh.length + 1)]) := fd_put F5 A6 G6 rfl
  refine s_aload_n (f 17 (q := (34, .aload_n 0, 1)) rfl) rfl ?_
  refine n_new (f 18 (q := (35, .new 3, 3)) rfl) (by decide) (by decide) (fun g7 G7 => ?_)
  rw [ln3] at G7
  have F7 := fd_kept F6 (G7 _ (by omega))
  refine s_dup (f 19 (q := (38, .dup, 1)) rfl) trivial ?_
  refine s_bipush (f 20 (q := (39, .bipush 30, 2)) rfl) ?_
  refine n_call1 (f 21 (q := (41, .invokespecial 99031, 3)) rfl) (by decide) rfl (by simp) (by decide) (by decide) ?_
  refine k_letters (sh := sh ++ [(6, 5)] ++ [(4, 10)] ++ [(2, 20)] ++ [(0, 12)]) (cap := 30) (by omega) (by decide) (fun g8 S8 G8 => ?_)
  rw [ln3] at G8
  have F8 := fd_kept F7 (G8 _ (by omega))
  have sa4 : (sh ++ [(6, 5)] ++ [(4, 10)] ++ [(2, 20)] ++ [(0, 12)] ++ ls_L 30)[sh.length]? = _ := sh_app sa3
  have ln4 : (sh ++ [(6, 5)] ++ [(4, 10)] ++ [(2, 20)] ++ [(0, 12)] ++ ls_L 30).length = sh.length + 7 := by rw [List.length_append, ln3]; rfl
  rw [ln3] at S8
  show oe_V (oe_cost 85) 85 (oe_M (d + 1)) none Q 44 _ [.inr (.inl (sh ++ [(6, 5)] ++ [(4, 10)] ++ [(2, 20)] ++ [(0, 12)]).length), .inr (.inl sh.length)] _ 6 645
  refine n_putr (f 22 (q := (44, .putfield 1041, 3)) rfl) sa4 rfl rfl (fun g9 A9 G9 => ?_)
  rw [ln3] at A9
  have F9 : fd g9 sh.length ((4, sh.length + 4) :: [(3, sh.length + 3), (2, sh.length + 2), (0, sh.length + 1)]) := fd_put F8 A9 G9 rfl
  have E9 : ∀ c, c ≠ sh.length → c < sh.length + 7 → g9 c = g9 c := fun _ _ _ => rfl
  have E8 : ∀ c, c ≠ sh.length → c < sh.length + 7 → g9 c = g8 c := fun c z1 z2 => (E9 c z1 (by omega)).trans (funext fun i => G9 c i (Or.inl z1))
  have E7 : ∀ c, c ≠ sh.length → c < sh.length + 4 → g9 c = g7 c := fun c z1 z2 => (E8 c z1 (by omega)).trans (G8 c (by omega))
  have E6 : ∀ c, c ≠ sh.length → c < sh.length + 4 → g9 c = g6 c := fun c z1 z2 => (E7 c z1 (by omega)).trans (G7 c (by omega))
  have E5 : ∀ c, c ≠ sh.length → c < sh.length + 4 → g9 c = g5 c := fun c z1 z2 => (E6 c z1 (by omega)).trans (funext fun i => G6 c i (Or.inl z1))
  have E4 : ∀ c, c ≠ sh.length → c < sh.length + 3 → g9 c = g4 c := fun c z1 z2 => (E5 c z1 (by omega)).trans (G5 c (by omega))
  have E3 : ∀ c, c ≠ sh.length → c < sh.length + 3 → g9 c = g3 c := fun c z1 z2 => (E4 c z1 (by omega)).trans (funext fun i => G4 c i (Or.inl z1))
  have E2 : ∀ c, c ≠ sh.length → c < sh.length + 2 → g9 c = g2 c := fun c z1 z2 => (E3 c z1 (by omega)).trans (G3 c (by omega))
  have E1 : ∀ c, c ≠ sh.length → c < sh.length + 2 → g9 c = g1 c := fun c z1 z2 => (E2 c z1 (by omega)).trans (funext fun i => G2 c i (Or.inl z1))
  have E0 : ∀ c, c ≠ sh.length → c < sh.length + 1 → g9 c = g c := fun c z1 z2 => (E1 c z1 (by omega)).trans (G1 c (by omega))
  generalize hB : sh ++ [(6, 5)] ++ [(4, 10)] ++ [(2, 20)] ++ [(0, 12)] ++ ls_L 30 = B at *
  have saB : B[sh.length]? = some (6, 5) := sa4
  have rows : B[sh.length + 1]? = some (4, 10) := by rw [← hB]; exact sh_app (sh_app (sh_app ((show _ from by rw [← ln0]; exact sh_last))))
  have loop : ∀ (m i : Nat) (gi : Nat → Nat → Option Nat), 10 - i = m → i ≤ 10 → gi sh.length = g9 sh.length → (∀ c, c ≠ sh.length + 1 → c < sh.length + 7 → gi c = g9 c) → (∀ x, x < i → gi (sh.length + 1) x = some (sh.length + 7 + 7 * x) ∧ EqS (B ++ ls_R i) gi (sh.length + 7 + 7 * x) 20) →
      oe_V (oe_cost 85) 85 (oe_M (d + 1)) none Q 49 [some (.inr (.inl sh.length)), some (.inl (i : Int))] [] (B ++ ls_R i, gi, oe_z) (6 + 7 * i) (645 + 1208 * i) := by
    intro m
    induction m with
    | zero =>
      intro i gi hm hi e0 ef er
      have fr : gi sh.length 0 = some (sh.length + 1) := by rw [e0]; exact F9 (0, _) (by simp)
      refine s_iload_n (f 25 (q := (49, .iload_n 1, 1)) rfl) rfl ?_
      refine s_aload_n (f 26 (q := (50, .aload_n 0, 1)) rfl) rfl ?_
      refine s_getr (f 27 (q := (51, .getfield 1001, 3)) rfl) (sh_app saB) rfl rfl fr ?_
      refine s_alen (f 28 (q := (54, .arraylength, 1)) rfl) (sh_app rows) (by decide) ?_
      refine s_ic_ge (f 29 (q := (55, .if_icmp .ge 79, 3)) rfl) (fun _ => ?_) (fun c => by omega)
      refine s_ret (f 40 (q := (79, .return_, 1)) rfl) rfl ?_
      have ei : i = 10 := by omega
      subst ei
      have e1 : B ++ ls_R 10 = sh ++ ls_A := by rw [← hB]; simp only [ls_A, List.append_assoc]
      rw [e1] at er ⊢
      have hsB : ∀ c q, B[c]? = some q → (sh ++ ls_A)[c]? = some q := fun c q hq => by rw [← e1]; exact sh_app hq
      have SL : LtS B g9 (sh.length + 4) 30 := S8.ext (fun c q hq => hq) (E8 _ (by omega) (by omega))
      refine k gi ⟨sh_at (i := 0) rfl, fr, hsB _ _ rows, by rw [e0]; exact F9 (2, _) (by simp), sh_at (i := 2) rfl, by rw [e0]; exact F9 (3, _) (by simp), sh_at (i := 3) rfl, by rw [e0]; exact F9 (4, _) (by simp), SL.ext hsB (ef _ (by omega) (by omega)), fun x hx => ⟨(er x hx).1, (er x hx).2⟩⟩ (fun c hc => by rw [ef c (by omega) (by omega)]; exact E0 c (by omega) (by omega))
    | succ m ih =>
      intro i gi hm hi e0 ef er
      have fr : gi sh.length 0 = some (sh.length + 1) := by rw [e0]; exact F9 (0, _) (by simp)
      refine s_iload_n (f 25 (q := (49, .iload_n 1, 1)) rfl) rfl ?_
      refine s_aload_n (f 26 (q := (50, .aload_n 0, 1)) rfl) rfl ?_
      refine s_getr (f 27 (q := (51, .getfield 1001, 3)) rfl) (sh_app saB) rfl rfl fr ?_
      refine s_alen (f 28 (q := (54, .arraylength, 1)) rfl) (sh_app rows) (by decide) ?_
      refine s_ic_ge (f 29 (q := (55, .if_icmp .ge 79, 3)) rfl) (fun c => by omega) (fun _ => ?_)
      refine s_aload_n (f 30 (q := (58, .aload_n 0, 1)) rfl) rfl ?_
      refine s_getr (f 31 (q := (59, .getfield 1001, 3)) rfl) (sh_app saB) rfl rfl fr ?_
      refine s_iload_n (f 32 (q := (62, .iload_n 1, 1)) rfl) rfl ?_
      have lni : (B ++ ls_R i).length = sh.length + 7 + 7 * i := by rw [List.length_append, ln4, ls_R_len]
      refine n_new (f 33 (q := (63, .new 2, 3)) rfl) (by show 6 + 7 * i + 1 ≤ 76; omega) (by show 645 + 1208 * i + 2 ≤ 12725; omega) (fun h1 H1 => ?_)
      refine s_dup (f 34 (q := (66, .dup, 1)) rfl) trivial ?_
      refine s_bipush (f 35 (q := (67, .bipush 20, 2)) rfl) ?_
      refine n_call1 (f 36 (q := (69, .invokespecial 92021, 3)) rfl) (by decide) rfl (by simp) (by show 6 + 7 * i + 1 + 6 ≤ 76; omega) (by show 645 + 1208 * i + 2 + 1206 ≤ 12725; omega) ?_
      refine k_equation (sh := B ++ ls_R i) (cap := 20) (by omega) (by decide) (fun h2 S2 H2 => ?_)
      show oe_V (oe_cost 85) 85 (oe_M (d + 1)) none Q 72 _ [.inr (.inl (B ++ ls_R i).length), .inl (i : Int), .inr (.inl (sh.length + 1))] _ (6 + 7 * i + 1 + 6) (645 + 1208 * i + 2 + 1206)
      rw [lni] at H1 H2 S2 ⊢
      have e2 : B ++ ls_R i ++ ls_E 20 = B ++ ls_R (i + 1) := by rw [ls_R_succ, List.append_assoc]
      rw [e2] at S2 ⊢
      have up : ∀ c q, (B ++ ls_R i)[c]? = some q → (B ++ ls_R (i + 1))[c]? = some q := fun c q hq => by rw [← e2]; exact sh_app hq
      refine t_aastore (f 37 (q := (72, .aastore, 1)) rfl) (M := 2) S2.1 (up _ _ (sh_app rows)) (by omega) (by omega) (fun h3 e3 => ?_)
      rw [Int.toNat_natCast] at e3
      refine s_iinc (f 38 (q := (73, .iinc 1 1, 3)) rfl) rfl (by unfold oe_rg; omega) ?_
      refine s_goto (f 39 (q := (76, .goto 49, 3)) rfl) ?_
      have old : ∀ c, c ≠ sh.length + 1 → c < sh.length + 7 + 7 * i → h3 c = gi c := fun c z1 z2 => by rw [e3, up_ne z1, H2 c z2, H1 c z2]
      have nx := ih (i + 1) h3 (by omega) (by omega) (by rw [old _ (by omega) (by omega)]; exact e0) (fun c z1 z2 => by rw [old c z1 (by omega)]; exact ef c z1 z2) (fun x hx => ?_)
      · have k1 : 6 + 7 * i + 1 + 6 = 6 + 7 * (i + 1) := by omega
        have k2 : 645 + 1208 * i + 2 + 1206 = 645 + 1208 * (i + 1) := by omega
        rw [← k1, ← k2] at nx
        exact nx
      · by_cases ex : x = i
        · subst ex
          exact ⟨by rw [e3, up_eq], EqS.ext S2 (fun c q hq => hq) (fun c z1 z2 => by rw [e3, up_ne (by omega)])⟩
        · obtain ⟨y1, y2⟩ := er x (by omega)
          refine ⟨by rw [e3, up_col ex, H2 _ (by omega), H1 _ (by omega)]; exact y1, EqS.ext y2 up (fun c z1 z2 => old c (by omega) (by omega))⟩
  refine s_iconst (f 23 (q := (47, .iconst 0, 1)) rfl) ?_
  refine s_istore_n (f 24 (q := (48, .istore_n 1, 1)) rfl) ?_
  have st := loop 10 0 g9 rfl (by omega) rfl (fun _ _ _ => rfl) (fun x hx => by omega)
  have eB : B ++ ls_R 0 = B := by unfold ls_R; simp
  rw [eB] at st
  exact st
end
