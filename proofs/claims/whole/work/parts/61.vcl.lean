/-! Walks laid by program. -/
theorem oe_u86 : oe_c86.all (fun q => decide (oe_find oe_c86 q.1 = some q.2)) = true := by decide +kernel
theorem oe_t86 (k : Nat) {q : Nat × Jvm.ClassFile.Instr × Nat} (h : oe_c86[k]? = some q) : oe_find (oe_code 86) q.1 = some q.2 := oe_ft oe_u86 h
theorem g86 {d : Nat} {sh : List (Nat × Nat)} {g : Nat → Nat → Option Nat} {h : Nat → Nat → Int} {Q : oeQ} {v0 : Nat}
    (vc : sh[v0]? = some (6, 5) ∧ ∃ q2, g v0 0 = some q2 ∧ ∃ n5, sh[q2]? = some (4, n5) ∧ ((h v0 1) < ((n5 : Nat) : Int) → Q (some (.inl 0)) (sh, g, h)) ∧ (((n5 : Nat) : Int) ≤ (h v0 1) → Q (some (.inl 1)) (sh, g, h))) :
    oe_M (d + 2) 86 [.inr (.inl v0)] (sh, g, h) Q := by
  refine oe_M.of (by simp [oe_c1]) (Nat.le_of_ble_eq_true rfl) ?_
  show oe_V (oe_cost 86) 86 (oe_M (d + 1)) none Q 0 [some (.inr (.inl v0))] [] (sh, g, h) 0 0
  refine s_aload_n (oe_t86 0 (q := (0, .aload_n 0, 1)) rfl) rfl ?_
  obtain ⟨s1, vc⟩ := vc
  refine s_geti (oe_t86 1 (q := (1, .getfield 1010, 3)) rfl) s1 rfl (by decide) ?_
  refine s_aload_n (oe_t86 2 (q := (4, .aload_n 0, 1)) rfl) rfl ?_
  obtain ⟨q2, p3, vc⟩ := vc
  refine s_getr (oe_t86 3 (q := (5, .getfield 1001, 3)) rfl) s1 rfl rfl p3 ?_
  obtain ⟨n5, s4, vc⟩ := vc
  refine s_alen (oe_t86 4 (q := (8, .arraylength, 1)) rfl) s4 (by decide) ?_
  refine s_ic_lt (oe_t86 5 (q := (9, .if_icmp .lt 16, 3)) rfl) (fun c6 => ?_) (fun c6 => ?_)
  · replace vc := vc.1 c6
    refine s_iconst (oe_t86 8 (q := (16, .iconst 0, 1)) rfl) ?_
    exact s_iret (oe_t86 9 (q := (17, .ireturn, 1)) rfl) (Or.inr (Or.inl ⟨rfl, Or.inl rfl⟩)) vc
  · replace vc := vc.2 c6
    refine s_iconst (oe_t86 6 (q := (12, .iconst 1, 1)) rfl) ?_
    refine s_goto (oe_t86 7 (q := (13, .goto 17, 3)) rfl) ?_
    exact s_iret (oe_t86 9 (q := (17, .ireturn, 1)) rfl) (Or.inr (Or.inl ⟨rfl, Or.inr rfl⟩)) vc
theorem oe_u87 : oe_c87.all (fun q => decide (oe_find oe_c87 q.1 = some q.2)) = true := by decide +kernel
theorem oe_t87 (k : Nat) {q : Nat × Jvm.ClassFile.Instr × Nat} (h : oe_c87[k]? = some q) : oe_find (oe_code 87) q.1 = some q.2 := oe_ft oe_u87 h
theorem g87 {d : Nat} {sh : List (Nat × Nat)} {g : Nat → Nat → Option Nat} {h : Nat → Nat → Int} {Q : oeQ} {v0 : Nat} {v1 : Nat}
    (vc : sh[v0]? = some (6, 5) ∧ oe_M (d + 1) 86 [.inr (.inl v0)] (sh, g, h) (fun r hp => ∃ (x1 : Int), r = some (.inl x1) ∧ hp = (sh, g, h) ∧ (x1 = 0 → ∃ q4, g v0 0 = some q4 ∧ ∃ n7, sh[q4]? = some (4, n7) ∧ 0 ≤ (h v0 1) ∧ (h v0 1) < (n7 : Nat) ∧ ∃ q10, g q4 ((h v0 1) : Int).toNat = some q10 ∧ sh[v1]? = some (7, 2) ∧ ∃ q13, g v1 0 = some q13 ∧ ∃ q15, g v1 1 = some q15 ∧ sh[q10]? = some (7, 2) ∧ oe_M (d + 1) 95 [.inr (.inl q10), .inr (.inl q13), .inr (.inl q15)] (sh, g, h) (fun r hp => ∃ (h17 : Nat → Nat → Int), r = none ∧ hp = (sh, g, h17) ∧ ∃ q19, g v0 2 = some q19 ∧ oe_rg (2 * (h17 v0 1)) ∧ ∃ q22, g q10 0 = some q22 ∧ ∃ q24, g q10 1 = some q24 ∧ sh[q22]? = some (8, 3) ∧ oe_M (d + 1) 107 [.inr (.inl q22), .inr (.inl q24)] (sh, g, h17) (fun r hp => ∃ (x26 : Int), r = some (.inl x26) ∧ hp = (sh, g, h17) ∧ ∃ n29, sh[q19]? = some (2, n29) ∧ 0 ≤ (2 * (h17 v0 1)) ∧ (2 * (h17 v0 1)) < (n29 : Nat) ∧ (x26 = 0 ∨ x26 = 1) ∧ ∀ h32, h32 = oe_up h17 q19 ((2 * (h17 v0 1)) : Int).toNat x26 → oe_rg (2 * (h32 v0 1)) ∧ oe_rg ((2 * (h32 v0 1)) + 1) ∧ sh[q24]? = some (8, 3) ∧ oe_M (d + 1) 107 [.inr (.inl q24), .inr (.inl q22)] (sh, g, h32) (fun r hp => ∃ (x37 : Int), r = some (.inl x37) ∧ hp = (sh, g, h32) ∧ 0 ≤ ((2 * (h32 v0 1)) + 1) ∧ ((2 * (h32 v0 1)) + 1) < (n29 : Nat) ∧ (x37 = 0 ∨ x37 = 1) ∧ ∀ h41, h41 = oe_up h32 q19 (((2 * (h32 v0 1)) + 1) : Int).toNat x37 → oe_rg ((h41 v0 1) + 1) ∧ ∀ h45, h45 = oe_up h41 v0 1 ((h41 v0 1) + 1) → Q none (sh, g, h45))))) ∧ (x1 ≠ 0 → Q none (sh, g, h)))) :
    oe_M (d + 2) 87 [.inr (.inl v0), .inr (.inl v1)] (sh, g, h) Q := by
  refine oe_M.of (by simp [oe_c1]) (Nat.le_of_ble_eq_true rfl) ?_
  show oe_V (oe_cost 87) 87 (oe_M (d + 1)) none Q 0 [some (.inr (.inl v0)), some (.inr (.inl v1)), none] [] (sh, g, h) 0 0
  refine s_aload_n (oe_t87 0 (q := (0, .aload_n 0, 1)) rfl) rfl ?_
  obtain ⟨s2, vc⟩ := vc
  refine s_callv (oe_t87 1 (q := (1, .invokevirtual 86010, 3)) rfl) rfl s2 rfl (Nat.le_of_ble_eq_true rfl) (Nat.le_of_ble_eq_true rfl) (Nat.le_of_ble_eq_true rfl) (Nat.le_of_ble_eq_true rfl) ?_
  refine oe_M_mono _ _ _ _ _ _ (fun r hp vq => ?_) vc
  obtain ⟨x1, rfl, rfl, vc⟩ := vq
  show oe_V (oe_cost 87) 87 (oe_M (d + 1)) none Q 4 [some (.inr (.inl v0)), some (.inr (.inl v1)), none] [.inl x1] (sh, g, h) 0 0
  refine s_if_eq (oe_t87 2 (q := (4, .ifCond .eq 8, 3)) rfl) (fun c3 => ?_) (fun c3 => ?_)
  · replace vc := vc.1 c3
    refine s_aload_n (oe_t87 4 (q := (8, .aload_n 0, 1)) rfl) rfl ?_
    obtain ⟨q4, p5, vc⟩ := vc
    refine s_getr (oe_t87 5 (q := (9, .getfield 1001, 3)) rfl) s2 rfl rfl p5 ?_
    refine s_aload_n (oe_t87 6 (q := (12, .aload_n 0, 1)) rfl) rfl ?_
    refine s_geti (oe_t87 7 (q := (13, .getfield 1010, 3)) rfl) s2 rfl (by decide) ?_
    obtain ⟨n7, s6, vc⟩ := vc
    obtain ⟨i8, i9, q10, p11, vc⟩ := vc
    refine s_aaload (oe_t87 8 (q := (16, .aaload, 1)) rfl) s6 i8 i9 p11 ?_
    refine s_astore_n (oe_t87 9 (q := (17, .astore_n 2, 1)) rfl) ?_
    refine s_aload_n (oe_t87 10 (q := (18, .aload_n 2, 1)) rfl) rfl ?_
    refine s_aload_n (oe_t87 11 (q := (19, .aload_n 1, 1)) rfl) rfl ?_
    obtain ⟨s12, vc⟩ := vc
    obtain ⟨q13, p14, vc⟩ := vc
    refine s_getr (oe_t87 12 (q := (20, .getfield 2001, 3)) rfl) s12 rfl rfl p14 ?_
    refine s_aload_n (oe_t87 13 (q := (23, .aload_n 1, 1)) rfl) rfl ?_
    obtain ⟨q15, p16, vc⟩ := vc
    refine s_getr (oe_t87 14 (q := (24, .getfield 2011, 3)) rfl) s12 rfl rfl p16 ?_
    obtain ⟨s18, vc⟩ := vc
    refine s_callv (oe_t87 15 (q := (27, .invokevirtual 95022, 3)) rfl) rfl s18 rfl (Nat.le_of_ble_eq_true rfl) (Nat.le_of_ble_eq_true rfl) (Nat.le_of_ble_eq_true rfl) (Nat.le_of_ble_eq_true rfl) ?_
    refine oe_M_mono _ _ _ _ _ _ (fun r hp vq => ?_) vc
    obtain ⟨h17, rfl, rfl, vc⟩ := vq
    show oe_V (oe_cost 87) 87 (oe_M (d + 1)) none Q 30 [some (.inr (.inl v0)), some (.inr (.inl v1)), some (.inr (.inl q10))] [] (sh, g, h17) 0 0
    refine s_aload_n (oe_t87 16 (q := (30, .aload_n 0, 1)) rfl) rfl ?_
    obtain ⟨q19, p20, vc⟩ := vc
    refine s_getr (oe_t87 17 (q := (31, .getfield 1021, 3)) rfl) s2 rfl rfl p20 ?_
    refine s_iconst (oe_t87 18 (q := (34, .iconst 2, 1)) rfl) ?_
    refine s_aload_n (oe_t87 19 (q := (35, .aload_n 0, 1)) rfl) rfl ?_
    refine s_geti (oe_t87 20 (q := (36, .getfield 1010, 3)) rfl) s2 rfl (by decide) ?_
    obtain ⟨r21, vc⟩ := vc
    refine s_imul (oe_t87 21 (q := (39, .imul, 1)) rfl) r21 ?_
    refine s_aload_n (oe_t87 22 (q := (40, .aload_n 2, 1)) rfl) rfl ?_
    obtain ⟨q22, p23, vc⟩ := vc
    refine s_getr (oe_t87 23 (q := (41, .getfield 2001, 3)) rfl) s18 rfl rfl p23 ?_
    refine s_aload_n (oe_t87 24 (q := (44, .aload_n 2, 1)) rfl) rfl ?_
    obtain ⟨q24, p25, vc⟩ := vc
    refine s_getr (oe_t87 25 (q := (45, .getfield 2011, 3)) rfl) s18 rfl rfl p25 ?_
    obtain ⟨s27, vc⟩ := vc
    refine s_callv (oe_t87 26 (q := (48, .invokevirtual 107031, 3)) rfl) rfl s27 rfl (Nat.le_of_ble_eq_true rfl) (Nat.le_of_ble_eq_true rfl) (Nat.le_of_ble_eq_true rfl) (Nat.le_of_ble_eq_true rfl) ?_
    refine oe_M_mono _ _ _ _ _ _ (fun r hp vq => ?_) vc
    obtain ⟨x26, rfl, rfl, vc⟩ := vq
    show oe_V (oe_cost 87) 87 (oe_M (d + 1)) none Q 51 [some (.inr (.inl v0)), some (.inr (.inl v1)), some (.inr (.inl q10))] [.inl x26, .inl (2 * (h17 v0 1)), .inr (.inl q19)] (sh, g, h17) 0 0
    obtain ⟨n29, s28, vc⟩ := vc
    obtain ⟨i30, i31, vc⟩ := vc
    obtain ⟨c34, vc⟩ := vc
    refine t_bastore (oe_t87 27 (q := (51, .bastore, 1)) rfl) s28 i30 i31 c34 (fun h32 e33 => ?_)
    replace vc := vc h32 e33
    refine s_aload_n (oe_t87 28 (q := (52, .aload_n 0, 1)) rfl) rfl ?_
    refine s_getr (oe_t87 29 (q := (53, .getfield 1021, 3)) rfl) s2 rfl rfl p20 ?_
    refine s_iconst (oe_t87 30 (q := (56, .iconst 2, 1)) rfl) ?_
    refine s_aload_n (oe_t87 31 (q := (57, .aload_n 0, 1)) rfl) rfl ?_
    refine s_geti (oe_t87 32 (q := (58, .getfield 1010, 3)) rfl) s2 rfl (by decide) ?_
    obtain ⟨r35, vc⟩ := vc
    refine s_imul (oe_t87 33 (q := (61, .imul, 1)) rfl) r35 ?_
    refine s_iconst (oe_t87 34 (q := (62, .iconst 1, 1)) rfl) ?_
    obtain ⟨r36, vc⟩ := vc
    refine s_iadd (oe_t87 35 (q := (63, .iadd, 1)) rfl) r36 ?_
    refine s_aload_n (oe_t87 36 (q := (64, .aload_n 2, 1)) rfl) rfl ?_
    refine s_getr (oe_t87 37 (q := (65, .getfield 2011, 3)) rfl) s18 rfl rfl p25 ?_
    refine s_aload_n (oe_t87 38 (q := (68, .aload_n 2, 1)) rfl) rfl ?_
    refine s_getr (oe_t87 39 (q := (69, .getfield 2001, 3)) rfl) s18 rfl rfl p23 ?_
    obtain ⟨s38, vc⟩ := vc
    refine s_callv (oe_t87 40 (q := (72, .invokevirtual 107031, 3)) rfl) rfl s38 rfl (Nat.le_of_ble_eq_true rfl) (Nat.le_of_ble_eq_true rfl) (Nat.le_of_ble_eq_true rfl) (Nat.le_of_ble_eq_true rfl) ?_
    refine oe_M_mono _ _ _ _ _ _ (fun r hp vq => ?_) vc
    obtain ⟨x37, rfl, rfl, vc⟩ := vq
    show oe_V (oe_cost 87) 87 (oe_M (d + 1)) none Q 75 [some (.inr (.inl v0)), some (.inr (.inl v1)), some (.inr (.inl q10))] [.inl x37, .inl ((2 * (h32 v0 1)) + 1), .inr (.inl q19)] (sh, g, h32) 0 0
    obtain ⟨i39, i40, vc⟩ := vc
    obtain ⟨c43, vc⟩ := vc
    refine t_bastore (oe_t87 41 (q := (75, .bastore, 1)) rfl) s28 i39 i40 c43 (fun h41 e42 => ?_)
    replace vc := vc h41 e42
    refine s_aload_n (oe_t87 42 (q := (76, .aload_n 0, 1)) rfl) rfl ?_
    refine s_dup (oe_t87 43 (q := (77, .dup, 1)) rfl) trivial ?_
    refine s_geti (oe_t87 44 (q := (78, .getfield 1010, 3)) rfl) s2 rfl (by decide) ?_
    refine s_iconst (oe_t87 45 (q := (81, .iconst 1, 1)) rfl) ?_
    obtain ⟨r44, vc⟩ := vc
    refine s_iadd (oe_t87 46 (q := (82, .iadd, 1)) rfl) r44 ?_
    refine t_puti (oe_t87 47 (q := (83, .putfield 1010, 3)) rfl) s2 rfl (Or.inl rfl) (fun h45 e46 => ?_)
    replace vc := vc h45 e46
    exact s_ret (oe_t87 48 (q := (86, .return_, 1)) rfl) rfl vc
  · replace vc := vc.2 c3
    exact s_ret (oe_t87 3 (q := (7, .return_, 1)) rfl) rfl vc
theorem oe_u88 : oe_c88.all (fun q => decide (oe_find oe_c88 q.1 = some q.2)) = true := by decide +kernel
theorem oe_t88 (k : Nat) {q : Nat × Jvm.ClassFile.Instr × Nat} (h : oe_c88[k]? = some q) : oe_find (oe_code 88) q.1 = some q.2 := oe_ft oe_u88 h
theorem g88 {d : Nat} {sh : List (Nat × Nat)} {g : Nat → Nat → Option Nat} {h : Nat → Nat → Int} {Q : oeQ} {v0 : Nat} {v1 : Nat}
    (vc : oe_V (oe_cost 88) 88 (oe_M (d + 1)) none Q 2 [some (.inr (.inl v0)), some (.inr (.inl v1)), some (.inl 0), none, none] [] (sh, g, h) 0 0) :
    oe_M (d + 2) 88 [.inr (.inl v0), .inr (.inl v1)] (sh, g, h) Q := by
  refine oe_M.of (by simp [oe_c1]) (Nat.le_of_ble_eq_true rfl) ?_
  show oe_V (oe_cost 88) 88 (oe_M (d + 1)) none Q 0 [some (.inr (.inl v0)), some (.inr (.inl v1)), none, none, none] [] (sh, g, h) 0 0
  refine s_iconst (oe_t88 0 (q := (0, .iconst 0, 1)) rfl) ?_
  refine s_istore_n (oe_t88 1 (q := (1, .istore_n 2, 1)) rfl) ?_
  exact oe_V.fg (oe_M_mono _) (show oe_fg [some (.inr (.inl v0)), some (.inr (.inl v1)), some (.inl 0), none, none] _ from ⟨rfl, ⟨rfl, ⟨rfl, trivial⟩⟩⟩) vc
theorem g88_2 {d : Nat} {sh : List (Nat × Nat)} {g : Nat → Nat → Option Nat} {h : Nat → Nat → Int} {Q : oeQ} {v0 : Nat} {v1 : Nat} {v2 : Int}
    (vc : (50 ≤ v2 → Q (some (.inl 50)) (sh, g, h)) ∧ (v2 < 50 → oe_V (oe_cost 88) 88 (oe_M (d + 1)) none Q 13 [some (.inr (.inl v0)), some (.inr (.inl v1)), some (.inl v2), some (.inl 0), some (.inl 0)] [] (sh, g, h) 0 0)) :
    oe_V (oe_cost 88) 88 (oe_M (d + 1)) none Q 2 [some (.inr (.inl v0)), some (.inr (.inl v1)), some (.inl v2), none, none] [] (sh, g, h) 0 0 := by
  refine s_iload_n (oe_t88 2 (q := (2, .iload_n 2, 1)) rfl) rfl ?_
  refine s_bipush (oe_t88 3 (q := (3, .bipush 50, 2)) rfl) ?_
  refine s_ic_ge (oe_t88 4 (q := (5, .if_icmp .ge 52, 3)) rfl) (fun c1 => ?_) (fun c1 => ?_)
  · replace vc := vc.1 c1
    refine s_bipush (oe_t88 28 (q := (52, .bipush 50, 2)) rfl) ?_
    exact s_iret (oe_t88 29 (q := (54, .ireturn, 1)) rfl) (Or.inl rfl) vc
  · replace vc := vc.2 c1
    refine s_iconst (oe_t88 5 (q := (8, .iconst 0, 1)) rfl) ?_
    refine s_istore_n (oe_t88 6 (q := (9, .istore_n 3, 1)) rfl) ?_
    refine s_iconst (oe_t88 7 (q := (10, .iconst 0, 1)) rfl) ?_
    refine s_istore (oe_t88 8 (q := (11, .istore 4, 2)) rfl) ?_
    exact oe_V.fg (oe_M_mono _) (show oe_fg [some (.inr (.inl v0)), some (.inr (.inl v1)), some (.inl v2), some (.inl 0), some (.inl 0)] _ from ⟨rfl, ⟨rfl, ⟨rfl, ⟨rfl, ⟨rfl, trivial⟩⟩⟩⟩⟩) vc
theorem g88_13 {d : Nat} {sh : List (Nat × Nat)} {g : Nat → Nat → Option Nat} {h : Nat → Nat → Int} {Q : oeQ} {v0 : Nat} {v1 : Nat} {v2 : Int} {v3 : Int} {v4 : Int}
    (vc : sh[v1]? = some (8, 3) ∧ ((h v1 2) ≤ v4 → (v3 ≠ 0 → oe_rg (v2 + 1) ∧ oe_V (oe_cost 88) 88 (oe_M (d + 1)) none Q 2 [some (.inr (.inl v0)), some (.inr (.inl v1)), some (.inl (v2 + 1)), none, none] [] (sh, g, h) 0 0) ∧ (v3 = 0 → Q (some (.inl v2)) (sh, g, h))) ∧ (v4 < (h v1 2) → (v3 ≠ 0 → (v3 ≠ 0 → oe_rg (v2 + 1) ∧ oe_V (oe_cost 88) 88 (oe_M (d + 1)) none Q 2 [some (.inr (.inl v0)), some (.inr (.inl v1)), some (.inl (v2 + 1)), none, none] [] (sh, g, h) 0 0) ∧ (v3 = 0 → Q (some (.inl v2)) (sh, g, h))) ∧ (v3 = 0 → sh[v0]? = some (6, 5) ∧ oe_M (d + 1) 89 [.inr (.inl v0), .inr (.inl v1), .inl v4] (sh, g, h) (fun r hp => ∃ (x10 : Int) (h9 : Nat → Nat → Int), r = some (.inl x10) ∧ hp = (sh, g, h9) ∧ oe_rg (v4 + 1) ∧ oe_V (oe_cost 88) 88 (oe_M (d + 1)) none Q 13 [some (.inr (.inl v0)), some (.inr (.inl v1)), some (.inl v2), some (.inl x10), some (.inl (v4 + 1))] [] (sh, g, h9) 0 0)))) :
    oe_V (oe_cost 88) 88 (oe_M (d + 1)) none Q 13 [some (.inr (.inl v0)), some (.inr (.inl v1)), some (.inl v2), some (.inl v3), some (.inl v4)] [] (sh, g, h) 0 0 := by
  refine s_iload (oe_t88 9 (q := (13, .iload 4, 2)) rfl) rfl ?_
  refine s_aload_n (oe_t88 10 (q := (15, .aload_n 1, 1)) rfl) rfl ?_
  obtain ⟨s2, vc⟩ := vc
  refine s_geti (oe_t88 11 (q := (16, .getfield 3020, 3)) rfl) s2 rfl (by decide) ?_
  refine s_ic_ge (oe_t88 12 (q := (19, .if_icmp .ge 40, 3)) rfl) (fun c3 => ?_) (fun c3 => ?_)
  · replace vc := vc.1 c3
    refine s_iload_n (oe_t88 22 (q := (40, .iload_n 3, 1)) rfl) rfl ?_
    refine s_if_ne (oe_t88 23 (q := (41, .ifCond .ne 46, 3)) rfl) (fun c4 => ?_) (fun c4 => ?_)
    · replace vc := vc.1 c4
      obtain ⟨r5, vc⟩ := vc
      refine s_iinc (oe_t88 26 (q := (46, .iinc 2 1, 3)) rfl) rfl r5 ?_
      refine s_goto (oe_t88 27 (q := (49, .goto 2, 3)) rfl) ?_
      exact oe_V.fg (oe_M_mono _) (show oe_fg [some (.inr (.inl v0)), some (.inr (.inl v1)), some (.inl (v2 + 1)), none, none] _ from ⟨rfl, ⟨rfl, ⟨rfl, trivial⟩⟩⟩) vc
    · replace vc := vc.2 c4
      refine s_iload_n (oe_t88 24 (q := (44, .iload_n 2, 1)) rfl) rfl ?_
      exact s_iret (oe_t88 25 (q := (45, .ireturn, 1)) rfl) (Or.inl rfl) vc
  · replace vc := vc.2 c3
    refine s_iload_n (oe_t88 13 (q := (22, .iload_n 3, 1)) rfl) rfl ?_
    refine s_if_ne (oe_t88 14 (q := (23, .ifCond .ne 40, 3)) rfl) (fun c6 => ?_) (fun c6 => ?_)
    · replace vc := vc.1 c6
      refine s_iload_n (oe_t88 22 (q := (40, .iload_n 3, 1)) rfl) rfl ?_
      refine s_if_ne (oe_t88 23 (q := (41, .ifCond .ne 46, 3)) rfl) (fun c7 => ?_) (fun c7 => ?_)
      · replace vc := vc.1 c7
        obtain ⟨r8, vc⟩ := vc
        refine s_iinc (oe_t88 26 (q := (46, .iinc 2 1, 3)) rfl) rfl r8 ?_
        refine s_goto (oe_t88 27 (q := (49, .goto 2, 3)) rfl) ?_
        exact oe_V.fg (oe_M_mono _) (show oe_fg [some (.inr (.inl v0)), some (.inr (.inl v1)), some (.inl (v2 + 1)), none, none] _ from ⟨rfl, ⟨rfl, ⟨rfl, trivial⟩⟩⟩) vc
      · replace vc := vc.2 c7
        refine s_iload_n (oe_t88 24 (q := (44, .iload_n 2, 1)) rfl) rfl ?_
        exact s_iret (oe_t88 25 (q := (45, .ireturn, 1)) rfl) (Or.inl rfl) vc
    · replace vc := vc.2 c6
      refine s_aload_n (oe_t88 15 (q := (26, .aload_n 0, 1)) rfl) rfl ?_
      refine s_aload_n (oe_t88 16 (q := (27, .aload_n 1, 1)) rfl) rfl ?_
      refine s_iload (oe_t88 17 (q := (28, .iload 4, 2)) rfl) rfl ?_
      obtain ⟨s11, vc⟩ := vc
      refine s_callv (oe_t88 18 (q := (30, .invokevirtual 89012, 3)) rfl) rfl s11 rfl (Nat.le_of_ble_eq_true rfl) (Nat.le_of_ble_eq_true rfl) (Nat.le_of_ble_eq_true rfl) (Nat.le_of_ble_eq_true rfl) ?_
      refine oe_M_mono _ _ _ _ _ _ (fun r hp vq => ?_) vc
      obtain ⟨x10, h9, rfl, rfl, vc⟩ := vq
      show oe_V (oe_cost 88) 88 (oe_M (d + 1)) none Q 33 [some (.inr (.inl v0)), some (.inr (.inl v1)), some (.inl v2), some (.inl v3), some (.inl v4)] [.inl x10] (sh, g, h9) 0 0
      refine s_istore_n (oe_t88 19 (q := (33, .istore_n 3, 1)) rfl) ?_
      obtain ⟨r12, vc⟩ := vc
      refine s_iinc (oe_t88 20 (q := (34, .iinc 4 1, 3)) rfl) rfl r12 ?_
      refine s_goto (oe_t88 21 (q := (37, .goto 13, 3)) rfl) ?_
      exact oe_V.fg (oe_M_mono _) (show oe_fg [some (.inr (.inl v0)), some (.inr (.inl v1)), some (.inl v2), some (.inl x10), some (.inl (v4 + 1))] _ from ⟨rfl, ⟨rfl, ⟨rfl, ⟨rfl, ⟨rfl, trivial⟩⟩⟩⟩⟩) vc
theorem oe_u89 : oe_c89.all (fun q => decide (oe_find oe_c89 q.1 = some q.2)) = true := by decide +kernel
theorem oe_t89 (k : Nat) {q : Nat × Jvm.ClassFile.Instr × Nat} (h : oe_c89[k]? = some q) : oe_find (oe_code 89) q.1 = some q.2 := oe_ft oe_u89 h
theorem g89 {d : Nat} {sh : List (Nat × Nat)} {g : Nat → Nat → Option Nat} {h : Nat → Nat → Int} {Q : oeQ} {v0 : Nat} {v1 : Nat} {v2 : Int}
    (vc : sh[v1]? = some (8, 3) ∧ oe_rg (30 - (h v1 2)) ∧ ∃ q3, g v1 1 = some q3 ∧ ∃ n6, sh[q3]? = some (0, n6) ∧ 0 ≤ v2 ∧ v2 < (n6 : Nat) ∧ oe_rg ((30 - (h v1 2)) + (h q3 (v2 : Int).toNat)) ∧ oe_rg (((30 - (h v1 2)) + (h q3 (v2 : Int).toNat)) - v2) ∧ oe_V (oe_cost 89) 89 (oe_M (d + 1)) none Q 20 [some (.inr (.inl v0)), some (.inr (.inl v1)), some (.inl v2), some (.inl (((30 - (h v1 2)) + (h q3 (v2 : Int).toNat)) - v2)), some (.inl 0), none] [] (sh, g, h) 0 0) :
    oe_M (d + 2) 89 [.inr (.inl v0), .inr (.inl v1), .inl v2] (sh, g, h) Q := by
  refine oe_M.of (by simp [oe_c1]) (Nat.le_of_ble_eq_true rfl) ?_
  show oe_V (oe_cost 89) 89 (oe_M (d + 1)) none Q 0 [some (.inr (.inl v0)), some (.inr (.inl v1)), some (.inl v2), none, none, none] [] (sh, g, h) 0 0
  refine s_bipush (oe_t89 0 (q := (0, .bipush 30, 2)) rfl) ?_
  refine s_aload_n (oe_t89 1 (q := (2, .aload_n 1, 1)) rfl) rfl ?_
  obtain ⟨s1, vc⟩ := vc
  refine s_geti (oe_t89 2 (q := (3, .getfield 3020, 3)) rfl) s1 rfl (by decide) ?_
  obtain ⟨r2, vc⟩ := vc
  refine s_isub (oe_t89 3 (q := (6, .isub, 1)) rfl) r2 ?_
  refine s_aload_n (oe_t89 4 (q := (7, .aload_n 1, 1)) rfl) rfl ?_
  obtain ⟨q3, p4, vc⟩ := vc
  refine s_getr (oe_t89 5 (q := (8, .getfield 3011, 3)) rfl) s1 rfl rfl p4 ?_
  refine s_iload_n (oe_t89 6 (q := (11, .iload_n 2, 1)) rfl) rfl ?_
  obtain ⟨n6, s5, vc⟩ := vc
  obtain ⟨i7, i8, vc⟩ := vc
  refine s_iaload (oe_t89 7 (q := (12, .iaload, 1)) rfl) s5 i7 i8 ?_
  obtain ⟨r9, vc⟩ := vc
  refine s_iadd (oe_t89 8 (q := (13, .iadd, 1)) rfl) r9 ?_
  refine s_iload_n (oe_t89 9 (q := (14, .iload_n 2, 1)) rfl) rfl ?_
  obtain ⟨r10, vc⟩ := vc
  refine s_isub (oe_t89 10 (q := (15, .isub, 1)) rfl) r10 ?_
  refine s_istore_n (oe_t89 11 (q := (16, .istore_n 3, 1)) rfl) ?_
  refine s_iconst (oe_t89 12 (q := (17, .iconst 0, 1)) rfl) ?_
  refine s_istore (oe_t89 13 (q := (18, .istore 4, 2)) rfl) ?_
  exact oe_V.fg (oe_M_mono _) (show oe_fg [some (.inr (.inl v0)), some (.inr (.inl v1)), some (.inl v2), some (.inl (((30 - (h v1 2)) + (h q3 (v2 : Int).toNat)) - v2)), some (.inl 0), none] _ from ⟨rfl, ⟨rfl, ⟨rfl, ⟨rfl, ⟨rfl, trivial⟩⟩⟩⟩⟩) vc
theorem g89_20 {d : Nat} {sh : List (Nat × Nat)} {g : Nat → Nat → Option Nat} {h : Nat → Nat → Int} {Q : oeQ} {v0 : Nat} {v1 : Nat} {v2 : Int} {v3 : Int} {v4 : Int}
    (vc : sh[v0]? = some (6, 5) ∧ oe_rg (2 * (h v0 1)) ∧ ((2 * (h v0 1)) ≤ v4 → Q (some (.inl 0)) (sh, g, h)) ∧ (v4 < (2 * (h v0 1)) → ∃ q14, g v0 0 = some q14 ∧ 0 ≤ v4 ∧ ∃ n18, sh[q14]? = some (4, n18) ∧ 0 ≤ (v4 / 2) ∧ (v4 / 2) < (n18 : Nat) ∧ ∃ q21, g q14 ((v4 / 2) : Int).toNat = some q21 ∧ ∃ q23, g v0 2 = some q23 ∧ ∃ n26, sh[q23]? = some (2, n26) ∧ 0 ≤ v4 ∧ v4 < (n26 : Nat) ∧ ((h q23 (v4 : Int).toNat) = 0 → oe_rg (v4 + 1) ∧ oe_V (oe_cost 89) 89 (oe_M (d + 1)) none Q 20 [some (.inr (.inl v0)), some (.inr (.inl v1)), some (.inl v2), some (.inl v3), some (.inl (v4 + 1)), none] [] (sh, g, h) 0 0) ∧ ((h q23 (v4 : Int).toNat) ≠ 0 → 0 ≤ v4 ∧ sh[q21]? = some (7, 2) ∧ oe_M (d + 1) 93 [.inr (.inl q21), .inl (v4 % 2)] (sh, g, h) (fun r hp => ∃ (q32 : Nat), r = some (.inr (.inl q32)) ∧ hp = (sh, g, h) ∧ oe_M (d + 1) 90 [.inr (.inl v0), .inr (.inl q32), .inr (.inl v1), .inl v2] (sh, g, h) (fun r hp => ∃ (x35 : Int) (h34 : Nat → Nat → Int), r = some (.inl x35) ∧ hp = (sh, g, h34) ∧ (x35 = 0 → oe_rg (v4 + 1) ∧ oe_V (oe_cost 89) 89 (oe_M (d + 1)) none Q 20 [some (.inr (.inl v0)), some (.inr (.inl v1)), some (.inl v2), some (.inl v3), some (.inl (v4 + 1)), none] [] (sh, g, h34) 0 0) ∧ (x35 ≠ 0 → 0 ≤ v4 ∧ oe_rg (1 - (v4 % 2)) ∧ oe_M (d + 1) 93 [.inr (.inl q21), .inl (1 - (v4 % 2))] (sh, g, h34) (fun r hp => ∃ (q40 : Nat), r = some (.inr (.inl q40)) ∧ hp = (sh, g, h34) ∧ oe_M (d + 1) 91 [.inr (.inl v0), .inr (.inl q40), .inr (.inl v1), .inl v3] (sh, g, h34) (fun r hp => ∃ (x42 : Int) (h41 : Nat → Nat → Int), r = some (.inl x42) ∧ hp = (sh, g, h41) ∧ (x42 = 0 → oe_rg (v4 + 1) ∧ oe_V (oe_cost 89) 89 (oe_M (d + 1)) none Q 20 [some (.inr (.inl v0)), some (.inr (.inl v1)), some (.inl v2), some (.inl v3), some (.inl (v4 + 1)), none] [] (sh, g, h41) 0 0) ∧ (x42 ≠ 0 → ∃ q45, g v0 4 = some q45 ∧ oe_M (d + 1) 110 [.inr (.inl v1), .inl v2, .inr (.inl q45), .inl 0, .inl 0] (sh, g, h41) (fun r hp => ∃ (x47 : Int), r = some (.inl x47) ∧ hp = (sh, g, h41) ∧ (x47 = 0 → oe_rg (v4 + 1) ∧ oe_V (oe_cost 89) 89 (oe_M (d + 1)) none Q 20 [some (.inr (.inl v0)), some (.inr (.inl v1)), some (.inl v2), some (.inl v3), some (.inl (v4 + 1)), none] [] (sh, g, h41) 0 0) ∧ (x47 ≠ 0 → sh[v1]? = some (8, 3) ∧ oe_M (d + 1) 105 [.inr (.inl v1), .inl v2, .inr (.inl q45)] (sh, g, h41) (fun r hp => ∃ (h50 : Nat → Nat → Int), r = none ∧ hp = (sh, g, h50) ∧ Q (some (.inl 1)) (sh, g, h50))))))))))))) :
    oe_V (oe_cost 89) 89 (oe_M (d + 1)) none Q 20 [some (.inr (.inl v0)), some (.inr (.inl v1)), some (.inl v2), some (.inl v3), some (.inl v4), none] [] (sh, g, h) 0 0 := by
  refine s_iload (oe_t89 14 (q := (20, .iload 4, 2)) rfl) rfl ?_
  refine s_iconst (oe_t89 15 (q := (22, .iconst 2, 1)) rfl) ?_
  refine s_aload_n (oe_t89 16 (q := (23, .aload_n 0, 1)) rfl) rfl ?_
  obtain ⟨s11, vc⟩ := vc
  refine s_geti (oe_t89 17 (q := (24, .getfield 1010, 3)) rfl) s11 rfl (by decide) ?_
  obtain ⟨r12, vc⟩ := vc
  refine s_imul (oe_t89 18 (q := (27, .imul, 1)) rfl) r12 ?_
  refine s_ic_ge (oe_t89 19 (q := (28, .if_icmp .ge 121, 3)) rfl) (fun c13 => ?_) (fun c13 => ?_)
  · replace vc := vc.1 c13
    refine s_iconst (oe_t89 71 (q := (121, .iconst 0, 1)) rfl) ?_
    exact s_iret (oe_t89 72 (q := (122, .ireturn, 1)) rfl) (Or.inr (Or.inl ⟨rfl, Or.inl rfl⟩)) vc
  · replace vc := vc.2 c13
    refine s_aload_n (oe_t89 20 (q := (31, .aload_n 0, 1)) rfl) rfl ?_
    obtain ⟨q14, p15, vc⟩ := vc
    refine s_getr (oe_t89 21 (q := (32, .getfield 1001, 3)) rfl) s11 rfl rfl p15 ?_
    refine s_iload (oe_t89 22 (q := (35, .iload 4, 2)) rfl) rfl ?_
    refine s_iconst (oe_t89 23 (q := (37, .iconst 2, 1)) rfl) ?_
    obtain ⟨r16, vc⟩ := vc
    refine s_idiv (oe_t89 24 (q := (38, .idiv, 1)) rfl) r16 (by decide) ?_
    obtain ⟨n18, s17, vc⟩ := vc
    obtain ⟨i19, i20, q21, p22, vc⟩ := vc
    refine s_aaload (oe_t89 25 (q := (39, .aaload, 1)) rfl) s17 i19 i20 p22 ?_
    refine s_astore (oe_t89 26 (q := (40, .astore 5, 2)) rfl) ?_
    refine s_aload_n (oe_t89 27 (q := (42, .aload_n 0, 1)) rfl) rfl ?_
    obtain ⟨q23, p24, vc⟩ := vc
    refine s_getr (oe_t89 28 (q := (43, .getfield 1021, 3)) rfl) s11 rfl rfl p24 ?_
    refine s_iload (oe_t89 29 (q := (46, .iload 4, 2)) rfl) rfl ?_
    obtain ⟨n26, s25, vc⟩ := vc
    obtain ⟨i27, i28, vc⟩ := vc
    refine s_baload (oe_t89 30 (q := (48, .baload, 1)) rfl) s25 i27 i28 ?_
    refine s_if_eq (oe_t89 31 (q := (49, .ifCond .eq 115, 3)) rfl) (fun c29 => ?_) (fun c29 => ?_)
    · replace vc := vc.1 c29
      obtain ⟨r30, vc⟩ := vc
      refine s_iinc (oe_t89 69 (q := (115, .iinc 4 1, 3)) rfl) rfl r30 ?_
      refine s_goto (oe_t89 70 (q := (118, .goto 20, 3)) rfl) ?_
      exact oe_V.fg (oe_M_mono _) (show oe_fg [some (.inr (.inl v0)), some (.inr (.inl v1)), some (.inl v2), some (.inl v3), some (.inl (v4 + 1)), none] _ from ⟨rfl, ⟨rfl, ⟨rfl, ⟨rfl, ⟨rfl, trivial⟩⟩⟩⟩⟩) vc
    · replace vc := vc.2 c29
      refine s_aload_n (oe_t89 32 (q := (52, .aload_n 0, 1)) rfl) rfl ?_
      refine s_aload (oe_t89 33 (q := (53, .aload 5, 2)) rfl) rfl ?_
      refine s_iload (oe_t89 34 (q := (55, .iload 4, 2)) rfl) rfl ?_
      refine s_iconst (oe_t89 35 (q := (57, .iconst 2, 1)) rfl) ?_
      obtain ⟨r31, vc⟩ := vc
      refine s_irem (oe_t89 36 (q := (58, .irem, 1)) rfl) r31 (by decide) ?_
      obtain ⟨s33, vc⟩ := vc
      refine s_callv (oe_t89 37 (q := (59, .invokevirtual 93021, 3)) rfl) rfl s33 rfl (Nat.le_of_ble_eq_true rfl) (Nat.le_of_ble_eq_true rfl) (Nat.le_of_ble_eq_true rfl) (Nat.le_of_ble_eq_true rfl) ?_
      refine oe_M_mono _ _ _ _ _ _ (fun r hp vq => ?_) vc
      obtain ⟨q32, rfl, rfl, vc⟩ := vq
      show oe_V (oe_cost 89) 89 (oe_M (d + 1)) none Q 62 [some (.inr (.inl v0)), some (.inr (.inl v1)), some (.inl v2), some (.inl v3), some (.inl v4), some (.inr (.inl q21))] [.inr (.inl q32), .inr (.inl v0)] (sh, g, h) 0 0
      refine s_aload_n (oe_t89 38 (q := (62, .aload_n 1, 1)) rfl) rfl ?_
      refine s_iload_n (oe_t89 39 (q := (63, .iload_n 2, 1)) rfl) rfl ?_
      refine s_callv (oe_t89 40 (q := (64, .invokevirtual 90013, 3)) rfl) rfl s11 rfl (Nat.le_of_ble_eq_true rfl) (Nat.le_of_ble_eq_true rfl) (Nat.le_of_ble_eq_true rfl) (Nat.le_of_ble_eq_true rfl) ?_
      refine oe_M_mono _ _ _ _ _ _ (fun r hp vq => ?_) vc
      obtain ⟨x35, h34, rfl, rfl, vc⟩ := vq
      show oe_V (oe_cost 89) 89 (oe_M (d + 1)) none Q 67 [some (.inr (.inl v0)), some (.inr (.inl v1)), some (.inl v2), some (.inl v3), some (.inl v4), some (.inr (.inl q21))] [.inl x35] (sh, g, h34) 0 0
      refine s_if_eq (oe_t89 41 (q := (67, .ifCond .eq 115, 3)) rfl) (fun c36 => ?_) (fun c36 => ?_)
      · replace vc := vc.1 c36
        obtain ⟨r37, vc⟩ := vc
        refine s_iinc (oe_t89 69 (q := (115, .iinc 4 1, 3)) rfl) rfl r37 ?_
        refine s_goto (oe_t89 70 (q := (118, .goto 20, 3)) rfl) ?_
        exact oe_V.fg (oe_M_mono _) (show oe_fg [some (.inr (.inl v0)), some (.inr (.inl v1)), some (.inl v2), some (.inl v3), some (.inl (v4 + 1)), none] _ from ⟨rfl, ⟨rfl, ⟨rfl, ⟨rfl, ⟨rfl, trivial⟩⟩⟩⟩⟩) vc
      · replace vc := vc.2 c36
        refine s_aload_n (oe_t89 42 (q := (70, .aload_n 0, 1)) rfl) rfl ?_
        refine s_aload (oe_t89 43 (q := (71, .aload 5, 2)) rfl) rfl ?_
        refine s_iconst (oe_t89 44 (q := (73, .iconst 1, 1)) rfl) ?_
        refine s_iload (oe_t89 45 (q := (74, .iload 4, 2)) rfl) rfl ?_
        refine s_iconst (oe_t89 46 (q := (76, .iconst 2, 1)) rfl) ?_
        obtain ⟨r38, vc⟩ := vc
        refine s_irem (oe_t89 47 (q := (77, .irem, 1)) rfl) r38 (by decide) ?_
        obtain ⟨r39, vc⟩ := vc
        refine s_isub (oe_t89 48 (q := (78, .isub, 1)) rfl) r39 ?_
        refine s_callv (oe_t89 49 (q := (79, .invokevirtual 93021, 3)) rfl) rfl s33 rfl (Nat.le_of_ble_eq_true rfl) (Nat.le_of_ble_eq_true rfl) (Nat.le_of_ble_eq_true rfl) (Nat.le_of_ble_eq_true rfl) ?_
        refine oe_M_mono _ _ _ _ _ _ (fun r hp vq => ?_) vc
        obtain ⟨q40, rfl, rfl, vc⟩ := vq
        show oe_V (oe_cost 89) 89 (oe_M (d + 1)) none Q 82 [some (.inr (.inl v0)), some (.inr (.inl v1)), some (.inl v2), some (.inl v3), some (.inl v4), some (.inr (.inl q21))] [.inr (.inl q40), .inr (.inl v0)] (sh, g, h34) 0 0
        refine s_aload_n (oe_t89 50 (q := (82, .aload_n 1, 1)) rfl) rfl ?_
        refine s_iload_n (oe_t89 51 (q := (83, .iload_n 3, 1)) rfl) rfl ?_
        refine s_callv (oe_t89 52 (q := (84, .invokevirtual 91013, 3)) rfl) rfl s11 rfl (Nat.le_of_ble_eq_true rfl) (Nat.le_of_ble_eq_true rfl) (Nat.le_of_ble_eq_true rfl) (Nat.le_of_ble_eq_true rfl) ?_
        refine oe_M_mono _ _ _ _ _ _ (fun r hp vq => ?_) vc
        obtain ⟨x42, h41, rfl, rfl, vc⟩ := vq
        show oe_V (oe_cost 89) 89 (oe_M (d + 1)) none Q 87 [some (.inr (.inl v0)), some (.inr (.inl v1)), some (.inl v2), some (.inl v3), some (.inl v4), some (.inr (.inl q21))] [.inl x42] (sh, g, h41) 0 0
        refine s_if_eq (oe_t89 53 (q := (87, .ifCond .eq 115, 3)) rfl) (fun c43 => ?_) (fun c43 => ?_)
        · replace vc := vc.1 c43
          obtain ⟨r44, vc⟩ := vc
          refine s_iinc (oe_t89 69 (q := (115, .iinc 4 1, 3)) rfl) rfl r44 ?_
          refine s_goto (oe_t89 70 (q := (118, .goto 20, 3)) rfl) ?_
          exact oe_V.fg (oe_M_mono _) (show oe_fg [some (.inr (.inl v0)), some (.inr (.inl v1)), some (.inl v2), some (.inl v3), some (.inl (v4 + 1)), none] _ from ⟨rfl, ⟨rfl, ⟨rfl, ⟨rfl, ⟨rfl, trivial⟩⟩⟩⟩⟩) vc
        · replace vc := vc.2 c43
          refine s_aload_n (oe_t89 54 (q := (90, .aload_n 1, 1)) rfl) rfl ?_
          refine s_iload_n (oe_t89 55 (q := (91, .iload_n 2, 1)) rfl) rfl ?_
          refine s_aload_n (oe_t89 56 (q := (92, .aload_n 0, 1)) rfl) rfl ?_
          obtain ⟨q45, p46, vc⟩ := vc
          refine s_getr (oe_t89 57 (q := (93, .getfield 1041, 3)) rfl) s11 rfl rfl p46 ?_
          refine s_iconst (oe_t89 58 (q := (96, .iconst 0, 1)) rfl) ?_
          refine s_iconst (oe_t89 59 (q := (97, .iconst 0, 1)) rfl) ?_
          refine s_calls (oe_t89 60 (q := (98, .invokestatic 110035, 3)) rfl) (by decide) (Nat.le_of_ble_eq_true rfl) (Nat.le_of_ble_eq_true rfl) (Nat.le_of_ble_eq_true rfl) (Nat.le_of_ble_eq_true rfl) ?_
          refine oe_M_mono _ _ _ _ _ _ (fun r hp vq => ?_) vc
          obtain ⟨x47, rfl, rfl, vc⟩ := vq
          show oe_V (oe_cost 89) 89 (oe_M (d + 1)) none Q 101 [some (.inr (.inl v0)), some (.inr (.inl v1)), some (.inl v2), some (.inl v3), some (.inl v4), some (.inr (.inl q21))] [.inl x47] (sh, g, h41) 0 0
          refine s_if_eq (oe_t89 61 (q := (101, .ifCond .eq 115, 3)) rfl) (fun c48 => ?_) (fun c48 => ?_)
          · replace vc := vc.1 c48
            obtain ⟨r49, vc⟩ := vc
            refine s_iinc (oe_t89 69 (q := (115, .iinc 4 1, 3)) rfl) rfl r49 ?_
            refine s_goto (oe_t89 70 (q := (118, .goto 20, 3)) rfl) ?_
            exact oe_V.fg (oe_M_mono _) (show oe_fg [some (.inr (.inl v0)), some (.inr (.inl v1)), some (.inl v2), some (.inl v3), some (.inl (v4 + 1)), none] _ from ⟨rfl, ⟨rfl, ⟨rfl, ⟨rfl, ⟨rfl, trivial⟩⟩⟩⟩⟩) vc
          · replace vc := vc.2 c48
            refine s_aload_n (oe_t89 62 (q := (104, .aload_n 1, 1)) rfl) rfl ?_
            refine s_iload_n (oe_t89 63 (q := (105, .iload_n 2, 1)) rfl) rfl ?_
            refine s_aload_n (oe_t89 64 (q := (106, .aload_n 0, 1)) rfl) rfl ?_
            refine s_getr (oe_t89 65 (q := (107, .getfield 1041, 3)) rfl) s11 rfl rfl p46 ?_
            obtain ⟨s51, vc⟩ := vc
            refine s_callv (oe_t89 66 (q := (110, .invokevirtual 105032, 3)) rfl) rfl s51 rfl (Nat.le_of_ble_eq_true rfl) (Nat.le_of_ble_eq_true rfl) (Nat.le_of_ble_eq_true rfl) (Nat.le_of_ble_eq_true rfl) ?_
            refine oe_M_mono _ _ _ _ _ _ (fun r hp vq => ?_) vc
            obtain ⟨h50, rfl, rfl, vc⟩ := vq
            show oe_V (oe_cost 89) 89 (oe_M (d + 1)) none Q 113 [some (.inr (.inl v0)), some (.inr (.inl v1)), some (.inl v2), some (.inl v3), some (.inl v4), some (.inr (.inl q21))] [] (sh, g, h50) 0 0
            refine s_iconst (oe_t89 67 (q := (113, .iconst 1, 1)) rfl) ?_
            exact s_iret (oe_t89 68 (q := (114, .ireturn, 1)) rfl) (Or.inr (Or.inl ⟨rfl, Or.inr rfl⟩)) vc
theorem oe_u90 : oe_c90.all (fun q => decide (oe_find oe_c90 q.1 = some q.2)) = true := by decide +kernel
theorem oe_t90 (k : Nat) {q : Nat × Jvm.ClassFile.Instr × Nat} (h : oe_c90[k]? = some q) : oe_find (oe_code 90) q.1 = some q.2 := oe_ft oe_u90 h
theorem g90 {d : Nat} {sh : List (Nat × Nat)} {g : Nat → Nat → Option Nat} {h : Nat → Nat → Int} {Q : oeQ} {v0 : Nat} {v1 : Nat} {v2 : Nat} {v3 : Int}
    (vc : sh[v0]? = some (6, 5) ∧ ∃ q2, g v0 3 = some q2 ∧ oe_M (d + 1) 129 [.inr (.inl q2), .inl (-1)] (sh, g, h) (fun r hp => ∃ (h4 : Nat → Nat → Int), r = none ∧ hp = (sh, g, h4) ∧ oe_V (oe_cost 90) 90 (oe_M (d + 1)) none Q 14 [some (.inr (.inl v0)), some (.inr (.inl v1)), some (.inr (.inl v2)), none, some (.inl v3), some (.inl 0), none] [] (sh, g, h4) 0 0)) :
    oe_M (d + 2) 90 [.inr (.inl v0), .inr (.inl v1), .inr (.inl v2), .inl v3] (sh, g, h) Q := by
  refine oe_M.of (by simp [oe_c1]) (Nat.le_of_ble_eq_true rfl) ?_
  show oe_V (oe_cost 90) 90 (oe_M (d + 1)) none Q 0 [some (.inr (.inl v0)), some (.inr (.inl v1)), some (.inr (.inl v2)), some (.inl v3), none, none, none] [] (sh, g, h) 0 0
  refine s_aload_n (oe_t90 0 (q := (0, .aload_n 0, 1)) rfl) rfl ?_
  obtain ⟨s1, vc⟩ := vc
  obtain ⟨q2, p3, vc⟩ := vc
  refine s_getr (oe_t90 1 (q := (1, .getfield 1031, 3)) rfl) s1 rfl rfl p3 ?_
  refine s_iconst (oe_t90 2 (q := (4, .iconst (-1), 1)) rfl) ?_
  refine s_calls (oe_t90 3 (q := (5, .invokestatic 129002, 3)) rfl) (by decide) (Nat.le_of_ble_eq_true rfl) (Nat.le_of_ble_eq_true rfl) (Nat.le_of_ble_eq_true rfl) (Nat.le_of_ble_eq_true rfl) ?_
  refine oe_M_mono _ _ _ _ _ _ (fun r hp vq => ?_) vc
  obtain ⟨h4, rfl, rfl, vc⟩ := vq
  show oe_V (oe_cost 90) 90 (oe_M (d + 1)) none Q 8 [some (.inr (.inl v0)), some (.inr (.inl v1)), some (.inr (.inl v2)), some (.inl v3), none, none, none] [] (sh, g, h4) 0 0
  refine s_iload_n (oe_t90 4 (q := (8, .iload_n 3, 1)) rfl) rfl ?_
  refine s_istore (oe_t90 5 (q := (9, .istore 4, 2)) rfl) ?_
  refine s_iconst (oe_t90 6 (q := (11, .iconst 0, 1)) rfl) ?_
  refine s_istore (oe_t90 7 (q := (12, .istore 5, 2)) rfl) ?_
  exact oe_V.fg (oe_M_mono _) (show oe_fg [some (.inr (.inl v0)), some (.inr (.inl v1)), some (.inr (.inl v2)), none, some (.inl v3), some (.inl 0), none] _ from ⟨rfl, ⟨rfl, ⟨rfl, ⟨rfl, ⟨rfl, trivial⟩⟩⟩⟩⟩) vc
theorem g90_14 {d : Nat} {sh : List (Nat × Nat)} {g : Nat → Nat → Option Nat} {h : Nat → Nat → Int} {Q : oeQ} {v0 : Nat} {v1 : Nat} {v2 : Nat} {v4 : Int} {v5 : Int}
    (vc : sh[v1]? = some (8, 3) ∧ ((h v1 2) ≤ v5 → Q (some (.inl 1)) (sh, g, h)) ∧ (v5 < (h v1 2) → ∃ q7, g v1 0 = some q7 ∧ ∃ n10, sh[q7]? = some (0, n10) ∧ 0 ≤ v5 ∧ v5 < (n10 : Nat) ∧ sh[v2]? = some (8, 3) ∧ (v4 < (h v2 2) → ((h q7 (v5 : Int).toNat) < 12 → sh[v0]? = some (6, 5) ∧ ∃ q17, g v0 3 = some q17 ∧ ∃ n20, sh[q17]? = some (0, n20) ∧ 0 ≤ (h q7 (v5 : Int).toNat) ∧ (h q7 (v5 : Int).toNat) < (n20 : Nat) ∧ ((h q17 ((h q7 (v5 : Int).toNat) : Int).toNat) ≠ (-1) → 0 ≤ (h q7 (v5 : Int).toNat) ∧ (h q7 (v5 : Int).toNat) < (n20 : Nat) ∧ oe_M (d + 1) 109 [.inr (.inl v2), .inl (h q17 ((h q7 (v5 : Int).toNat) : Int).toNat), .inr (.inl v2), .inl v4] (sh, g, h) (fun r hp => ∃ (x26 : Int), r = some (.inl x26) ∧ hp = (sh, g, h) ∧ (x26 ≠ 0 → ∃ q28, g v2 1 = some q28 ∧ ∃ n31, sh[q28]? = some (0, n31) ∧ 0 ≤ v4 ∧ v4 < (n31 : Nat) ∧ oe_rg (v5 + 1) ∧ oe_V (oe_cost 90) 90 (oe_M (d + 1)) none Q 14 [some (.inr (.inl v0)), some (.inr (.inl v1)), some (.inr (.inl v2)), none, some (.inl (h q28 (v4 : Int).toNat)), some (.inl (v5 + 1)), none] [] (sh, g, h) 0 0) ∧ (x26 = 0 → Q (some (.inl 0)) (sh, g, h)))) ∧ ((h q17 ((h q7 (v5 : Int).toNat) : Int).toNat) = (-1) → 0 ≤ (h q7 (v5 : Int).toNat) ∧ (h q7 (v5 : Int).toNat) < (n20 : Nat) ∧ ∀ h37, h37 = oe_up h q17 ((h q7 (v5 : Int).toNat) : Int).toNat v4 → ∃ q39, g v2 1 = some q39 ∧ ∃ n42, sh[q39]? = some (0, n42) ∧ 0 ≤ v4 ∧ v4 < (n42 : Nat) ∧ oe_rg (v5 + 1) ∧ oe_V (oe_cost 90) 90 (oe_M (d + 1)) none Q 14 [some (.inr (.inl v0)), some (.inr (.inl v1)), some (.inr (.inl v2)), none, some (.inl (h37 q39 (v4 : Int).toNat)), some (.inl (v5 + 1)), none] [] (sh, g, h37) 0 0)) ∧ (12 ≤ (h q7 (v5 : Int).toNat) → ∃ q46, g v2 0 = some q46 ∧ ∃ n49, sh[q46]? = some (0, n49) ∧ 0 ≤ v4 ∧ v4 < (n49 : Nat) ∧ ((h q46 (v4 : Int).toNat) = (h q7 (v5 : Int).toNat) → oe_rg (v4 + 1) ∧ oe_rg (v5 + 1) ∧ oe_V (oe_cost 90) 90 (oe_M (d + 1)) none Q 14 [some (.inr (.inl v0)), some (.inr (.inl v1)), some (.inr (.inl v2)), none, some (.inl (v4 + 1)), some (.inl (v5 + 1)), none] [] (sh, g, h) 0 0) ∧ ((h q46 (v4 : Int).toNat) ≠ (h q7 (v5 : Int).toNat) → Q (some (.inl 0)) (sh, g, h)))) ∧ ((h v2 2) ≤ v4 → Q (some (.inl 0)) (sh, g, h)))) :
    oe_V (oe_cost 90) 90 (oe_M (d + 1)) none Q 14 [some (.inr (.inl v0)), some (.inr (.inl v1)), some (.inr (.inl v2)), none, some (.inl v4), some (.inl v5), none] [] (sh, g, h) 0 0 := by
  refine s_iload (oe_t90 8 (q := (14, .iload 5, 2)) rfl) rfl ?_
  refine s_aload_n (oe_t90 9 (q := (16, .aload_n 1, 1)) rfl) rfl ?_
  obtain ⟨s5, vc⟩ := vc
  refine s_geti (oe_t90 10 (q := (17, .getfield 3020, 3)) rfl) s5 rfl (by decide) ?_
  refine s_ic_ge (oe_t90 11 (q := (20, .if_icmp .ge 128, 3)) rfl) (fun c6 => ?_) (fun c6 => ?_)
  · replace vc := vc.1 c6
    refine s_iconst (oe_t90 66 (q := (128, .iconst 1, 1)) rfl) ?_
    exact s_iret (oe_t90 67 (q := (129, .ireturn, 1)) rfl) (Or.inr (Or.inl ⟨rfl, Or.inr rfl⟩)) vc
  · replace vc := vc.2 c6
    refine s_aload_n (oe_t90 12 (q := (23, .aload_n 1, 1)) rfl) rfl ?_
    obtain ⟨q7, p8, vc⟩ := vc
    refine s_getr (oe_t90 13 (q := (24, .getfield 3001, 3)) rfl) s5 rfl rfl p8 ?_
    refine s_iload (oe_t90 14 (q := (27, .iload 5, 2)) rfl) rfl ?_
    obtain ⟨n10, s9, vc⟩ := vc
    obtain ⟨i11, i12, vc⟩ := vc
    refine s_iaload (oe_t90 15 (q := (29, .iaload, 1)) rfl) s9 i11 i12 ?_
    refine s_istore (oe_t90 16 (q := (30, .istore 6, 2)) rfl) ?_
    refine s_iload (oe_t90 17 (q := (32, .iload 4, 2)) rfl) rfl ?_
    refine s_aload_n (oe_t90 18 (q := (34, .aload_n 2, 1)) rfl) rfl ?_
    obtain ⟨s13, vc⟩ := vc
    refine s_geti (oe_t90 19 (q := (35, .getfield 3020, 3)) rfl) s13 rfl (by decide) ?_
    refine s_ic_lt (oe_t90 20 (q := (38, .if_icmp .lt 43, 3)) rfl) (fun c14 => ?_) (fun c14 => ?_)
    · replace vc := vc.1 c14
      refine s_iload (oe_t90 23 (q := (43, .iload 6, 2)) rfl) rfl ?_
      refine s_calls (oe_t90 24 (q := (45, .invokestatic 16001, 3)) rfl) (by decide) (Nat.le_of_ble_eq_true rfl) (Nat.le_of_ble_eq_true rfl) (Nat.le_of_ble_eq_true rfl) (Nat.le_of_ble_eq_true rfl) (sp_16 (fun c15 => ?_) (fun c15 => ?_))
      · replace vc := vc.1 c15
        show oe_V (oe_cost 90) 90 (oe_M (d + 1)) none Q 48 [some (.inr (.inl v0)), some (.inr (.inl v1)), some (.inr (.inl v2)), none, some (.inl v4), some (.inl v5), some (.inl (h q7 (v5 : Int).toNat))] [.inl 1] (sh, g, h) 0 0
        refine s_if_ne (oe_t90 25 (q := (48, .ifCond .ne 71, 3)) rfl) (fun _ => ?_) (fun q => absurd q (by decide))
        refine s_aload_n (oe_t90 36 (q := (71, .aload_n 0, 1)) rfl) rfl ?_
        obtain ⟨s16, vc⟩ := vc
        obtain ⟨q17, p18, vc⟩ := vc
        refine s_getr (oe_t90 37 (q := (72, .getfield 1031, 3)) rfl) s16 rfl rfl p18 ?_
        refine s_iload (oe_t90 38 (q := (75, .iload 6, 2)) rfl) rfl ?_
        obtain ⟨n20, s19, vc⟩ := vc
        obtain ⟨i21, i22, vc⟩ := vc
        refine s_iaload (oe_t90 39 (q := (77, .iaload, 1)) rfl) s19 i21 i22 ?_
        refine s_iconst (oe_t90 40 (q := (78, .iconst (-1), 1)) rfl) ?_
        refine s_ic_ne (oe_t90 41 (q := (79, .if_icmp .ne 94, 3)) rfl) (fun c23 => ?_) (fun c23 => ?_)
        · replace vc := vc.1 c23
          refine s_aload_n (oe_t90 48 (q := (94, .aload_n 2, 1)) rfl) rfl ?_
          refine s_aload_n (oe_t90 49 (q := (95, .aload_n 0, 1)) rfl) rfl ?_
          refine s_getr (oe_t90 50 (q := (96, .getfield 1031, 3)) rfl) s16 rfl rfl p18 ?_
          refine s_iload (oe_t90 51 (q := (99, .iload 6, 2)) rfl) rfl ?_
          obtain ⟨i24, i25, vc⟩ := vc
          refine s_iaload (oe_t90 52 (q := (101, .iaload, 1)) rfl) s19 i24 i25 ?_
          refine s_aload_n (oe_t90 53 (q := (102, .aload_n 2, 1)) rfl) rfl ?_
          refine s_iload (oe_t90 54 (q := (103, .iload 4, 2)) rfl) rfl ?_
          refine s_calls (oe_t90 55 (q := (105, .invokestatic 109034, 3)) rfl) (by decide) (Nat.le_of_ble_eq_true rfl) (Nat.le_of_ble_eq_true rfl) (Nat.le_of_ble_eq_true rfl) (Nat.le_of_ble_eq_true rfl) ?_
          refine oe_M_mono _ _ _ _ _ _ (fun r hp vq => ?_) vc
          obtain ⟨x26, rfl, rfl, vc⟩ := vq
          show oe_V (oe_cost 90) 90 (oe_M (d + 1)) none Q 108 [some (.inr (.inl v0)), some (.inr (.inl v1)), some (.inr (.inl v2)), none, some (.inl v4), some (.inl v5), some (.inl (h q7 (v5 : Int).toNat))] [.inl x26] (sh, g, h) 0 0
          refine s_if_ne (oe_t90 56 (q := (108, .ifCond .ne 113, 3)) rfl) (fun c27 => ?_) (fun c27 => ?_)
          · replace vc := vc.1 c27
            refine s_aload_n (oe_t90 59 (q := (113, .aload_n 2, 1)) rfl) rfl ?_
            obtain ⟨q28, p29, vc⟩ := vc
            refine s_getr (oe_t90 60 (q := (114, .getfield 3011, 3)) rfl) s13 rfl rfl p29 ?_
            refine s_iload (oe_t90 61 (q := (117, .iload 4, 2)) rfl) rfl ?_
            obtain ⟨n31, s30, vc⟩ := vc
            obtain ⟨i32, i33, vc⟩ := vc
            refine s_iaload (oe_t90 62 (q := (119, .iaload, 1)) rfl) s30 i32 i33 ?_
            refine s_istore (oe_t90 63 (q := (120, .istore 4, 2)) rfl) ?_
            obtain ⟨r34, vc⟩ := vc
            refine s_iinc (oe_t90 64 (q := (122, .iinc 5 1, 3)) rfl) rfl r34 ?_
            refine s_goto (oe_t90 65 (q := (125, .goto 14, 3)) rfl) ?_
            exact oe_V.fg (oe_M_mono _) (show oe_fg [some (.inr (.inl v0)), some (.inr (.inl v1)), some (.inr (.inl v2)), none, some (.inl (h q28 (v4 : Int).toNat)), some (.inl (v5 + 1)), none] _ from ⟨rfl, ⟨rfl, ⟨rfl, ⟨rfl, ⟨rfl, trivial⟩⟩⟩⟩⟩) vc
          · replace vc := vc.2 c27
            refine s_iconst (oe_t90 57 (q := (111, .iconst 0, 1)) rfl) ?_
            exact s_iret (oe_t90 58 (q := (112, .ireturn, 1)) rfl) (Or.inr (Or.inl ⟨rfl, Or.inl rfl⟩)) vc
        · replace vc := vc.2 c23
          refine s_aload_n (oe_t90 42 (q := (82, .aload_n 0, 1)) rfl) rfl ?_
          refine s_getr (oe_t90 43 (q := (83, .getfield 1031, 3)) rfl) s16 rfl rfl p18 ?_
          refine s_iload (oe_t90 44 (q := (86, .iload 6, 2)) rfl) rfl ?_
          refine s_iload (oe_t90 45 (q := (88, .iload 4, 2)) rfl) rfl ?_
          obtain ⟨i35, i36, vc⟩ := vc
          refine t_iastore (oe_t90 46 (q := (90, .iastore, 1)) rfl) s19 i35 i36 (fun h37 e38 => ?_)
          replace vc := vc h37 e38
          refine s_goto (oe_t90 47 (q := (91, .goto 113, 3)) rfl) ?_
          refine s_aload_n (oe_t90 59 (q := (113, .aload_n 2, 1)) rfl) rfl ?_
          obtain ⟨q39, p40, vc⟩ := vc
          refine s_getr (oe_t90 60 (q := (114, .getfield 3011, 3)) rfl) s13 rfl rfl p40 ?_
          refine s_iload (oe_t90 61 (q := (117, .iload 4, 2)) rfl) rfl ?_
          obtain ⟨n42, s41, vc⟩ := vc
          obtain ⟨i43, i44, vc⟩ := vc
          refine s_iaload (oe_t90 62 (q := (119, .iaload, 1)) rfl) s41 i43 i44 ?_
          refine s_istore (oe_t90 63 (q := (120, .istore 4, 2)) rfl) ?_
          obtain ⟨r45, vc⟩ := vc
          refine s_iinc (oe_t90 64 (q := (122, .iinc 5 1, 3)) rfl) rfl r45 ?_
          refine s_goto (oe_t90 65 (q := (125, .goto 14, 3)) rfl) ?_
          exact oe_V.fg (oe_M_mono _) (show oe_fg [some (.inr (.inl v0)), some (.inr (.inl v1)), some (.inr (.inl v2)), none, some (.inl (h37 q39 (v4 : Int).toNat)), some (.inl (v5 + 1)), none] _ from ⟨rfl, ⟨rfl, ⟨rfl, ⟨rfl, ⟨rfl, trivial⟩⟩⟩⟩⟩) vc
      · replace vc := vc.2 c15
        show oe_V (oe_cost 90) 90 (oe_M (d + 1)) none Q 48 [some (.inr (.inl v0)), some (.inr (.inl v1)), some (.inr (.inl v2)), none, some (.inl v4), some (.inl v5), some (.inl (h q7 (v5 : Int).toNat))] [.inl 0] (sh, g, h) 0 0
        refine s_if_ne (oe_t90 25 (q := (48, .ifCond .ne 71, 3)) rfl) (fun q => absurd q (by decide)) (fun _ => ?_)
        refine s_aload_n (oe_t90 26 (q := (51, .aload_n 2, 1)) rfl) rfl ?_
        obtain ⟨q46, p47, vc⟩ := vc
        refine s_getr (oe_t90 27 (q := (52, .getfield 3001, 3)) rfl) s13 rfl rfl p47 ?_
        refine s_iload (oe_t90 28 (q := (55, .iload 4, 2)) rfl) rfl ?_
        obtain ⟨n49, s48, vc⟩ := vc
        obtain ⟨i50, i51, vc⟩ := vc
        refine s_iaload (oe_t90 29 (q := (57, .iaload, 1)) rfl) s48 i50 i51 ?_
        refine s_iload (oe_t90 30 (q := (58, .iload 6, 2)) rfl) rfl ?_
        refine s_ic_eq (oe_t90 31 (q := (60, .if_icmp .eq 65, 3)) rfl) (fun c52 => ?_) (fun c52 => ?_)
        · replace vc := vc.1 c52
          obtain ⟨r53, vc⟩ := vc
          refine s_iinc (oe_t90 34 (q := (65, .iinc 4 1, 3)) rfl) rfl r53 ?_
          refine s_goto (oe_t90 35 (q := (68, .goto 122, 3)) rfl) ?_
          obtain ⟨r54, vc⟩ := vc
          refine s_iinc (oe_t90 64 (q := (122, .iinc 5 1, 3)) rfl) rfl r54 ?_
          refine s_goto (oe_t90 65 (q := (125, .goto 14, 3)) rfl) ?_
          exact oe_V.fg (oe_M_mono _) (show oe_fg [some (.inr (.inl v0)), some (.inr (.inl v1)), some (.inr (.inl v2)), none, some (.inl (v4 + 1)), some (.inl (v5 + 1)), none] _ from ⟨rfl, ⟨rfl, ⟨rfl, ⟨rfl, ⟨rfl, trivial⟩⟩⟩⟩⟩) vc
        · replace vc := vc.2 c52
          refine s_iconst (oe_t90 32 (q := (63, .iconst 0, 1)) rfl) ?_
          exact s_iret (oe_t90 33 (q := (64, .ireturn, 1)) rfl) (Or.inr (Or.inl ⟨rfl, Or.inl rfl⟩)) vc
    · replace vc := vc.2 c14
      refine s_iconst (oe_t90 21 (q := (41, .iconst 0, 1)) rfl) ?_
      exact s_iret (oe_t90 22 (q := (42, .ireturn, 1)) rfl) (Or.inr (Or.inl ⟨rfl, Or.inl rfl⟩)) vc
theorem oe_u91 : oe_c91.all (fun q => decide (oe_find oe_c91 q.1 = some q.2)) = true := by decide +kernel
theorem oe_t91 (k : Nat) {q : Nat × Jvm.ClassFile.Instr × Nat} (h : oe_c91[k]? = some q) : oe_find (oe_code 91) q.1 = some q.2 := oe_ft oe_u91 h
theorem g91 {d : Nat} {sh : List (Nat × Nat)} {g : Nat → Nat → Option Nat} {h : Nat → Nat → Int} {Q : oeQ} {v0 : Nat} {v1 : Nat} {v2 : Nat} {v3 : Int}
    (vc : sh[v0]? = some (6, 5) ∧ ∃ q2, g v0 4 = some q2 ∧ sh[q2]? = some (8, 3) ∧ oe_M (d + 1) 100 [.inr (.inl q2)] (sh, g, h) (fun r hp => ∃ (h4 : Nat → Nat → Int), r = none ∧ hp = (sh, g, h4) ∧ oe_V (oe_cost 91) 91 (oe_M (d + 1)) none Q 10 [some (.inr (.inl v0)), some (.inr (.inl v1)), some (.inr (.inl v2)), some (.inl v3), some (.inl 0), none, none, none, none] [] (sh, g, h4) 0 0)) :
    oe_M (d + 2) 91 [.inr (.inl v0), .inr (.inl v1), .inr (.inl v2), .inl v3] (sh, g, h) Q := by
  refine oe_M.of (by simp [oe_c1]) (Nat.le_of_ble_eq_true rfl) ?_
  show oe_V (oe_cost 91) 91 (oe_M (d + 1)) none Q 0 [some (.inr (.inl v0)), some (.inr (.inl v1)), some (.inr (.inl v2)), some (.inl v3), none, none, none, none, none] [] (sh, g, h) 0 0
  refine s_aload_n (oe_t91 0 (q := (0, .aload_n 0, 1)) rfl) rfl ?_
  obtain ⟨s1, vc⟩ := vc
  obtain ⟨q2, p3, vc⟩ := vc
  refine s_getr (oe_t91 1 (q := (1, .getfield 1041, 3)) rfl) s1 rfl rfl p3 ?_
  obtain ⟨s5, vc⟩ := vc
  refine s_callv (oe_t91 2 (q := (4, .invokevirtual 100030, 3)) rfl) rfl s5 rfl (Nat.le_of_ble_eq_true rfl) (Nat.le_of_ble_eq_true rfl) (Nat.le_of_ble_eq_true rfl) (Nat.le_of_ble_eq_true rfl) ?_
  refine oe_M_mono _ _ _ _ _ _ (fun r hp vq => ?_) vc
  obtain ⟨h4, rfl, rfl, vc⟩ := vq
  show oe_V (oe_cost 91) 91 (oe_M (d + 1)) none Q 7 [some (.inr (.inl v0)), some (.inr (.inl v1)), some (.inr (.inl v2)), some (.inl v3), none, none, none, none, none] [] (sh, g, h4) 0 0
  refine s_iconst (oe_t91 3 (q := (7, .iconst 0, 1)) rfl) ?_
  refine s_istore (oe_t91 4 (q := (8, .istore 4, 2)) rfl) ?_
  exact oe_V.fg (oe_M_mono _) (show oe_fg [some (.inr (.inl v0)), some (.inr (.inl v1)), some (.inr (.inl v2)), some (.inl v3), some (.inl 0), none, none, none, none] _ from ⟨rfl, ⟨rfl, ⟨rfl, ⟨rfl, ⟨rfl, trivial⟩⟩⟩⟩⟩) vc
theorem g91_10 {d : Nat} {sh : List (Nat × Nat)} {g : Nat → Nat → Option Nat} {h : Nat → Nat → Int} {Q : oeQ} {v0 : Nat} {v1 : Nat} {v2 : Nat} {v3 : Int} {v4 : Int}
    (vc : sh[v1]? = some (8, 3) ∧ ((h v1 2) ≤ v4 → sh[v0]? = some (6, 5) ∧ ∃ q9, g v0 4 = some q9 ∧ sh[q9]? = some (8, 3) ∧ oe_M (d + 1) 103 [.inr (.inl q9)] (sh, g, h) (fun r hp => ∃ (h11 : Nat → Nat → Int), r = none ∧ hp = (sh, g, h11) ∧ Q (some (.inl 1)) (sh, g, h11))) ∧ (v4 < (h v1 2) → ∃ q13, g v1 0 = some q13 ∧ ∃ n16, sh[q13]? = some (0, n16) ∧ 0 ≤ v4 ∧ v4 < (n16 : Nat) ∧ ((h q13 (v4 : Int).toNat) < 12 → sh[v0]? = some (6, 5) ∧ ∃ q21, g v0 3 = some q21 ∧ ∃ n24, sh[q21]? = some (0, n24) ∧ 0 ≤ (h q13 (v4 : Int).toNat) ∧ (h q13 (v4 : Int).toNat) < (n24 : Nat) ∧ ((h q21 ((h q13 (v4 : Int).toNat) : Int).toNat) ≠ (-1) → sh[v2]? = some (8, 3) ∧ ∃ q29, g v2 1 = some q29 ∧ ∃ n32, sh[q29]? = some (0, n32) ∧ 0 ≤ (h q21 ((h q13 (v4 : Int).toNat) : Int).toNat) ∧ (h q21 ((h q13 (v4 : Int).toNat) : Int).toNat) < (n32 : Nat) ∧ oe_rg ((h q29 ((h q21 ((h q13 (v4 : Int).toNat) : Int).toNat) : Int).toNat) - (h q21 ((h q13 (v4 : Int).toNat) : Int).toNat)) ∧ ∃ q36, g v0 4 = some q36 ∧ sh[q36]? = some (8, 3) ∧ oe_rg ((h q36 2) + ((h q29 ((h q21 ((h q13 (v4 : Int).toNat) : Int).toNat) : Int).toNat) - (h q21 ((h q13 (v4 : Int).toNat) : Int).toNat))) ∧ (((h q36 2) + ((h q29 ((h q21 ((h q13 (v4 : Int).toNat) : Int).toNat) : Int).toNat) - (h q21 ((h q13 (v4 : Int).toNat) : Int).toNat))) ≤ v3 → oe_V (oe_cost 91) 91 (oe_M (d + 1)) none Q 90 [some (.inr (.inl v0)), some (.inr (.inl v1)), some (.inr (.inl v2)), some (.inl v3), some (.inl v4), some (.inl (h q13 (v4 : Int).toNat)), some (.inl (h q21 ((h q13 (v4 : Int).toNat) : Int).toNat)), some (.inl ((h q29 ((h q21 ((h q13 (v4 : Int).toNat) : Int).toNat) : Int).toNat) - (h q21 ((h q13 (v4 : Int).toNat) : Int).toNat))), some (.inl 0)] [] (sh, g, h) 0 0) ∧ (v3 < ((h q36 2) + ((h q29 ((h q21 ((h q13 (v4 : Int).toNat) : Int).toNat) : Int).toNat) - (h q21 ((h q13 (v4 : Int).toNat) : Int).toNat))) → Q (some (.inl 0)) (sh, g, h))) ∧ ((h q21 ((h q13 (v4 : Int).toNat) : Int).toNat) = (-1) → ∃ q41, g v0 4 = some q41 ∧ sh[q41]? = some (8, 3) ∧ oe_rg ((h q41 2) + 1) ∧ (((h q41 2) + 1) ≤ v3 → oe_V (oe_cost 91) 91 (oe_M (d + 1)) none Q 90 [some (.inr (.inl v0)), some (.inr (.inl v1)), some (.inr (.inl v2)), some (.inl v3), some (.inl v4), some (.inl (h q13 (v4 : Int).toNat)), some (.inl (h q21 ((h q13 (v4 : Int).toNat) : Int).toNat)), some (.inl 1), some (.inl 0)] [] (sh, g, h) 0 0) ∧ (v3 < ((h q41 2) + 1) → Q (some (.inl 0)) (sh, g, h)))) ∧ (12 ≤ (h q13 (v4 : Int).toNat) → sh[v0]? = some (6, 5) ∧ ∃ q47, g v0 4 = some q47 ∧ sh[q47]? = some (8, 3) ∧ oe_rg ((h q47 2) + 1) ∧ (((h q47 2) + 1) ≤ v3 → oe_V (oe_cost 91) 91 (oe_M (d + 1)) none Q 90 [some (.inr (.inl v0)), some (.inr (.inl v1)), some (.inr (.inl v2)), some (.inl v3), some (.inl v4), some (.inl (h q13 (v4 : Int).toNat)), some (.inl (-1)), some (.inl 1), some (.inl 0)] [] (sh, g, h) 0 0) ∧ (v3 < ((h q47 2) + 1) → Q (some (.inl 0)) (sh, g, h))))) :
    oe_V (oe_cost 91) 91 (oe_M (d + 1)) none Q 10 [some (.inr (.inl v0)), some (.inr (.inl v1)), some (.inr (.inl v2)), some (.inl v3), some (.inl v4), none, none, none, none] [] (sh, g, h) 0 0 := by
  refine s_iload (oe_t91 5 (q := (10, .iload 4, 2)) rfl) rfl ?_
  refine s_aload_n (oe_t91 6 (q := (12, .aload_n 1, 1)) rfl) rfl ?_
  obtain ⟨s6, vc⟩ := vc
  refine s_geti (oe_t91 7 (q := (13, .getfield 3020, 3)) rfl) s6 rfl (by decide) ?_
  refine s_ic_ge (oe_t91 8 (q := (16, .if_icmp .ge 137, 3)) rfl) (fun c7 => ?_) (fun c7 => ?_)
  · replace vc := vc.1 c7
    refine s_aload_n (oe_t91 68 (q := (137, .aload_n 0, 1)) rfl) rfl ?_
    obtain ⟨s8, vc⟩ := vc
    obtain ⟨q9, p10, vc⟩ := vc
    refine s_getr (oe_t91 69 (q := (138, .getfield 1041, 3)) rfl) s8 rfl rfl p10 ?_
    obtain ⟨s12, vc⟩ := vc
    refine s_callv (oe_t91 70 (q := (141, .invokevirtual 103030, 3)) rfl) rfl s12 rfl (Nat.le_of_ble_eq_true rfl) (Nat.le_of_ble_eq_true rfl) (Nat.le_of_ble_eq_true rfl) (Nat.le_of_ble_eq_true rfl) ?_
    refine oe_M_mono _ _ _ _ _ _ (fun r hp vq => ?_) vc
    obtain ⟨h11, rfl, rfl, vc⟩ := vq
    show oe_V (oe_cost 91) 91 (oe_M (d + 1)) none Q 144 [some (.inr (.inl v0)), some (.inr (.inl v1)), some (.inr (.inl v2)), some (.inl v3), some (.inl v4), none, none, none, none] [] (sh, g, h11) 0 0
    refine s_iconst (oe_t91 71 (q := (144, .iconst 1, 1)) rfl) ?_
    exact s_iret (oe_t91 72 (q := (145, .ireturn, 1)) rfl) (Or.inr (Or.inl ⟨rfl, Or.inr rfl⟩)) vc
  · replace vc := vc.2 c7
    refine s_aload_n (oe_t91 9 (q := (19, .aload_n 1, 1)) rfl) rfl ?_
    obtain ⟨q13, p14, vc⟩ := vc
    refine s_getr (oe_t91 10 (q := (20, .getfield 3001, 3)) rfl) s6 rfl rfl p14 ?_
    refine s_iload (oe_t91 11 (q := (23, .iload 4, 2)) rfl) rfl ?_
    obtain ⟨n16, s15, vc⟩ := vc
    obtain ⟨i17, i18, vc⟩ := vc
    refine s_iaload (oe_t91 12 (q := (25, .iaload, 1)) rfl) s15 i17 i18 ?_
    refine s_istore (oe_t91 13 (q := (26, .istore 5, 2)) rfl) ?_
    refine s_iload (oe_t91 14 (q := (28, .iload 5, 2)) rfl) rfl ?_
    refine s_calls (oe_t91 15 (q := (30, .invokestatic 16001, 3)) rfl) (by decide) (Nat.le_of_ble_eq_true rfl) (Nat.le_of_ble_eq_true rfl) (Nat.le_of_ble_eq_true rfl) (Nat.le_of_ble_eq_true rfl) (sp_16 (fun c19 => ?_) (fun c19 => ?_))
    · replace vc := vc.1 c19
      show oe_V (oe_cost 91) 91 (oe_M (d + 1)) none Q 33 [some (.inr (.inl v0)), some (.inr (.inl v1)), some (.inr (.inl v2)), some (.inl v3), some (.inl v4), some (.inl (h q13 (v4 : Int).toNat)), none, none, none] [.inl 1] (sh, g, h) 0 0
      refine s_if_eq (oe_t91 16 (q := (33, .ifCond .eq 46, 3)) rfl) (fun q => absurd q (by decide)) (fun _ => ?_)
      refine s_aload_n (oe_t91 17 (q := (36, .aload_n 0, 1)) rfl) rfl ?_
      obtain ⟨s20, vc⟩ := vc
      obtain ⟨q21, p22, vc⟩ := vc
      refine s_getr (oe_t91 18 (q := (37, .getfield 1031, 3)) rfl) s20 rfl rfl p22 ?_
      refine s_iload (oe_t91 19 (q := (40, .iload 5, 2)) rfl) rfl ?_
      obtain ⟨n24, s23, vc⟩ := vc
      obtain ⟨i25, i26, vc⟩ := vc
      refine s_iaload (oe_t91 20 (q := (42, .iaload, 1)) rfl) s23 i25 i26 ?_
      refine s_goto (oe_t91 21 (q := (43, .goto 47, 3)) rfl) ?_
      refine s_istore (oe_t91 23 (q := (47, .istore 6, 2)) rfl) ?_
      refine s_iload (oe_t91 24 (q := (49, .iload 6, 2)) rfl) rfl ?_
      refine s_iconst (oe_t91 25 (q := (51, .iconst (-1), 1)) rfl) ?_
      refine s_ic_ne (oe_t91 26 (q := (52, .if_icmp .ne 59, 3)) rfl) (fun c27 => ?_) (fun c27 => ?_)
      · replace vc := vc.1 c27
        refine s_aload_n (oe_t91 29 (q := (59, .aload_n 2, 1)) rfl) rfl ?_
        obtain ⟨s28, vc⟩ := vc
        obtain ⟨q29, p30, vc⟩ := vc
        refine s_getr (oe_t91 30 (q := (60, .getfield 3011, 3)) rfl) s28 rfl rfl p30 ?_
        refine s_iload (oe_t91 31 (q := (63, .iload 6, 2)) rfl) rfl ?_
        obtain ⟨n32, s31, vc⟩ := vc
        obtain ⟨i33, i34, vc⟩ := vc
        refine s_iaload (oe_t91 32 (q := (65, .iaload, 1)) rfl) s31 i33 i34 ?_
        refine s_iload (oe_t91 33 (q := (66, .iload 6, 2)) rfl) rfl ?_
        obtain ⟨r35, vc⟩ := vc
        refine s_isub (oe_t91 34 (q := (68, .isub, 1)) rfl) r35 ?_
        refine s_istore (oe_t91 35 (q := (69, .istore 7, 2)) rfl) ?_
        refine s_aload_n (oe_t91 36 (q := (71, .aload_n 0, 1)) rfl) rfl ?_
        obtain ⟨q36, p37, vc⟩ := vc
        refine s_getr (oe_t91 37 (q := (72, .getfield 1041, 3)) rfl) s20 rfl rfl p37 ?_
        obtain ⟨s38, vc⟩ := vc
        refine s_geti (oe_t91 38 (q := (75, .getfield 3020, 3)) rfl) s38 rfl (by decide) ?_
        refine s_iload (oe_t91 39 (q := (78, .iload 7, 2)) rfl) rfl ?_
        obtain ⟨r39, vc⟩ := vc
        refine s_iadd (oe_t91 40 (q := (80, .iadd, 1)) rfl) r39 ?_
        refine s_iload_n (oe_t91 41 (q := (81, .iload_n 3, 1)) rfl) rfl ?_
        refine s_ic_le (oe_t91 42 (q := (82, .if_icmp .le 87, 3)) rfl) (fun c40 => ?_) (fun c40 => ?_)
        · replace vc := vc.1 c40
          refine s_iconst (oe_t91 45 (q := (87, .iconst 0, 1)) rfl) ?_
          refine s_istore (oe_t91 46 (q := (88, .istore 8, 2)) rfl) ?_
          exact oe_V.fg (oe_M_mono _) (show oe_fg [some (.inr (.inl v0)), some (.inr (.inl v1)), some (.inr (.inl v2)), some (.inl v3), some (.inl v4), some (.inl (h q13 (v4 : Int).toNat)), some (.inl (h q21 ((h q13 (v4 : Int).toNat) : Int).toNat)), some (.inl ((h q29 ((h q21 ((h q13 (v4 : Int).toNat) : Int).toNat) : Int).toNat) - (h q21 ((h q13 (v4 : Int).toNat) : Int).toNat))), some (.inl 0)] _ from ⟨rfl, ⟨rfl, ⟨rfl, ⟨rfl, ⟨rfl, ⟨rfl, ⟨rfl, ⟨rfl, ⟨rfl, trivial⟩⟩⟩⟩⟩⟩⟩⟩⟩) vc
        · replace vc := vc.2 c40
          refine s_iconst (oe_t91 43 (q := (85, .iconst 0, 1)) rfl) ?_
          exact s_iret (oe_t91 44 (q := (86, .ireturn, 1)) rfl) (Or.inr (Or.inl ⟨rfl, Or.inl rfl⟩)) vc
      · replace vc := vc.2 c27
        refine s_iconst (oe_t91 27 (q := (55, .iconst 1, 1)) rfl) ?_
        refine s_goto (oe_t91 28 (q := (56, .goto 69, 3)) rfl) ?_
        refine s_istore (oe_t91 35 (q := (69, .istore 7, 2)) rfl) ?_
        refine s_aload_n (oe_t91 36 (q := (71, .aload_n 0, 1)) rfl) rfl ?_
        obtain ⟨q41, p42, vc⟩ := vc
        refine s_getr (oe_t91 37 (q := (72, .getfield 1041, 3)) rfl) s20 rfl rfl p42 ?_
        obtain ⟨s43, vc⟩ := vc
        refine s_geti (oe_t91 38 (q := (75, .getfield 3020, 3)) rfl) s43 rfl (by decide) ?_
        refine s_iload (oe_t91 39 (q := (78, .iload 7, 2)) rfl) rfl ?_
        obtain ⟨r44, vc⟩ := vc
        refine s_iadd (oe_t91 40 (q := (80, .iadd, 1)) rfl) r44 ?_
        refine s_iload_n (oe_t91 41 (q := (81, .iload_n 3, 1)) rfl) rfl ?_
        refine s_ic_le (oe_t91 42 (q := (82, .if_icmp .le 87, 3)) rfl) (fun c45 => ?_) (fun c45 => ?_)
        · replace vc := vc.1 c45
          refine s_iconst (oe_t91 45 (q := (87, .iconst 0, 1)) rfl) ?_
          refine s_istore (oe_t91 46 (q := (88, .istore 8, 2)) rfl) ?_
          exact oe_V.fg (oe_M_mono _) (show oe_fg [some (.inr (.inl v0)), some (.inr (.inl v1)), some (.inr (.inl v2)), some (.inl v3), some (.inl v4), some (.inl (h q13 (v4 : Int).toNat)), some (.inl (h q21 ((h q13 (v4 : Int).toNat) : Int).toNat)), some (.inl 1), some (.inl 0)] _ from ⟨rfl, ⟨rfl, ⟨rfl, ⟨rfl, ⟨rfl, ⟨rfl, ⟨rfl, ⟨rfl, ⟨rfl, trivial⟩⟩⟩⟩⟩⟩⟩⟩⟩) vc
        · replace vc := vc.2 c45
          refine s_iconst (oe_t91 43 (q := (85, .iconst 0, 1)) rfl) ?_
          exact s_iret (oe_t91 44 (q := (86, .ireturn, 1)) rfl) (Or.inr (Or.inl ⟨rfl, Or.inl rfl⟩)) vc
    · replace vc := vc.2 c19
      show oe_V (oe_cost 91) 91 (oe_M (d + 1)) none Q 33 [some (.inr (.inl v0)), some (.inr (.inl v1)), some (.inr (.inl v2)), some (.inl v3), some (.inl v4), some (.inl (h q13 (v4 : Int).toNat)), none, none, none] [.inl 0] (sh, g, h) 0 0
      refine s_if_eq (oe_t91 16 (q := (33, .ifCond .eq 46, 3)) rfl) (fun _ => ?_) (fun q => absurd q (by decide))
      refine s_iconst (oe_t91 22 (q := (46, .iconst (-1), 1)) rfl) ?_
      refine s_istore (oe_t91 23 (q := (47, .istore 6, 2)) rfl) ?_
      refine s_iload (oe_t91 24 (q := (49, .iload 6, 2)) rfl) rfl ?_
      refine s_iconst (oe_t91 25 (q := (51, .iconst (-1), 1)) rfl) ?_
      refine s_ic_ne (oe_t91 26 (q := (52, .if_icmp .ne 59, 3)) rfl) (fun q => absurd q (by decide)) (fun _ => ?_)
      refine s_iconst (oe_t91 27 (q := (55, .iconst 1, 1)) rfl) ?_
      refine s_goto (oe_t91 28 (q := (56, .goto 69, 3)) rfl) ?_
      refine s_istore (oe_t91 35 (q := (69, .istore 7, 2)) rfl) ?_
      refine s_aload_n (oe_t91 36 (q := (71, .aload_n 0, 1)) rfl) rfl ?_
      obtain ⟨s46, vc⟩ := vc
      obtain ⟨q47, p48, vc⟩ := vc
      refine s_getr (oe_t91 37 (q := (72, .getfield 1041, 3)) rfl) s46 rfl rfl p48 ?_
      obtain ⟨s49, vc⟩ := vc
      refine s_geti (oe_t91 38 (q := (75, .getfield 3020, 3)) rfl) s49 rfl (by decide) ?_
      refine s_iload (oe_t91 39 (q := (78, .iload 7, 2)) rfl) rfl ?_
      obtain ⟨r50, vc⟩ := vc
      refine s_iadd (oe_t91 40 (q := (80, .iadd, 1)) rfl) r50 ?_
      refine s_iload_n (oe_t91 41 (q := (81, .iload_n 3, 1)) rfl) rfl ?_
      refine s_ic_le (oe_t91 42 (q := (82, .if_icmp .le 87, 3)) rfl) (fun c51 => ?_) (fun c51 => ?_)
      · replace vc := vc.1 c51
        refine s_iconst (oe_t91 45 (q := (87, .iconst 0, 1)) rfl) ?_
        refine s_istore (oe_t91 46 (q := (88, .istore 8, 2)) rfl) ?_
        exact oe_V.fg (oe_M_mono _) (show oe_fg [some (.inr (.inl v0)), some (.inr (.inl v1)), some (.inr (.inl v2)), some (.inl v3), some (.inl v4), some (.inl (h q13 (v4 : Int).toNat)), some (.inl (-1)), some (.inl 1), some (.inl 0)] _ from ⟨rfl, ⟨rfl, ⟨rfl, ⟨rfl, ⟨rfl, ⟨rfl, ⟨rfl, ⟨rfl, ⟨rfl, trivial⟩⟩⟩⟩⟩⟩⟩⟩⟩) vc
      · replace vc := vc.2 c51
        refine s_iconst (oe_t91 43 (q := (85, .iconst 0, 1)) rfl) ?_
        exact s_iret (oe_t91 44 (q := (86, .ireturn, 1)) rfl) (Or.inr (Or.inl ⟨rfl, Or.inl rfl⟩)) vc
theorem g91_90 {d : Nat} {sh : List (Nat × Nat)} {g : Nat → Nat → Option Nat} {h : Nat → Nat → Int} {Q : oeQ} {v0 : Nat} {v1 : Nat} {v2 : Nat} {v3 : Int} {v4 : Int} {v5 : Int} {v6 : Int} {v7 : Int} {v8 : Int}
    (vc : (v7 ≤ v8 → oe_rg (v4 + 1) ∧ oe_V (oe_cost 91) 91 (oe_M (d + 1)) none Q 10 [some (.inr (.inl v0)), some (.inr (.inl v1)), some (.inr (.inl v2)), some (.inl v3), some (.inl (v4 + 1)), none, none, none, none] [] (sh, g, h) 0 0) ∧ (v8 < v7 → sh[v0]? = some (6, 5) ∧ ∃ q55, g v0 4 = some q55 ∧ (v6 ≠ (-1) → sh[v2]? = some (8, 3) ∧ ∃ q59, g v2 0 = some q59 ∧ oe_rg (v6 + v8) ∧ ∃ n63, sh[q59]? = some (0, n63) ∧ 0 ≤ (v6 + v8) ∧ (v6 + v8) < (n63 : Nat) ∧ sh[q55]? = some (8, 3) ∧ oe_M (d + 1) 101 [.inr (.inl q55), .inl (h q59 ((v6 + v8) : Int).toNat)] (sh, g, h) (fun r hp => ∃ (h66 : Nat → Nat → Int), r = none ∧ hp = (sh, g, h66) ∧ oe_rg (v8 + 1) ∧ oe_V (oe_cost 91) 91 (oe_M (d + 1)) none Q 90 [some (.inr (.inl v0)), some (.inr (.inl v1)), some (.inr (.inl v2)), some (.inl v3), some (.inl v4), some (.inl v5), some (.inl v6), some (.inl v7), some (.inl (v8 + 1))] [] (sh, g, h66) 0 0)) ∧ (v6 = (-1) → sh[q55]? = some (8, 3) ∧ oe_M (d + 1) 101 [.inr (.inl q55), .inl v5] (sh, g, h) (fun r hp => ∃ (h69 : Nat → Nat → Int), r = none ∧ hp = (sh, g, h69) ∧ oe_rg (v8 + 1) ∧ oe_V (oe_cost 91) 91 (oe_M (d + 1)) none Q 90 [some (.inr (.inl v0)), some (.inr (.inl v1)), some (.inr (.inl v2)), some (.inl v3), some (.inl v4), some (.inl v5), some (.inl v6), some (.inl v7), some (.inl (v8 + 1))] [] (sh, g, h69) 0 0)))) :
    oe_V (oe_cost 91) 91 (oe_M (d + 1)) none Q 90 [some (.inr (.inl v0)), some (.inr (.inl v1)), some (.inr (.inl v2)), some (.inl v3), some (.inl v4), some (.inl v5), some (.inl v6), some (.inl v7), some (.inl v8)] [] (sh, g, h) 0 0 := by
  refine s_iload (oe_t91 47 (q := (90, .iload 8, 2)) rfl) rfl ?_
  refine s_iload (oe_t91 48 (q := (92, .iload 7, 2)) rfl) rfl ?_
  refine s_ic_ge (oe_t91 49 (q := (94, .if_icmp .ge 131, 3)) rfl) (fun c52 => ?_) (fun c52 => ?_)
  · replace vc := vc.1 c52
    obtain ⟨r53, vc⟩ := vc
    refine s_iinc (oe_t91 66 (q := (131, .iinc 4 1, 3)) rfl) rfl r53 ?_
    refine s_goto (oe_t91 67 (q := (134, .goto 10, 3)) rfl) ?_
    exact oe_V.fg (oe_M_mono _) (show oe_fg [some (.inr (.inl v0)), some (.inr (.inl v1)), some (.inr (.inl v2)), some (.inl v3), some (.inl (v4 + 1)), none, none, none, none] _ from ⟨rfl, ⟨rfl, ⟨rfl, ⟨rfl, ⟨rfl, trivial⟩⟩⟩⟩⟩) vc
  · replace vc := vc.2 c52
    refine s_aload_n (oe_t91 50 (q := (97, .aload_n 0, 1)) rfl) rfl ?_
    obtain ⟨s54, vc⟩ := vc
    obtain ⟨q55, p56, vc⟩ := vc
    refine s_getr (oe_t91 51 (q := (98, .getfield 1041, 3)) rfl) s54 rfl rfl p56 ?_
    refine s_iload (oe_t91 52 (q := (101, .iload 6, 2)) rfl) rfl ?_
    refine s_iconst (oe_t91 53 (q := (103, .iconst (-1), 1)) rfl) ?_
    refine s_ic_ne (oe_t91 54 (q := (104, .if_icmp .ne 112, 3)) rfl) (fun c57 => ?_) (fun c57 => ?_)
    · replace vc := vc.1 c57
      refine s_aload_n (oe_t91 57 (q := (112, .aload_n 2, 1)) rfl) rfl ?_
      obtain ⟨s58, vc⟩ := vc
      obtain ⟨q59, p60, vc⟩ := vc
      refine s_getr (oe_t91 58 (q := (113, .getfield 3001, 3)) rfl) s58 rfl rfl p60 ?_
      refine s_iload (oe_t91 59 (q := (116, .iload 6, 2)) rfl) rfl ?_
      refine s_iload (oe_t91 60 (q := (118, .iload 8, 2)) rfl) rfl ?_
      obtain ⟨r61, vc⟩ := vc
      refine s_iadd (oe_t91 61 (q := (120, .iadd, 1)) rfl) r61 ?_
      obtain ⟨n63, s62, vc⟩ := vc
      obtain ⟨i64, i65, vc⟩ := vc
      refine s_iaload (oe_t91 62 (q := (121, .iaload, 1)) rfl) s62 i64 i65 ?_
      obtain ⟨s67, vc⟩ := vc
      refine s_callv (oe_t91 63 (q := (122, .invokevirtual 101031, 3)) rfl) rfl s67 rfl (Nat.le_of_ble_eq_true rfl) (Nat.le_of_ble_eq_true rfl) (Nat.le_of_ble_eq_true rfl) (Nat.le_of_ble_eq_true rfl) ?_
      refine oe_M_mono _ _ _ _ _ _ (fun r hp vq => ?_) vc
      obtain ⟨h66, rfl, rfl, vc⟩ := vq
      show oe_V (oe_cost 91) 91 (oe_M (d + 1)) none Q 125 [some (.inr (.inl v0)), some (.inr (.inl v1)), some (.inr (.inl v2)), some (.inl v3), some (.inl v4), some (.inl v5), some (.inl v6), some (.inl v7), some (.inl v8)] [] (sh, g, h66) 0 0
      obtain ⟨r68, vc⟩ := vc
      refine s_iinc (oe_t91 64 (q := (125, .iinc 8 1, 3)) rfl) rfl r68 ?_
      refine s_goto (oe_t91 65 (q := (128, .goto 90, 3)) rfl) ?_
      exact oe_V.fg (oe_M_mono _) (show oe_fg [some (.inr (.inl v0)), some (.inr (.inl v1)), some (.inr (.inl v2)), some (.inl v3), some (.inl v4), some (.inl v5), some (.inl v6), some (.inl v7), some (.inl (v8 + 1))] _ from ⟨rfl, ⟨rfl, ⟨rfl, ⟨rfl, ⟨rfl, ⟨rfl, ⟨rfl, ⟨rfl, ⟨rfl, trivial⟩⟩⟩⟩⟩⟩⟩⟩⟩) vc
    · replace vc := vc.2 c57
      refine s_iload (oe_t91 55 (q := (107, .iload 5, 2)) rfl) rfl ?_
      refine s_goto (oe_t91 56 (q := (109, .goto 122, 3)) rfl) ?_
      obtain ⟨s70, vc⟩ := vc
      refine s_callv (oe_t91 63 (q := (122, .invokevirtual 101031, 3)) rfl) rfl s70 rfl (Nat.le_of_ble_eq_true rfl) (Nat.le_of_ble_eq_true rfl) (Nat.le_of_ble_eq_true rfl) (Nat.le_of_ble_eq_true rfl) ?_
      refine oe_M_mono _ _ _ _ _ _ (fun r hp vq => ?_) vc
      obtain ⟨h69, rfl, rfl, vc⟩ := vq
      show oe_V (oe_cost 91) 91 (oe_M (d + 1)) none Q 125 [some (.inr (.inl v0)), some (.inr (.inl v1)), some (.inr (.inl v2)), some (.inl v3), some (.inl v4), some (.inl v5), some (.inl v6), some (.inl v7), some (.inl v8)] [] (sh, g, h69) 0 0
      obtain ⟨r71, vc⟩ := vc
      refine s_iinc (oe_t91 64 (q := (125, .iinc 8 1, 3)) rfl) rfl r71 ?_
      refine s_goto (oe_t91 65 (q := (128, .goto 90, 3)) rfl) ?_
      exact oe_V.fg (oe_M_mono _) (show oe_fg [some (.inr (.inl v0)), some (.inr (.inl v1)), some (.inr (.inl v2)), some (.inl v3), some (.inl v4), some (.inl v5), some (.inl v6), some (.inl v7), some (.inl (v8 + 1))] _ from ⟨rfl, ⟨rfl, ⟨rfl, ⟨rfl, ⟨rfl, ⟨rfl, ⟨rfl, ⟨rfl, ⟨rfl, trivial⟩⟩⟩⟩⟩⟩⟩⟩⟩) vc
theorem oe_u93 : oe_c93.all (fun q => decide (oe_find oe_c93 q.1 = some q.2)) = true := by decide +kernel
theorem oe_t93 (k : Nat) {q : Nat × Jvm.ClassFile.Instr × Nat} (h : oe_c93[k]? = some q) : oe_find (oe_code 93) q.1 = some q.2 := oe_ft oe_u93 h
theorem g93 {d : Nat} {sh : List (Nat × Nat)} {g : Nat → Nat → Option Nat} {h : Nat → Nat → Int} {Q : oeQ} {v0 : Nat} {v1 : Int}
    (vc : (v1 ≠ 0 → sh[v0]? = some (7, 2) ∧ ∃ q3, g v0 1 = some q3 ∧ Q (some (.inr (.inl q3))) (sh, g, h)) ∧ (v1 = 0 → sh[v0]? = some (7, 2) ∧ ∃ q6, g v0 0 = some q6 ∧ Q (some (.inr (.inl q6))) (sh, g, h))) :
    oe_M (d + 2) 93 [.inr (.inl v0), .inl v1] (sh, g, h) Q := by
  refine oe_M.of (by simp [oe_c1]) (Nat.le_of_ble_eq_true rfl) ?_
  show oe_V (oe_cost 93) 93 (oe_M (d + 1)) none Q 0 [some (.inr (.inl v0)), some (.inl v1)] [] (sh, g, h) 0 0
  refine s_iload_n (oe_t93 0 (q := (0, .iload_n 1, 1)) rfl) rfl ?_
  refine s_if_ne (oe_t93 1 (q := (1, .ifCond .ne 11, 3)) rfl) (fun c1 => ?_) (fun c1 => ?_)
  · replace vc := vc.1 c1
    refine s_aload_n (oe_t93 5 (q := (11, .aload_n 0, 1)) rfl) rfl ?_
    obtain ⟨s2, vc⟩ := vc
    obtain ⟨q3, p4, vc⟩ := vc
    refine s_getr (oe_t93 6 (q := (12, .getfield 2011, 3)) rfl) s2 rfl rfl p4 ?_
    exact s_aret (oe_t93 7 (q := (15, .areturn, 1)) rfl) rfl vc
  · replace vc := vc.2 c1
    refine s_aload_n (oe_t93 2 (q := (4, .aload_n 0, 1)) rfl) rfl ?_
    obtain ⟨s5, vc⟩ := vc
    obtain ⟨q6, p7, vc⟩ := vc
    refine s_getr (oe_t93 3 (q := (5, .getfield 2001, 3)) rfl) s5 rfl rfl p7 ?_
    refine s_goto (oe_t93 4 (q := (8, .goto 15, 3)) rfl) ?_
    exact s_aret (oe_t93 7 (q := (15, .areturn, 1)) rfl) rfl vc
theorem oe_u94 : oe_c94.all (fun q => decide (oe_find oe_c94 q.1 = some q.2)) = true := by decide +kernel
theorem oe_t94 (k : Nat) {q : Nat × Jvm.ClassFile.Instr × Nat} (h : oe_c94[k]? = some q) : oe_find (oe_code 94) q.1 = some q.2 := oe_ft oe_u94 h
theorem g94 {d : Nat} {sh : List (Nat × Nat)} {g : Nat → Nat → Option Nat} {h : Nat → Nat → Int} {Q : oeQ} {v0 : Nat}
    (vc : sh[v0]? = some (7, 2) ∧ ∃ q2, g v0 0 = some q2 ∧ sh[q2]? = some (8, 3) ∧ ∃ q5, g v0 1 = some q5 ∧ sh[q5]? = some (8, 3) ∧ oe_rg ((h q2 2) + (h q5 2)) ∧ Q (some (.inl ((h q2 2) + (h q5 2)))) (sh, g, h)) :
    oe_M (d + 2) 94 [.inr (.inl v0)] (sh, g, h) Q := by
  refine oe_M.of (by simp [oe_c1]) (Nat.le_of_ble_eq_true rfl) ?_
  show oe_V (oe_cost 94) 94 (oe_M (d + 1)) none Q 0 [some (.inr (.inl v0))] [] (sh, g, h) 0 0
  refine s_aload_n (oe_t94 0 (q := (0, .aload_n 0, 1)) rfl) rfl ?_
  obtain ⟨s1, vc⟩ := vc
  obtain ⟨q2, p3, vc⟩ := vc
  refine s_getr (oe_t94 1 (q := (1, .getfield 2001, 3)) rfl) s1 rfl rfl p3 ?_
  obtain ⟨s4, vc⟩ := vc
  refine s_geti (oe_t94 2 (q := (4, .getfield 3020, 3)) rfl) s4 rfl (by decide) ?_
  refine s_aload_n (oe_t94 3 (q := (7, .aload_n 0, 1)) rfl) rfl ?_
  obtain ⟨q5, p6, vc⟩ := vc
  refine s_getr (oe_t94 4 (q := (8, .getfield 2011, 3)) rfl) s1 rfl rfl p6 ?_
  obtain ⟨s7, vc⟩ := vc
  refine s_geti (oe_t94 5 (q := (11, .getfield 3020, 3)) rfl) s7 rfl (by decide) ?_
  obtain ⟨r8, vc⟩ := vc
  refine s_iadd (oe_t94 6 (q := (14, .iadd, 1)) rfl) r8 ?_
  exact s_iret (oe_t94 7 (q := (15, .ireturn, 1)) rfl) (Or.inl rfl) vc
theorem oe_u95 : oe_c95.all (fun q => decide (oe_find oe_c95 q.1 = some q.2)) = true := by decide +kernel
theorem oe_t95 (k : Nat) {q : Nat × Jvm.ClassFile.Instr × Nat} (h : oe_c95[k]? = some q) : oe_find (oe_code 95) q.1 = some q.2 := oe_ft oe_u95 h
theorem g95 {d : Nat} {sh : List (Nat × Nat)} {g : Nat → Nat → Option Nat} {h : Nat → Nat → Int} {Q : oeQ} {v0 : Nat} {v1 : Nat} {v2 : Nat}
    (vc : sh[v0]? = some (7, 2) ∧ ∃ q2, g v0 0 = some q2 ∧ sh[q2]? = some (8, 3) ∧ oe_M (d + 1) 104 [.inr (.inl q2), .inr (.inl v1)] (sh, g, h) (fun r hp => ∃ (h4 : Nat → Nat → Int), r = none ∧ hp = (sh, g, h4) ∧ ∃ q6, g v0 1 = some q6 ∧ sh[q6]? = some (8, 3) ∧ oe_M (d + 1) 104 [.inr (.inl q6), .inr (.inl v2)] (sh, g, h4) (fun r hp => ∃ (h8 : Nat → Nat → Int), r = none ∧ hp = (sh, g, h8) ∧ Q none (sh, g, h8)))) :
    oe_M (d + 2) 95 [.inr (.inl v0), .inr (.inl v1), .inr (.inl v2)] (sh, g, h) Q := by
  refine oe_M.of (by simp [oe_c1]) (Nat.le_of_ble_eq_true rfl) ?_
  show oe_V (oe_cost 95) 95 (oe_M (d + 1)) none Q 0 [some (.inr (.inl v0)), some (.inr (.inl v1)), some (.inr (.inl v2))] [] (sh, g, h) 0 0
  refine s_aload_n (oe_t95 0 (q := (0, .aload_n 0, 1)) rfl) rfl ?_
  obtain ⟨s1, vc⟩ := vc
  obtain ⟨q2, p3, vc⟩ := vc
  refine s_getr (oe_t95 1 (q := (1, .getfield 2001, 3)) rfl) s1 rfl rfl p3 ?_
  refine s_aload_n (oe_t95 2 (q := (4, .aload_n 1, 1)) rfl) rfl ?_
  obtain ⟨s5, vc⟩ := vc
  refine s_callv (oe_t95 3 (q := (5, .invokevirtual 104031, 3)) rfl) rfl s5 rfl (Nat.le_of_ble_eq_true rfl) (Nat.le_of_ble_eq_true rfl) (Nat.le_of_ble_eq_true rfl) (Nat.le_of_ble_eq_true rfl) ?_
  refine oe_M_mono _ _ _ _ _ _ (fun r hp vq => ?_) vc
  obtain ⟨h4, rfl, rfl, vc⟩ := vq
  show oe_V (oe_cost 95) 95 (oe_M (d + 1)) none Q 8 [some (.inr (.inl v0)), some (.inr (.inl v1)), some (.inr (.inl v2))] [] (sh, g, h4) 0 0
  refine s_aload_n (oe_t95 4 (q := (8, .aload_n 0, 1)) rfl) rfl ?_
  obtain ⟨q6, p7, vc⟩ := vc
  refine s_getr (oe_t95 5 (q := (9, .getfield 2011, 3)) rfl) s1 rfl rfl p7 ?_
  refine s_aload_n (oe_t95 6 (q := (12, .aload_n 2, 1)) rfl) rfl ?_
  obtain ⟨s9, vc⟩ := vc
  refine s_callv (oe_t95 7 (q := (13, .invokevirtual 104031, 3)) rfl) rfl s9 rfl (Nat.le_of_ble_eq_true rfl) (Nat.le_of_ble_eq_true rfl) (Nat.le_of_ble_eq_true rfl) (Nat.le_of_ble_eq_true rfl) ?_
  refine oe_M_mono _ _ _ _ _ _ (fun r hp vq => ?_) vc
  obtain ⟨h8, rfl, rfl, vc⟩ := vq
  show oe_V (oe_cost 95) 95 (oe_M (d + 1)) none Q 16 [some (.inr (.inl v0)), some (.inr (.inl v1)), some (.inr (.inl v2))] [] (sh, g, h8) 0 0
  exact s_ret (oe_t95 8 (q := (16, .return_, 1)) rfl) rfl vc
theorem oe_u96 : oe_c96.all (fun q => decide (oe_find oe_c96 q.1 = some q.2)) = true := by decide +kernel
theorem oe_t96 (k : Nat) {q : Nat × Jvm.ClassFile.Instr × Nat} (h : oe_c96[k]? = some q) : oe_find (oe_code 96) q.1 = some q.2 := oe_ft oe_u96 h
theorem g96 {d : Nat} {sh : List (Nat × Nat)} {g : Nat → Nat → Option Nat} {h : Nat → Nat → Int} {Q : oeQ} {v0 : Nat}
    (vc : sh[v0]? = some (7, 2) ∧ ∃ q2, g v0 0 = some q2 ∧ ∃ q4, g v0 1 = some q4 ∧ oe_M (d + 1) 109 [.inr (.inl q2), .inl 0, .inr (.inl q4), .inl 0] (sh, g, h) (fun r hp => ∃ (x6 : Int), r = some (.inl x6) ∧ hp = (sh, g, h) ∧ (x6 = 0 ∨ x6 = 1) ∧ Q (some (.inl x6)) (sh, g, h))) :
    oe_M (d + 2) 96 [.inr (.inl v0)] (sh, g, h) Q := by
  refine oe_M.of (by simp [oe_c1]) (Nat.le_of_ble_eq_true rfl) ?_
  show oe_V (oe_cost 96) 96 (oe_M (d + 1)) none Q 0 [some (.inr (.inl v0))] [] (sh, g, h) 0 0
  refine s_aload_n (oe_t96 0 (q := (0, .aload_n 0, 1)) rfl) rfl ?_
  obtain ⟨s1, vc⟩ := vc
  obtain ⟨q2, p3, vc⟩ := vc
  refine s_getr (oe_t96 1 (q := (1, .getfield 2001, 3)) rfl) s1 rfl rfl p3 ?_
  refine s_iconst (oe_t96 2 (q := (4, .iconst 0, 1)) rfl) ?_
  refine s_aload_n (oe_t96 3 (q := (5, .aload_n 0, 1)) rfl) rfl ?_
  obtain ⟨q4, p5, vc⟩ := vc
  refine s_getr (oe_t96 4 (q := (6, .getfield 2011, 3)) rfl) s1 rfl rfl p5 ?_
  refine s_iconst (oe_t96 5 (q := (9, .iconst 0, 1)) rfl) ?_
  refine s_calls (oe_t96 6 (q := (10, .invokestatic 109034, 3)) rfl) (by decide) (Nat.le_of_ble_eq_true rfl) (Nat.le_of_ble_eq_true rfl) (Nat.le_of_ble_eq_true rfl) (Nat.le_of_ble_eq_true rfl) ?_
  refine oe_M_mono _ _ _ _ _ _ (fun r hp vq => ?_) vc
  obtain ⟨x6, rfl, rfl, vc⟩ := vq
  show oe_V (oe_cost 96) 96 (oe_M (d + 1)) none Q 13 [some (.inr (.inl v0))] [.inl x6] (sh, g, h) 0 0
  obtain ⟨b7, vc⟩ := vc
  exact s_iret (oe_t96 7 (q := (13, .ireturn, 1)) rfl) (Or.inr (Or.inl ⟨rfl, b7⟩)) vc
theorem oe_u97 : oe_c97.all (fun q => decide (oe_find oe_c97 q.1 = some q.2)) = true := by decide +kernel
theorem oe_t97 (k : Nat) {q : Nat × Jvm.ClassFile.Instr × Nat} (h : oe_c97[k]? = some q) : oe_find (oe_code 97) q.1 = some q.2 := oe_ft oe_u97 h
theorem g97 {d : Nat} {sh : List (Nat × Nat)} {g : Nat → Nat → Option Nat} {h : Nat → Nat → Int} {Q : oeQ} {v0 : Nat} {v1 : Nat}
    (vc : sh[v0]? = some (7, 2) ∧ ∃ q2, g v0 0 = some q2 ∧ sh[v1]? = some (7, 2) ∧ ∃ q5, g v1 0 = some q5 ∧ oe_M (d + 1) 109 [.inr (.inl q2), .inl 0, .inr (.inl q5), .inl 0] (sh, g, h) (fun r hp => ∃ (x7 : Int), r = some (.inl x7) ∧ hp = (sh, g, h) ∧ (x7 = 0 → Q (some (.inl 0)) (sh, g, h)) ∧ (x7 ≠ 0 → ∃ q9, g v0 1 = some q9 ∧ ∃ q11, g v1 1 = some q11 ∧ oe_M (d + 1) 109 [.inr (.inl q9), .inl 0, .inr (.inl q11), .inl 0] (sh, g, h) (fun r hp => ∃ (x13 : Int), r = some (.inl x13) ∧ hp = (sh, g, h) ∧ (x13 = 0 → Q (some (.inl 0)) (sh, g, h)) ∧ (x13 ≠ 0 → Q (some (.inl 1)) (sh, g, h)))))) :
    oe_M (d + 2) 97 [.inr (.inl v0), .inr (.inl v1)] (sh, g, h) Q := by
  refine oe_M.of (by simp [oe_c1]) (Nat.le_of_ble_eq_true rfl) ?_
  show oe_V (oe_cost 97) 97 (oe_M (d + 1)) none Q 0 [some (.inr (.inl v0)), some (.inr (.inl v1))] [] (sh, g, h) 0 0
  refine s_aload_n (oe_t97 0 (q := (0, .aload_n 0, 1)) rfl) rfl ?_
  obtain ⟨s1, vc⟩ := vc
  obtain ⟨q2, p3, vc⟩ := vc
  refine s_getr (oe_t97 1 (q := (1, .getfield 2001, 3)) rfl) s1 rfl rfl p3 ?_
  refine s_iconst (oe_t97 2 (q := (4, .iconst 0, 1)) rfl) ?_
  refine s_aload_n (oe_t97 3 (q := (5, .aload_n 1, 1)) rfl) rfl ?_
  obtain ⟨s4, vc⟩ := vc
  obtain ⟨q5, p6, vc⟩ := vc
  refine s_getr (oe_t97 4 (q := (6, .getfield 2001, 3)) rfl) s4 rfl rfl p6 ?_
  refine s_iconst (oe_t97 5 (q := (9, .iconst 0, 1)) rfl) ?_
  refine s_calls (oe_t97 6 (q := (10, .invokestatic 109034, 3)) rfl) (by decide) (Nat.le_of_ble_eq_true rfl) (Nat.le_of_ble_eq_true rfl) (Nat.le_of_ble_eq_true rfl) (Nat.le_of_ble_eq_true rfl) ?_
  refine oe_M_mono _ _ _ _ _ _ (fun r hp vq => ?_) vc
  obtain ⟨x7, rfl, rfl, vc⟩ := vq
  show oe_V (oe_cost 97) 97 (oe_M (d + 1)) none Q 13 [some (.inr (.inl v0)), some (.inr (.inl v1))] [.inl x7] (sh, g, h) 0 0
  refine s_if_eq (oe_t97 7 (q := (13, .ifCond .eq 36, 3)) rfl) (fun c8 => ?_) (fun c8 => ?_)
  · replace vc := vc.1 c8
    refine s_iconst (oe_t97 18 (q := (36, .iconst 0, 1)) rfl) ?_
    exact s_iret (oe_t97 19 (q := (37, .ireturn, 1)) rfl) (Or.inr (Or.inl ⟨rfl, Or.inl rfl⟩)) vc
  · replace vc := vc.2 c8
    refine s_aload_n (oe_t97 8 (q := (16, .aload_n 0, 1)) rfl) rfl ?_
    obtain ⟨q9, p10, vc⟩ := vc
    refine s_getr (oe_t97 9 (q := (17, .getfield 2011, 3)) rfl) s1 rfl rfl p10 ?_
    refine s_iconst (oe_t97 10 (q := (20, .iconst 0, 1)) rfl) ?_
    refine s_aload_n (oe_t97 11 (q := (21, .aload_n 1, 1)) rfl) rfl ?_
    obtain ⟨q11, p12, vc⟩ := vc
    refine s_getr (oe_t97 12 (q := (22, .getfield 2011, 3)) rfl) s4 rfl rfl p12 ?_
    refine s_iconst (oe_t97 13 (q := (25, .iconst 0, 1)) rfl) ?_
    refine s_calls (oe_t97 14 (q := (26, .invokestatic 109034, 3)) rfl) (by decide) (Nat.le_of_ble_eq_true rfl) (Nat.le_of_ble_eq_true rfl) (Nat.le_of_ble_eq_true rfl) (Nat.le_of_ble_eq_true rfl) ?_
    refine oe_M_mono _ _ _ _ _ _ (fun r hp vq => ?_) vc
    obtain ⟨x13, rfl, rfl, vc⟩ := vq
    show oe_V (oe_cost 97) 97 (oe_M (d + 1)) none Q 29 [some (.inr (.inl v0)), some (.inr (.inl v1))] [.inl x13] (sh, g, h) 0 0
    refine s_if_eq (oe_t97 15 (q := (29, .ifCond .eq 36, 3)) rfl) (fun c14 => ?_) (fun c14 => ?_)
    · replace vc := vc.1 c14
      refine s_iconst (oe_t97 18 (q := (36, .iconst 0, 1)) rfl) ?_
      exact s_iret (oe_t97 19 (q := (37, .ireturn, 1)) rfl) (Or.inr (Or.inl ⟨rfl, Or.inl rfl⟩)) vc
    · replace vc := vc.2 c14
      refine s_iconst (oe_t97 16 (q := (32, .iconst 1, 1)) rfl) ?_
      refine s_goto (oe_t97 17 (q := (33, .goto 37, 3)) rfl) ?_
      exact s_iret (oe_t97 19 (q := (37, .ireturn, 1)) rfl) (Or.inr (Or.inl ⟨rfl, Or.inr rfl⟩)) vc
theorem oe_u98 : oe_c98.all (fun q => decide (oe_find oe_c98 q.1 = some q.2)) = true := by decide +kernel
theorem oe_t98 (k : Nat) {q : Nat × Jvm.ClassFile.Instr × Nat} (h : oe_c98[k]? = some q) : oe_find (oe_code 98) q.1 = some q.2 := oe_ft oe_u98 h
theorem g98 {d : Nat} {sh : List (Nat × Nat)} {g : Nat → Nat → Option Nat} {h : Nat → Nat → Int} {Q : oeQ} {v0 : Nat} {v1 : Nat}
    (vc : oe_M (d + 1) 129 [.inr (.inl v1), .inl (-1)] (sh, g, h) (fun r hp => ∃ (h1 : Nat → Nat → Int), r = none ∧ hp = (sh, g, h1) ∧ sh[v0]? = some (7, 2) ∧ ∃ q3, g v0 1 = some q3 ∧ ∃ q5, g v0 0 = some q5 ∧ sh[q5]? = some (8, 3) ∧ oe_M (d + 1) 108 [.inr (.inl q5), .inr (.inl v1), .inl 0] (sh, g, h1) (fun r hp => ∃ (x8 : Int) (h7 : Nat → Nat → Int), r = some (.inl x8) ∧ hp = (sh, g, h7) ∧ sh[q3]? = some (8, 3) ∧ oe_M (d + 1) 108 [.inr (.inl q3), .inr (.inl v1), .inl x8] (sh, g, h7) (fun r hp => ∃ (x11 : Int) (h10 : Nat → Nat → Int), r = some (.inl x11) ∧ hp = (sh, g, h10) ∧ Q (some (.inl x11)) (sh, g, h10))))) :
    oe_M (d + 2) 98 [.inr (.inl v0), .inr (.inl v1)] (sh, g, h) Q := by
  refine oe_M.of (by simp [oe_c1]) (Nat.le_of_ble_eq_true rfl) ?_
  show oe_V (oe_cost 98) 98 (oe_M (d + 1)) none Q 0 [some (.inr (.inl v0)), some (.inr (.inl v1))] [] (sh, g, h) 0 0
  refine s_aload_n (oe_t98 0 (q := (0, .aload_n 1, 1)) rfl) rfl ?_
  refine s_iconst (oe_t98 1 (q := (1, .iconst (-1), 1)) rfl) ?_
  refine s_calls (oe_t98 2 (q := (2, .invokestatic 129002, 3)) rfl) (by decide) (Nat.le_of_ble_eq_true rfl) (Nat.le_of_ble_eq_true rfl) (Nat.le_of_ble_eq_true rfl) (Nat.le_of_ble_eq_true rfl) ?_
  refine oe_M_mono _ _ _ _ _ _ (fun r hp vq => ?_) vc
  obtain ⟨h1, rfl, rfl, vc⟩ := vq
  show oe_V (oe_cost 98) 98 (oe_M (d + 1)) none Q 5 [some (.inr (.inl v0)), some (.inr (.inl v1))] [] (sh, g, h1) 0 0
  refine s_aload_n (oe_t98 3 (q := (5, .aload_n 0, 1)) rfl) rfl ?_
  obtain ⟨s2, vc⟩ := vc
  obtain ⟨q3, p4, vc⟩ := vc
  refine s_getr (oe_t98 4 (q := (6, .getfield 2011, 3)) rfl) s2 rfl rfl p4 ?_
  refine s_aload_n (oe_t98 5 (q := (9, .aload_n 1, 1)) rfl) rfl ?_
  refine s_aload_n (oe_t98 6 (q := (10, .aload_n 0, 1)) rfl) rfl ?_
  obtain ⟨q5, p6, vc⟩ := vc
  refine s_getr (oe_t98 7 (q := (11, .getfield 2001, 3)) rfl) s2 rfl rfl p6 ?_
  refine s_aload_n (oe_t98 8 (q := (14, .aload_n 1, 1)) rfl) rfl ?_
  refine s_iconst (oe_t98 9 (q := (15, .iconst 0, 1)) rfl) ?_
  obtain ⟨s9, vc⟩ := vc
  refine s_callv (oe_t98 10 (q := (16, .invokevirtual 108032, 3)) rfl) rfl s9 rfl (Nat.le_of_ble_eq_true rfl) (Nat.le_of_ble_eq_true rfl) (Nat.le_of_ble_eq_true rfl) (Nat.le_of_ble_eq_true rfl) ?_
  refine oe_M_mono _ _ _ _ _ _ (fun r hp vq => ?_) vc
  obtain ⟨x8, h7, rfl, rfl, vc⟩ := vq
  show oe_V (oe_cost 98) 98 (oe_M (d + 1)) none Q 19 [some (.inr (.inl v0)), some (.inr (.inl v1))] [.inl x8, .inr (.inl v1), .inr (.inl q3)] (sh, g, h7) 0 0
  obtain ⟨s12, vc⟩ := vc
  refine s_callv (oe_t98 11 (q := (19, .invokevirtual 108032, 3)) rfl) rfl s12 rfl (Nat.le_of_ble_eq_true rfl) (Nat.le_of_ble_eq_true rfl) (Nat.le_of_ble_eq_true rfl) (Nat.le_of_ble_eq_true rfl) ?_
  refine oe_M_mono _ _ _ _ _ _ (fun r hp vq => ?_) vc
  obtain ⟨x11, h10, rfl, rfl, vc⟩ := vq
  show oe_V (oe_cost 98) 98 (oe_M (d + 1)) none Q 22 [some (.inr (.inl v0)), some (.inr (.inl v1))] [.inl x11] (sh, g, h10) 0 0
  exact s_iret (oe_t98 12 (q := (22, .ireturn, 1)) rfl) (Or.inl rfl) vc
theorem oe_u100 : oe_c100.all (fun q => decide (oe_find oe_c100 q.1 = some q.2)) = true := by decide +kernel
theorem oe_t100 (k : Nat) {q : Nat × Jvm.ClassFile.Instr × Nat} (h : oe_c100[k]? = some q) : oe_find (oe_code 100) q.1 = some q.2 := oe_ft oe_u100 h
theorem g100 {d : Nat} {sh : List (Nat × Nat)} {g : Nat → Nat → Option Nat} {h : Nat → Nat → Int} {Q : oeQ} {v0 : Nat}
    (vc : sh[v0]? = some (8, 3) ∧ ∀ h2, h2 = oe_up h v0 2 0 → Q none (sh, g, h2)) :
    oe_M (d + 2) 100 [.inr (.inl v0)] (sh, g, h) Q := by
  refine oe_M.of (by simp [oe_c1]) (Nat.le_of_ble_eq_true rfl) ?_
  show oe_V (oe_cost 100) 100 (oe_M (d + 1)) none Q 0 [some (.inr (.inl v0))] [] (sh, g, h) 0 0
  refine s_aload_n (oe_t100 0 (q := (0, .aload_n 0, 1)) rfl) rfl ?_
  refine s_iconst (oe_t100 1 (q := (1, .iconst 0, 1)) rfl) ?_
  obtain ⟨s1, vc⟩ := vc
  refine t_puti (oe_t100 2 (q := (2, .putfield 3020, 3)) rfl) s1 rfl (Or.inl rfl) (fun h2 e3 => ?_)
  replace vc := vc h2 e3
  exact s_ret (oe_t100 3 (q := (5, .return_, 1)) rfl) rfl vc
theorem oe_u101 : oe_c101.all (fun q => decide (oe_find oe_c101 q.1 = some q.2)) = true := by decide +kernel
theorem oe_t101 (k : Nat) {q : Nat × Jvm.ClassFile.Instr × Nat} (h : oe_c101[k]? = some q) : oe_find (oe_code 101) q.1 = some q.2 := oe_ft oe_u101 h
theorem g101 {d : Nat} {sh : List (Nat × Nat)} {g : Nat → Nat → Option Nat} {h : Nat → Nat → Int} {Q : oeQ} {v0 : Nat} {v1 : Int}
    (vc : sh[v0]? = some (8, 3) ∧ ∃ q2, g v0 0 = some q2 ∧ ∃ n5, sh[q2]? = some (0, n5) ∧ (((n5 : Nat) : Int) ≤ (h v0 2) → Q none (sh, g, h)) ∧ ((h v0 2) < ((n5 : Nat) : Int) → 0 ≤ (h v0 2) ∧ (h v0 2) < (n5 : Nat) ∧ ∀ h9, h9 = oe_up h q2 ((h v0 2) : Int).toNat v1 → oe_rg ((h9 v0 2) + 1) ∧ ∀ h12, h12 = oe_up h9 v0 2 ((h9 v0 2) + 1) → Q none (sh, g, h12))) :
    oe_M (d + 2) 101 [.inr (.inl v0), .inl v1] (sh, g, h) Q := by
  refine oe_M.of (by simp [oe_c1]) (Nat.le_of_ble_eq_true rfl) ?_
  show oe_V (oe_cost 101) 101 (oe_M (d + 1)) none Q 0 [some (.inr (.inl v0)), some (.inl v1)] [] (sh, g, h) 0 0
  refine s_aload_n (oe_t101 0 (q := (0, .aload_n 0, 1)) rfl) rfl ?_
  obtain ⟨s1, vc⟩ := vc
  refine s_geti (oe_t101 1 (q := (1, .getfield 3020, 3)) rfl) s1 rfl (by decide) ?_
  refine s_aload_n (oe_t101 2 (q := (4, .aload_n 0, 1)) rfl) rfl ?_
  obtain ⟨q2, p3, vc⟩ := vc
  refine s_getr (oe_t101 3 (q := (5, .getfield 3001, 3)) rfl) s1 rfl rfl p3 ?_
  obtain ⟨n5, s4, vc⟩ := vc
  refine s_alen (oe_t101 4 (q := (8, .arraylength, 1)) rfl) s4 (by decide) ?_
  refine s_ic_ge (oe_t101 5 (q := (9, .if_icmp .ge 32, 3)) rfl) (fun c6 => ?_) (fun c6 => ?_)
  · replace vc := vc.1 c6
    exact s_ret (oe_t101 18 (q := (32, .return_, 1)) rfl) rfl vc
  · replace vc := vc.2 c6
    refine s_aload_n (oe_t101 6 (q := (12, .aload_n 0, 1)) rfl) rfl ?_
    refine s_getr (oe_t101 7 (q := (13, .getfield 3001, 3)) rfl) s1 rfl rfl p3 ?_
    refine s_aload_n (oe_t101 8 (q := (16, .aload_n 0, 1)) rfl) rfl ?_
    refine s_geti (oe_t101 9 (q := (17, .getfield 3020, 3)) rfl) s1 rfl (by decide) ?_
    refine s_iload_n (oe_t101 10 (q := (20, .iload_n 1, 1)) rfl) rfl ?_
    obtain ⟨i7, i8, vc⟩ := vc
    refine t_iastore (oe_t101 11 (q := (21, .iastore, 1)) rfl) s4 i7 i8 (fun h9 e10 => ?_)
    replace vc := vc h9 e10
    refine s_aload_n (oe_t101 12 (q := (22, .aload_n 0, 1)) rfl) rfl ?_
    refine s_dup (oe_t101 13 (q := (23, .dup, 1)) rfl) trivial ?_
    refine s_geti (oe_t101 14 (q := (24, .getfield 3020, 3)) rfl) s1 rfl (by decide) ?_
    refine s_iconst (oe_t101 15 (q := (27, .iconst 1, 1)) rfl) ?_
    obtain ⟨r11, vc⟩ := vc
    refine s_iadd (oe_t101 16 (q := (28, .iadd, 1)) rfl) r11 ?_
    refine t_puti (oe_t101 17 (q := (29, .putfield 3020, 3)) rfl) s1 rfl (Or.inl rfl) (fun h12 e13 => ?_)
    replace vc := vc h12 e13
    exact s_ret (oe_t101 18 (q := (32, .return_, 1)) rfl) rfl vc
theorem oe_u102 : oe_c102.all (fun q => decide (oe_find oe_c102 q.1 = some q.2)) = true := by decide +kernel
theorem oe_t102 (k : Nat) {q : Nat × Jvm.ClassFile.Instr × Nat} (h : oe_c102[k]? = some q) : oe_find (oe_code 102) q.1 = some q.2 := oe_ft oe_u102 h
theorem g102 {d : Nat} {sh : List (Nat × Nat)} {g : Nat → Nat → Option Nat} {h : Nat → Nat → Int} {Q : oeQ} {v0 : Nat} {v1 : Nat} {v2 : Int}
    (vc : oe_V (oe_cost 102) 102 (oe_M (d + 1)) none Q 2 [some (.inr (.inl v0)), some (.inr (.inl v1)), some (.inl v2), some (.inl 0), none] [] (sh, g, h) 0 0) :
    oe_M (d + 2) 102 [.inr (.inl v0), .inr (.inl v1), .inl v2] (sh, g, h) Q := by
  refine oe_M.of (by simp [oe_c1]) (Nat.le_of_ble_eq_true rfl) ?_
  show oe_V (oe_cost 102) 102 (oe_M (d + 1)) none Q 0 [some (.inr (.inl v0)), some (.inr (.inl v1)), some (.inl v2), none, none] [] (sh, g, h) 0 0
  refine s_iconst (oe_t102 0 (q := (0, .iconst 0, 1)) rfl) ?_
  refine s_istore_n (oe_t102 1 (q := (1, .istore_n 3, 1)) rfl) ?_
  exact oe_V.fg (oe_M_mono _) (show oe_fg [some (.inr (.inl v0)), some (.inr (.inl v1)), some (.inl v2), some (.inl 0), none] _ from ⟨rfl, ⟨rfl, ⟨rfl, ⟨rfl, trivial⟩⟩⟩⟩) vc
theorem g102_2 {d : Nat} {sh : List (Nat × Nat)} {g : Nat → Nat → Option Nat} {h : Nat → Nat → Int} {Q : oeQ} {v0 : Nat} {v1 : Nat} {v2 : Int} {v3 : Int}
    (vc : sh[v1]? = some (8, 3) ∧ ((h v1 2) ≤ v3 → Q none (sh, g, h)) ∧ (v3 < (h v1 2) → ∃ q3, g v1 0 = some q3 ∧ ∃ n6, sh[q3]? = some (0, n6) ∧ 0 ≤ v3 ∧ v3 < (n6 : Nat) ∧ ((h q3 (v3 : Int).toNat) < 12 → oe_rg ((h q3 (v3 : Int).toNat) + v2) ∧ sh[v0]? = some (8, 3) ∧ oe_M (d + 1) 101 [.inr (.inl v0), .inl ((h q3 (v3 : Int).toNat) + v2)] (sh, g, h) (fun r hp => ∃ (h11 : Nat → Nat → Int), r = none ∧ hp = (sh, g, h11) ∧ oe_rg (v3 + 1) ∧ oe_V (oe_cost 102) 102 (oe_M (d + 1)) none Q 2 [some (.inr (.inl v0)), some (.inr (.inl v1)), some (.inl v2), some (.inl (v3 + 1)), none] [] (sh, g, h11) 0 0)) ∧ (12 ≤ (h q3 (v3 : Int).toNat) → sh[v0]? = some (8, 3) ∧ oe_M (d + 1) 101 [.inr (.inl v0), .inl (h q3 (v3 : Int).toNat)] (sh, g, h) (fun r hp => ∃ (h14 : Nat → Nat → Int), r = none ∧ hp = (sh, g, h14) ∧ oe_rg (v3 + 1) ∧ oe_V (oe_cost 102) 102 (oe_M (d + 1)) none Q 2 [some (.inr (.inl v0)), some (.inr (.inl v1)), some (.inl v2), some (.inl (v3 + 1)), none] [] (sh, g, h14) 0 0)))) :
    oe_V (oe_cost 102) 102 (oe_M (d + 1)) none Q 2 [some (.inr (.inl v0)), some (.inr (.inl v1)), some (.inl v2), some (.inl v3), none] [] (sh, g, h) 0 0 := by
  refine s_iload_n (oe_t102 2 (q := (2, .iload_n 3, 1)) rfl) rfl ?_
  refine s_aload_n (oe_t102 3 (q := (3, .aload_n 1, 1)) rfl) rfl ?_
  obtain ⟨s1, vc⟩ := vc
  refine s_geti (oe_t102 4 (q := (4, .getfield 3020, 3)) rfl) s1 rfl (by decide) ?_
  refine s_ic_ge (oe_t102 5 (q := (7, .if_icmp .ge 45, 3)) rfl) (fun c2 => ?_) (fun c2 => ?_)
  · replace vc := vc.1 c2
    exact s_ret (oe_t102 23 (q := (45, .return_, 1)) rfl) rfl vc
  · replace vc := vc.2 c2
    refine s_aload_n (oe_t102 6 (q := (10, .aload_n 1, 1)) rfl) rfl ?_
    obtain ⟨q3, p4, vc⟩ := vc
    refine s_getr (oe_t102 7 (q := (11, .getfield 3001, 3)) rfl) s1 rfl rfl p4 ?_
    refine s_iload_n (oe_t102 8 (q := (14, .iload_n 3, 1)) rfl) rfl ?_
    obtain ⟨n6, s5, vc⟩ := vc
    obtain ⟨i7, i8, vc⟩ := vc
    refine s_iaload (oe_t102 9 (q := (15, .iaload, 1)) rfl) s5 i7 i8 ?_
    refine s_istore (oe_t102 10 (q := (16, .istore 4, 2)) rfl) ?_
    refine s_aload_n (oe_t102 11 (q := (18, .aload_n 0, 1)) rfl) rfl ?_
    refine s_iload (oe_t102 12 (q := (19, .iload 4, 2)) rfl) rfl ?_
    refine s_calls (oe_t102 13 (q := (21, .invokestatic 16001, 3)) rfl) (by decide) (Nat.le_of_ble_eq_true rfl) (Nat.le_of_ble_eq_true rfl) (Nat.le_of_ble_eq_true rfl) (Nat.le_of_ble_eq_true rfl) (sp_16 (fun c9 => ?_) (fun c9 => ?_))
    · replace vc := vc.1 c9
      show oe_V (oe_cost 102) 102 (oe_M (d + 1)) none Q 24 [some (.inr (.inl v0)), some (.inr (.inl v1)), some (.inl v2), some (.inl v3), some (.inl (h q3 (v3 : Int).toNat))] [.inl 1, .inr (.inl v0)] (sh, g, h) 0 0
      refine s_if_eq (oe_t102 14 (q := (24, .ifCond .eq 34, 3)) rfl) (fun q => absurd q (by decide)) (fun _ => ?_)
      refine s_iload (oe_t102 15 (q := (27, .iload 4, 2)) rfl) rfl ?_
      refine s_iload_n (oe_t102 16 (q := (29, .iload_n 2, 1)) rfl) rfl ?_
      obtain ⟨r10, vc⟩ := vc
      refine s_iadd (oe_t102 17 (q := (30, .iadd, 1)) rfl) r10 ?_
      refine s_goto (oe_t102 18 (q := (31, .goto 36, 3)) rfl) ?_
      obtain ⟨s12, vc⟩ := vc
      refine s_callv (oe_t102 20 (q := (36, .invokevirtual 101031, 3)) rfl) rfl s12 rfl (Nat.le_of_ble_eq_true rfl) (Nat.le_of_ble_eq_true rfl) (Nat.le_of_ble_eq_true rfl) (Nat.le_of_ble_eq_true rfl) ?_
      refine oe_M_mono _ _ _ _ _ _ (fun r hp vq => ?_) vc
      obtain ⟨h11, rfl, rfl, vc⟩ := vq
      show oe_V (oe_cost 102) 102 (oe_M (d + 1)) none Q 39 [some (.inr (.inl v0)), some (.inr (.inl v1)), some (.inl v2), some (.inl v3), some (.inl (h q3 (v3 : Int).toNat))] [] (sh, g, h11) 0 0
      obtain ⟨r13, vc⟩ := vc
      refine s_iinc (oe_t102 21 (q := (39, .iinc 3 1, 3)) rfl) rfl r13 ?_
      refine s_goto (oe_t102 22 (q := (42, .goto 2, 3)) rfl) ?_
      exact oe_V.fg (oe_M_mono _) (show oe_fg [some (.inr (.inl v0)), some (.inr (.inl v1)), some (.inl v2), some (.inl (v3 + 1)), none] _ from ⟨rfl, ⟨rfl, ⟨rfl, ⟨rfl, trivial⟩⟩⟩⟩) vc
    · replace vc := vc.2 c9
      show oe_V (oe_cost 102) 102 (oe_M (d + 1)) none Q 24 [some (.inr (.inl v0)), some (.inr (.inl v1)), some (.inl v2), some (.inl v3), some (.inl (h q3 (v3 : Int).toNat))] [.inl 0, .inr (.inl v0)] (sh, g, h) 0 0
      refine s_if_eq (oe_t102 14 (q := (24, .ifCond .eq 34, 3)) rfl) (fun _ => ?_) (fun q => absurd q (by decide))
      refine s_iload (oe_t102 19 (q := (34, .iload 4, 2)) rfl) rfl ?_
      obtain ⟨s15, vc⟩ := vc
      refine s_callv (oe_t102 20 (q := (36, .invokevirtual 101031, 3)) rfl) rfl s15 rfl (Nat.le_of_ble_eq_true rfl) (Nat.le_of_ble_eq_true rfl) (Nat.le_of_ble_eq_true rfl) (Nat.le_of_ble_eq_true rfl) ?_
      refine oe_M_mono _ _ _ _ _ _ (fun r hp vq => ?_) vc
      obtain ⟨h14, rfl, rfl, vc⟩ := vq
      show oe_V (oe_cost 102) 102 (oe_M (d + 1)) none Q 39 [some (.inr (.inl v0)), some (.inr (.inl v1)), some (.inl v2), some (.inl v3), some (.inl (h q3 (v3 : Int).toNat))] [] (sh, g, h14) 0 0
      obtain ⟨r16, vc⟩ := vc
      refine s_iinc (oe_t102 21 (q := (39, .iinc 3 1, 3)) rfl) rfl r16 ?_
      refine s_goto (oe_t102 22 (q := (42, .goto 2, 3)) rfl) ?_
      exact oe_V.fg (oe_M_mono _) (show oe_fg [some (.inr (.inl v0)), some (.inr (.inl v1)), some (.inl v2), some (.inl (v3 + 1)), none] _ from ⟨rfl, ⟨rfl, ⟨rfl, ⟨rfl, trivial⟩⟩⟩⟩) vc
theorem oe_u103 : oe_c103.all (fun q => decide (oe_find oe_c103 q.1 = some q.2)) = true := by decide +kernel
theorem oe_t103 (k : Nat) {q : Nat × Jvm.ClassFile.Instr × Nat} (h : oe_c103[k]? = some q) : oe_find (oe_code 103) q.1 = some q.2 := oe_ft oe_u103 h
theorem g103 {d : Nat} {sh : List (Nat × Nat)} {g : Nat → Nat → Option Nat} {h : Nat → Nat → Int} {Q : oeQ} {v0 : Nat}
    (vc : sh[v0]? = some (8, 3) ∧ oe_rg ((h v0 2) - 1) ∧ oe_V (oe_cost 103) 103 (oe_M (d + 1)) none Q 7 [some (.inr (.inl v0)), some (.inl ((h v0 2) - 1)), none] [] (sh, g, h) 0 0) :
    oe_M (d + 2) 103 [.inr (.inl v0)] (sh, g, h) Q := by
  refine oe_M.of (by simp [oe_c1]) (Nat.le_of_ble_eq_true rfl) ?_
  show oe_V (oe_cost 103) 103 (oe_M (d + 1)) none Q 0 [some (.inr (.inl v0)), none, none] [] (sh, g, h) 0 0
  refine s_aload_n (oe_t103 0 (q := (0, .aload_n 0, 1)) rfl) rfl ?_
  obtain ⟨s1, vc⟩ := vc
  refine s_geti (oe_t103 1 (q := (1, .getfield 3020, 3)) rfl) s1 rfl (by decide) ?_
  refine s_iconst (oe_t103 2 (q := (4, .iconst 1, 1)) rfl) ?_
  obtain ⟨r2, vc⟩ := vc
  refine s_isub (oe_t103 3 (q := (5, .isub, 1)) rfl) r2 ?_
  refine s_istore_n (oe_t103 4 (q := (6, .istore_n 1, 1)) rfl) ?_
  exact oe_V.fg (oe_M_mono _) (show oe_fg [some (.inr (.inl v0)), some (.inl ((h v0 2) - 1)), none] _ from ⟨rfl, ⟨rfl, trivial⟩⟩) vc
theorem g103_7 {d : Nat} {sh : List (Nat × Nat)} {g : Nat → Nat → Option Nat} {h : Nat → Nat → Int} {Q : oeQ} {v0 : Nat} {v1 : Int}
    (vc : (v1 < 0 → Q none (sh, g, h)) ∧ (0 ≤ v1 → oe_rg (v1 + 1) ∧ sh[v0]? = some (8, 3) ∧ ∃ q6, g v0 0 = some q6 ∧ ∃ n9, sh[q6]? = some (0, n9) ∧ 0 ≤ v1 ∧ v1 < (n9 : Nat) ∧ ((h q6 (v1 : Int).toNat) < 16 → 0 ≤ v1 ∧ v1 < (n9 : Nat) ∧ ((h q6 (v1 : Int).toNat) < 18 → ∃ q16, g v0 1 = some q16 ∧ ∃ n19, sh[q16]? = some (0, n19) ∧ 0 ≤ v1 ∧ v1 < (n19 : Nat) ∧ ∀ h22, h22 = oe_up h q16 (v1 : Int).toNat (v1 + 1) → oe_rg (v1 + (-1)) ∧ oe_V (oe_cost 103) 103 (oe_M (d + 1)) none Q 7 [some (.inr (.inl v0)), some (.inl (v1 + (-1))), none] [] (sh, g, h22) 0 0) ∧ (18 ≤ (h q6 (v1 : Int).toNat) → ((h v0 2) ≤ (v1 + 1) → ∃ q26, g v0 1 = some q26 ∧ ∃ n29, sh[q26]? = some (0, n29) ∧ 0 ≤ v1 ∧ v1 < (n29 : Nat) ∧ ∀ h32, h32 = oe_up h q26 (v1 : Int).toNat (v1 + 1) → oe_rg (v1 + (-1)) ∧ oe_V (oe_cost 103) 103 (oe_M (d + 1)) none Q 7 [some (.inr (.inl v0)), some (.inl (v1 + (-1))), none] [] (sh, g, h32) 0 0) ∧ ((v1 + 1) < (h v0 2) → ∃ q35, g v0 1 = some q35 ∧ ∃ n38, sh[q35]? = some (0, n38) ∧ 0 ≤ (v1 + 1) ∧ (v1 + 1) < (n38 : Nat) ∧ 0 ≤ v1 ∧ v1 < (n38 : Nat) ∧ ∀ h43, h43 = oe_up h q35 (v1 : Int).toNat (h q35 ((v1 + 1) : Int).toNat) → oe_rg (v1 + (-1)) ∧ oe_V (oe_cost 103) 103 (oe_M (d + 1)) none Q 7 [some (.inr (.inl v0)), some (.inl (v1 + (-1))), none] [] (sh, g, h43) 0 0))) ∧ (16 ≤ (h q6 (v1 : Int).toNat) → ((h v0 2) ≤ (v1 + 1) → 0 ≤ v1 ∧ v1 < (n9 : Nat) ∧ ((h q6 (v1 : Int).toNat) < 18 → ∃ q50, g v0 1 = some q50 ∧ ∃ n53, sh[q50]? = some (0, n53) ∧ 0 ≤ v1 ∧ v1 < (n53 : Nat) ∧ ∀ h56, h56 = oe_up h q50 (v1 : Int).toNat (v1 + 1) → oe_rg (v1 + (-1)) ∧ oe_V (oe_cost 103) 103 (oe_M (d + 1)) none Q 7 [some (.inr (.inl v0)), some (.inl (v1 + (-1))), none] [] (sh, g, h56) 0 0) ∧ (18 ≤ (h q6 (v1 : Int).toNat) → ((h v0 2) ≤ (v1 + 1) → ∃ q60, g v0 1 = some q60 ∧ ∃ n63, sh[q60]? = some (0, n63) ∧ 0 ≤ v1 ∧ v1 < (n63 : Nat) ∧ ∀ h66, h66 = oe_up h q60 (v1 : Int).toNat (v1 + 1) → oe_rg (v1 + (-1)) ∧ oe_V (oe_cost 103) 103 (oe_M (d + 1)) none Q 7 [some (.inr (.inl v0)), some (.inl (v1 + (-1))), none] [] (sh, g, h66) 0 0) ∧ ((v1 + 1) < (h v0 2) → ∃ q69, g v0 1 = some q69 ∧ ∃ n72, sh[q69]? = some (0, n72) ∧ 0 ≤ (v1 + 1) ∧ (v1 + 1) < (n72 : Nat) ∧ 0 ≤ v1 ∧ v1 < (n72 : Nat) ∧ ∀ h77, h77 = oe_up h q69 (v1 : Int).toNat (h q69 ((v1 + 1) : Int).toNat) → oe_rg (v1 + (-1)) ∧ oe_V (oe_cost 103) 103 (oe_M (d + 1)) none Q 7 [some (.inr (.inl v0)), some (.inl (v1 + (-1))), none] [] (sh, g, h77) 0 0))) ∧ ((v1 + 1) < (h v0 2) → ∃ q80, g v0 1 = some q80 ∧ ∃ n83, sh[q80]? = some (0, n83) ∧ 0 ≤ (v1 + 1) ∧ (v1 + 1) < (n83 : Nat) ∧ 0 ≤ v1 ∧ v1 < (n9 : Nat) ∧ ((h q6 (v1 : Int).toNat) < 18 → 0 ≤ v1 ∧ v1 < (n83 : Nat) ∧ ∀ h91, h91 = oe_up h q80 (v1 : Int).toNat (h q80 ((v1 + 1) : Int).toNat) → oe_rg (v1 + (-1)) ∧ oe_V (oe_cost 103) 103 (oe_M (d + 1)) none Q 7 [some (.inr (.inl v0)), some (.inl (v1 + (-1))), none] [] (sh, g, h91) 0 0) ∧ (18 ≤ (h q6 (v1 : Int).toNat) → ((h v0 2) ≤ (h q80 ((v1 + 1) : Int).toNat) → 0 ≤ v1 ∧ v1 < (n83 : Nat) ∧ ∀ h97, h97 = oe_up h q80 (v1 : Int).toNat (h q80 ((v1 + 1) : Int).toNat) → oe_rg (v1 + (-1)) ∧ oe_V (oe_cost 103) 103 (oe_M (d + 1)) none Q 7 [some (.inr (.inl v0)), some (.inl (v1 + (-1))), none] [] (sh, g, h97) 0 0) ∧ ((h q80 ((v1 + 1) : Int).toNat) < (h v0 2) → 0 ≤ (h q80 ((v1 + 1) : Int).toNat) ∧ (h q80 ((v1 + 1) : Int).toNat) < (n83 : Nat) ∧ 0 ≤ v1 ∧ v1 < (n83 : Nat) ∧ ∀ h104, h104 = oe_up h q80 (v1 : Int).toNat (h q80 ((h q80 ((v1 + 1) : Int).toNat) : Int).toNat) → oe_rg (v1 + (-1)) ∧ oe_V (oe_cost 103) 103 (oe_M (d + 1)) none Q 7 [some (.inr (.inl v0)), some (.inl (v1 + (-1))), none] [] (sh, g, h104) 0 0)))))) :
    oe_V (oe_cost 103) 103 (oe_M (d + 1)) none Q 7 [some (.inr (.inl v0)), some (.inl v1), none] [] (sh, g, h) 0 0 := by
  refine s_iload_n (oe_t103 5 (q := (7, .iload_n 1, 1)) rfl) rfl ?_
  refine s_if_lt (oe_t103 6 (q := (8, .ifCond .lt 80, 3)) rfl) (fun c3 => ?_) (fun c3 => ?_)
  · replace vc := vc.1 c3
    exact s_ret (oe_t103 48 (q := (80, .return_, 1)) rfl) rfl vc
  · replace vc := vc.2 c3
    refine s_iload_n (oe_t103 7 (q := (11, .iload_n 1, 1)) rfl) rfl ?_
    refine s_iconst (oe_t103 8 (q := (12, .iconst 1, 1)) rfl) ?_
    obtain ⟨r4, vc⟩ := vc
    refine s_iadd (oe_t103 9 (q := (13, .iadd, 1)) rfl) r4 ?_
    refine s_istore_n (oe_t103 10 (q := (14, .istore_n 2, 1)) rfl) ?_
    refine s_aload_n (oe_t103 11 (q := (15, .aload_n 0, 1)) rfl) rfl ?_
    obtain ⟨s5, vc⟩ := vc
    obtain ⟨q6, p7, vc⟩ := vc
    refine s_getr (oe_t103 12 (q := (16, .getfield 3001, 3)) rfl) s5 rfl rfl p7 ?_
    refine s_iload_n (oe_t103 13 (q := (19, .iload_n 1, 1)) rfl) rfl ?_
    obtain ⟨n9, s8, vc⟩ := vc
    obtain ⟨i10, i11, vc⟩ := vc
    refine s_iaload (oe_t103 14 (q := (20, .iaload, 1)) rfl) s8 i10 i11 ?_
    refine s_bipush (oe_t103 15 (q := (21, .bipush 16, 2)) rfl) ?_
    refine s_ic_lt (oe_t103 16 (q := (23, .if_icmp .lt 41, 3)) rfl) (fun c12 => ?_) (fun c12 => ?_)
    · replace vc := vc.1 c12
      refine s_aload_n (oe_t103 26 (q := (41, .aload_n 0, 1)) rfl) rfl ?_
      refine s_getr (oe_t103 27 (q := (42, .getfield 3001, 3)) rfl) s5 rfl rfl p7 ?_
      refine s_iload_n (oe_t103 28 (q := (45, .iload_n 1, 1)) rfl) rfl ?_
      obtain ⟨i13, i14, vc⟩ := vc
      refine s_iaload (oe_t103 29 (q := (46, .iaload, 1)) rfl) s8 i13 i14 ?_
      refine s_bipush (oe_t103 30 (q := (47, .bipush 18, 2)) rfl) ?_
      refine s_ic_lt (oe_t103 31 (q := (49, .if_icmp .lt 67, 3)) rfl) (fun c15 => ?_) (fun c15 => ?_)
      · replace vc := vc.1 c15
        refine s_aload_n (oe_t103 41 (q := (67, .aload_n 0, 1)) rfl) rfl ?_
        obtain ⟨q16, p17, vc⟩ := vc
        refine s_getr (oe_t103 42 (q := (68, .getfield 3011, 3)) rfl) s5 rfl rfl p17 ?_
        refine s_iload_n (oe_t103 43 (q := (71, .iload_n 1, 1)) rfl) rfl ?_
        refine s_iload_n (oe_t103 44 (q := (72, .iload_n 2, 1)) rfl) rfl ?_
        obtain ⟨n19, s18, vc⟩ := vc
        obtain ⟨i20, i21, vc⟩ := vc
        refine t_iastore (oe_t103 45 (q := (73, .iastore, 1)) rfl) s18 i20 i21 (fun h22 e23 => ?_)
        replace vc := vc h22 e23
        obtain ⟨r24, vc⟩ := vc
        refine s_iinc (oe_t103 46 (q := (74, .iinc 1 (-1), 3)) rfl) rfl r24 ?_
        refine s_goto (oe_t103 47 (q := (77, .goto 7, 3)) rfl) ?_
        exact oe_V.fg (oe_M_mono _) (show oe_fg [some (.inr (.inl v0)), some (.inl (v1 + (-1))), none] _ from ⟨rfl, ⟨rfl, trivial⟩⟩) vc
      · replace vc := vc.2 c15
        refine s_iload_n (oe_t103 32 (q := (52, .iload_n 2, 1)) rfl) rfl ?_
        refine s_aload_n (oe_t103 33 (q := (53, .aload_n 0, 1)) rfl) rfl ?_
        refine s_geti (oe_t103 34 (q := (54, .getfield 3020, 3)) rfl) s5 rfl (by decide) ?_
        refine s_ic_ge (oe_t103 35 (q := (57, .if_icmp .ge 67, 3)) rfl) (fun c25 => ?_) (fun c25 => ?_)
        · replace vc := vc.1 c25
          refine s_aload_n (oe_t103 41 (q := (67, .aload_n 0, 1)) rfl) rfl ?_
          obtain ⟨q26, p27, vc⟩ := vc
          refine s_getr (oe_t103 42 (q := (68, .getfield 3011, 3)) rfl) s5 rfl rfl p27 ?_
          refine s_iload_n (oe_t103 43 (q := (71, .iload_n 1, 1)) rfl) rfl ?_
          refine s_iload_n (oe_t103 44 (q := (72, .iload_n 2, 1)) rfl) rfl ?_
          obtain ⟨n29, s28, vc⟩ := vc
          obtain ⟨i30, i31, vc⟩ := vc
          refine t_iastore (oe_t103 45 (q := (73, .iastore, 1)) rfl) s28 i30 i31 (fun h32 e33 => ?_)
          replace vc := vc h32 e33
          obtain ⟨r34, vc⟩ := vc
          refine s_iinc (oe_t103 46 (q := (74, .iinc 1 (-1), 3)) rfl) rfl r34 ?_
          refine s_goto (oe_t103 47 (q := (77, .goto 7, 3)) rfl) ?_
          exact oe_V.fg (oe_M_mono _) (show oe_fg [some (.inr (.inl v0)), some (.inl (v1 + (-1))), none] _ from ⟨rfl, ⟨rfl, trivial⟩⟩) vc
        · replace vc := vc.2 c25
          refine s_aload_n (oe_t103 36 (q := (60, .aload_n 0, 1)) rfl) rfl ?_
          obtain ⟨q35, p36, vc⟩ := vc
          refine s_getr (oe_t103 37 (q := (61, .getfield 3011, 3)) rfl) s5 rfl rfl p36 ?_
          refine s_iload_n (oe_t103 38 (q := (64, .iload_n 2, 1)) rfl) rfl ?_
          obtain ⟨n38, s37, vc⟩ := vc
          obtain ⟨i39, i40, vc⟩ := vc
          refine s_iaload (oe_t103 39 (q := (65, .iaload, 1)) rfl) s37 i39 i40 ?_
          refine s_istore_n (oe_t103 40 (q := (66, .istore_n 2, 1)) rfl) ?_
          refine s_aload_n (oe_t103 41 (q := (67, .aload_n 0, 1)) rfl) rfl ?_
          refine s_getr (oe_t103 42 (q := (68, .getfield 3011, 3)) rfl) s5 rfl rfl p36 ?_
          refine s_iload_n (oe_t103 43 (q := (71, .iload_n 1, 1)) rfl) rfl ?_
          refine s_iload_n (oe_t103 44 (q := (72, .iload_n 2, 1)) rfl) rfl ?_
          obtain ⟨i41, i42, vc⟩ := vc
          refine t_iastore (oe_t103 45 (q := (73, .iastore, 1)) rfl) s37 i41 i42 (fun h43 e44 => ?_)
          replace vc := vc h43 e44
          obtain ⟨r45, vc⟩ := vc
          refine s_iinc (oe_t103 46 (q := (74, .iinc 1 (-1), 3)) rfl) rfl r45 ?_
          refine s_goto (oe_t103 47 (q := (77, .goto 7, 3)) rfl) ?_
          exact oe_V.fg (oe_M_mono _) (show oe_fg [some (.inr (.inl v0)), some (.inl (v1 + (-1))), none] _ from ⟨rfl, ⟨rfl, trivial⟩⟩) vc
    · replace vc := vc.2 c12
      refine s_iload_n (oe_t103 17 (q := (26, .iload_n 2, 1)) rfl) rfl ?_
      refine s_aload_n (oe_t103 18 (q := (27, .aload_n 0, 1)) rfl) rfl ?_
      refine s_geti (oe_t103 19 (q := (28, .getfield 3020, 3)) rfl) s5 rfl (by decide) ?_
      refine s_ic_ge (oe_t103 20 (q := (31, .if_icmp .ge 41, 3)) rfl) (fun c46 => ?_) (fun c46 => ?_)
      · replace vc := vc.1 c46
        refine s_aload_n (oe_t103 26 (q := (41, .aload_n 0, 1)) rfl) rfl ?_
        refine s_getr (oe_t103 27 (q := (42, .getfield 3001, 3)) rfl) s5 rfl rfl p7 ?_
        refine s_iload_n (oe_t103 28 (q := (45, .iload_n 1, 1)) rfl) rfl ?_
        obtain ⟨i47, i48, vc⟩ := vc
        refine s_iaload (oe_t103 29 (q := (46, .iaload, 1)) rfl) s8 i47 i48 ?_
        refine s_bipush (oe_t103 30 (q := (47, .bipush 18, 2)) rfl) ?_
        refine s_ic_lt (oe_t103 31 (q := (49, .if_icmp .lt 67, 3)) rfl) (fun c49 => ?_) (fun c49 => ?_)
        · replace vc := vc.1 c49
          refine s_aload_n (oe_t103 41 (q := (67, .aload_n 0, 1)) rfl) rfl ?_
          obtain ⟨q50, p51, vc⟩ := vc
          refine s_getr (oe_t103 42 (q := (68, .getfield 3011, 3)) rfl) s5 rfl rfl p51 ?_
          refine s_iload_n (oe_t103 43 (q := (71, .iload_n 1, 1)) rfl) rfl ?_
          refine s_iload_n (oe_t103 44 (q := (72, .iload_n 2, 1)) rfl) rfl ?_
          obtain ⟨n53, s52, vc⟩ := vc
          obtain ⟨i54, i55, vc⟩ := vc
          refine t_iastore (oe_t103 45 (q := (73, .iastore, 1)) rfl) s52 i54 i55 (fun h56 e57 => ?_)
          replace vc := vc h56 e57
          obtain ⟨r58, vc⟩ := vc
          refine s_iinc (oe_t103 46 (q := (74, .iinc 1 (-1), 3)) rfl) rfl r58 ?_
          refine s_goto (oe_t103 47 (q := (77, .goto 7, 3)) rfl) ?_
          exact oe_V.fg (oe_M_mono _) (show oe_fg [some (.inr (.inl v0)), some (.inl (v1 + (-1))), none] _ from ⟨rfl, ⟨rfl, trivial⟩⟩) vc
        · replace vc := vc.2 c49
          refine s_iload_n (oe_t103 32 (q := (52, .iload_n 2, 1)) rfl) rfl ?_
          refine s_aload_n (oe_t103 33 (q := (53, .aload_n 0, 1)) rfl) rfl ?_
          refine s_geti (oe_t103 34 (q := (54, .getfield 3020, 3)) rfl) s5 rfl (by decide) ?_
          refine s_ic_ge (oe_t103 35 (q := (57, .if_icmp .ge 67, 3)) rfl) (fun c59 => ?_) (fun c59 => ?_)
          · replace vc := vc.1 c59
            refine s_aload_n (oe_t103 41 (q := (67, .aload_n 0, 1)) rfl) rfl ?_
            obtain ⟨q60, p61, vc⟩ := vc
            refine s_getr (oe_t103 42 (q := (68, .getfield 3011, 3)) rfl) s5 rfl rfl p61 ?_
            refine s_iload_n (oe_t103 43 (q := (71, .iload_n 1, 1)) rfl) rfl ?_
            refine s_iload_n (oe_t103 44 (q := (72, .iload_n 2, 1)) rfl) rfl ?_
            obtain ⟨n63, s62, vc⟩ := vc
            obtain ⟨i64, i65, vc⟩ := vc
            refine t_iastore (oe_t103 45 (q := (73, .iastore, 1)) rfl) s62 i64 i65 (fun h66 e67 => ?_)
            replace vc := vc h66 e67
            obtain ⟨r68, vc⟩ := vc
            refine s_iinc (oe_t103 46 (q := (74, .iinc 1 (-1), 3)) rfl) rfl r68 ?_
            refine s_goto (oe_t103 47 (q := (77, .goto 7, 3)) rfl) ?_
            exact oe_V.fg (oe_M_mono _) (show oe_fg [some (.inr (.inl v0)), some (.inl (v1 + (-1))), none] _ from ⟨rfl, ⟨rfl, trivial⟩⟩) vc
          · replace vc := vc.2 c59
            refine s_aload_n (oe_t103 36 (q := (60, .aload_n 0, 1)) rfl) rfl ?_
            obtain ⟨q69, p70, vc⟩ := vc
            refine s_getr (oe_t103 37 (q := (61, .getfield 3011, 3)) rfl) s5 rfl rfl p70 ?_
            refine s_iload_n (oe_t103 38 (q := (64, .iload_n 2, 1)) rfl) rfl ?_
            obtain ⟨n72, s71, vc⟩ := vc
            obtain ⟨i73, i74, vc⟩ := vc
            refine s_iaload (oe_t103 39 (q := (65, .iaload, 1)) rfl) s71 i73 i74 ?_
            refine s_istore_n (oe_t103 40 (q := (66, .istore_n 2, 1)) rfl) ?_
            refine s_aload_n (oe_t103 41 (q := (67, .aload_n 0, 1)) rfl) rfl ?_
            refine s_getr (oe_t103 42 (q := (68, .getfield 3011, 3)) rfl) s5 rfl rfl p70 ?_
            refine s_iload_n (oe_t103 43 (q := (71, .iload_n 1, 1)) rfl) rfl ?_
            refine s_iload_n (oe_t103 44 (q := (72, .iload_n 2, 1)) rfl) rfl ?_
            obtain ⟨i75, i76, vc⟩ := vc
            refine t_iastore (oe_t103 45 (q := (73, .iastore, 1)) rfl) s71 i75 i76 (fun h77 e78 => ?_)
            replace vc := vc h77 e78
            obtain ⟨r79, vc⟩ := vc
            refine s_iinc (oe_t103 46 (q := (74, .iinc 1 (-1), 3)) rfl) rfl r79 ?_
            refine s_goto (oe_t103 47 (q := (77, .goto 7, 3)) rfl) ?_
            exact oe_V.fg (oe_M_mono _) (show oe_fg [some (.inr (.inl v0)), some (.inl (v1 + (-1))), none] _ from ⟨rfl, ⟨rfl, trivial⟩⟩) vc
      · replace vc := vc.2 c46
        refine s_aload_n (oe_t103 21 (q := (34, .aload_n 0, 1)) rfl) rfl ?_
        obtain ⟨q80, p81, vc⟩ := vc
        refine s_getr (oe_t103 22 (q := (35, .getfield 3011, 3)) rfl) s5 rfl rfl p81 ?_
        refine s_iload_n (oe_t103 23 (q := (38, .iload_n 2, 1)) rfl) rfl ?_
        obtain ⟨n83, s82, vc⟩ := vc
        obtain ⟨i84, i85, vc⟩ := vc
        refine s_iaload (oe_t103 24 (q := (39, .iaload, 1)) rfl) s82 i84 i85 ?_
        refine s_istore_n (oe_t103 25 (q := (40, .istore_n 2, 1)) rfl) ?_
        refine s_aload_n (oe_t103 26 (q := (41, .aload_n 0, 1)) rfl) rfl ?_
        refine s_getr (oe_t103 27 (q := (42, .getfield 3001, 3)) rfl) s5 rfl rfl p7 ?_
        refine s_iload_n (oe_t103 28 (q := (45, .iload_n 1, 1)) rfl) rfl ?_
        obtain ⟨i86, i87, vc⟩ := vc
        refine s_iaload (oe_t103 29 (q := (46, .iaload, 1)) rfl) s8 i86 i87 ?_
        refine s_bipush (oe_t103 30 (q := (47, .bipush 18, 2)) rfl) ?_
        refine s_ic_lt (oe_t103 31 (q := (49, .if_icmp .lt 67, 3)) rfl) (fun c88 => ?_) (fun c88 => ?_)
        · replace vc := vc.1 c88
          refine s_aload_n (oe_t103 41 (q := (67, .aload_n 0, 1)) rfl) rfl ?_
          refine s_getr (oe_t103 42 (q := (68, .getfield 3011, 3)) rfl) s5 rfl rfl p81 ?_
          refine s_iload_n (oe_t103 43 (q := (71, .iload_n 1, 1)) rfl) rfl ?_
          refine s_iload_n (oe_t103 44 (q := (72, .iload_n 2, 1)) rfl) rfl ?_
          obtain ⟨i89, i90, vc⟩ := vc
          refine t_iastore (oe_t103 45 (q := (73, .iastore, 1)) rfl) s82 i89 i90 (fun h91 e92 => ?_)
          replace vc := vc h91 e92
          obtain ⟨r93, vc⟩ := vc
          refine s_iinc (oe_t103 46 (q := (74, .iinc 1 (-1), 3)) rfl) rfl r93 ?_
          refine s_goto (oe_t103 47 (q := (77, .goto 7, 3)) rfl) ?_
          exact oe_V.fg (oe_M_mono _) (show oe_fg [some (.inr (.inl v0)), some (.inl (v1 + (-1))), none] _ from ⟨rfl, ⟨rfl, trivial⟩⟩) vc
        · replace vc := vc.2 c88
          refine s_iload_n (oe_t103 32 (q := (52, .iload_n 2, 1)) rfl) rfl ?_
          refine s_aload_n (oe_t103 33 (q := (53, .aload_n 0, 1)) rfl) rfl ?_
          refine s_geti (oe_t103 34 (q := (54, .getfield 3020, 3)) rfl) s5 rfl (by decide) ?_
          refine s_ic_ge (oe_t103 35 (q := (57, .if_icmp .ge 67, 3)) rfl) (fun c94 => ?_) (fun c94 => ?_)
          · replace vc := vc.1 c94
            refine s_aload_n (oe_t103 41 (q := (67, .aload_n 0, 1)) rfl) rfl ?_
            refine s_getr (oe_t103 42 (q := (68, .getfield 3011, 3)) rfl) s5 rfl rfl p81 ?_
            refine s_iload_n (oe_t103 43 (q := (71, .iload_n 1, 1)) rfl) rfl ?_
            refine s_iload_n (oe_t103 44 (q := (72, .iload_n 2, 1)) rfl) rfl ?_
            obtain ⟨i95, i96, vc⟩ := vc
            refine t_iastore (oe_t103 45 (q := (73, .iastore, 1)) rfl) s82 i95 i96 (fun h97 e98 => ?_)
            replace vc := vc h97 e98
            obtain ⟨r99, vc⟩ := vc
            refine s_iinc (oe_t103 46 (q := (74, .iinc 1 (-1), 3)) rfl) rfl r99 ?_
            refine s_goto (oe_t103 47 (q := (77, .goto 7, 3)) rfl) ?_
            exact oe_V.fg (oe_M_mono _) (show oe_fg [some (.inr (.inl v0)), some (.inl (v1 + (-1))), none] _ from ⟨rfl, ⟨rfl, trivial⟩⟩) vc
          · replace vc := vc.2 c94
            refine s_aload_n (oe_t103 36 (q := (60, .aload_n 0, 1)) rfl) rfl ?_
            refine s_getr (oe_t103 37 (q := (61, .getfield 3011, 3)) rfl) s5 rfl rfl p81 ?_
            refine s_iload_n (oe_t103 38 (q := (64, .iload_n 2, 1)) rfl) rfl ?_
            obtain ⟨i100, i101, vc⟩ := vc
            refine s_iaload (oe_t103 39 (q := (65, .iaload, 1)) rfl) s82 i100 i101 ?_
            refine s_istore_n (oe_t103 40 (q := (66, .istore_n 2, 1)) rfl) ?_
            refine s_aload_n (oe_t103 41 (q := (67, .aload_n 0, 1)) rfl) rfl ?_
            refine s_getr (oe_t103 42 (q := (68, .getfield 3011, 3)) rfl) s5 rfl rfl p81 ?_
            refine s_iload_n (oe_t103 43 (q := (71, .iload_n 1, 1)) rfl) rfl ?_
            refine s_iload_n (oe_t103 44 (q := (72, .iload_n 2, 1)) rfl) rfl ?_
            obtain ⟨i102, i103, vc⟩ := vc
            refine t_iastore (oe_t103 45 (q := (73, .iastore, 1)) rfl) s82 i102 i103 (fun h104 e105 => ?_)
            replace vc := vc h104 e105
            obtain ⟨r106, vc⟩ := vc
            refine s_iinc (oe_t103 46 (q := (74, .iinc 1 (-1), 3)) rfl) rfl r106 ?_
            refine s_goto (oe_t103 47 (q := (77, .goto 7, 3)) rfl) ?_
            exact oe_V.fg (oe_M_mono _) (show oe_fg [some (.inr (.inl v0)), some (.inl (v1 + (-1))), none] _ from ⟨rfl, ⟨rfl, trivial⟩⟩) vc
theorem oe_u104 : oe_c104.all (fun q => decide (oe_find oe_c104 q.1 = some q.2)) = true := by decide +kernel
theorem oe_t104 (k : Nat) {q : Nat × Jvm.ClassFile.Instr × Nat} (h : oe_c104[k]? = some q) : oe_find (oe_code 104) q.1 = some q.2 := oe_ft oe_u104 h
theorem g104 {d : Nat} {sh : List (Nat × Nat)} {g : Nat → Nat → Option Nat} {h : Nat → Nat → Int} {Q : oeQ} {v0 : Nat} {v1 : Nat}
    (vc : sh[v1]? = some (8, 3) ∧ sh[v0]? = some (8, 3) ∧ ∃ q3, g v0 0 = some q3 ∧ ∃ n6, sh[q3]? = some (0, n6) ∧ (((n6 : Nat) : Int) < (h v1 2) → Q none (sh, g, h)) ∧ ((h v1 2) ≤ ((n6 : Nat) : Int) → ∃ q8, g v1 0 = some q8 ∧ ∃ n11, sh[q8]? = some (0, n11) ∧ 0 ≤ (h v1 2) ∧ 0 ≤ (0 : Int) ∧ 0 ≤ (0 : Int) ∧ (0 : Int) + (h v1 2) ≤ (n11 : Nat) ∧ (0 : Int) + (h v1 2) ≤ (n6 : Nat) ∧ ∀ h17, h17 = oe_cpy h q8 0 q3 0 ((h v1 2) : Int).toNat → ∃ q19, g v1 1 = some q19 ∧ ∃ q21, g v0 1 = some q21 ∧ ∃ n24, sh[q19]? = some (0, n24) ∧ ∃ n26, sh[q21]? = some (0, n26) ∧ 0 ≤ (h17 v1 2) ∧ 0 ≤ (0 : Int) ∧ 0 ≤ (0 : Int) ∧ (0 : Int) + (h17 v1 2) ≤ (n24 : Nat) ∧ (0 : Int) + (h17 v1 2) ≤ (n26 : Nat) ∧ ∀ h32, h32 = oe_cpy h17 q19 0 q21 0 ((h17 v1 2) : Int).toNat → ∀ h34, h34 = oe_up h32 v0 2 (h32 v1 2) → Q none (sh, g, h34))) :
    oe_M (d + 2) 104 [.inr (.inl v0), .inr (.inl v1)] (sh, g, h) Q := by
  refine oe_M.of (by simp [oe_c1]) (Nat.le_of_ble_eq_true rfl) ?_
  show oe_V (oe_cost 104) 104 (oe_M (d + 1)) none Q 0 [some (.inr (.inl v0)), some (.inr (.inl v1))] [] (sh, g, h) 0 0
  refine s_aload_n (oe_t104 0 (q := (0, .aload_n 1, 1)) rfl) rfl ?_
  obtain ⟨s1, vc⟩ := vc
  refine s_geti (oe_t104 1 (q := (1, .getfield 3020, 3)) rfl) s1 rfl (by decide) ?_
  refine s_aload_n (oe_t104 2 (q := (4, .aload_n 0, 1)) rfl) rfl ?_
  obtain ⟨s2, vc⟩ := vc
  obtain ⟨q3, p4, vc⟩ := vc
  refine s_getr (oe_t104 3 (q := (5, .getfield 3001, 3)) rfl) s2 rfl rfl p4 ?_
  obtain ⟨n6, s5, vc⟩ := vc
  refine s_alen (oe_t104 4 (q := (8, .arraylength, 1)) rfl) s5 (by decide) ?_
  refine s_ic_gt (oe_t104 5 (q := (9, .if_icmp .gt 54, 3)) rfl) (fun c7 => ?_) (fun c7 => ?_)
  · replace vc := vc.1 c7
    exact s_ret (oe_t104 28 (q := (54, .return_, 1)) rfl) rfl vc
  · replace vc := vc.2 c7
    refine s_aload_n (oe_t104 6 (q := (12, .aload_n 1, 1)) rfl) rfl ?_
    obtain ⟨q8, p9, vc⟩ := vc
    refine s_getr (oe_t104 7 (q := (13, .getfield 3001, 3)) rfl) s1 rfl rfl p9 ?_
    refine s_iconst (oe_t104 8 (q := (16, .iconst 0, 1)) rfl) ?_
    refine s_aload_n (oe_t104 9 (q := (17, .aload_n 0, 1)) rfl) rfl ?_
    refine s_getr (oe_t104 10 (q := (18, .getfield 3001, 3)) rfl) s2 rfl rfl p4 ?_
    refine s_iconst (oe_t104 11 (q := (21, .iconst 0, 1)) rfl) ?_
    refine s_aload_n (oe_t104 12 (q := (22, .aload_n 1, 1)) rfl) rfl ?_
    refine s_geti (oe_t104 13 (q := (23, .getfield 3020, 3)) rfl) s1 rfl (by decide) ?_
    obtain ⟨n11, s10, vc⟩ := vc
    obtain ⟨i12, i13, i14, i15, i16, vc⟩ := vc
    refine t_copy (oe_t104 14 (q := (26, .invokestatic 1005, 3)) rfl) rfl s10 s5 i12 i13 i14 i15 i16 (Nat.le_of_ble_eq_true rfl) (fun h17 e18 => ?_)
    replace vc := vc h17 e18
    refine s_aload_n (oe_t104 15 (q := (29, .aload_n 1, 1)) rfl) rfl ?_
    obtain ⟨q19, p20, vc⟩ := vc
    refine s_getr (oe_t104 16 (q := (30, .getfield 3011, 3)) rfl) s1 rfl rfl p20 ?_
    refine s_iconst (oe_t104 17 (q := (33, .iconst 0, 1)) rfl) ?_
    refine s_aload_n (oe_t104 18 (q := (34, .aload_n 0, 1)) rfl) rfl ?_
    obtain ⟨q21, p22, vc⟩ := vc
    refine s_getr (oe_t104 19 (q := (35, .getfield 3011, 3)) rfl) s2 rfl rfl p22 ?_
    refine s_iconst (oe_t104 20 (q := (38, .iconst 0, 1)) rfl) ?_
    refine s_aload_n (oe_t104 21 (q := (39, .aload_n 1, 1)) rfl) rfl ?_
    refine s_geti (oe_t104 22 (q := (40, .getfield 3020, 3)) rfl) s1 rfl (by decide) ?_
    obtain ⟨n24, s23, vc⟩ := vc
    obtain ⟨n26, s25, vc⟩ := vc
    obtain ⟨i27, i28, i29, i30, i31, vc⟩ := vc
    refine t_copy (oe_t104 23 (q := (43, .invokestatic 1005, 3)) rfl) rfl s23 s25 i27 i28 i29 i30 i31 (Nat.le_of_ble_eq_true rfl) (fun h32 e33 => ?_)
    replace vc := vc h32 e33
    refine s_aload_n (oe_t104 24 (q := (46, .aload_n 0, 1)) rfl) rfl ?_
    refine s_aload_n (oe_t104 25 (q := (47, .aload_n 1, 1)) rfl) rfl ?_
    refine s_geti (oe_t104 26 (q := (48, .getfield 3020, 3)) rfl) s1 rfl (by decide) ?_
    refine t_puti (oe_t104 27 (q := (51, .putfield 3020, 3)) rfl) s2 rfl (Or.inl rfl) (fun h34 e35 => ?_)
    replace vc := vc h34 e35
    exact s_ret (oe_t104 28 (q := (54, .return_, 1)) rfl) rfl vc
theorem oe_u105 : oe_c105.all (fun q => decide (oe_find oe_c105 q.1 = some q.2)) = true := by decide +kernel
theorem oe_t105 (k : Nat) {q : Nat × Jvm.ClassFile.Instr × Nat} (h : oe_c105[k]? = some q) : oe_find (oe_code 105) q.1 = some q.2 := oe_ft oe_u105 h
theorem g105 {d : Nat} {sh : List (Nat × Nat)} {g : Nat → Nat → Option Nat} {h : Nat → Nat → Int} {Q : oeQ} {v0 : Nat} {v1 : Int} {v2 : Nat}
    (vc : sh[v0]? = some (8, 3) ∧ ∃ q2, g v0 1 = some q2 ∧ ∃ n5, sh[q2]? = some (0, n5) ∧ 0 ≤ v1 ∧ v1 < (n5 : Nat) ∧ sh[v2]? = some (8, 3) ∧ oe_rg (v1 + (h v2 2)) ∧ oe_rg ((v1 + (h v2 2)) + (h v0 2)) ∧ oe_rg (((v1 + (h v2 2)) + (h v0 2)) - (h q2 (v1 : Int).toNat)) ∧ ∃ q12, g v0 0 = some q12 ∧ ∃ n15, sh[q12]? = some (0, n15) ∧ ((((v1 + (h v2 2)) + (h v0 2)) - (h q2 (v1 : Int).toNat)) ≤ ((n15 : Nat) : Int) → oe_rg (v1 + (h v2 2)) ∧ oe_rg ((h v0 2) - (h q2 (v1 : Int).toNat)) ∧ 0 ≤ ((h v0 2) - (h q2 (v1 : Int).toNat)) ∧ 0 ≤ (v1 + (h v2 2)) ∧ 0 ≤ (h q2 (v1 : Int).toNat) ∧ (h q2 (v1 : Int).toNat) + ((h v0 2) - (h q2 (v1 : Int).toNat)) ≤ (n15 : Nat) ∧ (v1 + (h v2 2)) + ((h v0 2) - (h q2 (v1 : Int).toNat)) ≤ (n15 : Nat) ∧ ∀ h24, h24 = oe_cpy h q12 ((h q2 (v1 : Int).toNat) : Int).toNat q12 ((v1 + (h v2 2)) : Int).toNat (((h v0 2) - (h q2 (v1 : Int).toNat)) : Int).toNat → ∃ q26, g v2 0 = some q26 ∧ ∃ n29, sh[q26]? = some (0, n29) ∧ 0 ≤ (h24 v2 2) ∧ 0 ≤ v1 ∧ 0 ≤ (0 : Int) ∧ (0 : Int) + (h24 v2 2) ≤ (n29 : Nat) ∧ v1 + (h24 v2 2) ≤ (n15 : Nat) ∧ ∀ h35, h35 = oe_cpy h24 q26 0 q12 (v1 : Int).toNat ((h24 v2 2) : Int).toNat → ∀ h37, h37 = oe_up h35 v0 2 (((v1 + (h v2 2)) + (h v0 2)) - (h q2 (v1 : Int).toNat)) → oe_M (d + 1) 103 [.inr (.inl v0)] (sh, g, h37) (fun r hp => ∃ (h39 : Nat → Nat → Int), r = none ∧ hp = (sh, g, h39) ∧ Q none (sh, g, h39))) ∧ (((n15 : Nat) : Int) < (((v1 + (h v2 2)) + (h v0 2)) - (h q2 (v1 : Int).toNat)) → Q none (sh, g, h))) :
    oe_M (d + 2) 105 [.inr (.inl v0), .inl v1, .inr (.inl v2)] (sh, g, h) Q := by
  refine oe_M.of (by simp [oe_c1]) (Nat.le_of_ble_eq_true rfl) ?_
  show oe_V (oe_cost 105) 105 (oe_M (d + 1)) none Q 0 [some (.inr (.inl v0)), some (.inl v1), some (.inr (.inl v2)), none, none] [] (sh, g, h) 0 0
  refine s_aload_n (oe_t105 0 (q := (0, .aload_n 0, 1)) rfl) rfl ?_
  obtain ⟨s1, vc⟩ := vc
  obtain ⟨q2, p3, vc⟩ := vc
  refine s_getr (oe_t105 1 (q := (1, .getfield 3011, 3)) rfl) s1 rfl rfl p3 ?_
  refine s_iload_n (oe_t105 2 (q := (4, .iload_n 1, 1)) rfl) rfl ?_
  obtain ⟨n5, s4, vc⟩ := vc
  obtain ⟨i6, i7, vc⟩ := vc
  refine s_iaload (oe_t105 3 (q := (5, .iaload, 1)) rfl) s4 i6 i7 ?_
  refine s_istore_n (oe_t105 4 (q := (6, .istore_n 3, 1)) rfl) ?_
  refine s_iload_n (oe_t105 5 (q := (7, .iload_n 1, 1)) rfl) rfl ?_
  refine s_aload_n (oe_t105 6 (q := (8, .aload_n 2, 1)) rfl) rfl ?_
  obtain ⟨s8, vc⟩ := vc
  refine s_geti (oe_t105 7 (q := (9, .getfield 3020, 3)) rfl) s8 rfl (by decide) ?_
  obtain ⟨r9, vc⟩ := vc
  refine s_iadd (oe_t105 8 (q := (12, .iadd, 1)) rfl) r9 ?_
  refine s_aload_n (oe_t105 9 (q := (13, .aload_n 0, 1)) rfl) rfl ?_
  refine s_geti (oe_t105 10 (q := (14, .getfield 3020, 3)) rfl) s1 rfl (by decide) ?_
  obtain ⟨r10, vc⟩ := vc
  refine s_iadd (oe_t105 11 (q := (17, .iadd, 1)) rfl) r10 ?_
  refine s_iload_n (oe_t105 12 (q := (18, .iload_n 3, 1)) rfl) rfl ?_
  obtain ⟨r11, vc⟩ := vc
  refine s_isub (oe_t105 13 (q := (19, .isub, 1)) rfl) r11 ?_
  refine s_istore (oe_t105 14 (q := (20, .istore 4, 2)) rfl) ?_
  refine s_iload (oe_t105 15 (q := (22, .iload 4, 2)) rfl) rfl ?_
  refine s_aload_n (oe_t105 16 (q := (24, .aload_n 0, 1)) rfl) rfl ?_
  obtain ⟨q12, p13, vc⟩ := vc
  refine s_getr (oe_t105 17 (q := (25, .getfield 3001, 3)) rfl) s1 rfl rfl p13 ?_
  obtain ⟨n15, s14, vc⟩ := vc
  refine s_alen (oe_t105 18 (q := (28, .arraylength, 1)) rfl) s14 (by decide) ?_
  refine s_ic_le (oe_t105 19 (q := (29, .if_icmp .le 33, 3)) rfl) (fun c16 => ?_) (fun c16 => ?_)
  · replace vc := vc.1 c16
    refine s_aload_n (oe_t105 21 (q := (33, .aload_n 0, 1)) rfl) rfl ?_
    refine s_getr (oe_t105 22 (q := (34, .getfield 3001, 3)) rfl) s1 rfl rfl p13 ?_
    refine s_iload_n (oe_t105 23 (q := (37, .iload_n 3, 1)) rfl) rfl ?_
    refine s_aload_n (oe_t105 24 (q := (38, .aload_n 0, 1)) rfl) rfl ?_
    refine s_getr (oe_t105 25 (q := (39, .getfield 3001, 3)) rfl) s1 rfl rfl p13 ?_
    refine s_iload_n (oe_t105 26 (q := (42, .iload_n 1, 1)) rfl) rfl ?_
    refine s_aload_n (oe_t105 27 (q := (43, .aload_n 2, 1)) rfl) rfl ?_
    refine s_geti (oe_t105 28 (q := (44, .getfield 3020, 3)) rfl) s8 rfl (by decide) ?_
    obtain ⟨r17, vc⟩ := vc
    refine s_iadd (oe_t105 29 (q := (47, .iadd, 1)) rfl) r17 ?_
    refine s_aload_n (oe_t105 30 (q := (48, .aload_n 0, 1)) rfl) rfl ?_
    refine s_geti (oe_t105 31 (q := (49, .getfield 3020, 3)) rfl) s1 rfl (by decide) ?_
    refine s_iload_n (oe_t105 32 (q := (52, .iload_n 3, 1)) rfl) rfl ?_
    obtain ⟨r18, vc⟩ := vc
    refine s_isub (oe_t105 33 (q := (53, .isub, 1)) rfl) r18 ?_
    obtain ⟨i19, i20, i21, i22, i23, vc⟩ := vc
    refine t_copy (oe_t105 34 (q := (54, .invokestatic 1005, 3)) rfl) rfl s14 s14 i19 i20 i21 i22 i23 (Nat.le_of_ble_eq_true rfl) (fun h24 e25 => ?_)
    replace vc := vc h24 e25
    refine s_aload_n (oe_t105 35 (q := (57, .aload_n 2, 1)) rfl) rfl ?_
    obtain ⟨q26, p27, vc⟩ := vc
    refine s_getr (oe_t105 36 (q := (58, .getfield 3001, 3)) rfl) s8 rfl rfl p27 ?_
    refine s_iconst (oe_t105 37 (q := (61, .iconst 0, 1)) rfl) ?_
    refine s_aload_n (oe_t105 38 (q := (62, .aload_n 0, 1)) rfl) rfl ?_
    refine s_getr (oe_t105 39 (q := (63, .getfield 3001, 3)) rfl) s1 rfl rfl p13 ?_
    refine s_iload_n (oe_t105 40 (q := (66, .iload_n 1, 1)) rfl) rfl ?_
    refine s_aload_n (oe_t105 41 (q := (67, .aload_n 2, 1)) rfl) rfl ?_
    refine s_geti (oe_t105 42 (q := (68, .getfield 3020, 3)) rfl) s8 rfl (by decide) ?_
    obtain ⟨n29, s28, vc⟩ := vc
    obtain ⟨i30, i31, i32, i33, i34, vc⟩ := vc
    refine t_copy (oe_t105 43 (q := (71, .invokestatic 1005, 3)) rfl) rfl s28 s14 i30 i31 i32 i33 i34 (Nat.le_of_ble_eq_true rfl) (fun h35 e36 => ?_)
    replace vc := vc h35 e36
    refine s_aload_n (oe_t105 44 (q := (74, .aload_n 0, 1)) rfl) rfl ?_
    refine s_iload (oe_t105 45 (q := (75, .iload 4, 2)) rfl) rfl ?_
    refine t_puti (oe_t105 46 (q := (77, .putfield 3020, 3)) rfl) s1 rfl (Or.inl rfl) (fun h37 e38 => ?_)
    replace vc := vc h37 e38
    refine s_aload_n (oe_t105 47 (q := (80, .aload_n 0, 1)) rfl) rfl ?_
    refine s_callv (oe_t105 48 (q := (81, .invokevirtual 103030, 3)) rfl) rfl s1 rfl (Nat.le_of_ble_eq_true rfl) (Nat.le_of_ble_eq_true rfl) (Nat.le_of_ble_eq_true rfl) (Nat.le_of_ble_eq_true rfl) ?_
    refine oe_M_mono _ _ _ _ _ _ (fun r hp vq => ?_) vc
    obtain ⟨h39, rfl, rfl, vc⟩ := vq
    show oe_V (oe_cost 105) 105 (oe_M (d + 1)) none Q 84 [some (.inr (.inl v0)), some (.inl v1), some (.inr (.inl v2)), some (.inl (h q2 (v1 : Int).toNat)), some (.inl (((v1 + (h v2 2)) + (h v0 2)) - (h q2 (v1 : Int).toNat)))] [] (sh, g, h39) 0 0
    exact s_ret (oe_t105 49 (q := (84, .return_, 1)) rfl) rfl vc
  · replace vc := vc.2 c16
    exact s_ret (oe_t105 20 (q := (32, .return_, 1)) rfl) rfl vc
theorem oe_u106 : oe_c106.all (fun q => decide (oe_find oe_c106 q.1 = some q.2)) = true := by decide +kernel
theorem oe_t106 (k : Nat) {q : Nat × Jvm.ClassFile.Instr × Nat} (h : oe_c106[k]? = some q) : oe_find (oe_code 106) q.1 = some q.2 := oe_ft oe_u106 h
theorem g106 {d : Nat} {sh : List (Nat × Nat)} {g : Nat → Nat → Option Nat} {h : Nat → Nat → Int} {Q : oeQ} {v0 : Nat} {v1 : Int} {v2 : Int} {v3 : Int}
    (vc : oe_V (oe_cost 106) 106 (oe_M (d + 1)) none Q 3 [some (.inr (.inl v0)), some (.inl v1), none, some (.inl v3), some (.inl v2)] [] (sh, g, h) 0 0) :
    oe_M (d + 2) 106 [.inr (.inl v0), .inl v1, .inl v2, .inl v3] (sh, g, h) Q := by
  refine oe_M.of (by simp [oe_c1]) (Nat.le_of_ble_eq_true rfl) ?_
  show oe_V (oe_cost 106) 106 (oe_M (d + 1)) none Q 0 [some (.inr (.inl v0)), some (.inl v1), some (.inl v2), some (.inl v3), none] [] (sh, g, h) 0 0
  refine s_iload_n (oe_t106 0 (q := (0, .iload_n 2, 1)) rfl) rfl ?_
  refine s_istore (oe_t106 1 (q := (1, .istore 4, 2)) rfl) ?_
  exact oe_V.fg (oe_M_mono _) (show oe_fg [some (.inr (.inl v0)), some (.inl v1), none, some (.inl v3), some (.inl v2)] _ from ⟨rfl, ⟨rfl, ⟨rfl, ⟨rfl, trivial⟩⟩⟩⟩) vc
theorem g106_3 {d : Nat} {sh : List (Nat × Nat)} {g : Nat → Nat → Option Nat} {h : Nat → Nat → Int} {Q : oeQ} {v0 : Nat} {v1 : Int} {v3 : Int} {v4 : Int}
    (vc : (v3 ≤ v4 → Q (some (.inl 0)) (sh, g, h)) ∧ (v4 < v3 → sh[v0]? = some (8, 3) ∧ ∃ q3, g v0 0 = some q3 ∧ ∃ n6, sh[q3]? = some (0, n6) ∧ 0 ≤ v4 ∧ v4 < (n6 : Nat) ∧ ((h q3 (v4 : Int).toNat) ≠ v1 → oe_rg (v4 + 1) ∧ oe_V (oe_cost 106) 106 (oe_M (d + 1)) none Q 3 [some (.inr (.inl v0)), some (.inl v1), none, some (.inl v3), some (.inl (v4 + 1))] [] (sh, g, h) 0 0) ∧ ((h q3 (v4 : Int).toNat) = v1 → Q (some (.inl 1)) (sh, g, h)))) :
    oe_V (oe_cost 106) 106 (oe_M (d + 1)) none Q 3 [some (.inr (.inl v0)), some (.inl v1), none, some (.inl v3), some (.inl v4)] [] (sh, g, h) 0 0 := by
  refine s_iload (oe_t106 2 (q := (3, .iload 4, 2)) rfl) rfl ?_
  refine s_iload_n (oe_t106 3 (q := (5, .iload_n 3, 1)) rfl) rfl ?_
  refine s_ic_ge (oe_t106 4 (q := (6, .if_icmp .ge 28, 3)) rfl) (fun c1 => ?_) (fun c1 => ?_)
  · replace vc := vc.1 c1
    refine s_iconst (oe_t106 15 (q := (28, .iconst 0, 1)) rfl) ?_
    exact s_iret (oe_t106 16 (q := (29, .ireturn, 1)) rfl) (Or.inr (Or.inl ⟨rfl, Or.inl rfl⟩)) vc
  · replace vc := vc.2 c1
    refine s_aload_n (oe_t106 5 (q := (9, .aload_n 0, 1)) rfl) rfl ?_
    obtain ⟨s2, vc⟩ := vc
    obtain ⟨q3, p4, vc⟩ := vc
    refine s_getr (oe_t106 6 (q := (10, .getfield 3001, 3)) rfl) s2 rfl rfl p4 ?_
    refine s_iload (oe_t106 7 (q := (13, .iload 4, 2)) rfl) rfl ?_
    obtain ⟨n6, s5, vc⟩ := vc
    obtain ⟨i7, i8, vc⟩ := vc
    refine s_iaload (oe_t106 8 (q := (15, .iaload, 1)) rfl) s5 i7 i8 ?_
    refine s_iload_n (oe_t106 9 (q := (16, .iload_n 1, 1)) rfl) rfl ?_
    refine s_ic_ne (oe_t106 10 (q := (17, .if_icmp .ne 22, 3)) rfl) (fun c9 => ?_) (fun c9 => ?_)
    · replace vc := vc.1 c9
      obtain ⟨r10, vc⟩ := vc
      refine s_iinc (oe_t106 13 (q := (22, .iinc 4 1, 3)) rfl) rfl r10 ?_
      refine s_goto (oe_t106 14 (q := (25, .goto 3, 3)) rfl) ?_
      exact oe_V.fg (oe_M_mono _) (show oe_fg [some (.inr (.inl v0)), some (.inl v1), none, some (.inl v3), some (.inl (v4 + 1))] _ from ⟨rfl, ⟨rfl, ⟨rfl, ⟨rfl, trivial⟩⟩⟩⟩) vc
    · replace vc := vc.2 c9
      refine s_iconst (oe_t106 11 (q := (20, .iconst 1, 1)) rfl) ?_
      exact s_iret (oe_t106 12 (q := (21, .ireturn, 1)) rfl) (Or.inr (Or.inl ⟨rfl, Or.inr rfl⟩)) vc
theorem oe_u107 : oe_c107.all (fun q => decide (oe_find oe_c107 q.1 = some q.2)) = true := by decide +kernel
theorem oe_t107 (k : Nat) {q : Nat × Jvm.ClassFile.Instr × Nat} (h : oe_c107[k]? = some q) : oe_find (oe_code 107) q.1 = some q.2 := oe_ft oe_u107 h
theorem g107 {d : Nat} {sh : List (Nat × Nat)} {g : Nat → Nat → Option Nat} {h : Nat → Nat → Int} {Q : oeQ} {v0 : Nat} {v1 : Nat}
    (vc : oe_V (oe_cost 107) 107 (oe_M (d + 1)) none Q 2 [some (.inr (.inl v0)), some (.inr (.inl v1)), some (.inl 0)] [] (sh, g, h) 0 0) :
    oe_M (d + 2) 107 [.inr (.inl v0), .inr (.inl v1)] (sh, g, h) Q := by
  refine oe_M.of (by simp [oe_c1]) (Nat.le_of_ble_eq_true rfl) ?_
  show oe_V (oe_cost 107) 107 (oe_M (d + 1)) none Q 0 [some (.inr (.inl v0)), some (.inr (.inl v1)), none] [] (sh, g, h) 0 0
  refine s_iconst (oe_t107 0 (q := (0, .iconst 0, 1)) rfl) ?_
  refine s_istore_n (oe_t107 1 (q := (1, .istore_n 2, 1)) rfl) ?_
  exact oe_V.fg (oe_M_mono _) (show oe_fg [some (.inr (.inl v0)), some (.inr (.inl v1)), some (.inl 0)] _ from ⟨rfl, ⟨rfl, ⟨rfl, trivial⟩⟩⟩) vc
theorem g107_2 {d : Nat} {sh : List (Nat × Nat)} {g : Nat → Nat → Option Nat} {h : Nat → Nat → Int} {Q : oeQ} {v0 : Nat} {v1 : Nat} {v2 : Int}
    (vc : sh[v1]? = some (8, 3) ∧ ((h v1 2) ≤ v2 → Q (some (.inl 1)) (sh, g, h)) ∧ (v2 < (h v1 2) → ∃ q3, g v1 0 = some q3 ∧ ∃ n6, sh[q3]? = some (0, n6) ∧ 0 ≤ v2 ∧ v2 < (n6 : Nat) ∧ ((h q3 (v2 : Int).toNat) < 12 → 0 ≤ v2 ∧ v2 < (n6 : Nat) ∧ sh[v0]? = some (8, 3) ∧ oe_M (d + 1) 106 [.inr (.inl v0), .inl (h q3 (v2 : Int).toNat), .inl 0, .inl (h v0 2)] (sh, g, h) (fun r hp => ∃ (x13 : Int), r = some (.inl x13) ∧ hp = (sh, g, h) ∧ (x13 ≠ 0 → oe_rg (v2 + 1) ∧ oe_V (oe_cost 107) 107 (oe_M (d + 1)) none Q 2 [some (.inr (.inl v0)), some (.inr (.inl v1)), some (.inl (v2 + 1))] [] (sh, g, h) 0 0) ∧ (x13 = 0 → Q (some (.inl 0)) (sh, g, h)))) ∧ (12 ≤ (h q3 (v2 : Int).toNat) → oe_rg (v2 + 1) ∧ oe_V (oe_cost 107) 107 (oe_M (d + 1)) none Q 2 [some (.inr (.inl v0)), some (.inr (.inl v1)), some (.inl (v2 + 1))] [] (sh, g, h) 0 0))) :
    oe_V (oe_cost 107) 107 (oe_M (d + 1)) none Q 2 [some (.inr (.inl v0)), some (.inr (.inl v1)), some (.inl v2)] [] (sh, g, h) 0 0 := by
  refine s_iload_n (oe_t107 2 (q := (2, .iload_n 2, 1)) rfl) rfl ?_
  refine s_aload_n (oe_t107 3 (q := (3, .aload_n 1, 1)) rfl) rfl ?_
  obtain ⟨s1, vc⟩ := vc
  refine s_geti (oe_t107 4 (q := (4, .getfield 3020, 3)) rfl) s1 rfl (by decide) ?_
  refine s_ic_ge (oe_t107 5 (q := (7, .if_icmp .ge 48, 3)) rfl) (fun c2 => ?_) (fun c2 => ?_)
  · replace vc := vc.1 c2
    refine s_iconst (oe_t107 26 (q := (48, .iconst 1, 1)) rfl) ?_
    exact s_iret (oe_t107 27 (q := (49, .ireturn, 1)) rfl) (Or.inr (Or.inl ⟨rfl, Or.inr rfl⟩)) vc
  · replace vc := vc.2 c2
    refine s_aload_n (oe_t107 6 (q := (10, .aload_n 1, 1)) rfl) rfl ?_
    obtain ⟨q3, p4, vc⟩ := vc
    refine s_getr (oe_t107 7 (q := (11, .getfield 3001, 3)) rfl) s1 rfl rfl p4 ?_
    refine s_iload_n (oe_t107 8 (q := (14, .iload_n 2, 1)) rfl) rfl ?_
    obtain ⟨n6, s5, vc⟩ := vc
    obtain ⟨i7, i8, vc⟩ := vc
    refine s_iaload (oe_t107 9 (q := (15, .iaload, 1)) rfl) s5 i7 i8 ?_
    refine s_calls (oe_t107 10 (q := (16, .invokestatic 16001, 3)) rfl) (by decide) (Nat.le_of_ble_eq_true rfl) (Nat.le_of_ble_eq_true rfl) (Nat.le_of_ble_eq_true rfl) (Nat.le_of_ble_eq_true rfl) (sp_16 (fun c9 => ?_) (fun c9 => ?_))
    · replace vc := vc.1 c9
      show oe_V (oe_cost 107) 107 (oe_M (d + 1)) none Q 19 [some (.inr (.inl v0)), some (.inr (.inl v1)), some (.inl v2)] [.inl 1] (sh, g, h) 0 0
      refine s_if_eq (oe_t107 11 (q := (19, .ifCond .eq 42, 3)) rfl) (fun q => absurd q (by decide)) (fun _ => ?_)
      refine s_aload_n (oe_t107 12 (q := (22, .aload_n 0, 1)) rfl) rfl ?_
      refine s_aload_n (oe_t107 13 (q := (23, .aload_n 1, 1)) rfl) rfl ?_
      refine s_getr (oe_t107 14 (q := (24, .getfield 3001, 3)) rfl) s1 rfl rfl p4 ?_
      refine s_iload_n (oe_t107 15 (q := (27, .iload_n 2, 1)) rfl) rfl ?_
      obtain ⟨i10, i11, vc⟩ := vc
      refine s_iaload (oe_t107 16 (q := (28, .iaload, 1)) rfl) s5 i10 i11 ?_
      refine s_iconst (oe_t107 17 (q := (29, .iconst 0, 1)) rfl) ?_
      refine s_aload_n (oe_t107 18 (q := (30, .aload_n 0, 1)) rfl) rfl ?_
      obtain ⟨s12, vc⟩ := vc
      refine s_geti (oe_t107 19 (q := (31, .getfield 3020, 3)) rfl) s12 rfl (by decide) ?_
      refine s_callv (oe_t107 20 (q := (34, .invokevirtual 106033, 3)) rfl) rfl s12 rfl (Nat.le_of_ble_eq_true rfl) (Nat.le_of_ble_eq_true rfl) (Nat.le_of_ble_eq_true rfl) (Nat.le_of_ble_eq_true rfl) ?_
      refine oe_M_mono _ _ _ _ _ _ (fun r hp vq => ?_) vc
      obtain ⟨x13, rfl, rfl, vc⟩ := vq
      show oe_V (oe_cost 107) 107 (oe_M (d + 1)) none Q 37 [some (.inr (.inl v0)), some (.inr (.inl v1)), some (.inl v2)] [.inl x13] (sh, g, h) 0 0
      refine s_if_ne (oe_t107 21 (q := (37, .ifCond .ne 42, 3)) rfl) (fun c14 => ?_) (fun c14 => ?_)
      · replace vc := vc.1 c14
        obtain ⟨r15, vc⟩ := vc
        refine s_iinc (oe_t107 24 (q := (42, .iinc 2 1, 3)) rfl) rfl r15 ?_
        refine s_goto (oe_t107 25 (q := (45, .goto 2, 3)) rfl) ?_
        exact oe_V.fg (oe_M_mono _) (show oe_fg [some (.inr (.inl v0)), some (.inr (.inl v1)), some (.inl (v2 + 1))] _ from ⟨rfl, ⟨rfl, ⟨rfl, trivial⟩⟩⟩) vc
      · replace vc := vc.2 c14
        refine s_iconst (oe_t107 22 (q := (40, .iconst 0, 1)) rfl) ?_
        exact s_iret (oe_t107 23 (q := (41, .ireturn, 1)) rfl) (Or.inr (Or.inl ⟨rfl, Or.inl rfl⟩)) vc
    · replace vc := vc.2 c9
      show oe_V (oe_cost 107) 107 (oe_M (d + 1)) none Q 19 [some (.inr (.inl v0)), some (.inr (.inl v1)), some (.inl v2)] [.inl 0] (sh, g, h) 0 0
      refine s_if_eq (oe_t107 11 (q := (19, .ifCond .eq 42, 3)) rfl) (fun _ => ?_) (fun q => absurd q (by decide))
      obtain ⟨r16, vc⟩ := vc
      refine s_iinc (oe_t107 24 (q := (42, .iinc 2 1, 3)) rfl) rfl r16 ?_
      refine s_goto (oe_t107 25 (q := (45, .goto 2, 3)) rfl) ?_
      exact oe_V.fg (oe_M_mono _) (show oe_fg [some (.inr (.inl v0)), some (.inr (.inl v1)), some (.inl (v2 + 1))] _ from ⟨rfl, ⟨rfl, ⟨rfl, trivial⟩⟩⟩) vc
theorem oe_u108 : oe_c108.all (fun q => decide (oe_find oe_c108 q.1 = some q.2)) = true := by decide +kernel
theorem oe_t108 (k : Nat) {q : Nat × Jvm.ClassFile.Instr × Nat} (h : oe_c108[k]? = some q) : oe_find (oe_code 108) q.1 = some q.2 := oe_ft oe_u108 h
theorem g108 {d : Nat} {sh : List (Nat × Nat)} {g : Nat → Nat → Option Nat} {h : Nat → Nat → Int} {Q : oeQ} {v0 : Nat} {v1 : Nat} {v2 : Int}
    (vc : oe_V (oe_cost 108) 108 (oe_M (d + 1)) none Q 5 [some (.inr (.inl v0)), some (.inr (.inl v1)), none, some (.inl v2), some (.inl 0), none] [] (sh, g, h) 0 0) :
    oe_M (d + 2) 108 [.inr (.inl v0), .inr (.inl v1), .inl v2] (sh, g, h) Q := by
  refine oe_M.of (by simp [oe_c1]) (Nat.le_of_ble_eq_true rfl) ?_
  show oe_V (oe_cost 108) 108 (oe_M (d + 1)) none Q 0 [some (.inr (.inl v0)), some (.inr (.inl v1)), some (.inl v2), none, none, none] [] (sh, g, h) 0 0
  refine s_iload_n (oe_t108 0 (q := (0, .iload_n 2, 1)) rfl) rfl ?_
  refine s_istore_n (oe_t108 1 (q := (1, .istore_n 3, 1)) rfl) ?_
  refine s_iconst (oe_t108 2 (q := (2, .iconst 0, 1)) rfl) ?_
  refine s_istore (oe_t108 3 (q := (3, .istore 4, 2)) rfl) ?_
  exact oe_V.fg (oe_M_mono _) (show oe_fg [some (.inr (.inl v0)), some (.inr (.inl v1)), none, some (.inl v2), some (.inl 0), none] _ from ⟨rfl, ⟨rfl, ⟨rfl, ⟨rfl, trivial⟩⟩⟩⟩) vc
theorem g108_5 {d : Nat} {sh : List (Nat × Nat)} {g : Nat → Nat → Option Nat} {h : Nat → Nat → Int} {Q : oeQ} {v0 : Nat} {v1 : Nat} {v3 : Int} {v4 : Int}
    (vc : sh[v0]? = some (8, 3) ∧ ((h v0 2) ≤ v4 → Q (some (.inl v3)) (sh, g, h)) ∧ (v4 < (h v0 2) → ∃ q3, g v0 0 = some q3 ∧ ∃ n6, sh[q3]? = some (0, n6) ∧ 0 ≤ v4 ∧ v4 < (n6 : Nat) ∧ ((h q3 (v4 : Int).toNat) < 12 → ∃ n11, sh[v1]? = some (0, n11) ∧ 0 ≤ (h q3 (v4 : Int).toNat) ∧ (h q3 (v4 : Int).toNat) < (n11 : Nat) ∧ ((h v1 ((h q3 (v4 : Int).toNat) : Int).toNat) ≠ (-1) → 0 ≤ (h q3 (v4 : Int).toNat) ∧ (h q3 (v4 : Int).toNat) < (n11 : Nat) ∧ 0 ≤ v4 ∧ v4 < (n6 : Nat) ∧ ∀ h19, h19 = oe_up h q3 (v4 : Int).toNat (h v1 ((h q3 (v4 : Int).toNat) : Int).toNat) → oe_rg (v4 + 1) ∧ oe_V (oe_cost 108) 108 (oe_M (d + 1)) none Q 5 [some (.inr (.inl v0)), some (.inr (.inl v1)), none, some (.inl v3), some (.inl (v4 + 1)), none] [] (sh, g, h19) 0 0) ∧ ((h v1 ((h q3 (v4 : Int).toNat) : Int).toNat) = (-1) → 0 ≤ (h q3 (v4 : Int).toNat) ∧ (h q3 (v4 : Int).toNat) < (n11 : Nat) ∧ ∀ h24, h24 = oe_up h v1 ((h q3 (v4 : Int).toNat) : Int).toNat v3 → oe_rg (v3 + 1) ∧ 0 ≤ (h q3 (v4 : Int).toNat) ∧ (h q3 (v4 : Int).toNat) < (n11 : Nat) ∧ 0 ≤ v4 ∧ v4 < (n6 : Nat) ∧ ∀ h31, h31 = oe_up h24 q3 (v4 : Int).toNat (h24 v1 ((h q3 (v4 : Int).toNat) : Int).toNat) → oe_rg (v4 + 1) ∧ oe_V (oe_cost 108) 108 (oe_M (d + 1)) none Q 5 [some (.inr (.inl v0)), some (.inr (.inl v1)), none, some (.inl (v3 + 1)), some (.inl (v4 + 1)), none] [] (sh, g, h31) 0 0)) ∧ (12 ≤ (h q3 (v4 : Int).toNat) → oe_rg (v4 + 1) ∧ oe_V (oe_cost 108) 108 (oe_M (d + 1)) none Q 5 [some (.inr (.inl v0)), some (.inr (.inl v1)), none, some (.inl v3), some (.inl (v4 + 1)), none] [] (sh, g, h) 0 0))) :
    oe_V (oe_cost 108) 108 (oe_M (d + 1)) none Q 5 [some (.inr (.inl v0)), some (.inr (.inl v1)), none, some (.inl v3), some (.inl v4), none] [] (sh, g, h) 0 0 := by
  refine s_iload (oe_t108 4 (q := (5, .iload 4, 2)) rfl) rfl ?_
  refine s_aload_n (oe_t108 5 (q := (7, .aload_n 0, 1)) rfl) rfl ?_
  obtain ⟨s1, vc⟩ := vc
  refine s_geti (oe_t108 6 (q := (8, .getfield 3020, 3)) rfl) s1 rfl (by decide) ?_
  refine s_ic_ge (oe_t108 7 (q := (11, .if_icmp .ge 67, 3)) rfl) (fun c2 => ?_) (fun c2 => ?_)
  · replace vc := vc.1 c2
    refine s_iload_n (oe_t108 36 (q := (67, .iload_n 3, 1)) rfl) rfl ?_
    exact s_iret (oe_t108 37 (q := (68, .ireturn, 1)) rfl) (Or.inl rfl) vc
  · replace vc := vc.2 c2
    refine s_aload_n (oe_t108 8 (q := (14, .aload_n 0, 1)) rfl) rfl ?_
    obtain ⟨q3, p4, vc⟩ := vc
    refine s_getr (oe_t108 9 (q := (15, .getfield 3001, 3)) rfl) s1 rfl rfl p4 ?_
    refine s_iload (oe_t108 10 (q := (18, .iload 4, 2)) rfl) rfl ?_
    obtain ⟨n6, s5, vc⟩ := vc
    obtain ⟨i7, i8, vc⟩ := vc
    refine s_iaload (oe_t108 11 (q := (20, .iaload, 1)) rfl) s5 i7 i8 ?_
    refine s_istore (oe_t108 12 (q := (21, .istore 5, 2)) rfl) ?_
    refine s_iload (oe_t108 13 (q := (23, .iload 5, 2)) rfl) rfl ?_
    refine s_calls (oe_t108 14 (q := (25, .invokestatic 16001, 3)) rfl) (by decide) (Nat.le_of_ble_eq_true rfl) (Nat.le_of_ble_eq_true rfl) (Nat.le_of_ble_eq_true rfl) (Nat.le_of_ble_eq_true rfl) (sp_16 (fun c9 => ?_) (fun c9 => ?_))
    · replace vc := vc.1 c9
      show oe_V (oe_cost 108) 108 (oe_M (d + 1)) none Q 28 [some (.inr (.inl v0)), some (.inr (.inl v1)), none, some (.inl v3), some (.inl v4), some (.inl (h q3 (v4 : Int).toNat))] [.inl 1] (sh, g, h) 0 0
      refine s_if_ne (oe_t108 15 (q := (28, .ifCond .ne 34, 3)) rfl) (fun _ => ?_) (fun q => absurd q (by decide))
      refine s_aload_n (oe_t108 17 (q := (34, .aload_n 1, 1)) rfl) rfl ?_
      refine s_iload (oe_t108 18 (q := (35, .iload 5, 2)) rfl) rfl ?_
      obtain ⟨n11, s10, vc⟩ := vc
      obtain ⟨i12, i13, vc⟩ := vc
      refine s_iaload (oe_t108 19 (q := (37, .iaload, 1)) rfl) s10 i12 i13 ?_
      refine s_iconst (oe_t108 20 (q := (38, .iconst (-1), 1)) rfl) ?_
      refine s_ic_ne (oe_t108 21 (q := (39, .if_icmp .ne 50, 3)) rfl) (fun c14 => ?_) (fun c14 => ?_)
      · replace vc := vc.1 c14
        refine s_aload_n (oe_t108 27 (q := (50, .aload_n 0, 1)) rfl) rfl ?_
        refine s_getr (oe_t108 28 (q := (51, .getfield 3001, 3)) rfl) s1 rfl rfl p4 ?_
        refine s_iload (oe_t108 29 (q := (54, .iload 4, 2)) rfl) rfl ?_
        refine s_aload_n (oe_t108 30 (q := (56, .aload_n 1, 1)) rfl) rfl ?_
        refine s_iload (oe_t108 31 (q := (57, .iload 5, 2)) rfl) rfl ?_
        obtain ⟨i15, i16, vc⟩ := vc
        refine s_iaload (oe_t108 32 (q := (59, .iaload, 1)) rfl) s10 i15 i16 ?_
        obtain ⟨i17, i18, vc⟩ := vc
        refine t_iastore (oe_t108 33 (q := (60, .iastore, 1)) rfl) s5 i17 i18 (fun h19 e20 => ?_)
        replace vc := vc h19 e20
        obtain ⟨r21, vc⟩ := vc
        refine s_iinc (oe_t108 34 (q := (61, .iinc 4 1, 3)) rfl) rfl r21 ?_
        refine s_goto (oe_t108 35 (q := (64, .goto 5, 3)) rfl) ?_
        exact oe_V.fg (oe_M_mono _) (show oe_fg [some (.inr (.inl v0)), some (.inr (.inl v1)), none, some (.inl v3), some (.inl (v4 + 1)), none] _ from ⟨rfl, ⟨rfl, ⟨rfl, ⟨rfl, trivial⟩⟩⟩⟩) vc
      · replace vc := vc.2 c14
        refine s_aload_n (oe_t108 22 (q := (42, .aload_n 1, 1)) rfl) rfl ?_
        refine s_iload (oe_t108 23 (q := (43, .iload 5, 2)) rfl) rfl ?_
        refine s_iload_n (oe_t108 24 (q := (45, .iload_n 3, 1)) rfl) rfl ?_
        obtain ⟨i22, i23, vc⟩ := vc
        refine t_iastore (oe_t108 25 (q := (46, .iastore, 1)) rfl) s10 i22 i23 (fun h24 e25 => ?_)
        replace vc := vc h24 e25
        obtain ⟨r26, vc⟩ := vc
        refine s_iinc (oe_t108 26 (q := (47, .iinc 3 1, 3)) rfl) rfl r26 ?_
        refine s_aload_n (oe_t108 27 (q := (50, .aload_n 0, 1)) rfl) rfl ?_
        refine s_getr (oe_t108 28 (q := (51, .getfield 3001, 3)) rfl) s1 rfl rfl p4 ?_
        refine s_iload (oe_t108 29 (q := (54, .iload 4, 2)) rfl) rfl ?_
        refine s_aload_n (oe_t108 30 (q := (56, .aload_n 1, 1)) rfl) rfl ?_
        refine s_iload (oe_t108 31 (q := (57, .iload 5, 2)) rfl) rfl ?_
        obtain ⟨i27, i28, vc⟩ := vc
        refine s_iaload (oe_t108 32 (q := (59, .iaload, 1)) rfl) s10 i27 i28 ?_
        obtain ⟨i29, i30, vc⟩ := vc
        refine t_iastore (oe_t108 33 (q := (60, .iastore, 1)) rfl) s5 i29 i30 (fun h31 e32 => ?_)
        replace vc := vc h31 e32
        obtain ⟨r33, vc⟩ := vc
        refine s_iinc (oe_t108 34 (q := (61, .iinc 4 1, 3)) rfl) rfl r33 ?_
        refine s_goto (oe_t108 35 (q := (64, .goto 5, 3)) rfl) ?_
        exact oe_V.fg (oe_M_mono _) (show oe_fg [some (.inr (.inl v0)), some (.inr (.inl v1)), none, some (.inl (v3 + 1)), some (.inl (v4 + 1)), none] _ from ⟨rfl, ⟨rfl, ⟨rfl, ⟨rfl, trivial⟩⟩⟩⟩) vc
    · replace vc := vc.2 c9
      show oe_V (oe_cost 108) 108 (oe_M (d + 1)) none Q 28 [some (.inr (.inl v0)), some (.inr (.inl v1)), none, some (.inl v3), some (.inl v4), some (.inl (h q3 (v4 : Int).toNat))] [.inl 0] (sh, g, h) 0 0
      refine s_if_ne (oe_t108 15 (q := (28, .ifCond .ne 34, 3)) rfl) (fun q => absurd q (by decide)) (fun _ => ?_)
      refine s_goto (oe_t108 16 (q := (31, .goto 61, 3)) rfl) ?_
      obtain ⟨r34, vc⟩ := vc
      refine s_iinc (oe_t108 34 (q := (61, .iinc 4 1, 3)) rfl) rfl r34 ?_
      refine s_goto (oe_t108 35 (q := (64, .goto 5, 3)) rfl) ?_
      exact oe_V.fg (oe_M_mono _) (show oe_fg [some (.inr (.inl v0)), some (.inr (.inl v1)), none, some (.inl v3), some (.inl (v4 + 1)), none] _ from ⟨rfl, ⟨rfl, ⟨rfl, ⟨rfl, trivial⟩⟩⟩⟩) vc
theorem oe_u109 : oe_c109.all (fun q => decide (oe_find oe_c109 q.1 = some q.2)) = true := by decide +kernel
theorem oe_t109 (k : Nat) {q : Nat × Jvm.ClassFile.Instr × Nat} (h : oe_c109[k]? = some q) : oe_find (oe_code 109) q.1 = some q.2 := oe_ft oe_u109 h
theorem g109 {d : Nat} {sh : List (Nat × Nat)} {g : Nat → Nat → Option Nat} {h : Nat → Nat → Int} {Q : oeQ} {v0 : Nat} {v1 : Int} {v2 : Nat} {v3 : Int}
    (vc : sh[v0]? = some (8, 3) ∧ ∃ q2, g v0 1 = some q2 ∧ ∃ n5, sh[q2]? = some (0, n5) ∧ 0 ≤ v1 ∧ v1 < (n5 : Nat) ∧ oe_rg ((h q2 (v1 : Int).toNat) - v1) ∧ sh[v2]? = some (8, 3) ∧ ∃ q10, g v2 1 = some q10 ∧ ∃ n13, sh[q10]? = some (0, n13) ∧ 0 ≤ v3 ∧ v3 < (n13 : Nat) ∧ oe_rg ((h q10 (v3 : Int).toNat) - v3) ∧ (((h q10 (v3 : Int).toNat) - v3) = ((h q2 (v1 : Int).toNat) - v1) → oe_V (oe_cost 109) 109 (oe_M (d + 1)) none Q 28 [some (.inr (.inl v0)), some (.inl v1), some (.inr (.inl v2)), some (.inl v3), some (.inl ((h q2 (v1 : Int).toNat) - v1)), some (.inl 0)] [] (sh, g, h) 0 0) ∧ (((h q10 (v3 : Int).toNat) - v3) ≠ ((h q2 (v1 : Int).toNat) - v1) → Q (some (.inl 0)) (sh, g, h))) :
    oe_M (d + 2) 109 [.inr (.inl v0), .inl v1, .inr (.inl v2), .inl v3] (sh, g, h) Q := by
  refine oe_M.of (by simp [oe_c1]) (Nat.le_of_ble_eq_true rfl) ?_
  show oe_V (oe_cost 109) 109 (oe_M (d + 1)) none Q 0 [some (.inr (.inl v0)), some (.inl v1), some (.inr (.inl v2)), some (.inl v3), none, none] [] (sh, g, h) 0 0
  refine s_aload_n (oe_t109 0 (q := (0, .aload_n 0, 1)) rfl) rfl ?_
  obtain ⟨s1, vc⟩ := vc
  obtain ⟨q2, p3, vc⟩ := vc
  refine s_getr (oe_t109 1 (q := (1, .getfield 3011, 3)) rfl) s1 rfl rfl p3 ?_
  refine s_iload_n (oe_t109 2 (q := (4, .iload_n 1, 1)) rfl) rfl ?_
  obtain ⟨n5, s4, vc⟩ := vc
  obtain ⟨i6, i7, vc⟩ := vc
  refine s_iaload (oe_t109 3 (q := (5, .iaload, 1)) rfl) s4 i6 i7 ?_
  refine s_iload_n (oe_t109 4 (q := (6, .iload_n 1, 1)) rfl) rfl ?_
  obtain ⟨r8, vc⟩ := vc
  refine s_isub (oe_t109 5 (q := (7, .isub, 1)) rfl) r8 ?_
  refine s_istore (oe_t109 6 (q := (8, .istore 4, 2)) rfl) ?_
  refine s_aload_n (oe_t109 7 (q := (10, .aload_n 2, 1)) rfl) rfl ?_
  obtain ⟨s9, vc⟩ := vc
  obtain ⟨q10, p11, vc⟩ := vc
  refine s_getr (oe_t109 8 (q := (11, .getfield 3011, 3)) rfl) s9 rfl rfl p11 ?_
  refine s_iload_n (oe_t109 9 (q := (14, .iload_n 3, 1)) rfl) rfl ?_
  obtain ⟨n13, s12, vc⟩ := vc
  obtain ⟨i14, i15, vc⟩ := vc
  refine s_iaload (oe_t109 10 (q := (15, .iaload, 1)) rfl) s12 i14 i15 ?_
  refine s_iload_n (oe_t109 11 (q := (16, .iload_n 3, 1)) rfl) rfl ?_
  obtain ⟨r16, vc⟩ := vc
  refine s_isub (oe_t109 12 (q := (17, .isub, 1)) rfl) r16 ?_
  refine s_iload (oe_t109 13 (q := (18, .iload 4, 2)) rfl) rfl ?_
  refine s_ic_eq (oe_t109 14 (q := (20, .if_icmp .eq 25, 3)) rfl) (fun c17 => ?_) (fun c17 => ?_)
  · replace vc := vc.1 c17
    refine s_iconst (oe_t109 17 (q := (25, .iconst 0, 1)) rfl) ?_
    refine s_istore (oe_t109 18 (q := (26, .istore 5, 2)) rfl) ?_
    exact oe_V.fg (oe_M_mono _) (show oe_fg [some (.inr (.inl v0)), some (.inl v1), some (.inr (.inl v2)), some (.inl v3), some (.inl ((h q2 (v1 : Int).toNat) - v1)), some (.inl 0)] _ from ⟨rfl, ⟨rfl, ⟨rfl, ⟨rfl, ⟨rfl, ⟨rfl, trivial⟩⟩⟩⟩⟩⟩) vc
  · replace vc := vc.2 c17
    refine s_iconst (oe_t109 15 (q := (23, .iconst 0, 1)) rfl) ?_
    exact s_iret (oe_t109 16 (q := (24, .ireturn, 1)) rfl) (Or.inr (Or.inl ⟨rfl, Or.inl rfl⟩)) vc
theorem g109_28 {d : Nat} {sh : List (Nat × Nat)} {g : Nat → Nat → Option Nat} {h : Nat → Nat → Int} {Q : oeQ} {v0 : Nat} {v1 : Int} {v2 : Nat} {v3 : Int} {v4 : Int} {v5 : Int}
    (vc : (v4 ≤ v5 → Q (some (.inl 1)) (sh, g, h)) ∧ (v5 < v4 → sh[v0]? = some (8, 3) ∧ ∃ q20, g v0 0 = some q20 ∧ oe_rg (v1 + v5) ∧ ∃ n24, sh[q20]? = some (0, n24) ∧ 0 ≤ (v1 + v5) ∧ (v1 + v5) < (n24 : Nat) ∧ sh[v2]? = some (8, 3) ∧ ∃ q28, g v2 0 = some q28 ∧ oe_rg (v3 + v5) ∧ ∃ n32, sh[q28]? = some (0, n32) ∧ 0 ≤ (v3 + v5) ∧ (v3 + v5) < (n32 : Nat) ∧ ((h q20 ((v1 + v5) : Int).toNat) = (h q28 ((v3 + v5) : Int).toNat) → oe_rg (v5 + 1) ∧ oe_V (oe_cost 109) 109 (oe_M (d + 1)) none Q 28 [some (.inr (.inl v0)), some (.inl v1), some (.inr (.inl v2)), some (.inl v3), some (.inl v4), some (.inl (v5 + 1))] [] (sh, g, h) 0 0) ∧ ((h q20 ((v1 + v5) : Int).toNat) ≠ (h q28 ((v3 + v5) : Int).toNat) → Q (some (.inl 0)) (sh, g, h)))) :
    oe_V (oe_cost 109) 109 (oe_M (d + 1)) none Q 28 [some (.inr (.inl v0)), some (.inl v1), some (.inr (.inl v2)), some (.inl v3), some (.inl v4), some (.inl v5)] [] (sh, g, h) 0 0 := by
  refine s_iload (oe_t109 19 (q := (28, .iload 5, 2)) rfl) rfl ?_
  refine s_iload (oe_t109 20 (q := (30, .iload 4, 2)) rfl) rfl ?_
  refine s_ic_ge (oe_t109 21 (q := (32, .if_icmp .ge 64, 3)) rfl) (fun c18 => ?_) (fun c18 => ?_)
  · replace vc := vc.1 c18
    refine s_iconst (oe_t109 39 (q := (64, .iconst 1, 1)) rfl) ?_
    exact s_iret (oe_t109 40 (q := (65, .ireturn, 1)) rfl) (Or.inr (Or.inl ⟨rfl, Or.inr rfl⟩)) vc
  · replace vc := vc.2 c18
    refine s_aload_n (oe_t109 22 (q := (35, .aload_n 0, 1)) rfl) rfl ?_
    obtain ⟨s19, vc⟩ := vc
    obtain ⟨q20, p21, vc⟩ := vc
    refine s_getr (oe_t109 23 (q := (36, .getfield 3001, 3)) rfl) s19 rfl rfl p21 ?_
    refine s_iload_n (oe_t109 24 (q := (39, .iload_n 1, 1)) rfl) rfl ?_
    refine s_iload (oe_t109 25 (q := (40, .iload 5, 2)) rfl) rfl ?_
    obtain ⟨r22, vc⟩ := vc
    refine s_iadd (oe_t109 26 (q := (42, .iadd, 1)) rfl) r22 ?_
    obtain ⟨n24, s23, vc⟩ := vc
    obtain ⟨i25, i26, vc⟩ := vc
    refine s_iaload (oe_t109 27 (q := (43, .iaload, 1)) rfl) s23 i25 i26 ?_
    refine s_aload_n (oe_t109 28 (q := (44, .aload_n 2, 1)) rfl) rfl ?_
    obtain ⟨s27, vc⟩ := vc
    obtain ⟨q28, p29, vc⟩ := vc
    refine s_getr (oe_t109 29 (q := (45, .getfield 3001, 3)) rfl) s27 rfl rfl p29 ?_
    refine s_iload_n (oe_t109 30 (q := (48, .iload_n 3, 1)) rfl) rfl ?_
    refine s_iload (oe_t109 31 (q := (49, .iload 5, 2)) rfl) rfl ?_
    obtain ⟨r30, vc⟩ := vc
    refine s_iadd (oe_t109 32 (q := (51, .iadd, 1)) rfl) r30 ?_
    obtain ⟨n32, s31, vc⟩ := vc
    obtain ⟨i33, i34, vc⟩ := vc
    refine s_iaload (oe_t109 33 (q := (52, .iaload, 1)) rfl) s31 i33 i34 ?_
    refine s_ic_eq (oe_t109 34 (q := (53, .if_icmp .eq 58, 3)) rfl) (fun c35 => ?_) (fun c35 => ?_)
    · replace vc := vc.1 c35
      obtain ⟨r36, vc⟩ := vc
      refine s_iinc (oe_t109 37 (q := (58, .iinc 5 1, 3)) rfl) rfl r36 ?_
      refine s_goto (oe_t109 38 (q := (61, .goto 28, 3)) rfl) ?_
      exact oe_V.fg (oe_M_mono _) (show oe_fg [some (.inr (.inl v0)), some (.inl v1), some (.inr (.inl v2)), some (.inl v3), some (.inl v4), some (.inl (v5 + 1))] _ from ⟨rfl, ⟨rfl, ⟨rfl, ⟨rfl, ⟨rfl, ⟨rfl, trivial⟩⟩⟩⟩⟩⟩) vc
    · replace vc := vc.2 c35
      refine s_iconst (oe_t109 35 (q := (56, .iconst 0, 1)) rfl) ?_
      exact s_iret (oe_t109 36 (q := (57, .ireturn, 1)) rfl) (Or.inr (Or.inl ⟨rfl, Or.inl rfl⟩)) vc
theorem oe_u110 : oe_c110.all (fun q => decide (oe_find oe_c110 q.1 = some q.2)) = true := by decide +kernel
theorem oe_t110 (k : Nat) {q : Nat × Jvm.ClassFile.Instr × Nat} (h : oe_c110[k]? = some q) : oe_find (oe_code 110) q.1 = some q.2 := oe_ft oe_u110 h
theorem g110 {d : Nat} {sh : List (Nat × Nat)} {g : Nat → Nat → Option Nat} {h : Nat → Nat → Int} {Q : oeQ} {v0 : Nat} {v1 : Int} {v2 : Nat} {v3 : Int} {v4 : Int}
    (vc : sh[v0]? = some (8, 3) ∧ ∃ q2, g v0 0 = some q2 ∧ ∃ n5, sh[q2]? = some (0, n5) ∧ 0 ≤ v1 ∧ v1 < (n5 : Nat) ∧ sh[v2]? = some (8, 3) ∧ ∃ q9, g v2 0 = some q9 ∧ ∃ n12, sh[q9]? = some (0, n12) ∧ 0 ≤ v3 ∧ v3 < (n12 : Nat) ∧ ((h q9 (v3 : Int).toNat) < 12 → ((h q2 (v1 : Int).toNat) = (h q9 (v3 : Int).toNat) → Q (some (.inl 0)) (sh, g, h)) ∧ ((h q2 (v1 : Int).toNat) ≠ (h q9 (v3 : Int).toNat) → ∃ q17, g v0 1 = some q17 ∧ ∃ n20, sh[q17]? = some (0, n20) ∧ 0 ≤ v1 ∧ v1 < (n20 : Nat) ∧ oe_M (d + 1) 106 [.inr (.inl v0), .inl (h q9 (v3 : Int).toNat), .inl v1, .inl (h q17 (v1 : Int).toNat)] (sh, g, h) (fun r hp => ∃ (x23 : Int), r = some (.inl x23) ∧ hp = (sh, g, h) ∧ (x23 = 0 → Q (some (.inl 0)) (sh, g, h)) ∧ (x23 ≠ 0 → Q (some (.inl 1)) (sh, g, h))))) ∧ (12 ≤ (h q9 (v3 : Int).toNat) → ((h q2 (v1 : Int).toNat) < 12 → Q (some (.inl 0)) (sh, g, h)) ∧ (12 ≤ (h q2 (v1 : Int).toNat) → (v4 ≤ 60 → ((h q2 (v1 : Int).toNat) ≤ (h q9 (v3 : Int).toNat) → oe_rg (v1 + 1) ∧ oe_rg (v3 + 1) ∧ ((h q2 (v1 : Int).toNat) ≠ (h q9 (v3 : Int).toNat) → oe_V (oe_cost 110) 110 (oe_M (d + 1)) none Q 202 [some (.inr (.inl v0)), some (.inl v1), some (.inr (.inl v2)), some (.inl v3), some (.inl v4), some (.inl (h q2 (v1 : Int).toNat)), some (.inl (h q9 (v3 : Int).toNat)), some (.inl 0), some (.inl (v1 + 1)), some (.inl (v3 + 1)), some (.inl 0), some (.inl 0)] [] (sh, g, h) 0 0) ∧ ((h q2 (v1 : Int).toNat) = (h q9 (v3 : Int).toNat) → oe_V (oe_cost 110) 110 (oe_M (d + 1)) none Q 104 [some (.inr (.inl v0)), some (.inl v1), some (.inr (.inl v2)), some (.inl v3), some (.inl v4), some (.inl (h q2 (v1 : Int).toNat)), some (.inl (h q9 (v3 : Int).toNat)), none, some (.inl (v1 + 1)), some (.inl (v3 + 1)), some (.inl 0), none] [] (sh, g, h) 0 0)) ∧ ((h q9 (v3 : Int).toNat) < (h q2 (v1 : Int).toNat) → oe_rg (v1 + 1) ∧ oe_rg (v3 + 1) ∧ ((h q2 (v1 : Int).toNat) ≠ (h q9 (v3 : Int).toNat) → oe_V (oe_cost 110) 110 (oe_M (d + 1)) none Q 202 [some (.inr (.inl v0)), some (.inl v1), some (.inr (.inl v2)), some (.inl v3), some (.inl v4), some (.inl (h q2 (v1 : Int).toNat)), some (.inl (h q9 (v3 : Int).toNat)), some (.inl 1), some (.inl (v1 + 1)), some (.inl (v3 + 1)), some (.inl 0), some (.inl 0)] [] (sh, g, h) 0 0) ∧ ((h q2 (v1 : Int).toNat) = (h q9 (v3 : Int).toNat) → oe_V (oe_cost 110) 110 (oe_M (d + 1)) none Q 104 [some (.inr (.inl v0)), some (.inl v1), some (.inr (.inl v2)), some (.inl v3), some (.inl v4), some (.inl (h q2 (v1 : Int).toNat)), some (.inl (h q9 (v3 : Int).toNat)), none, some (.inl (v1 + 1)), some (.inl (v3 + 1)), some (.inl 0), none] [] (sh, g, h) 0 0))) ∧ (60 < v4 → Q (some (.inl 0)) (sh, g, h))))) :
    oe_M (d + 2) 110 [.inr (.inl v0), .inl v1, .inr (.inl v2), .inl v3, .inl v4] (sh, g, h) Q := by
  refine oe_M.of (by simp [oe_c1]) (Nat.le_of_ble_eq_true rfl) ?_
  show oe_V (oe_cost 110) 110 (oe_M (d + 1)) none Q 0 [some (.inr (.inl v0)), some (.inl v1), some (.inr (.inl v2)), some (.inl v3), some (.inl v4), none, none, none, none, none, none, none] [] (sh, g, h) 0 0
  refine s_aload_n (oe_t110 0 (q := (0, .aload_n 0, 1)) rfl) rfl ?_
  obtain ⟨s1, vc⟩ := vc
  obtain ⟨q2, p3, vc⟩ := vc
  refine s_getr (oe_t110 1 (q := (1, .getfield 3001, 3)) rfl) s1 rfl rfl p3 ?_
  refine s_iload_n (oe_t110 2 (q := (4, .iload_n 1, 1)) rfl) rfl ?_
  obtain ⟨n5, s4, vc⟩ := vc
  obtain ⟨i6, i7, vc⟩ := vc
  refine s_iaload (oe_t110 3 (q := (5, .iaload, 1)) rfl) s4 i6 i7 ?_
  refine s_istore (oe_t110 4 (q := (6, .istore 5, 2)) rfl) ?_
  refine s_aload_n (oe_t110 5 (q := (8, .aload_n 2, 1)) rfl) rfl ?_
  obtain ⟨s8, vc⟩ := vc
  obtain ⟨q9, p10, vc⟩ := vc
  refine s_getr (oe_t110 6 (q := (9, .getfield 3001, 3)) rfl) s8 rfl rfl p10 ?_
  refine s_iload_n (oe_t110 7 (q := (12, .iload_n 3, 1)) rfl) rfl ?_
  obtain ⟨n12, s11, vc⟩ := vc
  obtain ⟨i13, i14, vc⟩ := vc
  refine s_iaload (oe_t110 8 (q := (13, .iaload, 1)) rfl) s11 i13 i14 ?_
  refine s_istore (oe_t110 9 (q := (14, .istore 6, 2)) rfl) ?_
  refine s_iload (oe_t110 10 (q := (16, .iload 6, 2)) rfl) rfl ?_
  refine s_calls (oe_t110 11 (q := (18, .invokestatic 16001, 3)) rfl) (by decide) (Nat.le_of_ble_eq_true rfl) (Nat.le_of_ble_eq_true rfl) (Nat.le_of_ble_eq_true rfl) (Nat.le_of_ble_eq_true rfl) (sp_16 (fun c15 => ?_) (fun c15 => ?_))
  · replace vc := vc.1 c15
    show oe_V (oe_cost 110) 110 (oe_M (d + 1)) none Q 21 [some (.inr (.inl v0)), some (.inl v1), some (.inr (.inl v2)), some (.inl v3), some (.inl v4), some (.inl (h q2 (v1 : Int).toNat)), some (.inl (h q9 (v3 : Int).toNat)), none, none, none, none, none] [.inl 1] (sh, g, h) 0 0
    refine s_if_eq (oe_t110 12 (q := (21, .ifCond .eq 53, 3)) rfl) (fun q => absurd q (by decide)) (fun _ => ?_)
    refine s_iload (oe_t110 13 (q := (24, .iload 5, 2)) rfl) rfl ?_
    refine s_iload (oe_t110 14 (q := (26, .iload 6, 2)) rfl) rfl ?_
    refine s_ic_eq (oe_t110 15 (q := (28, .if_icmp .eq 51, 3)) rfl) (fun c16 => ?_) (fun c16 => ?_)
    · replace vc := vc.1 c16
      refine s_iconst (oe_t110 27 (q := (51, .iconst 0, 1)) rfl) ?_
      exact s_iret (oe_t110 28 (q := (52, .ireturn, 1)) rfl) (Or.inr (Or.inl ⟨rfl, Or.inl rfl⟩)) vc
    · replace vc := vc.2 c16
      refine s_aload_n (oe_t110 16 (q := (31, .aload_n 0, 1)) rfl) rfl ?_
      refine s_iload (oe_t110 17 (q := (32, .iload 6, 2)) rfl) rfl ?_
      refine s_iload_n (oe_t110 18 (q := (34, .iload_n 1, 1)) rfl) rfl ?_
      refine s_aload_n (oe_t110 19 (q := (35, .aload_n 0, 1)) rfl) rfl ?_
      obtain ⟨q17, p18, vc⟩ := vc
      refine s_getr (oe_t110 20 (q := (36, .getfield 3011, 3)) rfl) s1 rfl rfl p18 ?_
      refine s_iload_n (oe_t110 21 (q := (39, .iload_n 1, 1)) rfl) rfl ?_
      obtain ⟨n20, s19, vc⟩ := vc
      obtain ⟨i21, i22, vc⟩ := vc
      refine s_iaload (oe_t110 22 (q := (40, .iaload, 1)) rfl) s19 i21 i22 ?_
      refine s_callv (oe_t110 23 (q := (41, .invokevirtual 106033, 3)) rfl) rfl s1 rfl (Nat.le_of_ble_eq_true rfl) (Nat.le_of_ble_eq_true rfl) (Nat.le_of_ble_eq_true rfl) (Nat.le_of_ble_eq_true rfl) ?_
      refine oe_M_mono _ _ _ _ _ _ (fun r hp vq => ?_) vc
      obtain ⟨x23, rfl, rfl, vc⟩ := vq
      show oe_V (oe_cost 110) 110 (oe_M (d + 1)) none Q 44 [some (.inr (.inl v0)), some (.inl v1), some (.inr (.inl v2)), some (.inl v3), some (.inl v4), some (.inl (h q2 (v1 : Int).toNat)), some (.inl (h q9 (v3 : Int).toNat)), none, none, none, none, none] [.inl x23] (sh, g, h) 0 0
      refine s_if_eq (oe_t110 24 (q := (44, .ifCond .eq 51, 3)) rfl) (fun c24 => ?_) (fun c24 => ?_)
      · replace vc := vc.1 c24
        refine s_iconst (oe_t110 27 (q := (51, .iconst 0, 1)) rfl) ?_
        exact s_iret (oe_t110 28 (q := (52, .ireturn, 1)) rfl) (Or.inr (Or.inl ⟨rfl, Or.inl rfl⟩)) vc
      · replace vc := vc.2 c24
        refine s_iconst (oe_t110 25 (q := (47, .iconst 1, 1)) rfl) ?_
        refine s_goto (oe_t110 26 (q := (48, .goto 52, 3)) rfl) ?_
        exact s_iret (oe_t110 28 (q := (52, .ireturn, 1)) rfl) (Or.inr (Or.inl ⟨rfl, Or.inr rfl⟩)) vc
  · replace vc := vc.2 c15
    show oe_V (oe_cost 110) 110 (oe_M (d + 1)) none Q 21 [some (.inr (.inl v0)), some (.inl v1), some (.inr (.inl v2)), some (.inl v3), some (.inl v4), some (.inl (h q2 (v1 : Int).toNat)), some (.inl (h q9 (v3 : Int).toNat)), none, none, none, none, none] [.inl 0] (sh, g, h) 0 0
    refine s_if_eq (oe_t110 12 (q := (21, .ifCond .eq 53, 3)) rfl) (fun _ => ?_) (fun q => absurd q (by decide))
    refine s_iload (oe_t110 29 (q := (53, .iload 5, 2)) rfl) rfl ?_
    refine s_calls (oe_t110 30 (q := (55, .invokestatic 16001, 3)) rfl) (by decide) (Nat.le_of_ble_eq_true rfl) (Nat.le_of_ble_eq_true rfl) (Nat.le_of_ble_eq_true rfl) (Nat.le_of_ble_eq_true rfl) (sp_16 (fun c25 => ?_) (fun c25 => ?_))
    · replace vc := vc.1 c25
      show oe_V (oe_cost 110) 110 (oe_M (d + 1)) none Q 58 [some (.inr (.inl v0)), some (.inl v1), some (.inr (.inl v2)), some (.inl v3), some (.inl v4), some (.inl (h q2 (v1 : Int).toNat)), some (.inl (h q9 (v3 : Int).toNat)), none, none, none, none, none] [.inl 1] (sh, g, h) 0 0
      refine s_if_ne (oe_t110 31 (q := (58, .ifCond .ne 68, 3)) rfl) (fun _ => ?_) (fun q => absurd q (by decide))
      refine s_iconst (oe_t110 35 (q := (68, .iconst 0, 1)) rfl) ?_
      exact s_iret (oe_t110 36 (q := (69, .ireturn, 1)) rfl) (Or.inr (Or.inl ⟨rfl, Or.inl rfl⟩)) vc
    · replace vc := vc.2 c25
      show oe_V (oe_cost 110) 110 (oe_M (d + 1)) none Q 58 [some (.inr (.inl v0)), some (.inl v1), some (.inr (.inl v2)), some (.inl v3), some (.inl v4), some (.inl (h q2 (v1 : Int).toNat)), some (.inl (h q9 (v3 : Int).toNat)), none, none, none, none, none] [.inl 0] (sh, g, h) 0 0
      refine s_if_ne (oe_t110 31 (q := (58, .ifCond .ne 68, 3)) rfl) (fun q => absurd q (by decide)) (fun _ => ?_)
      refine s_iload (oe_t110 32 (q := (61, .iload 4, 2)) rfl) rfl ?_
      refine s_bipush (oe_t110 33 (q := (63, .bipush 60, 2)) rfl) ?_
      refine s_ic_le (oe_t110 34 (q := (65, .if_icmp .le 70, 3)) rfl) (fun c26 => ?_) (fun c26 => ?_)
      · replace vc := vc.1 c26
        refine s_iload (oe_t110 37 (q := (70, .iload 5, 2)) rfl) rfl ?_
        refine s_iload (oe_t110 38 (q := (72, .iload 6, 2)) rfl) rfl ?_
        refine s_ic_le (oe_t110 39 (q := (74, .if_icmp .le 81, 3)) rfl) (fun c27 => ?_) (fun c27 => ?_)
        · replace vc := vc.1 c27
          refine s_iconst (oe_t110 42 (q := (81, .iconst 0, 1)) rfl) ?_
          refine s_istore (oe_t110 43 (q := (82, .istore 7, 2)) rfl) ?_
          refine s_iload_n (oe_t110 44 (q := (84, .iload_n 1, 1)) rfl) rfl ?_
          refine s_iconst (oe_t110 45 (q := (85, .iconst 1, 1)) rfl) ?_
          obtain ⟨r28, vc⟩ := vc
          refine s_iadd (oe_t110 46 (q := (86, .iadd, 1)) rfl) r28 ?_
          refine s_istore (oe_t110 47 (q := (87, .istore 8, 2)) rfl) ?_
          refine s_iload_n (oe_t110 48 (q := (89, .iload_n 3, 1)) rfl) rfl ?_
          refine s_iconst (oe_t110 49 (q := (90, .iconst 1, 1)) rfl) ?_
          obtain ⟨r29, vc⟩ := vc
          refine s_iadd (oe_t110 50 (q := (91, .iadd, 1)) rfl) r29 ?_
          refine s_istore (oe_t110 51 (q := (92, .istore 9, 2)) rfl) ?_
          refine s_iconst (oe_t110 52 (q := (94, .iconst 0, 1)) rfl) ?_
          refine s_istore (oe_t110 53 (q := (95, .istore 10, 2)) rfl) ?_
          refine s_iload (oe_t110 54 (q := (97, .iload 5, 2)) rfl) rfl ?_
          refine s_iload (oe_t110 55 (q := (99, .iload 6, 2)) rfl) rfl ?_
          refine s_ic_ne (oe_t110 56 (q := (101, .if_icmp .ne 198, 3)) rfl) (fun c30 => ?_) (fun c30 => ?_)
          · replace vc := vc.1 c30
            refine s_iload (oe_t110 105 (q := (198, .iload 10, 2)) rfl) rfl ?_
            refine s_istore (oe_t110 106 (q := (200, .istore 11, 2)) rfl) ?_
            exact oe_V.fg (oe_M_mono _) (show oe_fg [some (.inr (.inl v0)), some (.inl v1), some (.inr (.inl v2)), some (.inl v3), some (.inl v4), some (.inl (h q2 (v1 : Int).toNat)), some (.inl (h q9 (v3 : Int).toNat)), some (.inl 0), some (.inl (v1 + 1)), some (.inl (v3 + 1)), some (.inl 0), some (.inl 0)] _ from ⟨rfl, ⟨rfl, ⟨rfl, ⟨rfl, ⟨rfl, ⟨rfl, ⟨rfl, ⟨rfl, ⟨rfl, ⟨rfl, ⟨rfl, ⟨rfl, trivial⟩⟩⟩⟩⟩⟩⟩⟩⟩⟩⟩⟩) vc
          · replace vc := vc.2 c30
            exact oe_V.fg (oe_M_mono _) (show oe_fg [some (.inr (.inl v0)), some (.inl v1), some (.inr (.inl v2)), some (.inl v3), some (.inl v4), some (.inl (h q2 (v1 : Int).toNat)), some (.inl (h q9 (v3 : Int).toNat)), none, some (.inl (v1 + 1)), some (.inl (v3 + 1)), some (.inl 0), none] _ from ⟨rfl, ⟨rfl, ⟨rfl, ⟨rfl, ⟨rfl, ⟨rfl, ⟨rfl, ⟨rfl, ⟨rfl, ⟨rfl, trivial⟩⟩⟩⟩⟩⟩⟩⟩⟩⟩) vc
        · replace vc := vc.2 c27
          refine s_iconst (oe_t110 40 (q := (77, .iconst 1, 1)) rfl) ?_
          refine s_goto (oe_t110 41 (q := (78, .goto 82, 3)) rfl) ?_
          refine s_istore (oe_t110 43 (q := (82, .istore 7, 2)) rfl) ?_
          refine s_iload_n (oe_t110 44 (q := (84, .iload_n 1, 1)) rfl) rfl ?_
          refine s_iconst (oe_t110 45 (q := (85, .iconst 1, 1)) rfl) ?_
          obtain ⟨r31, vc⟩ := vc
          refine s_iadd (oe_t110 46 (q := (86, .iadd, 1)) rfl) r31 ?_
          refine s_istore (oe_t110 47 (q := (87, .istore 8, 2)) rfl) ?_
          refine s_iload_n (oe_t110 48 (q := (89, .iload_n 3, 1)) rfl) rfl ?_
          refine s_iconst (oe_t110 49 (q := (90, .iconst 1, 1)) rfl) ?_
          obtain ⟨r32, vc⟩ := vc
          refine s_iadd (oe_t110 50 (q := (91, .iadd, 1)) rfl) r32 ?_
          refine s_istore (oe_t110 51 (q := (92, .istore 9, 2)) rfl) ?_
          refine s_iconst (oe_t110 52 (q := (94, .iconst 0, 1)) rfl) ?_
          refine s_istore (oe_t110 53 (q := (95, .istore 10, 2)) rfl) ?_
          refine s_iload (oe_t110 54 (q := (97, .iload 5, 2)) rfl) rfl ?_
          refine s_iload (oe_t110 55 (q := (99, .iload 6, 2)) rfl) rfl ?_
          refine s_ic_ne (oe_t110 56 (q := (101, .if_icmp .ne 198, 3)) rfl) (fun c33 => ?_) (fun c33 => ?_)
          · replace vc := vc.1 c33
            refine s_iload (oe_t110 105 (q := (198, .iload 10, 2)) rfl) rfl ?_
            refine s_istore (oe_t110 106 (q := (200, .istore 11, 2)) rfl) ?_
            exact oe_V.fg (oe_M_mono _) (show oe_fg [some (.inr (.inl v0)), some (.inl v1), some (.inr (.inl v2)), some (.inl v3), some (.inl v4), some (.inl (h q2 (v1 : Int).toNat)), some (.inl (h q9 (v3 : Int).toNat)), some (.inl 1), some (.inl (v1 + 1)), some (.inl (v3 + 1)), some (.inl 0), some (.inl 0)] _ from ⟨rfl, ⟨rfl, ⟨rfl, ⟨rfl, ⟨rfl, ⟨rfl, ⟨rfl, ⟨rfl, ⟨rfl, ⟨rfl, ⟨rfl, ⟨rfl, trivial⟩⟩⟩⟩⟩⟩⟩⟩⟩⟩⟩⟩) vc
          · replace vc := vc.2 c33
            exact oe_V.fg (oe_M_mono _) (show oe_fg [some (.inr (.inl v0)), some (.inl v1), some (.inr (.inl v2)), some (.inl v3), some (.inl v4), some (.inl (h q2 (v1 : Int).toNat)), some (.inl (h q9 (v3 : Int).toNat)), none, some (.inl (v1 + 1)), some (.inl (v3 + 1)), some (.inl 0), none] _ from ⟨rfl, ⟨rfl, ⟨rfl, ⟨rfl, ⟨rfl, ⟨rfl, ⟨rfl, ⟨rfl, ⟨rfl, ⟨rfl, trivial⟩⟩⟩⟩⟩⟩⟩⟩⟩⟩) vc
      · replace vc := vc.2 c26
        refine s_iconst (oe_t110 35 (q := (68, .iconst 0, 1)) rfl) ?_
        exact s_iret (oe_t110 36 (q := (69, .ireturn, 1)) rfl) (Or.inr (Or.inl ⟨rfl, Or.inl rfl⟩)) vc
theorem g110_202 {d : Nat} {sh : List (Nat × Nat)} {g : Nat → Nat → Option Nat} {h : Nat → Nat → Int} {Q : oeQ} {v0 : Nat} {v1 : Int} {v2 : Nat} {v3 : Int} {v4 : Int} {v5 : Int} {v6 : Int} {v7 : Int} {v8 : Int} {v9 : Int} {v10 : Int} {v11 : Int}
    (vc : (v7 = 0 → oe_V (oe_cost 110) 110 (oe_M (d + 1)) none Q 253 [some (.inr (.inl v0)), none, some (.inr (.inl v2)), some (.inl v3), some (.inl v4), some (.inl v5), none, some (.inl v7), some (.inl v8), none, none, some (.inl v10)] [] (sh, g, h) 0 0) ∧ (v7 ≠ 0 → oe_M (d + 1) 17 [.inl v6] (sh, g, h) (fun r hp => ∃ (x35 : Int), r = some (.inl x35) ∧ hp = (sh, g, h) ∧ (x35 ≤ v11 → oe_V (oe_cost 110) 110 (oe_M (d + 1)) none Q 253 [some (.inr (.inl v0)), none, some (.inr (.inl v2)), some (.inl v3), some (.inl v4), some (.inl v5), none, some (.inl v7), some (.inl v8), none, none, some (.inl v10)] [] (sh, g, h) 0 0) ∧ (v11 < x35 → oe_rg (v4 + 1) ∧ oe_M (d + 1) 110 [.inr (.inl v0), .inl v1, .inr (.inl v2), .inl v9, .inl (v4 + 1)] (sh, g, h) (fun r hp => ∃ (x38 : Int), r = some (.inl x38) ∧ hp = (sh, g, h) ∧ (x38 ≠ 0 → sh[v2]? = some (8, 3) ∧ ∃ q41, g v2 1 = some q41 ∧ ∃ n44, sh[q41]? = some (0, n44) ∧ 0 ≤ v9 ∧ v9 < (n44 : Nat) ∧ oe_rg (v11 + 1) ∧ oe_V (oe_cost 110) 110 (oe_M (d + 1)) none Q 202 [some (.inr (.inl v0)), some (.inl v1), some (.inr (.inl v2)), some (.inl v3), some (.inl v4), some (.inl v5), some (.inl v6), some (.inl v7), some (.inl v8), some (.inl (h q41 (v9 : Int).toNat)), some (.inl v10), some (.inl (v11 + 1))] [] (sh, g, h) 0 0) ∧ (x38 = 0 → Q (some (.inl 0)) (sh, g, h))))))) :
    oe_V (oe_cost 110) 110 (oe_M (d + 1)) none Q 202 [some (.inr (.inl v0)), some (.inl v1), some (.inr (.inl v2)), some (.inl v3), some (.inl v4), some (.inl v5), some (.inl v6), some (.inl v7), some (.inl v8), some (.inl v9), some (.inl v10), some (.inl v11)] [] (sh, g, h) 0 0 := by
  refine s_iload (oe_t110 107 (q := (202, .iload 7, 2)) rfl) rfl ?_
  refine s_if_eq (oe_t110 108 (q := (204, .ifCond .eq 249, 3)) rfl) (fun c34 => ?_) (fun c34 => ?_)
  · replace vc := vc.1 c34
    refine s_iload (oe_t110 131 (q := (249, .iload 10, 2)) rfl) rfl ?_
    refine s_istore (oe_t110 132 (q := (251, .istore 11, 2)) rfl) ?_
    exact oe_V.fg (oe_M_mono _) (show oe_fg [some (.inr (.inl v0)), none, some (.inr (.inl v2)), some (.inl v3), some (.inl v4), some (.inl v5), none, some (.inl v7), some (.inl v8), none, none, some (.inl v10)] _ from ⟨rfl, ⟨rfl, ⟨rfl, ⟨rfl, ⟨rfl, ⟨rfl, ⟨rfl, ⟨rfl, trivial⟩⟩⟩⟩⟩⟩⟩⟩) vc
  · replace vc := vc.2 c34
    refine s_iload (oe_t110 109 (q := (207, .iload 11, 2)) rfl) rfl ?_
    refine s_iload (oe_t110 110 (q := (209, .iload 6, 2)) rfl) rfl ?_
    refine s_calls (oe_t110 111 (q := (211, .invokestatic 17001, 3)) rfl) (by decide) (Nat.le_of_ble_eq_true rfl) (Nat.le_of_ble_eq_true rfl) (Nat.le_of_ble_eq_true rfl) (Nat.le_of_ble_eq_true rfl) ?_
    refine oe_M_mono _ _ _ _ _ _ (fun r hp vq => ?_) vc
    obtain ⟨x35, rfl, rfl, vc⟩ := vq
    show oe_V (oe_cost 110) 110 (oe_M (d + 1)) none Q 214 [some (.inr (.inl v0)), some (.inl v1), some (.inr (.inl v2)), some (.inl v3), some (.inl v4), some (.inl v5), some (.inl v6), some (.inl v7), some (.inl v8), some (.inl v9), some (.inl v10), some (.inl v11)] [.inl x35, .inl v11] (sh, g, h) 0 0
    refine s_ic_ge (oe_t110 112 (q := (214, .if_icmp .ge 249, 3)) rfl) (fun c36 => ?_) (fun c36 => ?_)
    · replace vc := vc.1 c36
      refine s_iload (oe_t110 131 (q := (249, .iload 10, 2)) rfl) rfl ?_
      refine s_istore (oe_t110 132 (q := (251, .istore 11, 2)) rfl) ?_
      exact oe_V.fg (oe_M_mono _) (show oe_fg [some (.inr (.inl v0)), none, some (.inr (.inl v2)), some (.inl v3), some (.inl v4), some (.inl v5), none, some (.inl v7), some (.inl v8), none, none, some (.inl v10)] _ from ⟨rfl, ⟨rfl, ⟨rfl, ⟨rfl, ⟨rfl, ⟨rfl, ⟨rfl, ⟨rfl, trivial⟩⟩⟩⟩⟩⟩⟩⟩) vc
    · replace vc := vc.2 c36
      refine s_aload_n (oe_t110 113 (q := (217, .aload_n 0, 1)) rfl) rfl ?_
      refine s_iload_n (oe_t110 114 (q := (218, .iload_n 1, 1)) rfl) rfl ?_
      refine s_aload_n (oe_t110 115 (q := (219, .aload_n 2, 1)) rfl) rfl ?_
      refine s_iload (oe_t110 116 (q := (220, .iload 9, 2)) rfl) rfl ?_
      refine s_iload (oe_t110 117 (q := (222, .iload 4, 2)) rfl) rfl ?_
      refine s_iconst (oe_t110 118 (q := (224, .iconst 1, 1)) rfl) ?_
      obtain ⟨r37, vc⟩ := vc
      refine s_iadd (oe_t110 119 (q := (225, .iadd, 1)) rfl) r37 ?_
      refine s_calls (oe_t110 120 (q := (226, .invokestatic 110035, 3)) rfl) (by decide) (Nat.le_of_ble_eq_true rfl) (Nat.le_of_ble_eq_true rfl) (Nat.le_of_ble_eq_true rfl) (Nat.le_of_ble_eq_true rfl) ?_
      refine oe_M_mono _ _ _ _ _ _ (fun r hp vq => ?_) vc
      obtain ⟨x38, rfl, rfl, vc⟩ := vq
      show oe_V (oe_cost 110) 110 (oe_M (d + 1)) none Q 229 [some (.inr (.inl v0)), some (.inl v1), some (.inr (.inl v2)), some (.inl v3), some (.inl v4), some (.inl v5), some (.inl v6), some (.inl v7), some (.inl v8), some (.inl v9), some (.inl v10), some (.inl v11)] [.inl x38] (sh, g, h) 0 0
      refine s_if_ne (oe_t110 121 (q := (229, .ifCond .ne 234, 3)) rfl) (fun c39 => ?_) (fun c39 => ?_)
      · replace vc := vc.1 c39
        refine s_aload_n (oe_t110 124 (q := (234, .aload_n 2, 1)) rfl) rfl ?_
        obtain ⟨s40, vc⟩ := vc
        obtain ⟨q41, p42, vc⟩ := vc
        refine s_getr (oe_t110 125 (q := (235, .getfield 3011, 3)) rfl) s40 rfl rfl p42 ?_
        refine s_iload (oe_t110 126 (q := (238, .iload 9, 2)) rfl) rfl ?_
        obtain ⟨n44, s43, vc⟩ := vc
        obtain ⟨i45, i46, vc⟩ := vc
        refine s_iaload (oe_t110 127 (q := (240, .iaload, 1)) rfl) s43 i45 i46 ?_
        refine s_istore (oe_t110 128 (q := (241, .istore 9, 2)) rfl) ?_
        obtain ⟨r47, vc⟩ := vc
        refine s_iinc (oe_t110 129 (q := (243, .iinc 11 1, 3)) rfl) rfl r47 ?_
        refine s_goto (oe_t110 130 (q := (246, .goto 202, 3)) rfl) ?_
        exact oe_V.fg (oe_M_mono _) (show oe_fg [some (.inr (.inl v0)), some (.inl v1), some (.inr (.inl v2)), some (.inl v3), some (.inl v4), some (.inl v5), some (.inl v6), some (.inl v7), some (.inl v8), some (.inl (h q41 (v9 : Int).toNat)), some (.inl v10), some (.inl (v11 + 1))] _ from ⟨rfl, ⟨rfl, ⟨rfl, ⟨rfl, ⟨rfl, ⟨rfl, ⟨rfl, ⟨rfl, ⟨rfl, ⟨rfl, ⟨rfl, ⟨rfl, trivial⟩⟩⟩⟩⟩⟩⟩⟩⟩⟩⟩⟩) vc
      · replace vc := vc.2 c39
        refine s_iconst (oe_t110 122 (q := (232, .iconst 0, 1)) rfl) ?_
        exact s_iret (oe_t110 123 (q := (233, .ireturn, 1)) rfl) (Or.inr (Or.inl ⟨rfl, Or.inl rfl⟩)) vc
theorem g110_104 {d : Nat} {sh : List (Nat × Nat)} {g : Nat → Nat → Option Nat} {h : Nat → Nat → Int} {Q : oeQ} {v0 : Nat} {v1 : Int} {v2 : Nat} {v3 : Int} {v4 : Int} {v5 : Int} {v6 : Int} {v8 : Int} {v9 : Int} {v10 : Int}
    (vc : oe_M (d + 1) 17 [.inl v5] (sh, g, h) (fun r hp => ∃ (x48 : Int), r = some (.inl x48) ∧ hp = (sh, g, h) ∧ (x48 ≤ v10 → oe_V (oe_cost 110) 110 (oe_M (d + 1)) none Q 150 [some (.inr (.inl v0)), some (.inl v1), some (.inr (.inl v2)), some (.inl v3), some (.inl v4), some (.inl v5), some (.inl v6), none, some (.inl v8), some (.inl v9), some (.inl v10), none] [] (sh, g, h) 0 0) ∧ (v10 < x48 → oe_M (d + 1) 109 [.inr (.inl v0), .inl v8, .inr (.inl v2), .inl v9] (sh, g, h) (fun r hp => ∃ (x50 : Int), r = some (.inl x50) ∧ hp = (sh, g, h) ∧ (x50 = 0 → oe_V (oe_cost 110) 110 (oe_M (d + 1)) none Q 150 [some (.inr (.inl v0)), some (.inl v1), some (.inr (.inl v2)), some (.inl v3), some (.inl v4), some (.inl v5), some (.inl v6), none, some (.inl v8), some (.inl v9), some (.inl v10), none] [] (sh, g, h) 0 0) ∧ (x50 ≠ 0 → sh[v0]? = some (8, 3) ∧ ∃ q53, g v0 1 = some q53 ∧ ∃ n56, sh[q53]? = some (0, n56) ∧ 0 ≤ v8 ∧ v8 < (n56 : Nat) ∧ sh[v2]? = some (8, 3) ∧ ∃ q60, g v2 1 = some q60 ∧ ∃ n63, sh[q60]? = some (0, n63) ∧ 0 ≤ v9 ∧ v9 < (n63 : Nat) ∧ oe_rg (v10 + 1) ∧ oe_V (oe_cost 110) 110 (oe_M (d + 1)) none Q 104 [some (.inr (.inl v0)), some (.inl v1), some (.inr (.inl v2)), some (.inl v3), some (.inl v4), some (.inl v5), some (.inl v6), none, some (.inl (h q53 (v8 : Int).toNat)), some (.inl (h q60 (v9 : Int).toNat)), some (.inl (v10 + 1)), none] [] (sh, g, h) 0 0))))) :
    oe_V (oe_cost 110) 110 (oe_M (d + 1)) none Q 104 [some (.inr (.inl v0)), some (.inl v1), some (.inr (.inl v2)), some (.inl v3), some (.inl v4), some (.inl v5), some (.inl v6), none, some (.inl v8), some (.inl v9), some (.inl v10), none] [] (sh, g, h) 0 0 := by
  refine s_iload (oe_t110 57 (q := (104, .iload 10, 2)) rfl) rfl ?_
  refine s_iload (oe_t110 58 (q := (106, .iload 5, 2)) rfl) rfl ?_
  refine s_calls (oe_t110 59 (q := (108, .invokestatic 17001, 3)) rfl) (by decide) (Nat.le_of_ble_eq_true rfl) (Nat.le_of_ble_eq_true rfl) (Nat.le_of_ble_eq_true rfl) (Nat.le_of_ble_eq_true rfl) ?_
  refine oe_M_mono _ _ _ _ _ _ (fun r hp vq => ?_) vc
  obtain ⟨x48, rfl, rfl, vc⟩ := vq
  show oe_V (oe_cost 110) 110 (oe_M (d + 1)) none Q 111 [some (.inr (.inl v0)), some (.inl v1), some (.inr (.inl v2)), some (.inl v3), some (.inl v4), some (.inl v5), some (.inl v6), none, some (.inl v8), some (.inl v9), some (.inl v10), none] [.inl x48, .inl v10] (sh, g, h) 0 0
  refine s_ic_ge (oe_t110 60 (q := (111, .if_icmp .ge 150, 3)) rfl) (fun c49 => ?_) (fun c49 => ?_)
  · replace vc := vc.1 c49
    exact oe_V.fg (oe_M_mono _) (show oe_fg [some (.inr (.inl v0)), some (.inl v1), some (.inr (.inl v2)), some (.inl v3), some (.inl v4), some (.inl v5), some (.inl v6), none, some (.inl v8), some (.inl v9), some (.inl v10), none] _ from ⟨rfl, ⟨rfl, ⟨rfl, ⟨rfl, ⟨rfl, ⟨rfl, ⟨rfl, ⟨rfl, ⟨rfl, ⟨rfl, trivial⟩⟩⟩⟩⟩⟩⟩⟩⟩⟩) vc
  · replace vc := vc.2 c49
    refine s_aload_n (oe_t110 61 (q := (114, .aload_n 0, 1)) rfl) rfl ?_
    refine s_iload (oe_t110 62 (q := (115, .iload 8, 2)) rfl) rfl ?_
    refine s_aload_n (oe_t110 63 (q := (117, .aload_n 2, 1)) rfl) rfl ?_
    refine s_iload (oe_t110 64 (q := (118, .iload 9, 2)) rfl) rfl ?_
    refine s_calls (oe_t110 65 (q := (120, .invokestatic 109034, 3)) rfl) (by decide) (Nat.le_of_ble_eq_true rfl) (Nat.le_of_ble_eq_true rfl) (Nat.le_of_ble_eq_true rfl) (Nat.le_of_ble_eq_true rfl) ?_
    refine oe_M_mono _ _ _ _ _ _ (fun r hp vq => ?_) vc
    obtain ⟨x50, rfl, rfl, vc⟩ := vq
    show oe_V (oe_cost 110) 110 (oe_M (d + 1)) none Q 123 [some (.inr (.inl v0)), some (.inl v1), some (.inr (.inl v2)), some (.inl v3), some (.inl v4), some (.inl v5), some (.inl v6), none, some (.inl v8), some (.inl v9), some (.inl v10), none] [.inl x50] (sh, g, h) 0 0
    refine s_if_eq (oe_t110 66 (q := (123, .ifCond .eq 150, 3)) rfl) (fun c51 => ?_) (fun c51 => ?_)
    · replace vc := vc.1 c51
      exact oe_V.fg (oe_M_mono _) (show oe_fg [some (.inr (.inl v0)), some (.inl v1), some (.inr (.inl v2)), some (.inl v3), some (.inl v4), some (.inl v5), some (.inl v6), none, some (.inl v8), some (.inl v9), some (.inl v10), none] _ from ⟨rfl, ⟨rfl, ⟨rfl, ⟨rfl, ⟨rfl, ⟨rfl, ⟨rfl, ⟨rfl, ⟨rfl, ⟨rfl, trivial⟩⟩⟩⟩⟩⟩⟩⟩⟩⟩) vc
    · replace vc := vc.2 c51
      refine s_aload_n (oe_t110 67 (q := (126, .aload_n 0, 1)) rfl) rfl ?_
      obtain ⟨s52, vc⟩ := vc
      obtain ⟨q53, p54, vc⟩ := vc
      refine s_getr (oe_t110 68 (q := (127, .getfield 3011, 3)) rfl) s52 rfl rfl p54 ?_
      refine s_iload (oe_t110 69 (q := (130, .iload 8, 2)) rfl) rfl ?_
      obtain ⟨n56, s55, vc⟩ := vc
      obtain ⟨i57, i58, vc⟩ := vc
      refine s_iaload (oe_t110 70 (q := (132, .iaload, 1)) rfl) s55 i57 i58 ?_
      refine s_istore (oe_t110 71 (q := (133, .istore 8, 2)) rfl) ?_
      refine s_aload_n (oe_t110 72 (q := (135, .aload_n 2, 1)) rfl) rfl ?_
      obtain ⟨s59, vc⟩ := vc
      obtain ⟨q60, p61, vc⟩ := vc
      refine s_getr (oe_t110 73 (q := (136, .getfield 3011, 3)) rfl) s59 rfl rfl p61 ?_
      refine s_iload (oe_t110 74 (q := (139, .iload 9, 2)) rfl) rfl ?_
      obtain ⟨n63, s62, vc⟩ := vc
      obtain ⟨i64, i65, vc⟩ := vc
      refine s_iaload (oe_t110 75 (q := (141, .iaload, 1)) rfl) s62 i64 i65 ?_
      refine s_istore (oe_t110 76 (q := (142, .istore 9, 2)) rfl) ?_
      obtain ⟨r66, vc⟩ := vc
      refine s_iinc (oe_t110 77 (q := (144, .iinc 10 1, 3)) rfl) rfl r66 ?_
      refine s_goto (oe_t110 78 (q := (147, .goto 104, 3)) rfl) ?_
      exact oe_V.fg (oe_M_mono _) (show oe_fg [some (.inr (.inl v0)), some (.inl v1), some (.inr (.inl v2)), some (.inl v3), some (.inl v4), some (.inl v5), some (.inl v6), none, some (.inl (h q53 (v8 : Int).toNat)), some (.inl (h q60 (v9 : Int).toNat)), some (.inl (v10 + 1)), none] _ from ⟨rfl, ⟨rfl, ⟨rfl, ⟨rfl, ⟨rfl, ⟨rfl, ⟨rfl, ⟨rfl, ⟨rfl, ⟨rfl, trivial⟩⟩⟩⟩⟩⟩⟩⟩⟩⟩) vc
theorem g110_253 {d : Nat} {sh : List (Nat × Nat)} {g : Nat → Nat → Option Nat} {h : Nat → Nat → Int} {Q : oeQ} {v0 : Nat} {v2 : Nat} {v3 : Int} {v4 : Int} {v5 : Int} {v7 : Int} {v8 : Int} {v11 : Int}
    (vc : (v7 ≠ 0 → (v7 = 0 ∨ v7 = 1) ∧ Q (some (.inl v7)) (sh, g, h)) ∧ (v7 = 0 → oe_M (d + 1) 17 [.inl v5] (sh, g, h) (fun r hp => ∃ (x69 : Int), r = some (.inl x69) ∧ hp = (sh, g, h) ∧ (x69 ≤ v11 → (v7 = 0 ∨ v7 = 1) ∧ Q (some (.inl v7)) (sh, g, h)) ∧ (v11 < x69 → oe_M (d + 1) 109 [.inr (.inl v0), .inl v8, .inr (.inl v2), .inl v3] (sh, g, h) (fun r hp => ∃ (x72 : Int), r = some (.inl x72) ∧ hp = (sh, g, h) ∧ (x72 ≠ 0 → Q (some (.inl 1)) (sh, g, h)) ∧ (x72 = 0 → oe_rg (v4 + 1) ∧ oe_M (d + 1) 110 [.inr (.inl v0), .inl v8, .inr (.inl v2), .inl v3, .inl (v4 + 1)] (sh, g, h) (fun r hp => ∃ (x75 : Int), r = some (.inl x75) ∧ hp = (sh, g, h) ∧ (x75 = 0 → sh[v0]? = some (8, 3) ∧ ∃ q78, g v0 1 = some q78 ∧ ∃ n81, sh[q78]? = some (0, n81) ∧ 0 ≤ v8 ∧ v8 < (n81 : Nat) ∧ oe_rg (v11 + 1) ∧ oe_V (oe_cost 110) 110 (oe_M (d + 1)) none Q 253 [some (.inr (.inl v0)), none, some (.inr (.inl v2)), some (.inl v3), some (.inl v4), some (.inl v5), none, some (.inl v7), some (.inl (h q78 (v8 : Int).toNat)), none, none, some (.inl (v11 + 1))] [] (sh, g, h) 0 0) ∧ (x75 ≠ 0 → Q (some (.inl 1)) (sh, g, h))))))))) :
    oe_V (oe_cost 110) 110 (oe_M (d + 1)) none Q 253 [some (.inr (.inl v0)), none, some (.inr (.inl v2)), some (.inl v3), some (.inl v4), some (.inl v5), none, some (.inl v7), some (.inl v8), none, none, some (.inl v11)] [] (sh, g, h) 0 0 := by
  refine s_iload (oe_t110 133 (q := (253, .iload 7, 2)) rfl) rfl ?_
  refine s_if_ne (oe_t110 134 (q := (255, .ifCond .ne 311, 3)) rfl) (fun c67 => ?_) (fun c67 => ?_)
  · replace vc := vc.1 c67
    refine s_iload (oe_t110 163 (q := (311, .iload 7, 2)) rfl) rfl ?_
    obtain ⟨b68, vc⟩ := vc
    exact s_iret (oe_t110 164 (q := (313, .ireturn, 1)) rfl) (Or.inr (Or.inl ⟨rfl, b68⟩)) vc
  · replace vc := vc.2 c67
    refine s_iload (oe_t110 135 (q := (258, .iload 11, 2)) rfl) rfl ?_
    refine s_iload (oe_t110 136 (q := (260, .iload 5, 2)) rfl) rfl ?_
    refine s_calls (oe_t110 137 (q := (262, .invokestatic 17001, 3)) rfl) (by decide) (Nat.le_of_ble_eq_true rfl) (Nat.le_of_ble_eq_true rfl) (Nat.le_of_ble_eq_true rfl) (Nat.le_of_ble_eq_true rfl) ?_
    refine oe_M_mono _ _ _ _ _ _ (fun r hp vq => ?_) vc
    obtain ⟨x69, rfl, rfl, vc⟩ := vq
    show oe_V (oe_cost 110) 110 (oe_M (d + 1)) none Q 265 [some (.inr (.inl v0)), none, some (.inr (.inl v2)), some (.inl v3), some (.inl v4), some (.inl v5), none, some (.inl v7), some (.inl v8), none, none, some (.inl v11)] [.inl x69, .inl v11] (sh, g, h) 0 0
    refine s_ic_ge (oe_t110 138 (q := (265, .if_icmp .ge 311, 3)) rfl) (fun c70 => ?_) (fun c70 => ?_)
    · replace vc := vc.1 c70
      refine s_iload (oe_t110 163 (q := (311, .iload 7, 2)) rfl) rfl ?_
      obtain ⟨b71, vc⟩ := vc
      exact s_iret (oe_t110 164 (q := (313, .ireturn, 1)) rfl) (Or.inr (Or.inl ⟨rfl, b71⟩)) vc
    · replace vc := vc.2 c70
      refine s_aload_n (oe_t110 139 (q := (268, .aload_n 0, 1)) rfl) rfl ?_
      refine s_iload (oe_t110 140 (q := (269, .iload 8, 2)) rfl) rfl ?_
      refine s_aload_n (oe_t110 141 (q := (271, .aload_n 2, 1)) rfl) rfl ?_
      refine s_iload_n (oe_t110 142 (q := (272, .iload_n 3, 1)) rfl) rfl ?_
      refine s_calls (oe_t110 143 (q := (273, .invokestatic 109034, 3)) rfl) (by decide) (Nat.le_of_ble_eq_true rfl) (Nat.le_of_ble_eq_true rfl) (Nat.le_of_ble_eq_true rfl) (Nat.le_of_ble_eq_true rfl) ?_
      refine oe_M_mono _ _ _ _ _ _ (fun r hp vq => ?_) vc
      obtain ⟨x72, rfl, rfl, vc⟩ := vq
      show oe_V (oe_cost 110) 110 (oe_M (d + 1)) none Q 276 [some (.inr (.inl v0)), none, some (.inr (.inl v2)), some (.inl v3), some (.inl v4), some (.inl v5), none, some (.inl v7), some (.inl v8), none, none, some (.inl v11)] [.inl x72] (sh, g, h) 0 0
      refine s_if_ne (oe_t110 144 (q := (276, .ifCond .ne 294, 3)) rfl) (fun c73 => ?_) (fun c73 => ?_)
      · replace vc := vc.1 c73
        refine s_iconst (oe_t110 154 (q := (294, .iconst 1, 1)) rfl) ?_
        exact s_iret (oe_t110 155 (q := (295, .ireturn, 1)) rfl) (Or.inr (Or.inl ⟨rfl, Or.inr rfl⟩)) vc
      · replace vc := vc.2 c73
        refine s_aload_n (oe_t110 145 (q := (279, .aload_n 0, 1)) rfl) rfl ?_
        refine s_iload (oe_t110 146 (q := (280, .iload 8, 2)) rfl) rfl ?_
        refine s_aload_n (oe_t110 147 (q := (282, .aload_n 2, 1)) rfl) rfl ?_
        refine s_iload_n (oe_t110 148 (q := (283, .iload_n 3, 1)) rfl) rfl ?_
        refine s_iload (oe_t110 149 (q := (284, .iload 4, 2)) rfl) rfl ?_
        refine s_iconst (oe_t110 150 (q := (286, .iconst 1, 1)) rfl) ?_
        obtain ⟨r74, vc⟩ := vc
        refine s_iadd (oe_t110 151 (q := (287, .iadd, 1)) rfl) r74 ?_
        refine s_calls (oe_t110 152 (q := (288, .invokestatic 110035, 3)) rfl) (by decide) (Nat.le_of_ble_eq_true rfl) (Nat.le_of_ble_eq_true rfl) (Nat.le_of_ble_eq_true rfl) (Nat.le_of_ble_eq_true rfl) ?_
        refine oe_M_mono _ _ _ _ _ _ (fun r hp vq => ?_) vc
        obtain ⟨x75, rfl, rfl, vc⟩ := vq
        show oe_V (oe_cost 110) 110 (oe_M (d + 1)) none Q 291 [some (.inr (.inl v0)), none, some (.inr (.inl v2)), some (.inl v3), some (.inl v4), some (.inl v5), none, some (.inl v7), some (.inl v8), none, none, some (.inl v11)] [.inl x75] (sh, g, h) 0 0
        refine s_if_eq (oe_t110 153 (q := (291, .ifCond .eq 296, 3)) rfl) (fun c76 => ?_) (fun c76 => ?_)
        · replace vc := vc.1 c76
          refine s_aload_n (oe_t110 156 (q := (296, .aload_n 0, 1)) rfl) rfl ?_
          obtain ⟨s77, vc⟩ := vc
          obtain ⟨q78, p79, vc⟩ := vc
          refine s_getr (oe_t110 157 (q := (297, .getfield 3011, 3)) rfl) s77 rfl rfl p79 ?_
          refine s_iload (oe_t110 158 (q := (300, .iload 8, 2)) rfl) rfl ?_
          obtain ⟨n81, s80, vc⟩ := vc
          obtain ⟨i82, i83, vc⟩ := vc
          refine s_iaload (oe_t110 159 (q := (302, .iaload, 1)) rfl) s80 i82 i83 ?_
          refine s_istore (oe_t110 160 (q := (303, .istore 8, 2)) rfl) ?_
          obtain ⟨r84, vc⟩ := vc
          refine s_iinc (oe_t110 161 (q := (305, .iinc 11 1, 3)) rfl) rfl r84 ?_
          refine s_goto (oe_t110 162 (q := (308, .goto 253, 3)) rfl) ?_
          exact oe_V.fg (oe_M_mono _) (show oe_fg [some (.inr (.inl v0)), none, some (.inr (.inl v2)), some (.inl v3), some (.inl v4), some (.inl v5), none, some (.inl v7), some (.inl (h q78 (v8 : Int).toNat)), none, none, some (.inl (v11 + 1))] _ from ⟨rfl, ⟨rfl, ⟨rfl, ⟨rfl, ⟨rfl, ⟨rfl, ⟨rfl, ⟨rfl, trivial⟩⟩⟩⟩⟩⟩⟩⟩) vc
        · replace vc := vc.2 c76
          refine s_iconst (oe_t110 154 (q := (294, .iconst 1, 1)) rfl) ?_
          exact s_iret (oe_t110 155 (q := (295, .ireturn, 1)) rfl) (Or.inr (Or.inl ⟨rfl, Or.inr rfl⟩)) vc
theorem g110_150 {d : Nat} {sh : List (Nat × Nat)} {g : Nat → Nat → Option Nat} {h : Nat → Nat → Int} {Q : oeQ} {v0 : Nat} {v1 : Int} {v2 : Nat} {v3 : Int} {v4 : Int} {v5 : Int} {v6 : Int} {v8 : Int} {v9 : Int} {v10 : Int}
    (vc : oe_M (d + 1) 17 [.inl v5] (sh, g, h) (fun r hp => ∃ (x85 : Int), r = some (.inl x85) ∧ hp = (sh, g, h) ∧ (v10 ≠ x85 → oe_rg (v4 + 1) ∧ oe_M (d + 1) 110 [.inr (.inl v0), .inl v8, .inr (.inl v2), .inl v9, .inl (v4 + 1)] (sh, g, h) (fun r hp => ∃ (x88 : Int), r = some (.inl x88) ∧ hp = (sh, g, h) ∧ sh[v0]? = some (8, 3) ∧ ∃ q90, g v0 1 = some q90 ∧ ∃ n93, sh[q90]? = some (0, n93) ∧ 0 ≤ v8 ∧ v8 < (n93 : Nat) ∧ sh[v2]? = some (8, 3) ∧ ∃ q97, g v2 1 = some q97 ∧ ∃ n100, sh[q97]? = some (0, n100) ∧ 0 ≤ v9 ∧ v9 < (n100 : Nat) ∧ oe_rg (v10 + 1) ∧ oe_V (oe_cost 110) 110 (oe_M (d + 1)) none Q 202 [some (.inr (.inl v0)), some (.inl v1), some (.inr (.inl v2)), some (.inl v3), some (.inl v4), some (.inl v5), some (.inl v6), some (.inl x88), some (.inl (h q90 (v8 : Int).toNat)), some (.inl (h q97 (v9 : Int).toNat)), some (.inl (v10 + 1)), some (.inl (v10 + 1))] [] (sh, g, h) 0 0)) ∧ (v10 = x85 → Q (some (.inl 0)) (sh, g, h)))) :
    oe_V (oe_cost 110) 110 (oe_M (d + 1)) none Q 150 [some (.inr (.inl v0)), some (.inl v1), some (.inr (.inl v2)), some (.inl v3), some (.inl v4), some (.inl v5), some (.inl v6), none, some (.inl v8), some (.inl v9), some (.inl v10), none] [] (sh, g, h) 0 0 := by
  refine s_iload (oe_t110 79 (q := (150, .iload 10, 2)) rfl) rfl ?_
  refine s_iload (oe_t110 80 (q := (152, .iload 5, 2)) rfl) rfl ?_
  refine s_calls (oe_t110 81 (q := (154, .invokestatic 17001, 3)) rfl) (by decide) (Nat.le_of_ble_eq_true rfl) (Nat.le_of_ble_eq_true rfl) (Nat.le_of_ble_eq_true rfl) (Nat.le_of_ble_eq_true rfl) ?_
  refine oe_M_mono _ _ _ _ _ _ (fun r hp vq => ?_) vc
  obtain ⟨x85, rfl, rfl, vc⟩ := vq
  show oe_V (oe_cost 110) 110 (oe_M (d + 1)) none Q 157 [some (.inr (.inl v0)), some (.inl v1), some (.inr (.inl v2)), some (.inl v3), some (.inl v4), some (.inl v5), some (.inl v6), none, some (.inl v8), some (.inl v9), some (.inl v10), none] [.inl x85, .inl v10] (sh, g, h) 0 0
  refine s_ic_ne (oe_t110 82 (q := (157, .if_icmp .ne 162, 3)) rfl) (fun c86 => ?_) (fun c86 => ?_)
  · replace vc := vc.1 c86
    refine s_aload_n (oe_t110 85 (q := (162, .aload_n 0, 1)) rfl) rfl ?_
    refine s_iload (oe_t110 86 (q := (163, .iload 8, 2)) rfl) rfl ?_
    refine s_aload_n (oe_t110 87 (q := (165, .aload_n 2, 1)) rfl) rfl ?_
    refine s_iload (oe_t110 88 (q := (166, .iload 9, 2)) rfl) rfl ?_
    refine s_iload (oe_t110 89 (q := (168, .iload 4, 2)) rfl) rfl ?_
    refine s_iconst (oe_t110 90 (q := (170, .iconst 1, 1)) rfl) ?_
    obtain ⟨r87, vc⟩ := vc
    refine s_iadd (oe_t110 91 (q := (171, .iadd, 1)) rfl) r87 ?_
    refine s_calls (oe_t110 92 (q := (172, .invokestatic 110035, 3)) rfl) (by decide) (Nat.le_of_ble_eq_true rfl) (Nat.le_of_ble_eq_true rfl) (Nat.le_of_ble_eq_true rfl) (Nat.le_of_ble_eq_true rfl) ?_
    refine oe_M_mono _ _ _ _ _ _ (fun r hp vq => ?_) vc
    obtain ⟨x88, rfl, rfl, vc⟩ := vq
    show oe_V (oe_cost 110) 110 (oe_M (d + 1)) none Q 175 [some (.inr (.inl v0)), some (.inl v1), some (.inr (.inl v2)), some (.inl v3), some (.inl v4), some (.inl v5), some (.inl v6), none, some (.inl v8), some (.inl v9), some (.inl v10), none] [.inl x88] (sh, g, h) 0 0
    refine s_istore (oe_t110 93 (q := (175, .istore 7, 2)) rfl) ?_
    refine s_aload_n (oe_t110 94 (q := (177, .aload_n 0, 1)) rfl) rfl ?_
    obtain ⟨s89, vc⟩ := vc
    obtain ⟨q90, p91, vc⟩ := vc
    refine s_getr (oe_t110 95 (q := (178, .getfield 3011, 3)) rfl) s89 rfl rfl p91 ?_
    refine s_iload (oe_t110 96 (q := (181, .iload 8, 2)) rfl) rfl ?_
    obtain ⟨n93, s92, vc⟩ := vc
    obtain ⟨i94, i95, vc⟩ := vc
    refine s_iaload (oe_t110 97 (q := (183, .iaload, 1)) rfl) s92 i94 i95 ?_
    refine s_istore (oe_t110 98 (q := (184, .istore 8, 2)) rfl) ?_
    refine s_aload_n (oe_t110 99 (q := (186, .aload_n 2, 1)) rfl) rfl ?_
    obtain ⟨s96, vc⟩ := vc
    obtain ⟨q97, p98, vc⟩ := vc
    refine s_getr (oe_t110 100 (q := (187, .getfield 3011, 3)) rfl) s96 rfl rfl p98 ?_
    refine s_iload (oe_t110 101 (q := (190, .iload 9, 2)) rfl) rfl ?_
    obtain ⟨n100, s99, vc⟩ := vc
    obtain ⟨i101, i102, vc⟩ := vc
    refine s_iaload (oe_t110 102 (q := (192, .iaload, 1)) rfl) s99 i101 i102 ?_
    refine s_istore (oe_t110 103 (q := (193, .istore 9, 2)) rfl) ?_
    obtain ⟨r103, vc⟩ := vc
    refine s_iinc (oe_t110 104 (q := (195, .iinc 10 1, 3)) rfl) rfl r103 ?_
    refine s_iload (oe_t110 105 (q := (198, .iload 10, 2)) rfl) rfl ?_
    refine s_istore (oe_t110 106 (q := (200, .istore 11, 2)) rfl) ?_
    exact oe_V.fg (oe_M_mono _) (show oe_fg [some (.inr (.inl v0)), some (.inl v1), some (.inr (.inl v2)), some (.inl v3), some (.inl v4), some (.inl v5), some (.inl v6), some (.inl x88), some (.inl (h q90 (v8 : Int).toNat)), some (.inl (h q97 (v9 : Int).toNat)), some (.inl (v10 + 1)), some (.inl (v10 + 1))] _ from ⟨rfl, ⟨rfl, ⟨rfl, ⟨rfl, ⟨rfl, ⟨rfl, ⟨rfl, ⟨rfl, ⟨rfl, ⟨rfl, ⟨rfl, ⟨rfl, trivial⟩⟩⟩⟩⟩⟩⟩⟩⟩⟩⟩⟩) vc
  · replace vc := vc.2 c86
    refine s_iconst (oe_t110 83 (q := (160, .iconst 0, 1)) rfl) ?_
    exact s_iret (oe_t110 84 (q := (161, .ireturn, 1)) rfl) (Or.inr (Or.inl ⟨rfl, Or.inl rfl⟩)) vc
theorem oe_u112 : oe_c112.all (fun q => decide (oe_find oe_c112 q.1 = some q.2)) = true := by decide +kernel
theorem oe_t112 (k : Nat) {q : Nat × Jvm.ClassFile.Instr × Nat} (h : oe_c112[k]? = some q) : oe_find (oe_code 112) q.1 = some q.2 := oe_ft oe_u112 h
theorem g112 {d : Nat} {sh : List (Nat × Nat)} {g : Nat → Nat → Option Nat} {h : Nat → Nat → Int} {Q : oeQ} {v0 : Nat} {v1 : Nat} {v2 : Int} {v3 : Nat} {v4 : Int} {v5 : Int}
    (vc : sh[v3]? = some (7, 2) ∧ oe_M (d + 1) 93 [.inr (.inl v3), .inl v4] (sh, g, h) (fun r hp => ∃ (q1 : Nat), r = some (.inr (.inl q1)) ∧ hp = (sh, g, h) ∧ sh[q1]? = some (8, 3) ∧ ∃ q4, g q1 0 = some q4 ∧ ∃ n7, sh[q4]? = some (0, n7) ∧ 0 ≤ v5 ∧ v5 < (n7 : Nat) ∧ ((h q4 (v5 : Int).toNat) < 12 → Q (some (.inl 0)) (sh, g, h)) ∧ (12 ≤ (h q4 (v5 : Int).toNat) → sh[v0]? = some (9, 3) ∧ ∃ q12, g v0 0 = some q12 ∧ sh[q12]? = some (10, 8) ∧ oe_M (d + 1) 115 [.inr (.inl q12)] (sh, g, h) (fun r hp => ∃ (h14 : Nat → Nat → Int), r = none ∧ hp = (sh, g, h14) ∧ sh[v1]? = some (7, 2) ∧ oe_M (d + 1) 93 [.inr (.inl v1), .inl v2] (sh, g, h14) (fun r hp => ∃ (q16 : Nat), r = some (.inr (.inl q16)) ∧ hp = (sh, g, h14) ∧ oe_M (d + 1) 116 [.inr (.inl q12), .inr (.inl q16), .inl 0] (sh, g, h14) (fun r hp => ∃ (x19 : Int) (h18 : Nat → Nat → Int), r = some (.inl x19) ∧ hp = (sh, g, h18) ∧ oe_rg (1 - v2) ∧ oe_M (d + 1) 93 [.inr (.inl v1), .inl (1 - v2)] (sh, g, h18) (fun r hp => ∃ (q21 : Nat), r = some (.inr (.inl q21)) ∧ hp = (sh, g, h18) ∧ oe_M (d + 1) 116 [.inr (.inl q12), .inr (.inl q21), .inl 0] (sh, g, h18) (fun r hp => ∃ (x23 : Int) (h22 : Nat → Nat → Int), r = some (.inl x23) ∧ hp = (sh, g, h22) ∧ oe_M (d + 1) 93 [.inr (.inl v3), .inl v4] (sh, g, h22) (fun r hp => ∃ (q24 : Nat), r = some (.inr (.inl q24)) ∧ hp = (sh, g, h22) ∧ oe_M (d + 1) 116 [.inr (.inl q12), .inr (.inl q24), .inl 6] (sh, g, h22) (fun r hp => ∃ (x26 : Int) (h25 : Nat → Nat → Int), r = some (.inl x26) ∧ hp = (sh, g, h25) ∧ oe_rg (1 - v4) ∧ oe_M (d + 1) 93 [.inr (.inl v3), .inl (1 - v4)] (sh, g, h25) (fun r hp => ∃ (q28 : Nat), r = some (.inr (.inl q28)) ∧ hp = (sh, g, h25) ∧ oe_M (d + 1) 116 [.inr (.inl q12), .inr (.inl q28), .inl 6] (sh, g, h25) (fun r hp => ∃ (x30 : Int) (h29 : Nat → Nat → Int), r = some (.inl x30) ∧ hp = (sh, g, h29) ∧ oe_rg (x26 + v5) ∧ oe_M (d + 1) 117 [.inr (.inl q12), .inl (x26 + v5), .inl x19] (sh, g, h29) (fun r hp => ∃ (x33 : Int) (h32 : Nat → Nat → Int), r = some (.inl x33) ∧ hp = (sh, g, h32) ∧ (x33 ≠ 0 → ∃ q35, g v0 2 = some q35 ∧ sh[q35]? = some (7, 2) ∧ ∃ q38, g q35 0 = some q38 ∧ oe_M (d + 1) 123 [.inr (.inl q12), .inl x19, .inr (.inl q38), .inl 30] (sh, g, h32) (fun r hp => ∃ (x41 : Int) (h40 : Nat → Nat → Int), r = some (.inl x41) ∧ hp = (sh, g, h40) ∧ (x41 = 0 → Q (some (.inl 1)) (sh, g, h40)) ∧ (x41 ≠ 0 → ∃ q43, g q35 1 = some q43 ∧ oe_M (d + 1) 123 [.inr (.inl q12), .inl x23, .inr (.inl q43), .inl 30] (sh, g, h40) (fun r hp => ∃ (x46 : Int) (h45 : Nat → Nat → Int), r = some (.inl x46) ∧ hp = (sh, g, h45) ∧ (x46 = 0 → Q (some (.inl 1)) (sh, g, h45)) ∧ (x46 ≠ 0 → ∃ q48, g v0 1 = some q48 ∧ sh[q48]? = some (7, 2) ∧ ∃ q51, g q48 0 = some q51 ∧ oe_M (d + 1) 123 [.inr (.inl q12), .inl x26, .inr (.inl q51), .inl 30] (sh, g, h45) (fun r hp => ∃ (x54 : Int) (h53 : Nat → Nat → Int), r = some (.inl x54) ∧ hp = (sh, g, h53) ∧ (x54 = 0 → Q (some (.inl 1)) (sh, g, h53)) ∧ (x54 ≠ 0 → ∃ q56, g q48 1 = some q56 ∧ oe_M (d + 1) 123 [.inr (.inl q12), .inl x30, .inr (.inl q56), .inl 30] (sh, g, h53) (fun r hp => ∃ (x59 : Int) (h58 : Nat → Nat → Int), r = some (.inl x59) ∧ hp = (sh, g, h58) ∧ (x59 ≠ 0 → oe_M (d + 1) 113 [.inr (.inl v0), .inr (.inl q35)] (sh, g, h58) (fun r hp => ∃ (x61 : Int), r = some (.inl x61) ∧ hp = (sh, g, h58) ∧ (x61 ≠ 0 → Q (some (.inl 0)) (sh, g, h58)) ∧ (x61 = 0 → oe_M (d + 1) 113 [.inr (.inl v0), .inr (.inl q48)] (sh, g, h58) (fun r hp => ∃ (x63 : Int), r = some (.inl x63) ∧ hp = (sh, g, h58) ∧ (x63 = 0 → sh[q51]? = some (8, 3) ∧ sh[q38]? = some (8, 3) ∧ oe_rg ((h58 q51 2) - (h58 q38 2)) ∧ sh[q43]? = some (8, 3) ∧ oe_rg (((h58 q51 2) - (h58 q38 2)) + (h58 q43 2)) ∧ ((((h58 q51 2) - (h58 q38 2)) + (h58 q43 2)) ≤ 30 → oe_rg (x26 + v5) ∧ oe_M (d + 1) 122 [.inr (.inl q12), .inl x26, .inl (x26 + v5)] (sh, g, h58) (fun r hp => ∃ (x73 : Int) (h72 : Nat → Nat → Int), r = some (.inl x73) ∧ hp = (sh, g, h72) ∧ oe_M (d + 1) 105 [.inr (.inl q51), .inl x73, .inr (.inl q43)] (sh, g, h72) (fun r hp => ∃ (h74 : Nat → Nat → Int), r = none ∧ hp = (sh, g, h74) ∧ Q (some (.inl 2)) (sh, g, h74)))) ∧ (30 < (((h58 q51 2) - (h58 q38 2)) + (h58 q43 2)) → Q (some (.inl 1)) (sh, g, h58))) ∧ (x63 ≠ 0 → Q (some (.inl 0)) (sh, g, h58)))))) ∧ (x59 = 0 → Q (some (.inl 1)) (sh, g, h58)))))))))) ∧ (x33 = 0 → Q (some (.inl 0)) (sh, g, h32))))))))))))))) :
    oe_M (d + 2) 112 [.inr (.inl v0), .inr (.inl v1), .inl v2, .inr (.inl v3), .inl v4, .inl v5] (sh, g, h) Q := by
  refine oe_M.of (by simp [oe_c1]) (Nat.le_of_ble_eq_true rfl) ?_
  show oe_V (oe_cost 112) 112 (oe_M (d + 1)) none Q 0 [some (.inr (.inl v0)), some (.inr (.inl v1)), some (.inl v2), some (.inr (.inl v3)), some (.inl v4), some (.inl v5), none, none, none, none] [] (sh, g, h) 0 0
  refine s_aload_n (oe_t112 0 (q := (0, .aload_n 3, 1)) rfl) rfl ?_
  refine s_iload (oe_t112 1 (q := (1, .iload 4, 2)) rfl) rfl ?_
  obtain ⟨s2, vc⟩ := vc
  refine s_callv (oe_t112 2 (q := (3, .invokevirtual 93021, 3)) rfl) rfl s2 rfl (Nat.le_of_ble_eq_true rfl) (Nat.le_of_ble_eq_true rfl) (Nat.le_of_ble_eq_true rfl) (Nat.le_of_ble_eq_true rfl) ?_
  refine oe_M_mono _ _ _ _ _ _ (fun r hp vq => ?_) vc
  obtain ⟨q1, rfl, rfl, vc⟩ := vq
  show oe_V (oe_cost 112) 112 (oe_M (d + 1)) none Q 6 [some (.inr (.inl v0)), some (.inr (.inl v1)), some (.inl v2), some (.inr (.inl v3)), some (.inl v4), some (.inl v5), none, none, none, none] [.inr (.inl q1)] (sh, g, h) 0 0
  obtain ⟨s3, vc⟩ := vc
  obtain ⟨q4, p5, vc⟩ := vc
  refine s_getr (oe_t112 3 (q := (6, .getfield 3001, 3)) rfl) s3 rfl rfl p5 ?_
  refine s_iload (oe_t112 4 (q := (9, .iload 5, 2)) rfl) rfl ?_
  obtain ⟨n7, s6, vc⟩ := vc
  obtain ⟨i8, i9, vc⟩ := vc
  refine s_iaload (oe_t112 5 (q := (11, .iaload, 1)) rfl) s6 i8 i9 ?_
  refine s_calls (oe_t112 6 (q := (12, .invokestatic 16001, 3)) rfl) (by decide) (Nat.le_of_ble_eq_true rfl) (Nat.le_of_ble_eq_true rfl) (Nat.le_of_ble_eq_true rfl) (Nat.le_of_ble_eq_true rfl) (sp_16 (fun c10 => ?_) (fun c10 => ?_))
  · replace vc := vc.1 c10
    show oe_V (oe_cost 112) 112 (oe_M (d + 1)) none Q 15 [some (.inr (.inl v0)), some (.inr (.inl v1)), some (.inl v2), some (.inr (.inl v3)), some (.inl v4), some (.inl v5), none, none, none, none] [.inl 1] (sh, g, h) 0 0
    refine s_if_eq (oe_t112 7 (q := (15, .ifCond .eq 20, 3)) rfl) (fun q => absurd q (by decide)) (fun _ => ?_)
    refine s_iconst (oe_t112 8 (q := (18, .iconst 0, 1)) rfl) ?_
    exact s_iret (oe_t112 9 (q := (19, .ireturn, 1)) rfl) (Or.inl rfl) vc
  · replace vc := vc.2 c10
    show oe_V (oe_cost 112) 112 (oe_M (d + 1)) none Q 15 [some (.inr (.inl v0)), some (.inr (.inl v1)), some (.inl v2), some (.inr (.inl v3)), some (.inl v4), some (.inl v5), none, none, none, none] [.inl 0] (sh, g, h) 0 0
    refine s_if_eq (oe_t112 7 (q := (15, .ifCond .eq 20, 3)) rfl) (fun _ => ?_) (fun q => absurd q (by decide))
    refine s_aload_n (oe_t112 10 (q := (20, .aload_n 0, 1)) rfl) rfl ?_
    obtain ⟨s11, vc⟩ := vc
    obtain ⟨q12, p13, vc⟩ := vc
    refine s_getr (oe_t112 11 (q := (21, .getfield 4001, 3)) rfl) s11 rfl rfl p13 ?_
    obtain ⟨s15, vc⟩ := vc
    refine s_callv (oe_t112 12 (q := (24, .invokevirtual 115050, 3)) rfl) rfl s15 rfl (Nat.le_of_ble_eq_true rfl) (Nat.le_of_ble_eq_true rfl) (Nat.le_of_ble_eq_true rfl) (Nat.le_of_ble_eq_true rfl) ?_
    refine oe_M_mono _ _ _ _ _ _ (fun r hp vq => ?_) vc
    obtain ⟨h14, rfl, rfl, vc⟩ := vq
    show oe_V (oe_cost 112) 112 (oe_M (d + 1)) none Q 27 [some (.inr (.inl v0)), some (.inr (.inl v1)), some (.inl v2), some (.inr (.inl v3)), some (.inl v4), some (.inl v5), none, none, none, none] [] (sh, g, h14) 0 0
    refine s_aload_n (oe_t112 13 (q := (27, .aload_n 0, 1)) rfl) rfl ?_
    refine s_getr (oe_t112 14 (q := (28, .getfield 4001, 3)) rfl) s11 rfl rfl p13 ?_
    refine s_aload_n (oe_t112 15 (q := (31, .aload_n 1, 1)) rfl) rfl ?_
    refine s_iload_n (oe_t112 16 (q := (32, .iload_n 2, 1)) rfl) rfl ?_
    obtain ⟨s17, vc⟩ := vc
    refine s_callv (oe_t112 17 (q := (33, .invokevirtual 93021, 3)) rfl) rfl s17 rfl (Nat.le_of_ble_eq_true rfl) (Nat.le_of_ble_eq_true rfl) (Nat.le_of_ble_eq_true rfl) (Nat.le_of_ble_eq_true rfl) ?_
    refine oe_M_mono _ _ _ _ _ _ (fun r hp vq => ?_) vc
    obtain ⟨q16, rfl, rfl, vc⟩ := vq
    show oe_V (oe_cost 112) 112 (oe_M (d + 1)) none Q 36 [some (.inr (.inl v0)), some (.inr (.inl v1)), some (.inl v2), some (.inr (.inl v3)), some (.inl v4), some (.inl v5), none, none, none, none] [.inr (.inl q16), .inr (.inl q12)] (sh, g, h14) 0 0
    refine s_iconst (oe_t112 18 (q := (36, .iconst 0, 1)) rfl) ?_
    refine s_callv (oe_t112 19 (q := (37, .invokevirtual 116052, 3)) rfl) rfl s15 rfl (Nat.le_of_ble_eq_true rfl) (Nat.le_of_ble_eq_true rfl) (Nat.le_of_ble_eq_true rfl) (Nat.le_of_ble_eq_true rfl) ?_
    refine oe_M_mono _ _ _ _ _ _ (fun r hp vq => ?_) vc
    obtain ⟨x19, h18, rfl, rfl, vc⟩ := vq
    show oe_V (oe_cost 112) 112 (oe_M (d + 1)) none Q 40 [some (.inr (.inl v0)), some (.inr (.inl v1)), some (.inl v2), some (.inr (.inl v3)), some (.inl v4), some (.inl v5), none, none, none, none] [.inl x19] (sh, g, h18) 0 0
    refine s_istore (oe_t112 20 (q := (40, .istore 6, 2)) rfl) ?_
    refine s_aload_n (oe_t112 21 (q := (42, .aload_n 0, 1)) rfl) rfl ?_
    refine s_getr (oe_t112 22 (q := (43, .getfield 4001, 3)) rfl) s11 rfl rfl p13 ?_
    refine s_aload_n (oe_t112 23 (q := (46, .aload_n 1, 1)) rfl) rfl ?_
    refine s_iconst (oe_t112 24 (q := (47, .iconst 1, 1)) rfl) ?_
    refine s_iload_n (oe_t112 25 (q := (48, .iload_n 2, 1)) rfl) rfl ?_
    obtain ⟨r20, vc⟩ := vc
    refine s_isub (oe_t112 26 (q := (49, .isub, 1)) rfl) r20 ?_
    refine s_callv (oe_t112 27 (q := (50, .invokevirtual 93021, 3)) rfl) rfl s17 rfl (Nat.le_of_ble_eq_true rfl) (Nat.le_of_ble_eq_true rfl) (Nat.le_of_ble_eq_true rfl) (Nat.le_of_ble_eq_true rfl) ?_
    refine oe_M_mono _ _ _ _ _ _ (fun r hp vq => ?_) vc
    obtain ⟨q21, rfl, rfl, vc⟩ := vq
    show oe_V (oe_cost 112) 112 (oe_M (d + 1)) none Q 53 [some (.inr (.inl v0)), some (.inr (.inl v1)), some (.inl v2), some (.inr (.inl v3)), some (.inl v4), some (.inl v5), some (.inl x19), none, none, none] [.inr (.inl q21), .inr (.inl q12)] (sh, g, h18) 0 0
    refine s_iconst (oe_t112 28 (q := (53, .iconst 0, 1)) rfl) ?_
    refine s_callv (oe_t112 29 (q := (54, .invokevirtual 116052, 3)) rfl) rfl s15 rfl (Nat.le_of_ble_eq_true rfl) (Nat.le_of_ble_eq_true rfl) (Nat.le_of_ble_eq_true rfl) (Nat.le_of_ble_eq_true rfl) ?_
    refine oe_M_mono _ _ _ _ _ _ (fun r hp vq => ?_) vc
    obtain ⟨x23, h22, rfl, rfl, vc⟩ := vq
    show oe_V (oe_cost 112) 112 (oe_M (d + 1)) none Q 57 [some (.inr (.inl v0)), some (.inr (.inl v1)), some (.inl v2), some (.inr (.inl v3)), some (.inl v4), some (.inl v5), some (.inl x19), none, none, none] [.inl x23] (sh, g, h22) 0 0
    refine s_istore (oe_t112 30 (q := (57, .istore 7, 2)) rfl) ?_
    refine s_aload_n (oe_t112 31 (q := (59, .aload_n 0, 1)) rfl) rfl ?_
    refine s_getr (oe_t112 32 (q := (60, .getfield 4001, 3)) rfl) s11 rfl rfl p13 ?_
    refine s_aload_n (oe_t112 33 (q := (63, .aload_n 3, 1)) rfl) rfl ?_
    refine s_iload (oe_t112 34 (q := (64, .iload 4, 2)) rfl) rfl ?_
    refine s_callv (oe_t112 35 (q := (66, .invokevirtual 93021, 3)) rfl) rfl s2 rfl (Nat.le_of_ble_eq_true rfl) (Nat.le_of_ble_eq_true rfl) (Nat.le_of_ble_eq_true rfl) (Nat.le_of_ble_eq_true rfl) ?_
    refine oe_M_mono _ _ _ _ _ _ (fun r hp vq => ?_) vc
    obtain ⟨q24, rfl, rfl, vc⟩ := vq
    show oe_V (oe_cost 112) 112 (oe_M (d + 1)) none Q 69 [some (.inr (.inl v0)), some (.inr (.inl v1)), some (.inl v2), some (.inr (.inl v3)), some (.inl v4), some (.inl v5), some (.inl x19), some (.inl x23), none, none] [.inr (.inl q24), .inr (.inl q12)] (sh, g, h22) 0 0
    refine s_bipush (oe_t112 36 (q := (69, .bipush 6, 2)) rfl) ?_
    refine s_callv (oe_t112 37 (q := (71, .invokevirtual 116052, 3)) rfl) rfl s15 rfl (Nat.le_of_ble_eq_true rfl) (Nat.le_of_ble_eq_true rfl) (Nat.le_of_ble_eq_true rfl) (Nat.le_of_ble_eq_true rfl) ?_
    refine oe_M_mono _ _ _ _ _ _ (fun r hp vq => ?_) vc
    obtain ⟨x26, h25, rfl, rfl, vc⟩ := vq
    show oe_V (oe_cost 112) 112 (oe_M (d + 1)) none Q 74 [some (.inr (.inl v0)), some (.inr (.inl v1)), some (.inl v2), some (.inr (.inl v3)), some (.inl v4), some (.inl v5), some (.inl x19), some (.inl x23), none, none] [.inl x26] (sh, g, h25) 0 0
    refine s_istore (oe_t112 38 (q := (74, .istore 8, 2)) rfl) ?_
    refine s_aload_n (oe_t112 39 (q := (76, .aload_n 0, 1)) rfl) rfl ?_
    refine s_getr (oe_t112 40 (q := (77, .getfield 4001, 3)) rfl) s11 rfl rfl p13 ?_
    refine s_aload_n (oe_t112 41 (q := (80, .aload_n 3, 1)) rfl) rfl ?_
    refine s_iconst (oe_t112 42 (q := (81, .iconst 1, 1)) rfl) ?_
    refine s_iload (oe_t112 43 (q := (82, .iload 4, 2)) rfl) rfl ?_
    obtain ⟨r27, vc⟩ := vc
    refine s_isub (oe_t112 44 (q := (84, .isub, 1)) rfl) r27 ?_
    refine s_callv (oe_t112 45 (q := (85, .invokevirtual 93021, 3)) rfl) rfl s2 rfl (Nat.le_of_ble_eq_true rfl) (Nat.le_of_ble_eq_true rfl) (Nat.le_of_ble_eq_true rfl) (Nat.le_of_ble_eq_true rfl) ?_
    refine oe_M_mono _ _ _ _ _ _ (fun r hp vq => ?_) vc
    obtain ⟨q28, rfl, rfl, vc⟩ := vq
    show oe_V (oe_cost 112) 112 (oe_M (d + 1)) none Q 88 [some (.inr (.inl v0)), some (.inr (.inl v1)), some (.inl v2), some (.inr (.inl v3)), some (.inl v4), some (.inl v5), some (.inl x19), some (.inl x23), some (.inl x26), none] [.inr (.inl q28), .inr (.inl q12)] (sh, g, h25) 0 0
    refine s_bipush (oe_t112 46 (q := (88, .bipush 6, 2)) rfl) ?_
    refine s_callv (oe_t112 47 (q := (90, .invokevirtual 116052, 3)) rfl) rfl s15 rfl (Nat.le_of_ble_eq_true rfl) (Nat.le_of_ble_eq_true rfl) (Nat.le_of_ble_eq_true rfl) (Nat.le_of_ble_eq_true rfl) ?_
    refine oe_M_mono _ _ _ _ _ _ (fun r hp vq => ?_) vc
    obtain ⟨x30, h29, rfl, rfl, vc⟩ := vq
    show oe_V (oe_cost 112) 112 (oe_M (d + 1)) none Q 93 [some (.inr (.inl v0)), some (.inr (.inl v1)), some (.inl v2), some (.inr (.inl v3)), some (.inl v4), some (.inl v5), some (.inl x19), some (.inl x23), some (.inl x26), none] [.inl x30] (sh, g, h29) 0 0
    refine s_istore (oe_t112 48 (q := (93, .istore 9, 2)) rfl) ?_
    refine s_aload_n (oe_t112 49 (q := (95, .aload_n 0, 1)) rfl) rfl ?_
    refine s_getr (oe_t112 50 (q := (96, .getfield 4001, 3)) rfl) s11 rfl rfl p13 ?_
    refine s_iload (oe_t112 51 (q := (99, .iload 8, 2)) rfl) rfl ?_
    refine s_iload (oe_t112 52 (q := (101, .iload 5, 2)) rfl) rfl ?_
    obtain ⟨r31, vc⟩ := vc
    refine s_iadd (oe_t112 53 (q := (103, .iadd, 1)) rfl) r31 ?_
    refine s_iload (oe_t112 54 (q := (104, .iload 6, 2)) rfl) rfl ?_
    refine s_callv (oe_t112 55 (q := (106, .invokevirtual 117052, 3)) rfl) rfl s15 rfl (Nat.le_of_ble_eq_true rfl) (Nat.le_of_ble_eq_true rfl) (Nat.le_of_ble_eq_true rfl) (Nat.le_of_ble_eq_true rfl) ?_
    refine oe_M_mono _ _ _ _ _ _ (fun r hp vq => ?_) vc
    obtain ⟨x33, h32, rfl, rfl, vc⟩ := vq
    show oe_V (oe_cost 112) 112 (oe_M (d + 1)) none Q 109 [some (.inr (.inl v0)), some (.inr (.inl v1)), some (.inl v2), some (.inr (.inl v3)), some (.inl v4), some (.inl v5), some (.inl x19), some (.inl x23), some (.inl x26), some (.inl x30)] [.inl x33] (sh, g, h32) 0 0
    refine s_if_ne (oe_t112 56 (q := (109, .ifCond .ne 114, 3)) rfl) (fun c34 => ?_) (fun c34 => ?_)
    · replace vc := vc.1 c34
      refine s_aload_n (oe_t112 59 (q := (114, .aload_n 0, 1)) rfl) rfl ?_
      refine s_getr (oe_t112 60 (q := (115, .getfield 4001, 3)) rfl) s11 rfl rfl p13 ?_
      refine s_iload (oe_t112 61 (q := (118, .iload 6, 2)) rfl) rfl ?_
      refine s_aload_n (oe_t112 62 (q := (120, .aload_n 0, 1)) rfl) rfl ?_
      obtain ⟨q35, p36, vc⟩ := vc
      refine s_getr (oe_t112 63 (q := (121, .getfield 4021, 3)) rfl) s11 rfl rfl p36 ?_
      obtain ⟨s37, vc⟩ := vc
      obtain ⟨q38, p39, vc⟩ := vc
      refine s_getr (oe_t112 64 (q := (124, .getfield 2001, 3)) rfl) s37 rfl rfl p39 ?_
      refine s_bipush (oe_t112 65 (q := (127, .bipush 30, 2)) rfl) ?_
      refine s_callv (oe_t112 66 (q := (129, .invokevirtual 123053, 3)) rfl) rfl s15 rfl (Nat.le_of_ble_eq_true rfl) (Nat.le_of_ble_eq_true rfl) (Nat.le_of_ble_eq_true rfl) (Nat.le_of_ble_eq_true rfl) ?_
      refine oe_M_mono _ _ _ _ _ _ (fun r hp vq => ?_) vc
      obtain ⟨x41, h40, rfl, rfl, vc⟩ := vq
      show oe_V (oe_cost 112) 112 (oe_M (d + 1)) none Q 132 [some (.inr (.inl v0)), some (.inr (.inl v1)), some (.inl v2), some (.inr (.inl v3)), some (.inl v4), some (.inl v5), some (.inl x19), some (.inl x23), some (.inl x26), some (.inl x30)] [.inl x41] (sh, g, h40) 0 0
      refine s_if_eq (oe_t112 67 (q := (132, .ifCond .eq 198, 3)) rfl) (fun c42 => ?_) (fun c42 => ?_)
      · replace vc := vc.1 c42
        refine s_iconst (oe_t112 95 (q := (198, .iconst 1, 1)) rfl) ?_
        exact s_iret (oe_t112 96 (q := (199, .ireturn, 1)) rfl) (Or.inl rfl) vc
      · replace vc := vc.2 c42
        refine s_aload_n (oe_t112 68 (q := (135, .aload_n 0, 1)) rfl) rfl ?_
        refine s_getr (oe_t112 69 (q := (136, .getfield 4001, 3)) rfl) s11 rfl rfl p13 ?_
        refine s_iload (oe_t112 70 (q := (139, .iload 7, 2)) rfl) rfl ?_
        refine s_aload_n (oe_t112 71 (q := (141, .aload_n 0, 1)) rfl) rfl ?_
        refine s_getr (oe_t112 72 (q := (142, .getfield 4021, 3)) rfl) s11 rfl rfl p36 ?_
        obtain ⟨q43, p44, vc⟩ := vc
        refine s_getr (oe_t112 73 (q := (145, .getfield 2011, 3)) rfl) s37 rfl rfl p44 ?_
        refine s_bipush (oe_t112 74 (q := (148, .bipush 30, 2)) rfl) ?_
        refine s_callv (oe_t112 75 (q := (150, .invokevirtual 123053, 3)) rfl) rfl s15 rfl (Nat.le_of_ble_eq_true rfl) (Nat.le_of_ble_eq_true rfl) (Nat.le_of_ble_eq_true rfl) (Nat.le_of_ble_eq_true rfl) ?_
        refine oe_M_mono _ _ _ _ _ _ (fun r hp vq => ?_) vc
        obtain ⟨x46, h45, rfl, rfl, vc⟩ := vq
        show oe_V (oe_cost 112) 112 (oe_M (d + 1)) none Q 153 [some (.inr (.inl v0)), some (.inr (.inl v1)), some (.inl v2), some (.inr (.inl v3)), some (.inl v4), some (.inl v5), some (.inl x19), some (.inl x23), some (.inl x26), some (.inl x30)] [.inl x46] (sh, g, h45) 0 0
        refine s_if_eq (oe_t112 76 (q := (153, .ifCond .eq 198, 3)) rfl) (fun c47 => ?_) (fun c47 => ?_)
        · replace vc := vc.1 c47
          refine s_iconst (oe_t112 95 (q := (198, .iconst 1, 1)) rfl) ?_
          exact s_iret (oe_t112 96 (q := (199, .ireturn, 1)) rfl) (Or.inl rfl) vc
        · replace vc := vc.2 c47
          refine s_aload_n (oe_t112 77 (q := (156, .aload_n 0, 1)) rfl) rfl ?_
          refine s_getr (oe_t112 78 (q := (157, .getfield 4001, 3)) rfl) s11 rfl rfl p13 ?_
          refine s_iload (oe_t112 79 (q := (160, .iload 8, 2)) rfl) rfl ?_
          refine s_aload_n (oe_t112 80 (q := (162, .aload_n 0, 1)) rfl) rfl ?_
          obtain ⟨q48, p49, vc⟩ := vc
          refine s_getr (oe_t112 81 (q := (163, .getfield 4011, 3)) rfl) s11 rfl rfl p49 ?_
          obtain ⟨s50, vc⟩ := vc
          obtain ⟨q51, p52, vc⟩ := vc
          refine s_getr (oe_t112 82 (q := (166, .getfield 2001, 3)) rfl) s50 rfl rfl p52 ?_
          refine s_bipush (oe_t112 83 (q := (169, .bipush 30, 2)) rfl) ?_
          refine s_callv (oe_t112 84 (q := (171, .invokevirtual 123053, 3)) rfl) rfl s15 rfl (Nat.le_of_ble_eq_true rfl) (Nat.le_of_ble_eq_true rfl) (Nat.le_of_ble_eq_true rfl) (Nat.le_of_ble_eq_true rfl) ?_
          refine oe_M_mono _ _ _ _ _ _ (fun r hp vq => ?_) vc
          obtain ⟨x54, h53, rfl, rfl, vc⟩ := vq
          show oe_V (oe_cost 112) 112 (oe_M (d + 1)) none Q 174 [some (.inr (.inl v0)), some (.inr (.inl v1)), some (.inl v2), some (.inr (.inl v3)), some (.inl v4), some (.inl v5), some (.inl x19), some (.inl x23), some (.inl x26), some (.inl x30)] [.inl x54] (sh, g, h53) 0 0
          refine s_if_eq (oe_t112 85 (q := (174, .ifCond .eq 198, 3)) rfl) (fun c55 => ?_) (fun c55 => ?_)
          · replace vc := vc.1 c55
            refine s_iconst (oe_t112 95 (q := (198, .iconst 1, 1)) rfl) ?_
            exact s_iret (oe_t112 96 (q := (199, .ireturn, 1)) rfl) (Or.inl rfl) vc
          · replace vc := vc.2 c55
            refine s_aload_n (oe_t112 86 (q := (177, .aload_n 0, 1)) rfl) rfl ?_
            refine s_getr (oe_t112 87 (q := (178, .getfield 4001, 3)) rfl) s11 rfl rfl p13 ?_
            refine s_iload (oe_t112 88 (q := (181, .iload 9, 2)) rfl) rfl ?_
            refine s_aload_n (oe_t112 89 (q := (183, .aload_n 0, 1)) rfl) rfl ?_
            refine s_getr (oe_t112 90 (q := (184, .getfield 4011, 3)) rfl) s11 rfl rfl p49 ?_
            obtain ⟨q56, p57, vc⟩ := vc
            refine s_getr (oe_t112 91 (q := (187, .getfield 2011, 3)) rfl) s50 rfl rfl p57 ?_
            refine s_bipush (oe_t112 92 (q := (190, .bipush 30, 2)) rfl) ?_
            refine s_callv (oe_t112 93 (q := (192, .invokevirtual 123053, 3)) rfl) rfl s15 rfl (Nat.le_of_ble_eq_true rfl) (Nat.le_of_ble_eq_true rfl) (Nat.le_of_ble_eq_true rfl) (Nat.le_of_ble_eq_true rfl) ?_
            refine oe_M_mono _ _ _ _ _ _ (fun r hp vq => ?_) vc
            obtain ⟨x59, h58, rfl, rfl, vc⟩ := vq
            show oe_V (oe_cost 112) 112 (oe_M (d + 1)) none Q 195 [some (.inr (.inl v0)), some (.inr (.inl v1)), some (.inl v2), some (.inr (.inl v3)), some (.inl v4), some (.inl v5), some (.inl x19), some (.inl x23), some (.inl x26), some (.inl x30)] [.inl x59] (sh, g, h58) 0 0
            refine s_if_ne (oe_t112 94 (q := (195, .ifCond .ne 200, 3)) rfl) (fun c60 => ?_) (fun c60 => ?_)
            · replace vc := vc.1 c60
              refine s_aload_n (oe_t112 97 (q := (200, .aload_n 0, 1)) rfl) rfl ?_
              refine s_aload_n (oe_t112 98 (q := (201, .aload_n 0, 1)) rfl) rfl ?_
              refine s_getr (oe_t112 99 (q := (202, .getfield 4021, 3)) rfl) s11 rfl rfl p36 ?_
              refine s_callv (oe_t112 100 (q := (205, .invokevirtual 113041, 3)) rfl) rfl s11 rfl (Nat.le_of_ble_eq_true rfl) (Nat.le_of_ble_eq_true rfl) (Nat.le_of_ble_eq_true rfl) (Nat.le_of_ble_eq_true rfl) ?_
              refine oe_M_mono _ _ _ _ _ _ (fun r hp vq => ?_) vc
              obtain ⟨x61, rfl, rfl, vc⟩ := vq
              show oe_V (oe_cost 112) 112 (oe_M (d + 1)) none Q 208 [some (.inr (.inl v0)), some (.inr (.inl v1)), some (.inl v2), some (.inr (.inl v3)), some (.inl v4), some (.inl v5), some (.inl x19), some (.inl x23), some (.inl x26), some (.inl x30)] [.inl x61] (sh, g, h58) 0 0
              refine s_if_ne (oe_t112 101 (q := (208, .ifCond .ne 222, 3)) rfl) (fun c62 => ?_) (fun c62 => ?_)
              · replace vc := vc.1 c62
                refine s_iconst (oe_t112 107 (q := (222, .iconst 0, 1)) rfl) ?_
                exact s_iret (oe_t112 108 (q := (223, .ireturn, 1)) rfl) (Or.inl rfl) vc
              · replace vc := vc.2 c62
                refine s_aload_n (oe_t112 102 (q := (211, .aload_n 0, 1)) rfl) rfl ?_
                refine s_aload_n (oe_t112 103 (q := (212, .aload_n 0, 1)) rfl) rfl ?_
                refine s_getr (oe_t112 104 (q := (213, .getfield 4011, 3)) rfl) s11 rfl rfl p49 ?_
                refine s_callv (oe_t112 105 (q := (216, .invokevirtual 113041, 3)) rfl) rfl s11 rfl (Nat.le_of_ble_eq_true rfl) (Nat.le_of_ble_eq_true rfl) (Nat.le_of_ble_eq_true rfl) (Nat.le_of_ble_eq_true rfl) ?_
                refine oe_M_mono _ _ _ _ _ _ (fun r hp vq => ?_) vc
                obtain ⟨x63, rfl, rfl, vc⟩ := vq
                show oe_V (oe_cost 112) 112 (oe_M (d + 1)) none Q 219 [some (.inr (.inl v0)), some (.inr (.inl v1)), some (.inl v2), some (.inr (.inl v3)), some (.inl v4), some (.inl v5), some (.inl x19), some (.inl x23), some (.inl x26), some (.inl x30)] [.inl x63] (sh, g, h58) 0 0
                refine s_if_eq (oe_t112 106 (q := (219, .ifCond .eq 224, 3)) rfl) (fun c64 => ?_) (fun c64 => ?_)
                · replace vc := vc.1 c64
                  refine s_aload_n (oe_t112 109 (q := (224, .aload_n 0, 1)) rfl) rfl ?_
                  refine s_getr (oe_t112 110 (q := (225, .getfield 4011, 3)) rfl) s11 rfl rfl p49 ?_
                  refine s_getr (oe_t112 111 (q := (228, .getfield 2001, 3)) rfl) s50 rfl rfl p52 ?_
                  obtain ⟨s65, vc⟩ := vc
                  refine s_geti (oe_t112 112 (q := (231, .getfield 3020, 3)) rfl) s65 rfl (by decide) ?_
                  refine s_aload_n (oe_t112 113 (q := (234, .aload_n 0, 1)) rfl) rfl ?_
                  refine s_getr (oe_t112 114 (q := (235, .getfield 4021, 3)) rfl) s11 rfl rfl p36 ?_
                  refine s_getr (oe_t112 115 (q := (238, .getfield 2001, 3)) rfl) s37 rfl rfl p39 ?_
                  obtain ⟨s66, vc⟩ := vc
                  refine s_geti (oe_t112 116 (q := (241, .getfield 3020, 3)) rfl) s66 rfl (by decide) ?_
                  obtain ⟨r67, vc⟩ := vc
                  refine s_isub (oe_t112 117 (q := (244, .isub, 1)) rfl) r67 ?_
                  refine s_aload_n (oe_t112 118 (q := (245, .aload_n 0, 1)) rfl) rfl ?_
                  refine s_getr (oe_t112 119 (q := (246, .getfield 4021, 3)) rfl) s11 rfl rfl p36 ?_
                  refine s_getr (oe_t112 120 (q := (249, .getfield 2011, 3)) rfl) s37 rfl rfl p44 ?_
                  obtain ⟨s68, vc⟩ := vc
                  refine s_geti (oe_t112 121 (q := (252, .getfield 3020, 3)) rfl) s68 rfl (by decide) ?_
                  obtain ⟨r69, vc⟩ := vc
                  refine s_iadd (oe_t112 122 (q := (255, .iadd, 1)) rfl) r69 ?_
                  refine s_bipush (oe_t112 123 (q := (256, .bipush 30, 2)) rfl) ?_
                  refine s_ic_le (oe_t112 124 (q := (258, .if_icmp .le 263, 3)) rfl) (fun c70 => ?_) (fun c70 => ?_)
                  · replace vc := vc.1 c70
                    refine s_aload_n (oe_t112 127 (q := (263, .aload_n 0, 1)) rfl) rfl ?_
                    refine s_getr (oe_t112 128 (q := (264, .getfield 4011, 3)) rfl) s11 rfl rfl p49 ?_
                    refine s_getr (oe_t112 129 (q := (267, .getfield 2001, 3)) rfl) s50 rfl rfl p52 ?_
                    refine s_aload_n (oe_t112 130 (q := (270, .aload_n 0, 1)) rfl) rfl ?_
                    refine s_getr (oe_t112 131 (q := (271, .getfield 4001, 3)) rfl) s11 rfl rfl p13 ?_
                    refine s_iload (oe_t112 132 (q := (274, .iload 8, 2)) rfl) rfl ?_
                    refine s_iload (oe_t112 133 (q := (276, .iload 8, 2)) rfl) rfl ?_
                    refine s_iload (oe_t112 134 (q := (278, .iload 5, 2)) rfl) rfl ?_
                    obtain ⟨r71, vc⟩ := vc
                    refine s_iadd (oe_t112 135 (q := (280, .iadd, 1)) rfl) r71 ?_
                    refine s_callv (oe_t112 136 (q := (281, .invokevirtual 122052, 3)) rfl) rfl s15 rfl (Nat.le_of_ble_eq_true rfl) (Nat.le_of_ble_eq_true rfl) (Nat.le_of_ble_eq_true rfl) (Nat.le_of_ble_eq_true rfl) ?_
                    refine oe_M_mono _ _ _ _ _ _ (fun r hp vq => ?_) vc
                    obtain ⟨x73, h72, rfl, rfl, vc⟩ := vq
                    show oe_V (oe_cost 112) 112 (oe_M (d + 1)) none Q 284 [some (.inr (.inl v0)), some (.inr (.inl v1)), some (.inl v2), some (.inr (.inl v3)), some (.inl v4), some (.inl v5), some (.inl x19), some (.inl x23), some (.inl x26), some (.inl x30)] [.inl x73, .inr (.inl q51)] (sh, g, h72) 0 0
                    refine s_aload_n (oe_t112 137 (q := (284, .aload_n 0, 1)) rfl) rfl ?_
                    refine s_getr (oe_t112 138 (q := (285, .getfield 4021, 3)) rfl) s11 rfl rfl p36 ?_
                    refine s_getr (oe_t112 139 (q := (288, .getfield 2011, 3)) rfl) s37 rfl rfl p44 ?_
                    refine s_callv (oe_t112 140 (q := (291, .invokevirtual 105032, 3)) rfl) rfl s65 rfl (Nat.le_of_ble_eq_true rfl) (Nat.le_of_ble_eq_true rfl) (Nat.le_of_ble_eq_true rfl) (Nat.le_of_ble_eq_true rfl) ?_
                    refine oe_M_mono _ _ _ _ _ _ (fun r hp vq => ?_) vc
                    obtain ⟨h74, rfl, rfl, vc⟩ := vq
                    show oe_V (oe_cost 112) 112 (oe_M (d + 1)) none Q 294 [some (.inr (.inl v0)), some (.inr (.inl v1)), some (.inl v2), some (.inr (.inl v3)), some (.inl v4), some (.inl v5), some (.inl x19), some (.inl x23), some (.inl x26), some (.inl x30)] [] (sh, g, h74) 0 0
                    refine s_iconst (oe_t112 141 (q := (294, .iconst 2, 1)) rfl) ?_
                    exact s_iret (oe_t112 142 (q := (295, .ireturn, 1)) rfl) (Or.inl rfl) vc
                  · replace vc := vc.2 c70
                    refine s_iconst (oe_t112 125 (q := (261, .iconst 1, 1)) rfl) ?_
                    exact s_iret (oe_t112 126 (q := (262, .ireturn, 1)) rfl) (Or.inl rfl) vc
                · replace vc := vc.2 c64
                  refine s_iconst (oe_t112 107 (q := (222, .iconst 0, 1)) rfl) ?_
                  exact s_iret (oe_t112 108 (q := (223, .ireturn, 1)) rfl) (Or.inl rfl) vc
            · replace vc := vc.2 c60
              refine s_iconst (oe_t112 95 (q := (198, .iconst 1, 1)) rfl) ?_
              exact s_iret (oe_t112 96 (q := (199, .ireturn, 1)) rfl) (Or.inl rfl) vc
    · replace vc := vc.2 c34
      refine s_iconst (oe_t112 57 (q := (112, .iconst 0, 1)) rfl) ?_
      exact s_iret (oe_t112 58 (q := (113, .ireturn, 1)) rfl) (Or.inl rfl) vc
theorem oe_u113 : oe_c113.all (fun q => decide (oe_find oe_c113 q.1 = some q.2)) = true := by decide +kernel
theorem oe_t113 (k : Nat) {q : Nat × Jvm.ClassFile.Instr × Nat} (h : oe_c113[k]? = some q) : oe_find (oe_code 113) q.1 = some q.2 := oe_ft oe_u113 h
theorem g113 {d : Nat} {sh : List (Nat × Nat)} {g : Nat → Nat → Option Nat} {h : Nat → Nat → Int} {Q : oeQ} {v0 : Nat} {v1 : Nat}
    (vc : sh[v1]? = some (7, 2) ∧ oe_M (d + 1) 96 [.inr (.inl v1)] (sh, g, h) (fun r hp => ∃ (x1 : Int), r = some (.inl x1) ∧ hp = (sh, g, h) ∧ (x1 ≠ 0 → Q (some (.inl 1)) (sh, g, h)) ∧ (x1 = 0 → ∃ q4, g v1 1 = some q4 ∧ ∃ q6, g v1 0 = some q6 ∧ oe_M (d + 1) 110 [.inr (.inl q4), .inl 0, .inr (.inl q6), .inl 0, .inl 0] (sh, g, h) (fun r hp => ∃ (x8 : Int), r = some (.inl x8) ∧ hp = (sh, g, h) ∧ (x8 = 0 → Q (some (.inl 0)) (sh, g, h)) ∧ (x8 ≠ 0 → Q (some (.inl 1)) (sh, g, h)))))) :
    oe_M (d + 2) 113 [.inr (.inl v0), .inr (.inl v1)] (sh, g, h) Q := by
  refine oe_M.of (by simp [oe_c1]) (Nat.le_of_ble_eq_true rfl) ?_
  show oe_V (oe_cost 113) 113 (oe_M (d + 1)) none Q 0 [some (.inr (.inl v0)), some (.inr (.inl v1))] [] (sh, g, h) 0 0
  refine s_aload_n (oe_t113 0 (q := (0, .aload_n 1, 1)) rfl) rfl ?_
  obtain ⟨s2, vc⟩ := vc
  refine s_callv (oe_t113 1 (q := (1, .invokevirtual 96020, 3)) rfl) rfl s2 rfl (Nat.le_of_ble_eq_true rfl) (Nat.le_of_ble_eq_true rfl) (Nat.le_of_ble_eq_true rfl) (Nat.le_of_ble_eq_true rfl) ?_
  refine oe_M_mono _ _ _ _ _ _ (fun r hp vq => ?_) vc
  obtain ⟨x1, rfl, rfl, vc⟩ := vq
  show oe_V (oe_cost 113) 113 (oe_M (d + 1)) none Q 4 [some (.inr (.inl v0)), some (.inr (.inl v1))] [.inl x1] (sh, g, h) 0 0
  refine s_if_ne (oe_t113 2 (q := (4, .ifCond .ne 24, 3)) rfl) (fun c3 => ?_) (fun c3 => ?_)
  · replace vc := vc.1 c3
    refine s_iconst (oe_t113 12 (q := (24, .iconst 1, 1)) rfl) ?_
    refine s_goto (oe_t113 13 (q := (25, .goto 29, 3)) rfl) ?_
    exact s_iret (oe_t113 15 (q := (29, .ireturn, 1)) rfl) (Or.inr (Or.inl ⟨rfl, Or.inr rfl⟩)) vc
  · replace vc := vc.2 c3
    refine s_aload_n (oe_t113 3 (q := (7, .aload_n 1, 1)) rfl) rfl ?_
    obtain ⟨q4, p5, vc⟩ := vc
    refine s_getr (oe_t113 4 (q := (8, .getfield 2011, 3)) rfl) s2 rfl rfl p5 ?_
    refine s_iconst (oe_t113 5 (q := (11, .iconst 0, 1)) rfl) ?_
    refine s_aload_n (oe_t113 6 (q := (12, .aload_n 1, 1)) rfl) rfl ?_
    obtain ⟨q6, p7, vc⟩ := vc
    refine s_getr (oe_t113 7 (q := (13, .getfield 2001, 3)) rfl) s2 rfl rfl p7 ?_
    refine s_iconst (oe_t113 8 (q := (16, .iconst 0, 1)) rfl) ?_
    refine s_iconst (oe_t113 9 (q := (17, .iconst 0, 1)) rfl) ?_
    refine s_calls (oe_t113 10 (q := (18, .invokestatic 110035, 3)) rfl) (by decide) (Nat.le_of_ble_eq_true rfl) (Nat.le_of_ble_eq_true rfl) (Nat.le_of_ble_eq_true rfl) (Nat.le_of_ble_eq_true rfl) ?_
    refine oe_M_mono _ _ _ _ _ _ (fun r hp vq => ?_) vc
    obtain ⟨x8, rfl, rfl, vc⟩ := vq
    show oe_V (oe_cost 113) 113 (oe_M (d + 1)) none Q 21 [some (.inr (.inl v0)), some (.inr (.inl v1))] [.inl x8] (sh, g, h) 0 0
    refine s_if_eq (oe_t113 11 (q := (21, .ifCond .eq 28, 3)) rfl) (fun c9 => ?_) (fun c9 => ?_)
    · replace vc := vc.1 c9
      refine s_iconst (oe_t113 14 (q := (28, .iconst 0, 1)) rfl) ?_
      exact s_iret (oe_t113 15 (q := (29, .ireturn, 1)) rfl) (Or.inr (Or.inl ⟨rfl, Or.inl rfl⟩)) vc
    · replace vc := vc.2 c9
      refine s_iconst (oe_t113 12 (q := (24, .iconst 1, 1)) rfl) ?_
      refine s_goto (oe_t113 13 (q := (25, .goto 29, 3)) rfl) ?_
      exact s_iret (oe_t113 15 (q := (29, .ireturn, 1)) rfl) (Or.inr (Or.inl ⟨rfl, Or.inr rfl⟩)) vc
theorem oe_u115 : oe_c115.all (fun q => decide (oe_find oe_c115 q.1 = some q.2)) = true := by decide +kernel
theorem oe_t115 (k : Nat) {q : Nat × Jvm.ClassFile.Instr × Nat} (h : oe_c115[k]? = some q) : oe_find (oe_code 115) q.1 = some q.2 := oe_ft oe_u115 h
theorem g115 {d : Nat} {sh : List (Nat × Nat)} {g : Nat → Nat → Option Nat} {h : Nat → Nat → Int} {Q : oeQ} {v0 : Nat}
    (vc : sh[v0]? = some (10, 8) ∧ ∃ q2, g v0 0 = some q2 ∧ sh[q2]? = some (8, 3) ∧ oe_M (d + 1) 100 [.inr (.inl q2)] (sh, g, h) (fun r hp => ∃ (h4 : Nat → Nat → Int), r = none ∧ hp = (sh, g, h4) ∧ Q none (sh, g, h4))) :
    oe_M (d + 2) 115 [.inr (.inl v0)] (sh, g, h) Q := by
  refine oe_M.of (by simp [oe_c1]) (Nat.le_of_ble_eq_true rfl) ?_
  show oe_V (oe_cost 115) 115 (oe_M (d + 1)) none Q 0 [some (.inr (.inl v0))] [] (sh, g, h) 0 0
  refine s_aload_n (oe_t115 0 (q := (0, .aload_n 0, 1)) rfl) rfl ?_
  obtain ⟨s1, vc⟩ := vc
  obtain ⟨q2, p3, vc⟩ := vc
  refine s_getr (oe_t115 1 (q := (1, .getfield 5001, 3)) rfl) s1 rfl rfl p3 ?_
  obtain ⟨s5, vc⟩ := vc
  refine s_callv (oe_t115 2 (q := (4, .invokevirtual 100030, 3)) rfl) rfl s5 rfl (Nat.le_of_ble_eq_true rfl) (Nat.le_of_ble_eq_true rfl) (Nat.le_of_ble_eq_true rfl) (Nat.le_of_ble_eq_true rfl) ?_
  refine oe_M_mono _ _ _ _ _ _ (fun r hp vq => ?_) vc
  obtain ⟨h4, rfl, rfl, vc⟩ := vq
  show oe_V (oe_cost 115) 115 (oe_M (d + 1)) none Q 7 [some (.inr (.inl v0))] [] (sh, g, h4) 0 0
  exact s_ret (oe_t115 3 (q := (7, .return_, 1)) rfl) rfl vc
theorem oe_u116 : oe_c116.all (fun q => decide (oe_find oe_c116 q.1 = some q.2)) = true := by decide +kernel
theorem oe_t116 (k : Nat) {q : Nat × Jvm.ClassFile.Instr × Nat} (h : oe_c116[k]? = some q) : oe_find (oe_code 116) q.1 = some q.2 := oe_ft oe_u116 h
theorem g116 {d : Nat} {sh : List (Nat × Nat)} {g : Nat → Nat → Option Nat} {h : Nat → Nat → Int} {Q : oeQ} {v0 : Nat} {v1 : Nat} {v2 : Int}
    (vc : sh[v0]? = some (10, 8) ∧ ∃ q2, g v0 0 = some q2 ∧ sh[q2]? = some (8, 3) ∧ oe_M (d + 1) 102 [.inr (.inl q2), .inr (.inl v1), .inl v2] (sh, g, h) (fun r hp => ∃ (h5 : Nat → Nat → Int), r = none ∧ hp = (sh, g, h5) ∧ oe_M (d + 1) 103 [.inr (.inl q2)] (sh, g, h5) (fun r hp => ∃ (h6 : Nat → Nat → Int), r = none ∧ hp = (sh, g, h6) ∧ Q (some (.inl (h q2 2))) (sh, g, h6)))) :
    oe_M (d + 2) 116 [.inr (.inl v0), .inr (.inl v1), .inl v2] (sh, g, h) Q := by
  refine oe_M.of (by simp [oe_c1]) (Nat.le_of_ble_eq_true rfl) ?_
  show oe_V (oe_cost 116) 116 (oe_M (d + 1)) none Q 0 [some (.inr (.inl v0)), some (.inr (.inl v1)), some (.inl v2), none] [] (sh, g, h) 0 0
  refine s_aload_n (oe_t116 0 (q := (0, .aload_n 0, 1)) rfl) rfl ?_
  obtain ⟨s1, vc⟩ := vc
  obtain ⟨q2, p3, vc⟩ := vc
  refine s_getr (oe_t116 1 (q := (1, .getfield 5001, 3)) rfl) s1 rfl rfl p3 ?_
  obtain ⟨s4, vc⟩ := vc
  refine s_geti (oe_t116 2 (q := (4, .getfield 3020, 3)) rfl) s4 rfl (by decide) ?_
  refine s_istore_n (oe_t116 3 (q := (7, .istore_n 3, 1)) rfl) ?_
  refine s_aload_n (oe_t116 4 (q := (8, .aload_n 0, 1)) rfl) rfl ?_
  refine s_getr (oe_t116 5 (q := (9, .getfield 5001, 3)) rfl) s1 rfl rfl p3 ?_
  refine s_aload_n (oe_t116 6 (q := (12, .aload_n 1, 1)) rfl) rfl ?_
  refine s_iload_n (oe_t116 7 (q := (13, .iload_n 2, 1)) rfl) rfl ?_
  refine s_callv (oe_t116 8 (q := (14, .invokevirtual 102032, 3)) rfl) rfl s4 rfl (Nat.le_of_ble_eq_true rfl) (Nat.le_of_ble_eq_true rfl) (Nat.le_of_ble_eq_true rfl) (Nat.le_of_ble_eq_true rfl) ?_
  refine oe_M_mono _ _ _ _ _ _ (fun r hp vq => ?_) vc
  obtain ⟨h5, rfl, rfl, vc⟩ := vq
  show oe_V (oe_cost 116) 116 (oe_M (d + 1)) none Q 17 [some (.inr (.inl v0)), some (.inr (.inl v1)), some (.inl v2), some (.inl (h q2 2))] [] (sh, g, h5) 0 0
  refine s_aload_n (oe_t116 9 (q := (17, .aload_n 0, 1)) rfl) rfl ?_
  refine s_getr (oe_t116 10 (q := (18, .getfield 5001, 3)) rfl) s1 rfl rfl p3 ?_
  refine s_callv (oe_t116 11 (q := (21, .invokevirtual 103030, 3)) rfl) rfl s4 rfl (Nat.le_of_ble_eq_true rfl) (Nat.le_of_ble_eq_true rfl) (Nat.le_of_ble_eq_true rfl) (Nat.le_of_ble_eq_true rfl) ?_
  refine oe_M_mono _ _ _ _ _ _ (fun r hp vq => ?_) vc
  obtain ⟨h6, rfl, rfl, vc⟩ := vq
  show oe_V (oe_cost 116) 116 (oe_M (d + 1)) none Q 24 [some (.inr (.inl v0)), some (.inr (.inl v1)), some (.inl v2), some (.inl (h q2 2))] [] (sh, g, h6) 0 0
  refine s_iload_n (oe_t116 12 (q := (24, .iload_n 3, 1)) rfl) rfl ?_
  exact s_iret (oe_t116 13 (q := (25, .ireturn, 1)) rfl) (Or.inl rfl) vc
theorem oe_u117 : oe_c117.all (fun q => decide (oe_find oe_c117 q.1 = some q.2)) = true := by decide +kernel
theorem oe_t117 (k : Nat) {q : Nat × Jvm.ClassFile.Instr × Nat} (h : oe_c117[k]? = some q) : oe_find (oe_code 117) q.1 = some q.2 := oe_ft oe_u117 h
theorem g117 {d : Nat} {sh : List (Nat × Nat)} {g : Nat → Nat → Option Nat} {h : Nat → Nat → Int} {Q : oeQ} {v0 : Nat} {v1 : Int} {v2 : Int}
    (vc : sh[v0]? = some (10, 8) ∧ ∃ q2, g v0 1 = some q2 ∧ oe_M (d + 1) 129 [.inr (.inl q2), .inl (-1)] (sh, g, h) (fun r hp => ∃ (h4 : Nat → Nat → Int), r = none ∧ hp = (sh, g, h4) ∧ ∀ h5, h5 = oe_up h4 v0 4 0 → oe_M (d + 1) 118 [.inr (.inl v0), .inl v1, .inl v2] (sh, g, h5) (fun r hp => ∃ (h7 : Nat → Nat → Int), r = none ∧ hp = (sh, g, h7) ∧ oe_V (oe_cost 117) 117 (oe_M (d + 1)) none Q 21 [some (.inr (.inl v0)), none, none, some (.inl 0), none, none, none, none] [] (sh, g, h7) 0 0))) :
    oe_M (d + 2) 117 [.inr (.inl v0), .inl v1, .inl v2] (sh, g, h) Q := by
  refine oe_M.of (by simp [oe_c1]) (Nat.le_of_ble_eq_true rfl) ?_
  show oe_V (oe_cost 117) 117 (oe_M (d + 1)) none Q 0 [some (.inr (.inl v0)), some (.inl v1), some (.inl v2), none, none, none, none, none] [] (sh, g, h) 0 0
  refine s_aload_n (oe_t117 0 (q := (0, .aload_n 0, 1)) rfl) rfl ?_
  obtain ⟨s1, vc⟩ := vc
  obtain ⟨q2, p3, vc⟩ := vc
  refine s_getr (oe_t117 1 (q := (1, .getfield 5011, 3)) rfl) s1 rfl rfl p3 ?_
  refine s_iconst (oe_t117 2 (q := (4, .iconst (-1), 1)) rfl) ?_
  refine s_calls (oe_t117 3 (q := (5, .invokestatic 129002, 3)) rfl) (by decide) (Nat.le_of_ble_eq_true rfl) (Nat.le_of_ble_eq_true rfl) (Nat.le_of_ble_eq_true rfl) (Nat.le_of_ble_eq_true rfl) ?_
  refine oe_M_mono _ _ _ _ _ _ (fun r hp vq => ?_) vc
  obtain ⟨h4, rfl, rfl, vc⟩ := vq
  show oe_V (oe_cost 117) 117 (oe_M (d + 1)) none Q 8 [some (.inr (.inl v0)), some (.inl v1), some (.inl v2), none, none, none, none, none] [] (sh, g, h4) 0 0
  refine s_aload_n (oe_t117 4 (q := (8, .aload_n 0, 1)) rfl) rfl ?_
  refine s_iconst (oe_t117 5 (q := (9, .iconst 0, 1)) rfl) ?_
  refine t_puti (oe_t117 6 (q := (10, .putfield 5040, 3)) rfl) s1 rfl (Or.inl rfl) (fun h5 e6 => ?_)
  replace vc := vc h5 e6
  refine s_aload_n (oe_t117 7 (q := (13, .aload_n 0, 1)) rfl) rfl ?_
  refine s_iload_n (oe_t117 8 (q := (14, .iload_n 1, 1)) rfl) rfl ?_
  refine s_iload_n (oe_t117 9 (q := (15, .iload_n 2, 1)) rfl) rfl ?_
  refine s_callv (oe_t117 10 (q := (16, .invokevirtual 118052, 3)) rfl) rfl s1 rfl (Nat.le_of_ble_eq_true rfl) (Nat.le_of_ble_eq_true rfl) (Nat.le_of_ble_eq_true rfl) (Nat.le_of_ble_eq_true rfl) ?_
  refine oe_M_mono _ _ _ _ _ _ (fun r hp vq => ?_) vc
  obtain ⟨h7, rfl, rfl, vc⟩ := vq
  show oe_V (oe_cost 117) 117 (oe_M (d + 1)) none Q 19 [some (.inr (.inl v0)), some (.inl v1), some (.inl v2), none, none, none, none, none] [] (sh, g, h7) 0 0
  refine s_iconst (oe_t117 11 (q := (19, .iconst 0, 1)) rfl) ?_
  refine s_istore_n (oe_t117 12 (q := (20, .istore_n 3, 1)) rfl) ?_
  exact oe_V.fg (oe_M_mono _) (show oe_fg [some (.inr (.inl v0)), none, none, some (.inl 0), none, none, none, none] _ from ⟨rfl, ⟨rfl, trivial⟩⟩) vc
theorem g117_21 {d : Nat} {sh : List (Nat × Nat)} {g : Nat → Nat → Option Nat} {h : Nat → Nat → Int} {Q : oeQ} {v0 : Nat} {v3 : Int}
    (vc : (300 ≤ v3 → sh[v0]? = some (10, 8) ∧ ((h v0 4) ≠ 0 → Q (some (.inl 0)) (sh, g, h)) ∧ ((h v0 4) = 0 → Q (some (.inl 1)) (sh, g, h))) ∧ (v3 < 300 → sh[v0]? = some (10, 8) ∧ ((h v0 4) ≤ 0 → ((h v0 4) ≠ 0 → Q (some (.inl 0)) (sh, g, h)) ∧ ((h v0 4) = 0 → Q (some (.inl 1)) (sh, g, h))) ∧ (0 < (h v0 4) → oe_rg ((h v0 4) - 1) ∧ ∀ h15, h15 = oe_up h v0 4 ((h v0 4) - 1) → ∃ q17, g v0 2 = some q17 ∧ ∃ n20, sh[q17]? = some (0, n20) ∧ 0 ≤ (h15 v0 4) ∧ (h15 v0 4) < (n20 : Nat) ∧ oe_M (d + 1) 120 [.inr (.inl v0), .inl (h15 q17 ((h15 v0 4) : Int).toNat)] (sh, g, h15) (fun r hp => ∃ (x23 : Int), r = some (.inl x23) ∧ hp = (sh, g, h15) ∧ ∃ q24, g v0 3 = some q24 ∧ ∃ n27, sh[q24]? = some (0, n27) ∧ 0 ≤ (h15 v0 4) ∧ (h15 v0 4) < (n27 : Nat) ∧ oe_M (d + 1) 120 [.inr (.inl v0), .inl (h15 q24 ((h15 v0 4) : Int).toNat)] (sh, g, h15) (fun r hp => ∃ (x30 : Int), r = some (.inl x30) ∧ hp = (sh, g, h15) ∧ ∃ q31, g v0 0 = some q31 ∧ sh[q31]? = some (8, 3) ∧ ∃ q34, g q31 0 = some q34 ∧ ∃ n37, sh[q34]? = some (0, n37) ∧ 0 ≤ x23 ∧ x23 < (n37 : Nat) ∧ 0 ≤ x30 ∧ x30 < (n37 : Nat) ∧ ((h15 q34 (x23 : Int).toNat) < 12 → ((h15 q34 (x23 : Int).toNat) = (h15 q34 (x30 : Int).toNat) → oe_rg (v3 + 1) ∧ oe_V (oe_cost 117) 117 (oe_M (d + 1)) none Q 21 [some (.inr (.inl v0)), none, none, some (.inl (v3 + 1)), none, none, none, none] [] (sh, g, h15) 0 0) ∧ ((h15 q34 (x23 : Int).toNat) ≠ (h15 q34 (x30 : Int).toNat) → oe_M (d + 1) 121 [.inr (.inl v0), .inl (h15 q34 (x23 : Int).toNat), .inl x30] (sh, g, h15) (fun r hp => ∃ (x46 : Int) (h45 : Nat → Nat → Int), r = some (.inl x46) ∧ hp = (sh, g, h45) ∧ (x46 ≠ 0 → oe_rg (v3 + 1) ∧ oe_V (oe_cost 117) 117 (oe_M (d + 1)) none Q 21 [some (.inr (.inl v0)), none, none, some (.inl (v3 + 1)), none, none, none, none] [] (sh, g, h45) 0 0) ∧ (x46 = 0 → Q (some (.inl 0)) (sh, g, h45))))) ∧ (12 ≤ (h15 q34 (x23 : Int).toNat) → ((h15 q34 (x30 : Int).toNat) < 12 → oe_M (d + 1) 121 [.inr (.inl v0), .inl (h15 q34 (x30 : Int).toNat), .inl x23] (sh, g, h15) (fun r hp => ∃ (x51 : Int) (h50 : Nat → Nat → Int), r = some (.inl x51) ∧ hp = (sh, g, h50) ∧ (x51 ≠ 0 → oe_rg (v3 + 1) ∧ oe_V (oe_cost 117) 117 (oe_M (d + 1)) none Q 21 [some (.inr (.inl v0)), none, none, some (.inl (v3 + 1)), none, none, none, none] [] (sh, g, h50) 0 0) ∧ (x51 = 0 → Q (some (.inl 0)) (sh, g, h50)))) ∧ (12 ≤ (h15 q34 (x30 : Int).toNat) → ((h15 q34 (x23 : Int).toNat) = (h15 q34 (x30 : Int).toNat) → oe_M (d + 1) 17 [.inl (h15 q34 (x23 : Int).toNat)] (sh, g, h15) (fun r hp => ∃ (x55 : Int), r = some (.inl x55) ∧ hp = (sh, g, h15) ∧ oe_M (d + 1) 119 [.inr (.inl v0), .inl x23, .inl x30, .inl x55] (sh, g, h15) (fun r hp => ∃ (h56 : Nat → Nat → Int), r = none ∧ hp = (sh, g, h56) ∧ oe_rg (v3 + 1) ∧ oe_V (oe_cost 117) 117 (oe_M (d + 1)) none Q 21 [some (.inr (.inl v0)), none, none, some (.inl (v3 + 1)), none, none, none, none] [] (sh, g, h56) 0 0))) ∧ ((h15 q34 (x23 : Int).toNat) ≠ (h15 q34 (x30 : Int).toNat) → Q (some (.inl 0)) (sh, g, h15))))))))) :
    oe_V (oe_cost 117) 117 (oe_M (d + 1)) none Q 21 [some (.inr (.inl v0)), none, none, some (.inl v3), none, none, none, none] [] (sh, g, h) 0 0 := by
  refine s_iload_n (oe_t117 13 (q := (21, .iload_n 3, 1)) rfl) rfl ?_
  refine s_sipush (oe_t117 14 (q := (22, .sipush 300, 3)) rfl) ?_
  refine s_ic_ge (oe_t117 15 (q := (25, .if_icmp .ge 176, 3)) rfl) (fun c8 => ?_) (fun c8 => ?_)
  · replace vc := vc.1 c8
    refine s_aload_n (oe_t117 89 (q := (176, .aload_n 0, 1)) rfl) rfl ?_
    obtain ⟨s9, vc⟩ := vc
    refine s_geti (oe_t117 90 (q := (177, .getfield 5040, 3)) rfl) s9 rfl (by decide) ?_
    refine s_if_ne (oe_t117 91 (q := (180, .ifCond .ne 187, 3)) rfl) (fun c10 => ?_) (fun c10 => ?_)
    · replace vc := vc.1 c10
      refine s_iconst (oe_t117 94 (q := (187, .iconst 0, 1)) rfl) ?_
      exact s_iret (oe_t117 95 (q := (188, .ireturn, 1)) rfl) (Or.inr (Or.inl ⟨rfl, Or.inl rfl⟩)) vc
    · replace vc := vc.2 c10
      refine s_iconst (oe_t117 92 (q := (183, .iconst 1, 1)) rfl) ?_
      refine s_goto (oe_t117 93 (q := (184, .goto 188, 3)) rfl) ?_
      exact s_iret (oe_t117 95 (q := (188, .ireturn, 1)) rfl) (Or.inr (Or.inl ⟨rfl, Or.inr rfl⟩)) vc
  · replace vc := vc.2 c8
    refine s_aload_n (oe_t117 16 (q := (28, .aload_n 0, 1)) rfl) rfl ?_
    obtain ⟨s11, vc⟩ := vc
    refine s_geti (oe_t117 17 (q := (29, .getfield 5040, 3)) rfl) s11 rfl (by decide) ?_
    refine s_if_le (oe_t117 18 (q := (32, .ifCond .le 176, 3)) rfl) (fun c12 => ?_) (fun c12 => ?_)
    · replace vc := vc.1 c12
      refine s_aload_n (oe_t117 89 (q := (176, .aload_n 0, 1)) rfl) rfl ?_
      refine s_geti (oe_t117 90 (q := (177, .getfield 5040, 3)) rfl) s11 rfl (by decide) ?_
      refine s_if_ne (oe_t117 91 (q := (180, .ifCond .ne 187, 3)) rfl) (fun c13 => ?_) (fun c13 => ?_)
      · replace vc := vc.1 c13
        refine s_iconst (oe_t117 94 (q := (187, .iconst 0, 1)) rfl) ?_
        exact s_iret (oe_t117 95 (q := (188, .ireturn, 1)) rfl) (Or.inr (Or.inl ⟨rfl, Or.inl rfl⟩)) vc
      · replace vc := vc.2 c13
        refine s_iconst (oe_t117 92 (q := (183, .iconst 1, 1)) rfl) ?_
        refine s_goto (oe_t117 93 (q := (184, .goto 188, 3)) rfl) ?_
        exact s_iret (oe_t117 95 (q := (188, .ireturn, 1)) rfl) (Or.inr (Or.inl ⟨rfl, Or.inr rfl⟩)) vc
    · replace vc := vc.2 c12
      refine s_aload_n (oe_t117 19 (q := (35, .aload_n 0, 1)) rfl) rfl ?_
      refine s_dup (oe_t117 20 (q := (36, .dup, 1)) rfl) trivial ?_
      refine s_geti (oe_t117 21 (q := (37, .getfield 5040, 3)) rfl) s11 rfl (by decide) ?_
      refine s_iconst (oe_t117 22 (q := (40, .iconst 1, 1)) rfl) ?_
      obtain ⟨r14, vc⟩ := vc
      refine s_isub (oe_t117 23 (q := (41, .isub, 1)) rfl) r14 ?_
      refine t_puti (oe_t117 24 (q := (42, .putfield 5040, 3)) rfl) s11 rfl (Or.inl rfl) (fun h15 e16 => ?_)
      replace vc := vc h15 e16
      refine s_aload_n (oe_t117 25 (q := (45, .aload_n 0, 1)) rfl) rfl ?_
      refine s_aload_n (oe_t117 26 (q := (46, .aload_n 0, 1)) rfl) rfl ?_
      obtain ⟨q17, p18, vc⟩ := vc
      refine s_getr (oe_t117 27 (q := (47, .getfield 5021, 3)) rfl) s11 rfl rfl p18 ?_
      refine s_aload_n (oe_t117 28 (q := (50, .aload_n 0, 1)) rfl) rfl ?_
      refine s_geti (oe_t117 29 (q := (51, .getfield 5040, 3)) rfl) s11 rfl (by decide) ?_
      obtain ⟨n20, s19, vc⟩ := vc
      obtain ⟨i21, i22, vc⟩ := vc
      refine s_iaload (oe_t117 30 (q := (54, .iaload, 1)) rfl) s19 i21 i22 ?_
      refine s_callv (oe_t117 31 (q := (55, .invokevirtual 120051, 3)) rfl) rfl s11 rfl (Nat.le_of_ble_eq_true rfl) (Nat.le_of_ble_eq_true rfl) (Nat.le_of_ble_eq_true rfl) (Nat.le_of_ble_eq_true rfl) ?_
      refine oe_M_mono _ _ _ _ _ _ (fun r hp vq => ?_) vc
      obtain ⟨x23, rfl, rfl, vc⟩ := vq
      show oe_V (oe_cost 117) 117 (oe_M (d + 1)) none Q 58 [some (.inr (.inl v0)), none, none, some (.inl v3), none, none, none, none] [.inl x23] (sh, g, h15) 0 0
      refine s_istore (oe_t117 32 (q := (58, .istore 4, 2)) rfl) ?_
      refine s_aload_n (oe_t117 33 (q := (60, .aload_n 0, 1)) rfl) rfl ?_
      refine s_aload_n (oe_t117 34 (q := (61, .aload_n 0, 1)) rfl) rfl ?_
      obtain ⟨q24, p25, vc⟩ := vc
      refine s_getr (oe_t117 35 (q := (62, .getfield 5031, 3)) rfl) s11 rfl rfl p25 ?_
      refine s_aload_n (oe_t117 36 (q := (65, .aload_n 0, 1)) rfl) rfl ?_
      refine s_geti (oe_t117 37 (q := (66, .getfield 5040, 3)) rfl) s11 rfl (by decide) ?_
      obtain ⟨n27, s26, vc⟩ := vc
      obtain ⟨i28, i29, vc⟩ := vc
      refine s_iaload (oe_t117 38 (q := (69, .iaload, 1)) rfl) s26 i28 i29 ?_
      refine s_callv (oe_t117 39 (q := (70, .invokevirtual 120051, 3)) rfl) rfl s11 rfl (Nat.le_of_ble_eq_true rfl) (Nat.le_of_ble_eq_true rfl) (Nat.le_of_ble_eq_true rfl) (Nat.le_of_ble_eq_true rfl) ?_
      refine oe_M_mono _ _ _ _ _ _ (fun r hp vq => ?_) vc
      obtain ⟨x30, rfl, rfl, vc⟩ := vq
      show oe_V (oe_cost 117) 117 (oe_M (d + 1)) none Q 73 [some (.inr (.inl v0)), none, none, some (.inl v3), some (.inl x23), none, none, none] [.inl x30] (sh, g, h15) 0 0
      refine s_istore (oe_t117 40 (q := (73, .istore 5, 2)) rfl) ?_
      refine s_aload_n (oe_t117 41 (q := (75, .aload_n 0, 1)) rfl) rfl ?_
      obtain ⟨q31, p32, vc⟩ := vc
      refine s_getr (oe_t117 42 (q := (76, .getfield 5001, 3)) rfl) s11 rfl rfl p32 ?_
      obtain ⟨s33, vc⟩ := vc
      obtain ⟨q34, p35, vc⟩ := vc
      refine s_getr (oe_t117 43 (q := (79, .getfield 3001, 3)) rfl) s33 rfl rfl p35 ?_
      refine s_iload (oe_t117 44 (q := (82, .iload 4, 2)) rfl) rfl ?_
      obtain ⟨n37, s36, vc⟩ := vc
      obtain ⟨i38, i39, vc⟩ := vc
      refine s_iaload (oe_t117 45 (q := (84, .iaload, 1)) rfl) s36 i38 i39 ?_
      refine s_istore (oe_t117 46 (q := (85, .istore 6, 2)) rfl) ?_
      refine s_aload_n (oe_t117 47 (q := (87, .aload_n 0, 1)) rfl) rfl ?_
      refine s_getr (oe_t117 48 (q := (88, .getfield 5001, 3)) rfl) s11 rfl rfl p32 ?_
      refine s_getr (oe_t117 49 (q := (91, .getfield 3001, 3)) rfl) s33 rfl rfl p35 ?_
      refine s_iload (oe_t117 50 (q := (94, .iload 5, 2)) rfl) rfl ?_
      obtain ⟨i40, i41, vc⟩ := vc
      refine s_iaload (oe_t117 51 (q := (96, .iaload, 1)) rfl) s36 i40 i41 ?_
      refine s_istore (oe_t117 52 (q := (97, .istore 7, 2)) rfl) ?_
      refine s_iload (oe_t117 53 (q := (99, .iload 6, 2)) rfl) rfl ?_
      refine s_calls (oe_t117 54 (q := (101, .invokestatic 16001, 3)) rfl) (by decide) (Nat.le_of_ble_eq_true rfl) (Nat.le_of_ble_eq_true rfl) (Nat.le_of_ble_eq_true rfl) (Nat.le_of_ble_eq_true rfl) (sp_16 (fun c42 => ?_) (fun c42 => ?_))
      · replace vc := vc.1 c42
        show oe_V (oe_cost 117) 117 (oe_M (d + 1)) none Q 104 [some (.inr (.inl v0)), none, none, some (.inl v3), some (.inl x23), some (.inl x30), some (.inl (h15 q34 (x23 : Int).toNat)), some (.inl (h15 q34 (x30 : Int).toNat))] [.inl 1] (sh, g, h15) 0 0
        refine s_if_eq (oe_t117 55 (q := (104, .ifCond .eq 127, 3)) rfl) (fun q => absurd q (by decide)) (fun _ => ?_)
        refine s_iload (oe_t117 56 (q := (107, .iload 6, 2)) rfl) rfl ?_
        refine s_iload (oe_t117 57 (q := (109, .iload 7, 2)) rfl) rfl ?_
        refine s_ic_eq (oe_t117 58 (q := (111, .if_icmp .eq 170, 3)) rfl) (fun c43 => ?_) (fun c43 => ?_)
        · replace vc := vc.1 c43
          obtain ⟨r44, vc⟩ := vc
          refine s_iinc (oe_t117 87 (q := (170, .iinc 3 1, 3)) rfl) rfl r44 ?_
          refine s_goto (oe_t117 88 (q := (173, .goto 21, 3)) rfl) ?_
          exact oe_V.fg (oe_M_mono _) (show oe_fg [some (.inr (.inl v0)), none, none, some (.inl (v3 + 1)), none, none, none, none] _ from ⟨rfl, ⟨rfl, trivial⟩⟩) vc
        · replace vc := vc.2 c43
          refine s_aload_n (oe_t117 59 (q := (114, .aload_n 0, 1)) rfl) rfl ?_
          refine s_iload (oe_t117 60 (q := (115, .iload 6, 2)) rfl) rfl ?_
          refine s_iload (oe_t117 61 (q := (117, .iload 5, 2)) rfl) rfl ?_
          refine s_callv (oe_t117 62 (q := (119, .invokevirtual 121052, 3)) rfl) rfl s11 rfl (Nat.le_of_ble_eq_true rfl) (Nat.le_of_ble_eq_true rfl) (Nat.le_of_ble_eq_true rfl) (Nat.le_of_ble_eq_true rfl) ?_
          refine oe_M_mono _ _ _ _ _ _ (fun r hp vq => ?_) vc
          obtain ⟨x46, h45, rfl, rfl, vc⟩ := vq
          show oe_V (oe_cost 117) 117 (oe_M (d + 1)) none Q 122 [some (.inr (.inl v0)), none, none, some (.inl v3), some (.inl x23), some (.inl x30), some (.inl (h15 q34 (x23 : Int).toNat)), some (.inl (h15 q34 (x30 : Int).toNat))] [.inl x46] (sh, g, h45) 0 0
          refine s_if_ne (oe_t117 63 (q := (122, .ifCond .ne 170, 3)) rfl) (fun c47 => ?_) (fun c47 => ?_)
          · replace vc := vc.1 c47
            obtain ⟨r48, vc⟩ := vc
            refine s_iinc (oe_t117 87 (q := (170, .iinc 3 1, 3)) rfl) rfl r48 ?_
            refine s_goto (oe_t117 88 (q := (173, .goto 21, 3)) rfl) ?_
            exact oe_V.fg (oe_M_mono _) (show oe_fg [some (.inr (.inl v0)), none, none, some (.inl (v3 + 1)), none, none, none, none] _ from ⟨rfl, ⟨rfl, trivial⟩⟩) vc
          · replace vc := vc.2 c47
            refine s_iconst (oe_t117 64 (q := (125, .iconst 0, 1)) rfl) ?_
            exact s_iret (oe_t117 65 (q := (126, .ireturn, 1)) rfl) (Or.inr (Or.inl ⟨rfl, Or.inl rfl⟩)) vc
      · replace vc := vc.2 c42
        show oe_V (oe_cost 117) 117 (oe_M (d + 1)) none Q 104 [some (.inr (.inl v0)), none, none, some (.inl v3), some (.inl x23), some (.inl x30), some (.inl (h15 q34 (x23 : Int).toNat)), some (.inl (h15 q34 (x30 : Int).toNat))] [.inl 0] (sh, g, h15) 0 0
        refine s_if_eq (oe_t117 55 (q := (104, .ifCond .eq 127, 3)) rfl) (fun _ => ?_) (fun q => absurd q (by decide))
        refine s_iload (oe_t117 66 (q := (127, .iload 7, 2)) rfl) rfl ?_
        refine s_calls (oe_t117 67 (q := (129, .invokestatic 16001, 3)) rfl) (by decide) (Nat.le_of_ble_eq_true rfl) (Nat.le_of_ble_eq_true rfl) (Nat.le_of_ble_eq_true rfl) (Nat.le_of_ble_eq_true rfl) (sp_16 (fun c49 => ?_) (fun c49 => ?_))
        · replace vc := vc.1 c49
          show oe_V (oe_cost 117) 117 (oe_M (d + 1)) none Q 132 [some (.inr (.inl v0)), none, none, some (.inl v3), some (.inl x23), some (.inl x30), some (.inl (h15 q34 (x23 : Int).toNat)), some (.inl (h15 q34 (x30 : Int).toNat))] [.inl 1] (sh, g, h15) 0 0
          refine s_if_eq (oe_t117 68 (q := (132, .ifCond .eq 148, 3)) rfl) (fun q => absurd q (by decide)) (fun _ => ?_)
          refine s_aload_n (oe_t117 69 (q := (135, .aload_n 0, 1)) rfl) rfl ?_
          refine s_iload (oe_t117 70 (q := (136, .iload 7, 2)) rfl) rfl ?_
          refine s_iload (oe_t117 71 (q := (138, .iload 4, 2)) rfl) rfl ?_
          refine s_callv (oe_t117 72 (q := (140, .invokevirtual 121052, 3)) rfl) rfl s11 rfl (Nat.le_of_ble_eq_true rfl) (Nat.le_of_ble_eq_true rfl) (Nat.le_of_ble_eq_true rfl) (Nat.le_of_ble_eq_true rfl) ?_
          refine oe_M_mono _ _ _ _ _ _ (fun r hp vq => ?_) vc
          obtain ⟨x51, h50, rfl, rfl, vc⟩ := vq
          show oe_V (oe_cost 117) 117 (oe_M (d + 1)) none Q 143 [some (.inr (.inl v0)), none, none, some (.inl v3), some (.inl x23), some (.inl x30), some (.inl (h15 q34 (x23 : Int).toNat)), some (.inl (h15 q34 (x30 : Int).toNat))] [.inl x51] (sh, g, h50) 0 0
          refine s_if_ne (oe_t117 73 (q := (143, .ifCond .ne 170, 3)) rfl) (fun c52 => ?_) (fun c52 => ?_)
          · replace vc := vc.1 c52
            obtain ⟨r53, vc⟩ := vc
            refine s_iinc (oe_t117 87 (q := (170, .iinc 3 1, 3)) rfl) rfl r53 ?_
            refine s_goto (oe_t117 88 (q := (173, .goto 21, 3)) rfl) ?_
            exact oe_V.fg (oe_M_mono _) (show oe_fg [some (.inr (.inl v0)), none, none, some (.inl (v3 + 1)), none, none, none, none] _ from ⟨rfl, ⟨rfl, trivial⟩⟩) vc
          · replace vc := vc.2 c52
            refine s_iconst (oe_t117 74 (q := (146, .iconst 0, 1)) rfl) ?_
            exact s_iret (oe_t117 75 (q := (147, .ireturn, 1)) rfl) (Or.inr (Or.inl ⟨rfl, Or.inl rfl⟩)) vc
        · replace vc := vc.2 c49
          show oe_V (oe_cost 117) 117 (oe_M (d + 1)) none Q 132 [some (.inr (.inl v0)), none, none, some (.inl v3), some (.inl x23), some (.inl x30), some (.inl (h15 q34 (x23 : Int).toNat)), some (.inl (h15 q34 (x30 : Int).toNat))] [.inl 0] (sh, g, h15) 0 0
          refine s_if_eq (oe_t117 68 (q := (132, .ifCond .eq 148, 3)) rfl) (fun _ => ?_) (fun q => absurd q (by decide))
          refine s_iload (oe_t117 76 (q := (148, .iload 6, 2)) rfl) rfl ?_
          refine s_iload (oe_t117 77 (q := (150, .iload 7, 2)) rfl) rfl ?_
          refine s_ic_eq (oe_t117 78 (q := (152, .if_icmp .eq 157, 3)) rfl) (fun c54 => ?_) (fun c54 => ?_)
          · replace vc := vc.1 c54
            refine s_aload_n (oe_t117 81 (q := (157, .aload_n 0, 1)) rfl) rfl ?_
            refine s_iload (oe_t117 82 (q := (158, .iload 4, 2)) rfl) rfl ?_
            refine s_iload (oe_t117 83 (q := (160, .iload 5, 2)) rfl) rfl ?_
            refine s_iload (oe_t117 84 (q := (162, .iload 6, 2)) rfl) rfl ?_
            refine s_calls (oe_t117 85 (q := (164, .invokestatic 17001, 3)) rfl) (by decide) (Nat.le_of_ble_eq_true rfl) (Nat.le_of_ble_eq_true rfl) (Nat.le_of_ble_eq_true rfl) (Nat.le_of_ble_eq_true rfl) ?_
            refine oe_M_mono _ _ _ _ _ _ (fun r hp vq => ?_) vc
            obtain ⟨x55, rfl, rfl, vc⟩ := vq
            show oe_V (oe_cost 117) 117 (oe_M (d + 1)) none Q 167 [some (.inr (.inl v0)), none, none, some (.inl v3), some (.inl x23), some (.inl x30), some (.inl (h15 q34 (x23 : Int).toNat)), some (.inl (h15 q34 (x30 : Int).toNat))] [.inl x55, .inl x30, .inl x23, .inr (.inl v0)] (sh, g, h15) 0 0
            refine s_callv (oe_t117 86 (q := (167, .invokevirtual 119053, 3)) rfl) rfl s11 rfl (Nat.le_of_ble_eq_true rfl) (Nat.le_of_ble_eq_true rfl) (Nat.le_of_ble_eq_true rfl) (Nat.le_of_ble_eq_true rfl) ?_
            refine oe_M_mono _ _ _ _ _ _ (fun r hp vq => ?_) vc
            obtain ⟨h56, rfl, rfl, vc⟩ := vq
            show oe_V (oe_cost 117) 117 (oe_M (d + 1)) none Q 170 [some (.inr (.inl v0)), none, none, some (.inl v3), some (.inl x23), some (.inl x30), some (.inl (h15 q34 (x23 : Int).toNat)), some (.inl (h15 q34 (x30 : Int).toNat))] [] (sh, g, h56) 0 0
            obtain ⟨r57, vc⟩ := vc
            refine s_iinc (oe_t117 87 (q := (170, .iinc 3 1, 3)) rfl) rfl r57 ?_
            refine s_goto (oe_t117 88 (q := (173, .goto 21, 3)) rfl) ?_
            exact oe_V.fg (oe_M_mono _) (show oe_fg [some (.inr (.inl v0)), none, none, some (.inl (v3 + 1)), none, none, none, none] _ from ⟨rfl, ⟨rfl, trivial⟩⟩) vc
          · replace vc := vc.2 c54
            refine s_iconst (oe_t117 79 (q := (155, .iconst 0, 1)) rfl) ?_
            exact s_iret (oe_t117 80 (q := (156, .ireturn, 1)) rfl) (Or.inr (Or.inl ⟨rfl, Or.inl rfl⟩)) vc
theorem oe_u118 : oe_c118.all (fun q => decide (oe_find oe_c118 q.1 = some q.2)) = true := by decide +kernel
theorem oe_t118 (k : Nat) {q : Nat × Jvm.ClassFile.Instr × Nat} (h : oe_c118[k]? = some q) : oe_find (oe_code 118) q.1 = some q.2 := oe_ft oe_u118 h
theorem g118 {d : Nat} {sh : List (Nat × Nat)} {g : Nat → Nat → Option Nat} {h : Nat → Nat → Int} {Q : oeQ} {v0 : Nat} {v1 : Int} {v2 : Int}
    (vc : sh[v0]? = some (10, 8) ∧ ∃ q2, g v0 2 = some q2 ∧ ∃ n5, sh[q2]? = some (0, n5) ∧ (((n5 : Nat) : Int) ≤ (h v0 4) → Q none (sh, g, h)) ∧ ((h v0 4) < ((n5 : Nat) : Int) → 0 ≤ (h v0 4) ∧ (h v0 4) < (n5 : Nat) ∧ ∀ h9, h9 = oe_up h q2 ((h v0 4) : Int).toNat v1 → ∃ q11, g v0 3 = some q11 ∧ ∃ n14, sh[q11]? = some (0, n14) ∧ 0 ≤ (h9 v0 4) ∧ (h9 v0 4) < (n14 : Nat) ∧ ∀ h17, h17 = oe_up h9 q11 ((h9 v0 4) : Int).toNat v2 → oe_rg ((h17 v0 4) + 1) ∧ ∀ h20, h20 = oe_up h17 v0 4 ((h17 v0 4) + 1) → Q none (sh, g, h20))) :
    oe_M (d + 2) 118 [.inr (.inl v0), .inl v1, .inl v2] (sh, g, h) Q := by
  refine oe_M.of (by simp [oe_c1]) (Nat.le_of_ble_eq_true rfl) ?_
  show oe_V (oe_cost 118) 118 (oe_M (d + 1)) none Q 0 [some (.inr (.inl v0)), some (.inl v1), some (.inl v2)] [] (sh, g, h) 0 0
  refine s_aload_n (oe_t118 0 (q := (0, .aload_n 0, 1)) rfl) rfl ?_
  obtain ⟨s1, vc⟩ := vc
  refine s_geti (oe_t118 1 (q := (1, .getfield 5040, 3)) rfl) s1 rfl (by decide) ?_
  refine s_aload_n (oe_t118 2 (q := (4, .aload_n 0, 1)) rfl) rfl ?_
  obtain ⟨q2, p3, vc⟩ := vc
  refine s_getr (oe_t118 3 (q := (5, .getfield 5021, 3)) rfl) s1 rfl rfl p3 ?_
  obtain ⟨n5, s4, vc⟩ := vc
  refine s_alen (oe_t118 4 (q := (8, .arraylength, 1)) rfl) s4 (by decide) ?_
  refine s_ic_ge (oe_t118 5 (q := (9, .if_icmp .ge 42, 3)) rfl) (fun c6 => ?_) (fun c6 => ?_)
  · replace vc := vc.1 c6
    exact s_ret (oe_t118 24 (q := (42, .return_, 1)) rfl) rfl vc
  · replace vc := vc.2 c6
    refine s_aload_n (oe_t118 6 (q := (12, .aload_n 0, 1)) rfl) rfl ?_
    refine s_getr (oe_t118 7 (q := (13, .getfield 5021, 3)) rfl) s1 rfl rfl p3 ?_
    refine s_aload_n (oe_t118 8 (q := (16, .aload_n 0, 1)) rfl) rfl ?_
    refine s_geti (oe_t118 9 (q := (17, .getfield 5040, 3)) rfl) s1 rfl (by decide) ?_
    refine s_iload_n (oe_t118 10 (q := (20, .iload_n 1, 1)) rfl) rfl ?_
    obtain ⟨i7, i8, vc⟩ := vc
    refine t_iastore (oe_t118 11 (q := (21, .iastore, 1)) rfl) s4 i7 i8 (fun h9 e10 => ?_)
    replace vc := vc h9 e10
    refine s_aload_n (oe_t118 12 (q := (22, .aload_n 0, 1)) rfl) rfl ?_
    obtain ⟨q11, p12, vc⟩ := vc
    refine s_getr (oe_t118 13 (q := (23, .getfield 5031, 3)) rfl) s1 rfl rfl p12 ?_
    refine s_aload_n (oe_t118 14 (q := (26, .aload_n 0, 1)) rfl) rfl ?_
    refine s_geti (oe_t118 15 (q := (27, .getfield 5040, 3)) rfl) s1 rfl (by decide) ?_
    refine s_iload_n (oe_t118 16 (q := (30, .iload_n 2, 1)) rfl) rfl ?_
    obtain ⟨n14, s13, vc⟩ := vc
    obtain ⟨i15, i16, vc⟩ := vc
    refine t_iastore (oe_t118 17 (q := (31, .iastore, 1)) rfl) s13 i15 i16 (fun h17 e18 => ?_)
    replace vc := vc h17 e18
    refine s_aload_n (oe_t118 18 (q := (32, .aload_n 0, 1)) rfl) rfl ?_
    refine s_dup (oe_t118 19 (q := (33, .dup, 1)) rfl) trivial ?_
    refine s_geti (oe_t118 20 (q := (34, .getfield 5040, 3)) rfl) s1 rfl (by decide) ?_
    refine s_iconst (oe_t118 21 (q := (37, .iconst 1, 1)) rfl) ?_
    obtain ⟨r19, vc⟩ := vc
    refine s_iadd (oe_t118 22 (q := (38, .iadd, 1)) rfl) r19 ?_
    refine t_puti (oe_t118 23 (q := (39, .putfield 5040, 3)) rfl) s1 rfl (Or.inl rfl) (fun h20 e21 => ?_)
    replace vc := vc h20 e21
    exact s_ret (oe_t118 24 (q := (42, .return_, 1)) rfl) rfl vc
theorem oe_u119 : oe_c119.all (fun q => decide (oe_find oe_c119 q.1 = some q.2)) = true := by decide +kernel
theorem oe_t119 (k : Nat) {q : Nat × Jvm.ClassFile.Instr × Nat} (h : oe_c119[k]? = some q) : oe_find (oe_code 119) q.1 = some q.2 := oe_ft oe_u119 h
theorem g119 {d : Nat} {sh : List (Nat × Nat)} {g : Nat → Nat → Option Nat} {h : Nat → Nat → Int} {Q : oeQ} {v0 : Nat} {v1 : Int} {v2 : Int} {v3 : Int}
    (vc : (v3 ≠ 2 → (v3 < 1 → Q none (sh, g, h)) ∧ (1 ≤ v3 → oe_rg (v1 + 1) ∧ oe_rg (v2 + 1) ∧ sh[v0]? = some (10, 8) ∧ oe_M (d + 1) 118 [.inr (.inl v0), .inl (v1 + 1), .inl (v2 + 1)] (sh, g, h) (fun r hp => ∃ (h5 : Nat → Nat → Int), r = none ∧ hp = (sh, g, h5) ∧ Q none (sh, g, h5)))) ∧ (v3 = 2 → sh[v0]? = some (10, 8) ∧ ∃ q8, g v0 0 = some q8 ∧ sh[q8]? = some (8, 3) ∧ ∃ q11, g q8 1 = some q11 ∧ oe_rg (v1 + 1) ∧ ∃ n15, sh[q11]? = some (0, n15) ∧ 0 ≤ (v1 + 1) ∧ (v1 + 1) < (n15 : Nat) ∧ oe_rg (v2 + 1) ∧ 0 ≤ (v2 + 1) ∧ (v2 + 1) < (n15 : Nat) ∧ oe_M (d + 1) 118 [.inr (.inl v0), .inl (h q11 ((v1 + 1) : Int).toNat), .inl (h q11 ((v2 + 1) : Int).toNat)] (sh, g, h) (fun r hp => ∃ (h21 : Nat → Nat → Int), r = none ∧ hp = (sh, g, h21) ∧ (v3 < 1 → Q none (sh, g, h21)) ∧ (1 ≤ v3 → oe_rg (v1 + 1) ∧ oe_rg (v2 + 1) ∧ oe_M (d + 1) 118 [.inr (.inl v0), .inl (v1 + 1), .inl (v2 + 1)] (sh, g, h21) (fun r hp => ∃ (h25 : Nat → Nat → Int), r = none ∧ hp = (sh, g, h25) ∧ Q none (sh, g, h25)))))) :
    oe_M (d + 2) 119 [.inr (.inl v0), .inl v1, .inl v2, .inl v3] (sh, g, h) Q := by
  refine oe_M.of (by simp [oe_c1]) (Nat.le_of_ble_eq_true rfl) ?_
  show oe_V (oe_cost 119) 119 (oe_M (d + 1)) none Q 0 [some (.inr (.inl v0)), some (.inl v1), some (.inl v2), some (.inl v3)] [] (sh, g, h) 0 0
  refine s_iload_n (oe_t119 0 (q := (0, .iload_n 3, 1)) rfl) rfl ?_
  refine s_iconst (oe_t119 1 (q := (1, .iconst 2, 1)) rfl) ?_
  refine s_ic_ne (oe_t119 2 (q := (2, .if_icmp .ne 31, 3)) rfl) (fun c1 => ?_) (fun c1 => ?_)
  · replace vc := vc.1 c1
    refine s_iload_n (oe_t119 19 (q := (31, .iload_n 3, 1)) rfl) rfl ?_
    refine s_iconst (oe_t119 20 (q := (32, .iconst 1, 1)) rfl) ?_
    refine s_ic_lt (oe_t119 21 (q := (33, .if_icmp .lt 46, 3)) rfl) (fun c2 => ?_) (fun c2 => ?_)
    · replace vc := vc.1 c2
      exact s_ret (oe_t119 30 (q := (46, .return_, 1)) rfl) rfl vc
    · replace vc := vc.2 c2
      refine s_aload_n (oe_t119 22 (q := (36, .aload_n 0, 1)) rfl) rfl ?_
      refine s_iload_n (oe_t119 23 (q := (37, .iload_n 1, 1)) rfl) rfl ?_
      refine s_iconst (oe_t119 24 (q := (38, .iconst 1, 1)) rfl) ?_
      obtain ⟨r3, vc⟩ := vc
      refine s_iadd (oe_t119 25 (q := (39, .iadd, 1)) rfl) r3 ?_
      refine s_iload_n (oe_t119 26 (q := (40, .iload_n 2, 1)) rfl) rfl ?_
      refine s_iconst (oe_t119 27 (q := (41, .iconst 1, 1)) rfl) ?_
      obtain ⟨r4, vc⟩ := vc
      refine s_iadd (oe_t119 28 (q := (42, .iadd, 1)) rfl) r4 ?_
      obtain ⟨s6, vc⟩ := vc
      refine s_callv (oe_t119 29 (q := (43, .invokevirtual 118052, 3)) rfl) rfl s6 rfl (Nat.le_of_ble_eq_true rfl) (Nat.le_of_ble_eq_true rfl) (Nat.le_of_ble_eq_true rfl) (Nat.le_of_ble_eq_true rfl) ?_
      refine oe_M_mono _ _ _ _ _ _ (fun r hp vq => ?_) vc
      obtain ⟨h5, rfl, rfl, vc⟩ := vq
      show oe_V (oe_cost 119) 119 (oe_M (d + 1)) none Q 46 [some (.inr (.inl v0)), some (.inl v1), some (.inl v2), some (.inl v3)] [] (sh, g, h5) 0 0
      exact s_ret (oe_t119 30 (q := (46, .return_, 1)) rfl) rfl vc
  · replace vc := vc.2 c1
    refine s_aload_n (oe_t119 3 (q := (5, .aload_n 0, 1)) rfl) rfl ?_
    refine s_aload_n (oe_t119 4 (q := (6, .aload_n 0, 1)) rfl) rfl ?_
    obtain ⟨s7, vc⟩ := vc
    obtain ⟨q8, p9, vc⟩ := vc
    refine s_getr (oe_t119 5 (q := (7, .getfield 5001, 3)) rfl) s7 rfl rfl p9 ?_
    obtain ⟨s10, vc⟩ := vc
    obtain ⟨q11, p12, vc⟩ := vc
    refine s_getr (oe_t119 6 (q := (10, .getfield 3011, 3)) rfl) s10 rfl rfl p12 ?_
    refine s_iload_n (oe_t119 7 (q := (13, .iload_n 1, 1)) rfl) rfl ?_
    refine s_iconst (oe_t119 8 (q := (14, .iconst 1, 1)) rfl) ?_
    obtain ⟨r13, vc⟩ := vc
    refine s_iadd (oe_t119 9 (q := (15, .iadd, 1)) rfl) r13 ?_
    obtain ⟨n15, s14, vc⟩ := vc
    obtain ⟨i16, i17, vc⟩ := vc
    refine s_iaload (oe_t119 10 (q := (16, .iaload, 1)) rfl) s14 i16 i17 ?_
    refine s_aload_n (oe_t119 11 (q := (17, .aload_n 0, 1)) rfl) rfl ?_
    refine s_getr (oe_t119 12 (q := (18, .getfield 5001, 3)) rfl) s7 rfl rfl p9 ?_
    refine s_getr (oe_t119 13 (q := (21, .getfield 3011, 3)) rfl) s10 rfl rfl p12 ?_
    refine s_iload_n (oe_t119 14 (q := (24, .iload_n 2, 1)) rfl) rfl ?_
    refine s_iconst (oe_t119 15 (q := (25, .iconst 1, 1)) rfl) ?_
    obtain ⟨r18, vc⟩ := vc
    refine s_iadd (oe_t119 16 (q := (26, .iadd, 1)) rfl) r18 ?_
    obtain ⟨i19, i20, vc⟩ := vc
    refine s_iaload (oe_t119 17 (q := (27, .iaload, 1)) rfl) s14 i19 i20 ?_
    refine s_callv (oe_t119 18 (q := (28, .invokevirtual 118052, 3)) rfl) rfl s7 rfl (Nat.le_of_ble_eq_true rfl) (Nat.le_of_ble_eq_true rfl) (Nat.le_of_ble_eq_true rfl) (Nat.le_of_ble_eq_true rfl) ?_
    refine oe_M_mono _ _ _ _ _ _ (fun r hp vq => ?_) vc
    obtain ⟨h21, rfl, rfl, vc⟩ := vq
    show oe_V (oe_cost 119) 119 (oe_M (d + 1)) none Q 31 [some (.inr (.inl v0)), some (.inl v1), some (.inl v2), some (.inl v3)] [] (sh, g, h21) 0 0
    refine s_iload_n (oe_t119 19 (q := (31, .iload_n 3, 1)) rfl) rfl ?_
    refine s_iconst (oe_t119 20 (q := (32, .iconst 1, 1)) rfl) ?_
    refine s_ic_lt (oe_t119 21 (q := (33, .if_icmp .lt 46, 3)) rfl) (fun c22 => ?_) (fun c22 => ?_)
    · replace vc := vc.1 c22
      exact s_ret (oe_t119 30 (q := (46, .return_, 1)) rfl) rfl vc
    · replace vc := vc.2 c22
      refine s_aload_n (oe_t119 22 (q := (36, .aload_n 0, 1)) rfl) rfl ?_
      refine s_iload_n (oe_t119 23 (q := (37, .iload_n 1, 1)) rfl) rfl ?_
      refine s_iconst (oe_t119 24 (q := (38, .iconst 1, 1)) rfl) ?_
      obtain ⟨r23, vc⟩ := vc
      refine s_iadd (oe_t119 25 (q := (39, .iadd, 1)) rfl) r23 ?_
      refine s_iload_n (oe_t119 26 (q := (40, .iload_n 2, 1)) rfl) rfl ?_
      refine s_iconst (oe_t119 27 (q := (41, .iconst 1, 1)) rfl) ?_
      obtain ⟨r24, vc⟩ := vc
      refine s_iadd (oe_t119 28 (q := (42, .iadd, 1)) rfl) r24 ?_
      refine s_callv (oe_t119 29 (q := (43, .invokevirtual 118052, 3)) rfl) rfl s7 rfl (Nat.le_of_ble_eq_true rfl) (Nat.le_of_ble_eq_true rfl) (Nat.le_of_ble_eq_true rfl) (Nat.le_of_ble_eq_true rfl) ?_
      refine oe_M_mono _ _ _ _ _ _ (fun r hp vq => ?_) vc
      obtain ⟨h25, rfl, rfl, vc⟩ := vq
      show oe_V (oe_cost 119) 119 (oe_M (d + 1)) none Q 46 [some (.inr (.inl v0)), some (.inl v1), some (.inl v2), some (.inl v3)] [] (sh, g, h25) 0 0
      exact s_ret (oe_t119 30 (q := (46, .return_, 1)) rfl) rfl vc
theorem oe_u120 : oe_c120.all (fun q => decide (oe_find oe_c120 q.1 = some q.2)) = true := by decide +kernel
theorem oe_t120 (k : Nat) {q : Nat × Jvm.ClassFile.Instr × Nat} (h : oe_c120[k]? = some q) : oe_find (oe_code 120) q.1 = some q.2 := oe_ft oe_u120 h
theorem g120 {d : Nat} {sh : List (Nat × Nat)} {g : Nat → Nat → Option Nat} {h : Nat → Nat → Int} {Q : oeQ} {v0 : Nat} {v1 : Int}
    (vc : oe_V (oe_cost 120) 120 (oe_M (d + 1)) none Q 4 [some (.inr (.inl v0)), none, some (.inl v1), some (.inl 0), none] [] (sh, g, h) 0 0) :
    oe_M (d + 2) 120 [.inr (.inl v0), .inl v1] (sh, g, h) Q := by
  refine oe_M.of (by simp [oe_c1]) (Nat.le_of_ble_eq_true rfl) ?_
  show oe_V (oe_cost 120) 120 (oe_M (d + 1)) none Q 0 [some (.inr (.inl v0)), some (.inl v1), none, none, none] [] (sh, g, h) 0 0
  refine s_iload_n (oe_t120 0 (q := (0, .iload_n 1, 1)) rfl) rfl ?_
  refine s_istore_n (oe_t120 1 (q := (1, .istore_n 2, 1)) rfl) ?_
  refine s_iconst (oe_t120 2 (q := (2, .iconst 0, 1)) rfl) ?_
  refine s_istore_n (oe_t120 3 (q := (3, .istore_n 3, 1)) rfl) ?_
  exact oe_V.fg (oe_M_mono _) (show oe_fg [some (.inr (.inl v0)), none, some (.inl v1), some (.inl 0), none] _ from ⟨rfl, ⟨rfl, ⟨rfl, trivial⟩⟩⟩) vc
theorem g120_4 {d : Nat} {sh : List (Nat × Nat)} {g : Nat → Nat → Option Nat} {h : Nat → Nat → Int} {Q : oeQ} {v0 : Nat} {v2 : Int} {v3 : Int}
    (vc : (12 ≤ v3 → Q (some (.inl v2)) (sh, g, h)) ∧ (v3 < 12 → sh[v0]? = some (10, 8) ∧ ∃ q3, g v0 0 = some q3 ∧ sh[q3]? = some (8, 3) ∧ ∃ q6, g q3 0 = some q6 ∧ ∃ n9, sh[q6]? = some (0, n9) ∧ 0 ≤ v2 ∧ v2 < (n9 : Nat) ∧ ((h q6 (v2 : Int).toNat) < 12 → ∃ q13, g v0 1 = some q13 ∧ ∃ n16, sh[q13]? = some (0, n16) ∧ 0 ≤ (h q6 (v2 : Int).toNat) ∧ (h q6 (v2 : Int).toNat) < (n16 : Nat) ∧ ((h q13 ((h q6 (v2 : Int).toNat) : Int).toNat) ≠ (-1) → 0 ≤ (h q6 (v2 : Int).toNat) ∧ (h q6 (v2 : Int).toNat) < (n16 : Nat) ∧ oe_rg (v3 + 1) ∧ oe_V (oe_cost 120) 120 (oe_M (d + 1)) none Q 4 [some (.inr (.inl v0)), none, some (.inl (h q13 ((h q6 (v2 : Int).toNat) : Int).toNat)), some (.inl (v3 + 1)), none] [] (sh, g, h) 0 0) ∧ ((h q13 ((h q6 (v2 : Int).toNat) : Int).toNat) = (-1) → Q (some (.inl v2)) (sh, g, h))) ∧ (12 ≤ (h q6 (v2 : Int).toNat) → Q (some (.inl v2)) (sh, g, h)))) :
    oe_V (oe_cost 120) 120 (oe_M (d + 1)) none Q 4 [some (.inr (.inl v0)), none, some (.inl v2), some (.inl v3), none] [] (sh, g, h) 0 0 := by
  refine s_iload_n (oe_t120 4 (q := (4, .iload_n 3, 1)) rfl) rfl ?_
  refine s_bipush (oe_t120 5 (q := (5, .bipush 12, 2)) rfl) ?_
  refine s_ic_ge (oe_t120 6 (q := (7, .if_icmp .ge 56, 3)) rfl) (fun c1 => ?_) (fun c1 => ?_)
  · replace vc := vc.1 c1
    refine s_iload_n (oe_t120 31 (q := (56, .iload_n 2, 1)) rfl) rfl ?_
    exact s_iret (oe_t120 32 (q := (57, .ireturn, 1)) rfl) (Or.inl rfl) vc
  · replace vc := vc.2 c1
    refine s_aload_n (oe_t120 7 (q := (10, .aload_n 0, 1)) rfl) rfl ?_
    obtain ⟨s2, vc⟩ := vc
    obtain ⟨q3, p4, vc⟩ := vc
    refine s_getr (oe_t120 8 (q := (11, .getfield 5001, 3)) rfl) s2 rfl rfl p4 ?_
    obtain ⟨s5, vc⟩ := vc
    obtain ⟨q6, p7, vc⟩ := vc
    refine s_getr (oe_t120 9 (q := (14, .getfield 3001, 3)) rfl) s5 rfl rfl p7 ?_
    refine s_iload_n (oe_t120 10 (q := (17, .iload_n 2, 1)) rfl) rfl ?_
    obtain ⟨n9, s8, vc⟩ := vc
    obtain ⟨i10, i11, vc⟩ := vc
    refine s_iaload (oe_t120 11 (q := (18, .iaload, 1)) rfl) s8 i10 i11 ?_
    refine s_istore (oe_t120 12 (q := (19, .istore 4, 2)) rfl) ?_
    refine s_iload (oe_t120 13 (q := (21, .iload 4, 2)) rfl) rfl ?_
    refine s_calls (oe_t120 14 (q := (23, .invokestatic 16001, 3)) rfl) (by decide) (Nat.le_of_ble_eq_true rfl) (Nat.le_of_ble_eq_true rfl) (Nat.le_of_ble_eq_true rfl) (Nat.le_of_ble_eq_true rfl) (sp_16 (fun c12 => ?_) (fun c12 => ?_))
    · replace vc := vc.1 c12
      show oe_V (oe_cost 120) 120 (oe_M (d + 1)) none Q 26 [some (.inr (.inl v0)), none, some (.inl v2), some (.inl v3), some (.inl (h q6 (v2 : Int).toNat))] [.inl 1] (sh, g, h) 0 0
      refine s_if_eq (oe_t120 15 (q := (26, .ifCond .eq 40, 3)) rfl) (fun q => absurd q (by decide)) (fun _ => ?_)
      refine s_aload_n (oe_t120 16 (q := (29, .aload_n 0, 1)) rfl) rfl ?_
      obtain ⟨q13, p14, vc⟩ := vc
      refine s_getr (oe_t120 17 (q := (30, .getfield 5011, 3)) rfl) s2 rfl rfl p14 ?_
      refine s_iload (oe_t120 18 (q := (33, .iload 4, 2)) rfl) rfl ?_
      obtain ⟨n16, s15, vc⟩ := vc
      obtain ⟨i17, i18, vc⟩ := vc
      refine s_iaload (oe_t120 19 (q := (35, .iaload, 1)) rfl) s15 i17 i18 ?_
      refine s_iconst (oe_t120 20 (q := (36, .iconst (-1), 1)) rfl) ?_
      refine s_ic_ne (oe_t120 21 (q := (37, .if_icmp .ne 42, 3)) rfl) (fun c19 => ?_) (fun c19 => ?_)
      · replace vc := vc.1 c19
        refine s_aload_n (oe_t120 24 (q := (42, .aload_n 0, 1)) rfl) rfl ?_
        refine s_getr (oe_t120 25 (q := (43, .getfield 5011, 3)) rfl) s2 rfl rfl p14 ?_
        refine s_iload (oe_t120 26 (q := (46, .iload 4, 2)) rfl) rfl ?_
        obtain ⟨i20, i21, vc⟩ := vc
        refine s_iaload (oe_t120 27 (q := (48, .iaload, 1)) rfl) s15 i20 i21 ?_
        refine s_istore_n (oe_t120 28 (q := (49, .istore_n 2, 1)) rfl) ?_
        obtain ⟨r22, vc⟩ := vc
        refine s_iinc (oe_t120 29 (q := (50, .iinc 3 1, 3)) rfl) rfl r22 ?_
        refine s_goto (oe_t120 30 (q := (53, .goto 4, 3)) rfl) ?_
        exact oe_V.fg (oe_M_mono _) (show oe_fg [some (.inr (.inl v0)), none, some (.inl (h q13 ((h q6 (v2 : Int).toNat) : Int).toNat)), some (.inl (v3 + 1)), none] _ from ⟨rfl, ⟨rfl, ⟨rfl, trivial⟩⟩⟩) vc
      · replace vc := vc.2 c19
        refine s_iload_n (oe_t120 22 (q := (40, .iload_n 2, 1)) rfl) rfl ?_
        exact s_iret (oe_t120 23 (q := (41, .ireturn, 1)) rfl) (Or.inl rfl) vc
    · replace vc := vc.2 c12
      show oe_V (oe_cost 120) 120 (oe_M (d + 1)) none Q 26 [some (.inr (.inl v0)), none, some (.inl v2), some (.inl v3), some (.inl (h q6 (v2 : Int).toNat))] [.inl 0] (sh, g, h) 0 0
      refine s_if_eq (oe_t120 15 (q := (26, .ifCond .eq 40, 3)) rfl) (fun _ => ?_) (fun q => absurd q (by decide))
      refine s_iload_n (oe_t120 22 (q := (40, .iload_n 2, 1)) rfl) rfl ?_
      exact s_iret (oe_t120 23 (q := (41, .ireturn, 1)) rfl) (Or.inl rfl) vc
theorem oe_u121 : oe_c121.all (fun q => decide (oe_find oe_c121 q.1 = some q.2)) = true := by decide +kernel
theorem oe_t121 (k : Nat) {q : Nat × Jvm.ClassFile.Instr × Nat} (h : oe_c121[k]? = some q) : oe_find (oe_code 121) q.1 = some q.2 := oe_ft oe_u121 h
theorem g121 {d : Nat} {sh : List (Nat × Nat)} {g : Nat → Nat → Option Nat} {h : Nat → Nat → Int} {Q : oeQ} {v0 : Nat} {v1 : Int} {v2 : Int}
    (vc : sh[v0]? = some (10, 8) ∧ ∃ q2, g v0 0 = some q2 ∧ sh[q2]? = some (8, 3) ∧ ∃ q5, g q2 1 = some q5 ∧ ∃ n8, sh[q5]? = some (0, n8) ∧ 0 ≤ v2 ∧ v2 < (n8 : Nat) ∧ oe_M (d + 1) 124 [.inr (.inl v0), .inl v2, .inl (h q5 (v2 : Int).toNat), .inl 300] (sh, g, h) (fun r hp => ∃ (x12 : Int) (h11 : Nat → Nat → Int), r = some (.inl x12) ∧ hp = (sh, g, h11) ∧ (x12 = 0 → Q (some (.inl 0)) (sh, g, h11)) ∧ (x12 ≠ 0 → ∃ q14, g v0 5 = some q14 ∧ sh[q14]? = some (8, 3) ∧ oe_M (d + 1) 106 [.inr (.inl q14), .inl v1, .inl 0, .inl (h11 q14 2)] (sh, g, h11) (fun r hp => ∃ (x17 : Int), r = some (.inl x17) ∧ hp = (sh, g, h11) ∧ (x17 = 0 → ∃ q19, g v0 1 = some q19 ∧ ∃ n22, sh[q19]? = some (0, n22) ∧ 0 ≤ v1 ∧ v1 < (n22 : Nat) ∧ ∀ h25, h25 = oe_up h11 q19 (v1 : Int).toNat v2 → Q (some (.inl 1)) (sh, g, h25)) ∧ (x17 ≠ 0 → Q (some (.inl 0)) (sh, g, h11)))))) :
    oe_M (d + 2) 121 [.inr (.inl v0), .inl v1, .inl v2] (sh, g, h) Q := by
  refine oe_M.of (by simp [oe_c1]) (Nat.le_of_ble_eq_true rfl) ?_
  show oe_V (oe_cost 121) 121 (oe_M (d + 1)) none Q 0 [some (.inr (.inl v0)), some (.inl v1), some (.inl v2)] [] (sh, g, h) 0 0
  refine s_aload_n (oe_t121 0 (q := (0, .aload_n 0, 1)) rfl) rfl ?_
  refine s_iload_n (oe_t121 1 (q := (1, .iload_n 2, 1)) rfl) rfl ?_
  refine s_aload_n (oe_t121 2 (q := (2, .aload_n 0, 1)) rfl) rfl ?_
  obtain ⟨s1, vc⟩ := vc
  obtain ⟨q2, p3, vc⟩ := vc
  refine s_getr (oe_t121 3 (q := (3, .getfield 5001, 3)) rfl) s1 rfl rfl p3 ?_
  obtain ⟨s4, vc⟩ := vc
  obtain ⟨q5, p6, vc⟩ := vc
  refine s_getr (oe_t121 4 (q := (6, .getfield 3011, 3)) rfl) s4 rfl rfl p6 ?_
  refine s_iload_n (oe_t121 5 (q := (9, .iload_n 2, 1)) rfl) rfl ?_
  obtain ⟨n8, s7, vc⟩ := vc
  obtain ⟨i9, i10, vc⟩ := vc
  refine s_iaload (oe_t121 6 (q := (10, .iaload, 1)) rfl) s7 i9 i10 ?_
  refine s_sipush (oe_t121 7 (q := (11, .sipush 300, 3)) rfl) ?_
  refine s_callv (oe_t121 8 (q := (14, .invokevirtual 124053, 3)) rfl) rfl s1 rfl (Nat.le_of_ble_eq_true rfl) (Nat.le_of_ble_eq_true rfl) (Nat.le_of_ble_eq_true rfl) (Nat.le_of_ble_eq_true rfl) ?_
  refine oe_M_mono _ _ _ _ _ _ (fun r hp vq => ?_) vc
  obtain ⟨x12, h11, rfl, rfl, vc⟩ := vq
  show oe_V (oe_cost 121) 121 (oe_M (d + 1)) none Q 17 [some (.inr (.inl v0)), some (.inl v1), some (.inl v2)] [.inl x12] (sh, g, h11) 0 0
  refine s_if_eq (oe_t121 9 (q := (17, .ifCond .eq 39, 3)) rfl) (fun c13 => ?_) (fun c13 => ?_)
  · replace vc := vc.1 c13
    refine s_iconst (oe_t121 19 (q := (39, .iconst 0, 1)) rfl) ?_
    exact s_iret (oe_t121 20 (q := (40, .ireturn, 1)) rfl) (Or.inr (Or.inl ⟨rfl, Or.inl rfl⟩)) vc
  · replace vc := vc.2 c13
    refine s_aload_n (oe_t121 10 (q := (20, .aload_n 0, 1)) rfl) rfl ?_
    obtain ⟨q14, p15, vc⟩ := vc
    refine s_getr (oe_t121 11 (q := (21, .getfield 5051, 3)) rfl) s1 rfl rfl p15 ?_
    refine s_iload_n (oe_t121 12 (q := (24, .iload_n 1, 1)) rfl) rfl ?_
    refine s_iconst (oe_t121 13 (q := (25, .iconst 0, 1)) rfl) ?_
    refine s_aload_n (oe_t121 14 (q := (26, .aload_n 0, 1)) rfl) rfl ?_
    refine s_getr (oe_t121 15 (q := (27, .getfield 5051, 3)) rfl) s1 rfl rfl p15 ?_
    obtain ⟨s16, vc⟩ := vc
    refine s_geti (oe_t121 16 (q := (30, .getfield 3020, 3)) rfl) s16 rfl (by decide) ?_
    refine s_callv (oe_t121 17 (q := (33, .invokevirtual 106033, 3)) rfl) rfl s16 rfl (Nat.le_of_ble_eq_true rfl) (Nat.le_of_ble_eq_true rfl) (Nat.le_of_ble_eq_true rfl) (Nat.le_of_ble_eq_true rfl) ?_
    refine oe_M_mono _ _ _ _ _ _ (fun r hp vq => ?_) vc
    obtain ⟨x17, rfl, rfl, vc⟩ := vq
    show oe_V (oe_cost 121) 121 (oe_M (d + 1)) none Q 36 [some (.inr (.inl v0)), some (.inl v1), some (.inl v2)] [.inl x17] (sh, g, h11) 0 0
    refine s_if_eq (oe_t121 18 (q := (36, .ifCond .eq 41, 3)) rfl) (fun c18 => ?_) (fun c18 => ?_)
    · replace vc := vc.1 c18
      refine s_aload_n (oe_t121 21 (q := (41, .aload_n 0, 1)) rfl) rfl ?_
      obtain ⟨q19, p20, vc⟩ := vc
      refine s_getr (oe_t121 22 (q := (42, .getfield 5011, 3)) rfl) s1 rfl rfl p20 ?_
      refine s_iload_n (oe_t121 23 (q := (45, .iload_n 1, 1)) rfl) rfl ?_
      refine s_iload_n (oe_t121 24 (q := (46, .iload_n 2, 1)) rfl) rfl ?_
      obtain ⟨n22, s21, vc⟩ := vc
      obtain ⟨i23, i24, vc⟩ := vc
      refine t_iastore (oe_t121 25 (q := (47, .iastore, 1)) rfl) s21 i23 i24 (fun h25 e26 => ?_)
      replace vc := vc h25 e26
      refine s_iconst (oe_t121 26 (q := (48, .iconst 1, 1)) rfl) ?_
      exact s_iret (oe_t121 27 (q := (49, .ireturn, 1)) rfl) (Or.inr (Or.inl ⟨rfl, Or.inr rfl⟩)) vc
    · replace vc := vc.2 c18
      refine s_iconst (oe_t121 19 (q := (39, .iconst 0, 1)) rfl) ?_
      exact s_iret (oe_t121 20 (q := (40, .ireturn, 1)) rfl) (Or.inr (Or.inl ⟨rfl, Or.inl rfl⟩)) vc
theorem oe_u122 : oe_c122.all (fun q => decide (oe_find oe_c122 q.1 = some q.2)) = true := by decide +kernel
theorem oe_t122 (k : Nat) {q : Nat × Jvm.ClassFile.Instr × Nat} (h : oe_c122[k]? = some q) : oe_find (oe_code 122) q.1 = some q.2 := oe_ft oe_u122 h
theorem g122 {d : Nat} {sh : List (Nat × Nat)} {g : Nat → Nat → Option Nat} {h : Nat → Nat → Int} {Q : oeQ} {v0 : Nat} {v1 : Int} {v2 : Int}
    (vc : sh[v0]? = some (10, 8) ∧ oe_M (d + 1) 124 [.inr (.inl v0), .inl v1, .inl v2, .inl 300] (sh, g, h) (fun r hp => ∃ (x2 : Int) (h1 : Nat → Nat → Int), r = some (.inl x2) ∧ hp = (sh, g, h1) ∧ ∃ q4, g v0 5 = some q4 ∧ sh[q4]? = some (8, 3) ∧ Q (some (.inl (h1 q4 2))) (sh, g, h1))) :
    oe_M (d + 2) 122 [.inr (.inl v0), .inl v1, .inl v2] (sh, g, h) Q := by
  refine oe_M.of (by simp [oe_c1]) (Nat.le_of_ble_eq_true rfl) ?_
  show oe_V (oe_cost 122) 122 (oe_M (d + 1)) none Q 0 [some (.inr (.inl v0)), some (.inl v1), some (.inl v2)] [] (sh, g, h) 0 0
  refine s_aload_n (oe_t122 0 (q := (0, .aload_n 0, 1)) rfl) rfl ?_
  refine s_iload_n (oe_t122 1 (q := (1, .iload_n 1, 1)) rfl) rfl ?_
  refine s_iload_n (oe_t122 2 (q := (2, .iload_n 2, 1)) rfl) rfl ?_
  refine s_sipush (oe_t122 3 (q := (3, .sipush 300, 3)) rfl) ?_
  obtain ⟨s3, vc⟩ := vc
  refine s_callv (oe_t122 4 (q := (6, .invokevirtual 124053, 3)) rfl) rfl s3 rfl (Nat.le_of_ble_eq_true rfl) (Nat.le_of_ble_eq_true rfl) (Nat.le_of_ble_eq_true rfl) (Nat.le_of_ble_eq_true rfl) ?_
  refine oe_M_mono _ _ _ _ _ _ (fun r hp vq => ?_) vc
  obtain ⟨x2, h1, rfl, rfl, vc⟩ := vq
  show oe_V (oe_cost 122) 122 (oe_M (d + 1)) none Q 9 [some (.inr (.inl v0)), some (.inl v1), some (.inl v2)] [.inl x2] (sh, g, h1) 0 0
  refine s_pop (oe_t122 5 (q := (9, .pop, 1)) rfl) trivial ?_
  refine s_aload_n (oe_t122 6 (q := (10, .aload_n 0, 1)) rfl) rfl ?_
  obtain ⟨q4, p5, vc⟩ := vc
  refine s_getr (oe_t122 7 (q := (11, .getfield 5051, 3)) rfl) s3 rfl rfl p5 ?_
  obtain ⟨s6, vc⟩ := vc
  refine s_geti (oe_t122 8 (q := (14, .getfield 3020, 3)) rfl) s6 rfl (by decide) ?_
  exact s_iret (oe_t122 9 (q := (17, .ireturn, 1)) rfl) (Or.inl rfl) vc
theorem oe_u123 : oe_c123.all (fun q => decide (oe_find oe_c123 q.1 = some q.2)) = true := by decide +kernel
theorem oe_t123 (k : Nat) {q : Nat × Jvm.ClassFile.Instr × Nat} (h : oe_c123[k]? = some q) : oe_find (oe_code 123) q.1 = some q.2 := oe_ft oe_u123 h
theorem g123 {d : Nat} {sh : List (Nat × Nat)} {g : Nat → Nat → Option Nat} {h : Nat → Nat → Int} {Q : oeQ} {v0 : Nat} {v1 : Int} {v2 : Nat} {v3 : Int}
    (vc : sh[v0]? = some (10, 8) ∧ ∃ q2, g v0 0 = some q2 ∧ sh[q2]? = some (8, 3) ∧ ∃ q5, g q2 1 = some q5 ∧ ∃ n8, sh[q5]? = some (0, n8) ∧ 0 ≤ v1 ∧ v1 < (n8 : Nat) ∧ oe_M (d + 1) 124 [.inr (.inl v0), .inl v1, .inl (h q5 (v1 : Int).toNat), .inl v3] (sh, g, h) (fun r hp => ∃ (x12 : Int) (h11 : Nat → Nat → Int), r = some (.inl x12) ∧ hp = (sh, g, h11) ∧ (x12 ≠ 0 → sh[v2]? = some (8, 3) ∧ oe_M (d + 1) 100 [.inr (.inl v2)] (sh, g, h11) (fun r hp => ∃ (h14 : Nat → Nat → Int), r = none ∧ hp = (sh, g, h14) ∧ ∃ q16, g v0 5 = some q16 ∧ oe_M (d + 1) 102 [.inr (.inl v2), .inr (.inl q16), .inl 0] (sh, g, h14) (fun r hp => ∃ (h18 : Nat → Nat → Int), r = none ∧ hp = (sh, g, h18) ∧ oe_M (d + 1) 103 [.inr (.inl v2)] (sh, g, h18) (fun r hp => ∃ (h19 : Nat → Nat → Int), r = none ∧ hp = (sh, g, h19) ∧ Q (some (.inl 1)) (sh, g, h19))))) ∧ (x12 = 0 → Q (some (.inl 0)) (sh, g, h11)))) :
    oe_M (d + 2) 123 [.inr (.inl v0), .inl v1, .inr (.inl v2), .inl v3] (sh, g, h) Q := by
  refine oe_M.of (by simp [oe_c1]) (Nat.le_of_ble_eq_true rfl) ?_
  show oe_V (oe_cost 123) 123 (oe_M (d + 1)) none Q 0 [some (.inr (.inl v0)), some (.inl v1), some (.inr (.inl v2)), some (.inl v3)] [] (sh, g, h) 0 0
  refine s_aload_n (oe_t123 0 (q := (0, .aload_n 0, 1)) rfl) rfl ?_
  refine s_iload_n (oe_t123 1 (q := (1, .iload_n 1, 1)) rfl) rfl ?_
  refine s_aload_n (oe_t123 2 (q := (2, .aload_n 0, 1)) rfl) rfl ?_
  obtain ⟨s1, vc⟩ := vc
  obtain ⟨q2, p3, vc⟩ := vc
  refine s_getr (oe_t123 3 (q := (3, .getfield 5001, 3)) rfl) s1 rfl rfl p3 ?_
  obtain ⟨s4, vc⟩ := vc
  obtain ⟨q5, p6, vc⟩ := vc
  refine s_getr (oe_t123 4 (q := (6, .getfield 3011, 3)) rfl) s4 rfl rfl p6 ?_
  refine s_iload_n (oe_t123 5 (q := (9, .iload_n 1, 1)) rfl) rfl ?_
  obtain ⟨n8, s7, vc⟩ := vc
  obtain ⟨i9, i10, vc⟩ := vc
  refine s_iaload (oe_t123 6 (q := (10, .iaload, 1)) rfl) s7 i9 i10 ?_
  refine s_iload_n (oe_t123 7 (q := (11, .iload_n 3, 1)) rfl) rfl ?_
  refine s_callv (oe_t123 8 (q := (12, .invokevirtual 124053, 3)) rfl) rfl s1 rfl (Nat.le_of_ble_eq_true rfl) (Nat.le_of_ble_eq_true rfl) (Nat.le_of_ble_eq_true rfl) (Nat.le_of_ble_eq_true rfl) ?_
  refine oe_M_mono _ _ _ _ _ _ (fun r hp vq => ?_) vc
  obtain ⟨x12, h11, rfl, rfl, vc⟩ := vq
  show oe_V (oe_cost 123) 123 (oe_M (d + 1)) none Q 15 [some (.inr (.inl v0)), some (.inl v1), some (.inr (.inl v2)), some (.inl v3)] [.inl x12] (sh, g, h11) 0 0
  refine s_if_ne (oe_t123 9 (q := (15, .ifCond .ne 20, 3)) rfl) (fun c13 => ?_) (fun c13 => ?_)
  · replace vc := vc.1 c13
    refine s_aload_n (oe_t123 12 (q := (20, .aload_n 2, 1)) rfl) rfl ?_
    obtain ⟨s15, vc⟩ := vc
    refine s_callv (oe_t123 13 (q := (21, .invokevirtual 100030, 3)) rfl) rfl s15 rfl (Nat.le_of_ble_eq_true rfl) (Nat.le_of_ble_eq_true rfl) (Nat.le_of_ble_eq_true rfl) (Nat.le_of_ble_eq_true rfl) ?_
    refine oe_M_mono _ _ _ _ _ _ (fun r hp vq => ?_) vc
    obtain ⟨h14, rfl, rfl, vc⟩ := vq
    show oe_V (oe_cost 123) 123 (oe_M (d + 1)) none Q 24 [some (.inr (.inl v0)), some (.inl v1), some (.inr (.inl v2)), some (.inl v3)] [] (sh, g, h14) 0 0
    refine s_aload_n (oe_t123 14 (q := (24, .aload_n 2, 1)) rfl) rfl ?_
    refine s_aload_n (oe_t123 15 (q := (25, .aload_n 0, 1)) rfl) rfl ?_
    obtain ⟨q16, p17, vc⟩ := vc
    refine s_getr (oe_t123 16 (q := (26, .getfield 5051, 3)) rfl) s1 rfl rfl p17 ?_
    refine s_iconst (oe_t123 17 (q := (29, .iconst 0, 1)) rfl) ?_
    refine s_callv (oe_t123 18 (q := (30, .invokevirtual 102032, 3)) rfl) rfl s15 rfl (Nat.le_of_ble_eq_true rfl) (Nat.le_of_ble_eq_true rfl) (Nat.le_of_ble_eq_true rfl) (Nat.le_of_ble_eq_true rfl) ?_
    refine oe_M_mono _ _ _ _ _ _ (fun r hp vq => ?_) vc
    obtain ⟨h18, rfl, rfl, vc⟩ := vq
    show oe_V (oe_cost 123) 123 (oe_M (d + 1)) none Q 33 [some (.inr (.inl v0)), some (.inl v1), some (.inr (.inl v2)), some (.inl v3)] [] (sh, g, h18) 0 0
    refine s_aload_n (oe_t123 19 (q := (33, .aload_n 2, 1)) rfl) rfl ?_
    refine s_callv (oe_t123 20 (q := (34, .invokevirtual 103030, 3)) rfl) rfl s15 rfl (Nat.le_of_ble_eq_true rfl) (Nat.le_of_ble_eq_true rfl) (Nat.le_of_ble_eq_true rfl) (Nat.le_of_ble_eq_true rfl) ?_
    refine oe_M_mono _ _ _ _ _ _ (fun r hp vq => ?_) vc
    obtain ⟨h19, rfl, rfl, vc⟩ := vq
    show oe_V (oe_cost 123) 123 (oe_M (d + 1)) none Q 37 [some (.inr (.inl v0)), some (.inl v1), some (.inr (.inl v2)), some (.inl v3)] [] (sh, g, h19) 0 0
    refine s_iconst (oe_t123 21 (q := (37, .iconst 1, 1)) rfl) ?_
    exact s_iret (oe_t123 22 (q := (38, .ireturn, 1)) rfl) (Or.inr (Or.inl ⟨rfl, Or.inr rfl⟩)) vc
  · replace vc := vc.2 c13
    refine s_iconst (oe_t123 10 (q := (18, .iconst 0, 1)) rfl) ?_
    exact s_iret (oe_t123 11 (q := (19, .ireturn, 1)) rfl) (Or.inr (Or.inl ⟨rfl, Or.inl rfl⟩)) vc
theorem oe_u124 : oe_c124.all (fun q => decide (oe_find oe_c124 q.1 = some q.2)) = true := by decide +kernel
theorem oe_t124 (k : Nat) {q : Nat × Jvm.ClassFile.Instr × Nat} (h : oe_c124[k]? = some q) : oe_find (oe_code 124) q.1 = some q.2 := oe_ft oe_u124 h
theorem g124 {d : Nat} {sh : List (Nat × Nat)} {g : Nat → Nat → Option Nat} {h : Nat → Nat → Int} {Q : oeQ} {v0 : Nat} {v1 : Int} {v2 : Int} {v3 : Int}
    (vc : sh[v0]? = some (10, 8) ∧ ∃ q2, g v0 5 = some q2 ∧ sh[q2]? = some (8, 3) ∧ oe_M (d + 1) 100 [.inr (.inl q2)] (sh, g, h) (fun r hp => ∃ (h4 : Nat → Nat → Int), r = none ∧ hp = (sh, g, h4) ∧ ∃ q6, g v0 6 = some q6 ∧ ∃ n9, sh[q6]? = some (0, n9) ∧ 0 ≤ (0 : Int) ∧ (0 : Int) < (n9 : Nat) ∧ ∀ h12, h12 = oe_up h4 q6 0 v1 → ∃ q14, g v0 7 = some q14 ∧ ∃ n17, sh[q14]? = some (0, n17) ∧ 0 ≤ (0 : Int) ∧ (0 : Int) < (n17 : Nat) ∧ ∀ h20, h20 = oe_up h12 q14 0 v2 → oe_V (oe_cost 124) 124 (oe_M (d + 1)) none Q 27 [some (.inr (.inl v0)), none, none, some (.inl v3), some (.inl 0), some (.inl 0), none, none] [] (sh, g, h20) 0 0)) :
    oe_M (d + 2) 124 [.inr (.inl v0), .inl v1, .inl v2, .inl v3] (sh, g, h) Q := by
  refine oe_M.of (by simp [oe_c1]) (Nat.le_of_ble_eq_true rfl) ?_
  show oe_V (oe_cost 124) 124 (oe_M (d + 1)) none Q 0 [some (.inr (.inl v0)), some (.inl v1), some (.inl v2), some (.inl v3), none, none, none, none] [] (sh, g, h) 0 0
  refine s_aload_n (oe_t124 0 (q := (0, .aload_n 0, 1)) rfl) rfl ?_
  obtain ⟨s1, vc⟩ := vc
  obtain ⟨q2, p3, vc⟩ := vc
  refine s_getr (oe_t124 1 (q := (1, .getfield 5051, 3)) rfl) s1 rfl rfl p3 ?_
  obtain ⟨s5, vc⟩ := vc
  refine s_callv (oe_t124 2 (q := (4, .invokevirtual 100030, 3)) rfl) rfl s5 rfl (Nat.le_of_ble_eq_true rfl) (Nat.le_of_ble_eq_true rfl) (Nat.le_of_ble_eq_true rfl) (Nat.le_of_ble_eq_true rfl) ?_
  refine oe_M_mono _ _ _ _ _ _ (fun r hp vq => ?_) vc
  obtain ⟨h4, rfl, rfl, vc⟩ := vq
  show oe_V (oe_cost 124) 124 (oe_M (d + 1)) none Q 7 [some (.inr (.inl v0)), some (.inl v1), some (.inl v2), some (.inl v3), none, none, none, none] [] (sh, g, h4) 0 0
  refine s_iconst (oe_t124 3 (q := (7, .iconst 0, 1)) rfl) ?_
  refine s_istore (oe_t124 4 (q := (8, .istore 4, 2)) rfl) ?_
  refine s_aload_n (oe_t124 5 (q := (10, .aload_n 0, 1)) rfl) rfl ?_
  obtain ⟨q6, p7, vc⟩ := vc
  refine s_getr (oe_t124 6 (q := (11, .getfield 5061, 3)) rfl) s1 rfl rfl p7 ?_
  refine s_iconst (oe_t124 7 (q := (14, .iconst 0, 1)) rfl) ?_
  refine s_iload_n (oe_t124 8 (q := (15, .iload_n 1, 1)) rfl) rfl ?_
  obtain ⟨n9, s8, vc⟩ := vc
  obtain ⟨i10, i11, vc⟩ := vc
  refine t_iastore (oe_t124 9 (q := (16, .iastore, 1)) rfl) s8 i10 i11 (fun h12 e13 => ?_)
  replace vc := vc h12 e13
  refine s_aload_n (oe_t124 10 (q := (17, .aload_n 0, 1)) rfl) rfl ?_
  obtain ⟨q14, p15, vc⟩ := vc
  refine s_getr (oe_t124 11 (q := (18, .getfield 5071, 3)) rfl) s1 rfl rfl p15 ?_
  refine s_iconst (oe_t124 12 (q := (21, .iconst 0, 1)) rfl) ?_
  refine s_iload_n (oe_t124 13 (q := (22, .iload_n 2, 1)) rfl) rfl ?_
  obtain ⟨n17, s16, vc⟩ := vc
  obtain ⟨i18, i19, vc⟩ := vc
  refine t_iastore (oe_t124 14 (q := (23, .iastore, 1)) rfl) s16 i18 i19 (fun h20 e21 => ?_)
  replace vc := vc h20 e21
  refine s_iconst (oe_t124 15 (q := (24, .iconst 0, 1)) rfl) ?_
  refine s_istore (oe_t124 16 (q := (25, .istore 5, 2)) rfl) ?_
  exact oe_V.fg (oe_M_mono _) (show oe_fg [some (.inr (.inl v0)), none, none, some (.inl v3), some (.inl 0), some (.inl 0), none, none] _ from ⟨rfl, ⟨rfl, ⟨rfl, ⟨rfl, trivial⟩⟩⟩⟩) vc
theorem g124_27 {d : Nat} {sh : List (Nat × Nat)} {g : Nat → Nat → Option Nat} {h : Nat → Nat → Int} {Q : oeQ} {v0 : Nat} {v3 : Int} {v4 : Int} {v5 : Int}
    (vc : (1000000 ≤ v5 → (0 ≤ v4 → Q (some (.inl 0)) (sh, g, h)) ∧ (v4 < 0 → Q (some (.inl 1)) (sh, g, h))) ∧ (v5 < 1000000 → (v4 < 0 → (0 ≤ v4 → Q (some (.inl 0)) (sh, g, h)) ∧ (v4 < 0 → Q (some (.inl 1)) (sh, g, h))) ∧ (0 ≤ v4 → sh[v0]? = some (10, 8) ∧ ∃ q27, g v0 6 = some q27 ∧ ∃ n30, sh[q27]? = some (0, n30) ∧ 0 ≤ v4 ∧ v4 < (n30 : Nat) ∧ ∃ q33, g v0 7 = some q33 ∧ ∃ n36, sh[q33]? = some (0, n36) ∧ 0 ≤ v4 ∧ v4 < (n36 : Nat) ∧ ((h q27 (v4 : Int).toNat) < (h q33 (v4 : Int).toNat) → ∃ q40, g v0 0 = some q40 ∧ sh[q40]? = some (8, 3) ∧ ∃ q43, g q40 0 = some q43 ∧ 0 ≤ v4 ∧ v4 < (n30 : Nat) ∧ ∃ n48, sh[q43]? = some (0, n48) ∧ 0 ≤ (h q27 (v4 : Int).toNat) ∧ (h q27 (v4 : Int).toNat) < (n48 : Nat) ∧ 0 ≤ v4 ∧ v4 < (n30 : Nat) ∧ oe_rg ((h q27 (v4 : Int).toNat) + 1) ∧ 0 ≤ v4 ∧ v4 < (n30 : Nat) ∧ ∀ h56, h56 = oe_up h q27 (v4 : Int).toNat ((h q27 (v4 : Int).toNat) + 1) → ((h q43 ((h q27 (v4 : Int).toNat) : Int).toNat) < 12 → ∃ q59, g v0 1 = some q59 ∧ ∃ n62, sh[q59]? = some (0, n62) ∧ 0 ≤ (h q43 ((h q27 (v4 : Int).toNat) : Int).toNat) ∧ (h q43 ((h q27 (v4 : Int).toNat) : Int).toNat) < (n62 : Nat) ∧ oe_V (oe_cost 124) 124 (oe_M (d + 1)) none Q 109 [some (.inr (.inl v0)), none, none, some (.inl v3), some (.inl v4), some (.inl v5), some (.inl (h q43 ((h q27 (v4 : Int).toNat) : Int).toNat)), none] [.inl (h56 q59 ((h q43 ((h q27 (v4 : Int).toNat) : Int).toNat) : Int).toNat)] (sh, g, h56) 0 0) ∧ (12 ≤ (h q43 ((h q27 (v4 : Int).toNat) : Int).toNat) → oe_V (oe_cost 124) 124 (oe_M (d + 1)) none Q 109 [some (.inr (.inl v0)), none, none, some (.inl v3), some (.inl v4), some (.inl v5), some (.inl (h q43 ((h q27 (v4 : Int).toNat) : Int).toNat)), none] [.inl (-1)] (sh, g, h56) 0 0)) ∧ ((h q33 (v4 : Int).toNat) ≤ (h q27 (v4 : Int).toNat) → oe_rg (v4 + (-1)) ∧ oe_rg (v5 + 1) ∧ oe_V (oe_cost 124) 124 (oe_M (d + 1)) none Q 27 [some (.inr (.inl v0)), none, none, some (.inl v3), some (.inl (v4 + (-1))), some (.inl (v5 + 1)), none, none] [] (sh, g, h) 0 0)))) :
    oe_V (oe_cost 124) 124 (oe_M (d + 1)) none Q 27 [some (.inr (.inl v0)), none, none, some (.inl v3), some (.inl v4), some (.inl v5), none, none] [] (sh, g, h) 0 0 := by
  refine s_iload (oe_t124 17 (q := (27, .iload 5, 2)) rfl) rfl ?_
  refine s_ldc (oe_t124 18 (q := (29, .ldc 2000001, 2)) rfl) rfl ?_
  refine s_ic_ge (oe_t124 19 (q := (31, .if_icmp .ge 184, 3)) rfl) (fun c22 => ?_) (fun c22 => ?_)
  · replace vc := vc.1 c22
    refine s_iload (oe_t124 95 (q := (184, .iload 4, 2)) rfl) rfl ?_
    refine s_if_ge (oe_t124 96 (q := (186, .ifCond .ge 193, 3)) rfl) (fun c23 => ?_) (fun c23 => ?_)
    · replace vc := vc.1 c23
      refine s_iconst (oe_t124 99 (q := (193, .iconst 0, 1)) rfl) ?_
      exact s_iret (oe_t124 100 (q := (194, .ireturn, 1)) rfl) (Or.inr (Or.inl ⟨rfl, Or.inl rfl⟩)) vc
    · replace vc := vc.2 c23
      refine s_iconst (oe_t124 97 (q := (189, .iconst 1, 1)) rfl) ?_
      refine s_goto (oe_t124 98 (q := (190, .goto 194, 3)) rfl) ?_
      exact s_iret (oe_t124 100 (q := (194, .ireturn, 1)) rfl) (Or.inr (Or.inl ⟨rfl, Or.inr rfl⟩)) vc
  · replace vc := vc.2 c22
    refine s_iload (oe_t124 20 (q := (34, .iload 4, 2)) rfl) rfl ?_
    refine s_if_lt (oe_t124 21 (q := (36, .ifCond .lt 184, 3)) rfl) (fun c24 => ?_) (fun c24 => ?_)
    · replace vc := vc.1 c24
      refine s_iload (oe_t124 95 (q := (184, .iload 4, 2)) rfl) rfl ?_
      refine s_if_ge (oe_t124 96 (q := (186, .ifCond .ge 193, 3)) rfl) (fun c25 => ?_) (fun c25 => ?_)
      · replace vc := vc.1 c25
        refine s_iconst (oe_t124 99 (q := (193, .iconst 0, 1)) rfl) ?_
        exact s_iret (oe_t124 100 (q := (194, .ireturn, 1)) rfl) (Or.inr (Or.inl ⟨rfl, Or.inl rfl⟩)) vc
      · replace vc := vc.2 c25
        refine s_iconst (oe_t124 97 (q := (189, .iconst 1, 1)) rfl) ?_
        refine s_goto (oe_t124 98 (q := (190, .goto 194, 3)) rfl) ?_
        exact s_iret (oe_t124 100 (q := (194, .ireturn, 1)) rfl) (Or.inr (Or.inl ⟨rfl, Or.inr rfl⟩)) vc
    · replace vc := vc.2 c24
      refine s_aload_n (oe_t124 22 (q := (39, .aload_n 0, 1)) rfl) rfl ?_
      obtain ⟨s26, vc⟩ := vc
      obtain ⟨q27, p28, vc⟩ := vc
      refine s_getr (oe_t124 23 (q := (40, .getfield 5061, 3)) rfl) s26 rfl rfl p28 ?_
      refine s_iload (oe_t124 24 (q := (43, .iload 4, 2)) rfl) rfl ?_
      obtain ⟨n30, s29, vc⟩ := vc
      obtain ⟨i31, i32, vc⟩ := vc
      refine s_iaload (oe_t124 25 (q := (45, .iaload, 1)) rfl) s29 i31 i32 ?_
      refine s_aload_n (oe_t124 26 (q := (46, .aload_n 0, 1)) rfl) rfl ?_
      obtain ⟨q33, p34, vc⟩ := vc
      refine s_getr (oe_t124 27 (q := (47, .getfield 5071, 3)) rfl) s26 rfl rfl p34 ?_
      refine s_iload (oe_t124 28 (q := (50, .iload 4, 2)) rfl) rfl ?_
      obtain ⟨n36, s35, vc⟩ := vc
      obtain ⟨i37, i38, vc⟩ := vc
      refine s_iaload (oe_t124 29 (q := (52, .iaload, 1)) rfl) s35 i37 i38 ?_
      refine s_ic_lt (oe_t124 30 (q := (53, .if_icmp .lt 62, 3)) rfl) (fun c39 => ?_) (fun c39 => ?_)
      · replace vc := vc.1 c39
        refine s_aload_n (oe_t124 33 (q := (62, .aload_n 0, 1)) rfl) rfl ?_
        obtain ⟨q40, p41, vc⟩ := vc
        refine s_getr (oe_t124 34 (q := (63, .getfield 5001, 3)) rfl) s26 rfl rfl p41 ?_
        obtain ⟨s42, vc⟩ := vc
        obtain ⟨q43, p44, vc⟩ := vc
        refine s_getr (oe_t124 35 (q := (66, .getfield 3001, 3)) rfl) s42 rfl rfl p44 ?_
        refine s_aload_n (oe_t124 36 (q := (69, .aload_n 0, 1)) rfl) rfl ?_
        refine s_getr (oe_t124 37 (q := (70, .getfield 5061, 3)) rfl) s26 rfl rfl p28 ?_
        refine s_iload (oe_t124 38 (q := (73, .iload 4, 2)) rfl) rfl ?_
        obtain ⟨i45, i46, vc⟩ := vc
        refine s_iaload (oe_t124 39 (q := (75, .iaload, 1)) rfl) s29 i45 i46 ?_
        obtain ⟨n48, s47, vc⟩ := vc
        obtain ⟨i49, i50, vc⟩ := vc
        refine s_iaload (oe_t124 40 (q := (76, .iaload, 1)) rfl) s47 i49 i50 ?_
        refine s_istore (oe_t124 41 (q := (77, .istore 6, 2)) rfl) ?_
        refine s_aload_n (oe_t124 42 (q := (79, .aload_n 0, 1)) rfl) rfl ?_
        refine s_getr (oe_t124 43 (q := (80, .getfield 5061, 3)) rfl) s26 rfl rfl p28 ?_
        refine s_iload (oe_t124 44 (q := (83, .iload 4, 2)) rfl) rfl ?_
        refine s_dup2 (oe_t124 45 (q := (85, .dup2, 1)) rfl) trivial trivial ?_
        obtain ⟨i51, i52, vc⟩ := vc
        refine s_iaload (oe_t124 46 (q := (86, .iaload, 1)) rfl) s29 i51 i52 ?_
        refine s_iconst (oe_t124 47 (q := (87, .iconst 1, 1)) rfl) ?_
        obtain ⟨r53, vc⟩ := vc
        refine s_iadd (oe_t124 48 (q := (88, .iadd, 1)) rfl) r53 ?_
        obtain ⟨i54, i55, vc⟩ := vc
        refine t_iastore (oe_t124 49 (q := (89, .iastore, 1)) rfl) s29 i54 i55 (fun h56 e57 => ?_)
        replace vc := vc h56 e57
        refine s_iload (oe_t124 50 (q := (90, .iload 6, 2)) rfl) rfl ?_
        refine s_calls (oe_t124 51 (q := (92, .invokestatic 16001, 3)) rfl) (by decide) (Nat.le_of_ble_eq_true rfl) (Nat.le_of_ble_eq_true rfl) (Nat.le_of_ble_eq_true rfl) (Nat.le_of_ble_eq_true rfl) (sp_16 (fun c58 => ?_) (fun c58 => ?_))
        · replace vc := vc.1 c58
          show oe_V (oe_cost 124) 124 (oe_M (d + 1)) none Q 95 [some (.inr (.inl v0)), none, none, some (.inl v3), some (.inl v4), some (.inl v5), some (.inl (h q43 ((h q27 (v4 : Int).toNat) : Int).toNat)), none] [.inl 1] (sh, g, h56) 0 0
          refine s_if_eq (oe_t124 52 (q := (95, .ifCond .eq 108, 3)) rfl) (fun q => absurd q (by decide)) (fun _ => ?_)
          refine s_aload_n (oe_t124 53 (q := (98, .aload_n 0, 1)) rfl) rfl ?_
          obtain ⟨q59, p60, vc⟩ := vc
          refine s_getr (oe_t124 54 (q := (99, .getfield 5011, 3)) rfl) s26 rfl rfl p60 ?_
          refine s_iload (oe_t124 55 (q := (102, .iload 6, 2)) rfl) rfl ?_
          obtain ⟨n62, s61, vc⟩ := vc
          obtain ⟨i63, i64, vc⟩ := vc
          refine s_iaload (oe_t124 56 (q := (104, .iaload, 1)) rfl) s61 i63 i64 ?_
          refine s_goto (oe_t124 57 (q := (105, .goto 109, 3)) rfl) ?_
          exact oe_V.fg (oe_M_mono _) (show oe_fg [some (.inr (.inl v0)), none, none, some (.inl v3), some (.inl v4), some (.inl v5), some (.inl (h q43 ((h q27 (v4 : Int).toNat) : Int).toNat)), none] _ from ⟨rfl, ⟨rfl, ⟨rfl, ⟨rfl, ⟨rfl, trivial⟩⟩⟩⟩⟩) vc
        · replace vc := vc.2 c58
          show oe_V (oe_cost 124) 124 (oe_M (d + 1)) none Q 95 [some (.inr (.inl v0)), none, none, some (.inl v3), some (.inl v4), some (.inl v5), some (.inl (h q43 ((h q27 (v4 : Int).toNat) : Int).toNat)), none] [.inl 0] (sh, g, h56) 0 0
          refine s_if_eq (oe_t124 52 (q := (95, .ifCond .eq 108, 3)) rfl) (fun _ => ?_) (fun q => absurd q (by decide))
          refine s_iconst (oe_t124 58 (q := (108, .iconst (-1), 1)) rfl) ?_
          exact oe_V.fg (oe_M_mono _) (show oe_fg [some (.inr (.inl v0)), none, none, some (.inl v3), some (.inl v4), some (.inl v5), some (.inl (h q43 ((h q27 (v4 : Int).toNat) : Int).toNat)), none] _ from ⟨rfl, ⟨rfl, ⟨rfl, ⟨rfl, ⟨rfl, trivial⟩⟩⟩⟩⟩) vc
      · replace vc := vc.2 c39
        obtain ⟨r65, vc⟩ := vc
        refine s_iinc (oe_t124 31 (q := (56, .iinc 4 (-1), 3)) rfl) rfl r65 ?_
        refine s_goto (oe_t124 32 (q := (59, .goto 178, 3)) rfl) ?_
        obtain ⟨r66, vc⟩ := vc
        refine s_iinc (oe_t124 93 (q := (178, .iinc 5 1, 3)) rfl) rfl r66 ?_
        refine s_goto (oe_t124 94 (q := (181, .goto 27, 3)) rfl) ?_
        exact oe_V.fg (oe_M_mono _) (show oe_fg [some (.inr (.inl v0)), none, none, some (.inl v3), some (.inl (v4 + (-1))), some (.inl (v5 + 1)), none, none] _ from ⟨rfl, ⟨rfl, ⟨rfl, ⟨rfl, trivial⟩⟩⟩⟩) vc
theorem g124_109 {d : Nat} {sh : List (Nat × Nat)} {g : Nat → Nat → Option Nat} {h : Nat → Nat → Int} {Q : oeQ} {v0 : Nat} {v3 : Int} {v4 : Int} {v5 : Int} {v6 : Int} {w0 : Int}
    (vc : (w0 = (-1) → sh[v0]? = some (10, 8) ∧ ∃ q69, g v0 5 = some q69 ∧ sh[q69]? = some (8, 3) ∧ ((h q69 2) ≠ v3 → oe_M (d + 1) 101 [.inr (.inl q69), .inl v6] (sh, g, h) (fun r hp => ∃ (h73 : Nat → Nat → Int), r = none ∧ hp = (sh, g, h73) ∧ oe_rg (v5 + 1) ∧ oe_V (oe_cost 124) 124 (oe_M (d + 1)) none Q 27 [some (.inr (.inl v0)), none, none, some (.inl v3), some (.inl v4), some (.inl (v5 + 1)), none, none] [] (sh, g, h73) 0 0)) ∧ ((h q69 2) = v3 → Q (some (.inl 0)) (sh, g, h))) ∧ (w0 ≠ (-1) → (12 ≤ v4 → sh[v0]? = some (10, 8) ∧ ∃ q77, g v0 5 = some q77 ∧ sh[q77]? = some (8, 3) ∧ ((h q77 2) ≠ v3 → oe_M (d + 1) 101 [.inr (.inl q77), .inl v6] (sh, g, h) (fun r hp => ∃ (h81 : Nat → Nat → Int), r = none ∧ hp = (sh, g, h81) ∧ oe_rg (v5 + 1) ∧ oe_V (oe_cost 124) 124 (oe_M (d + 1)) none Q 27 [some (.inr (.inl v0)), none, none, some (.inl v3), some (.inl v4), some (.inl (v5 + 1)), none, none] [] (sh, g, h81) 0 0)) ∧ ((h q77 2) = v3 → Q (some (.inl 0)) (sh, g, h))) ∧ (v4 < 12 → oe_rg (v4 + 1) ∧ sh[v0]? = some (10, 8) ∧ ∃ q85, g v0 6 = some q85 ∧ ∃ n88, sh[q85]? = some (0, n88) ∧ 0 ≤ (v4 + 1) ∧ (v4 + 1) < (n88 : Nat) ∧ ∀ h91, h91 = oe_up h q85 ((v4 + 1) : Int).toNat w0 → ∃ q93, g v0 7 = some q93 ∧ ∃ q95, g v0 0 = some q95 ∧ sh[q95]? = some (8, 3) ∧ ∃ q98, g q95 1 = some q98 ∧ ∃ n101, sh[q98]? = some (0, n101) ∧ 0 ≤ w0 ∧ w0 < (n101 : Nat) ∧ ∃ n105, sh[q93]? = some (0, n105) ∧ 0 ≤ (v4 + 1) ∧ (v4 + 1) < (n105 : Nat) ∧ ∀ h108, h108 = oe_up h91 q93 ((v4 + 1) : Int).toNat (h91 q98 (w0 : Int).toNat) → oe_rg (v5 + 1) ∧ oe_V (oe_cost 124) 124 (oe_M (d + 1)) none Q 27 [some (.inr (.inl v0)), none, none, some (.inl v3), some (.inl (v4 + 1)), some (.inl (v5 + 1)), none, none] [] (sh, g, h108) 0 0))) :
    oe_V (oe_cost 124) 124 (oe_M (d + 1)) none Q 109 [some (.inr (.inl v0)), none, none, some (.inl v3), some (.inl v4), some (.inl v5), some (.inl v6), none] [.inl w0] (sh, g, h) 0 0 := by
  refine s_istore (oe_t124 59 (q := (109, .istore 7, 2)) rfl) ?_
  refine s_iload (oe_t124 60 (q := (111, .iload 7, 2)) rfl) rfl ?_
  refine s_iconst (oe_t124 61 (q := (113, .iconst (-1), 1)) rfl) ?_
  refine s_ic_eq (oe_t124 62 (q := (114, .if_icmp .eq 156, 3)) rfl) (fun c67 => ?_) (fun c67 => ?_)
  · replace vc := vc.1 c67
    refine s_aload_n (oe_t124 82 (q := (156, .aload_n 0, 1)) rfl) rfl ?_
    obtain ⟨s68, vc⟩ := vc
    obtain ⟨q69, p70, vc⟩ := vc
    refine s_getr (oe_t124 83 (q := (157, .getfield 5051, 3)) rfl) s68 rfl rfl p70 ?_
    obtain ⟨s71, vc⟩ := vc
    refine s_geti (oe_t124 84 (q := (160, .getfield 3020, 3)) rfl) s71 rfl (by decide) ?_
    refine s_iload_n (oe_t124 85 (q := (163, .iload_n 3, 1)) rfl) rfl ?_
    refine s_ic_ne (oe_t124 86 (q := (164, .if_icmp .ne 169, 3)) rfl) (fun c72 => ?_) (fun c72 => ?_)
    · replace vc := vc.1 c72
      refine s_aload_n (oe_t124 89 (q := (169, .aload_n 0, 1)) rfl) rfl ?_
      refine s_getr (oe_t124 90 (q := (170, .getfield 5051, 3)) rfl) s68 rfl rfl p70 ?_
      refine s_iload (oe_t124 91 (q := (173, .iload 6, 2)) rfl) rfl ?_
      refine s_callv (oe_t124 92 (q := (175, .invokevirtual 101031, 3)) rfl) rfl s71 rfl (Nat.le_of_ble_eq_true rfl) (Nat.le_of_ble_eq_true rfl) (Nat.le_of_ble_eq_true rfl) (Nat.le_of_ble_eq_true rfl) ?_
      refine oe_M_mono _ _ _ _ _ _ (fun r hp vq => ?_) vc
      obtain ⟨h73, rfl, rfl, vc⟩ := vq
      show oe_V (oe_cost 124) 124 (oe_M (d + 1)) none Q 178 [some (.inr (.inl v0)), none, none, some (.inl v3), some (.inl v4), some (.inl v5), some (.inl v6), some (.inl w0)] [] (sh, g, h73) 0 0
      obtain ⟨r74, vc⟩ := vc
      refine s_iinc (oe_t124 93 (q := (178, .iinc 5 1, 3)) rfl) rfl r74 ?_
      refine s_goto (oe_t124 94 (q := (181, .goto 27, 3)) rfl) ?_
      exact oe_V.fg (oe_M_mono _) (show oe_fg [some (.inr (.inl v0)), none, none, some (.inl v3), some (.inl v4), some (.inl (v5 + 1)), none, none] _ from ⟨rfl, ⟨rfl, ⟨rfl, ⟨rfl, trivial⟩⟩⟩⟩) vc
    · replace vc := vc.2 c72
      refine s_iconst (oe_t124 87 (q := (167, .iconst 0, 1)) rfl) ?_
      exact s_iret (oe_t124 88 (q := (168, .ireturn, 1)) rfl) (Or.inr (Or.inl ⟨rfl, Or.inl rfl⟩)) vc
  · replace vc := vc.2 c67
    refine s_iload (oe_t124 63 (q := (117, .iload 4, 2)) rfl) rfl ?_
    refine s_bipush (oe_t124 64 (q := (119, .bipush 12, 2)) rfl) ?_
    refine s_ic_ge (oe_t124 65 (q := (121, .if_icmp .ge 156, 3)) rfl) (fun c75 => ?_) (fun c75 => ?_)
    · replace vc := vc.1 c75
      refine s_aload_n (oe_t124 82 (q := (156, .aload_n 0, 1)) rfl) rfl ?_
      obtain ⟨s76, vc⟩ := vc
      obtain ⟨q77, p78, vc⟩ := vc
      refine s_getr (oe_t124 83 (q := (157, .getfield 5051, 3)) rfl) s76 rfl rfl p78 ?_
      obtain ⟨s79, vc⟩ := vc
      refine s_geti (oe_t124 84 (q := (160, .getfield 3020, 3)) rfl) s79 rfl (by decide) ?_
      refine s_iload_n (oe_t124 85 (q := (163, .iload_n 3, 1)) rfl) rfl ?_
      refine s_ic_ne (oe_t124 86 (q := (164, .if_icmp .ne 169, 3)) rfl) (fun c80 => ?_) (fun c80 => ?_)
      · replace vc := vc.1 c80
        refine s_aload_n (oe_t124 89 (q := (169, .aload_n 0, 1)) rfl) rfl ?_
        refine s_getr (oe_t124 90 (q := (170, .getfield 5051, 3)) rfl) s76 rfl rfl p78 ?_
        refine s_iload (oe_t124 91 (q := (173, .iload 6, 2)) rfl) rfl ?_
        refine s_callv (oe_t124 92 (q := (175, .invokevirtual 101031, 3)) rfl) rfl s79 rfl (Nat.le_of_ble_eq_true rfl) (Nat.le_of_ble_eq_true rfl) (Nat.le_of_ble_eq_true rfl) (Nat.le_of_ble_eq_true rfl) ?_
        refine oe_M_mono _ _ _ _ _ _ (fun r hp vq => ?_) vc
        obtain ⟨h81, rfl, rfl, vc⟩ := vq
        show oe_V (oe_cost 124) 124 (oe_M (d + 1)) none Q 178 [some (.inr (.inl v0)), none, none, some (.inl v3), some (.inl v4), some (.inl v5), some (.inl v6), some (.inl w0)] [] (sh, g, h81) 0 0
        obtain ⟨r82, vc⟩ := vc
        refine s_iinc (oe_t124 93 (q := (178, .iinc 5 1, 3)) rfl) rfl r82 ?_
        refine s_goto (oe_t124 94 (q := (181, .goto 27, 3)) rfl) ?_
        exact oe_V.fg (oe_M_mono _) (show oe_fg [some (.inr (.inl v0)), none, none, some (.inl v3), some (.inl v4), some (.inl (v5 + 1)), none, none] _ from ⟨rfl, ⟨rfl, ⟨rfl, ⟨rfl, trivial⟩⟩⟩⟩) vc
      · replace vc := vc.2 c80
        refine s_iconst (oe_t124 87 (q := (167, .iconst 0, 1)) rfl) ?_
        exact s_iret (oe_t124 88 (q := (168, .ireturn, 1)) rfl) (Or.inr (Or.inl ⟨rfl, Or.inl rfl⟩)) vc
    · replace vc := vc.2 c75
      obtain ⟨r83, vc⟩ := vc
      refine s_iinc (oe_t124 66 (q := (124, .iinc 4 1, 3)) rfl) rfl r83 ?_
      refine s_aload_n (oe_t124 67 (q := (127, .aload_n 0, 1)) rfl) rfl ?_
      obtain ⟨s84, vc⟩ := vc
      obtain ⟨q85, p86, vc⟩ := vc
      refine s_getr (oe_t124 68 (q := (128, .getfield 5061, 3)) rfl) s84 rfl rfl p86 ?_
      refine s_iload (oe_t124 69 (q := (131, .iload 4, 2)) rfl) rfl ?_
      refine s_iload (oe_t124 70 (q := (133, .iload 7, 2)) rfl) rfl ?_
      obtain ⟨n88, s87, vc⟩ := vc
      obtain ⟨i89, i90, vc⟩ := vc
      refine t_iastore (oe_t124 71 (q := (135, .iastore, 1)) rfl) s87 i89 i90 (fun h91 e92 => ?_)
      replace vc := vc h91 e92
      refine s_aload_n (oe_t124 72 (q := (136, .aload_n 0, 1)) rfl) rfl ?_
      obtain ⟨q93, p94, vc⟩ := vc
      refine s_getr (oe_t124 73 (q := (137, .getfield 5071, 3)) rfl) s84 rfl rfl p94 ?_
      refine s_iload (oe_t124 74 (q := (140, .iload 4, 2)) rfl) rfl ?_
      refine s_aload_n (oe_t124 75 (q := (142, .aload_n 0, 1)) rfl) rfl ?_
      obtain ⟨q95, p96, vc⟩ := vc
      refine s_getr (oe_t124 76 (q := (143, .getfield 5001, 3)) rfl) s84 rfl rfl p96 ?_
      obtain ⟨s97, vc⟩ := vc
      obtain ⟨q98, p99, vc⟩ := vc
      refine s_getr (oe_t124 77 (q := (146, .getfield 3011, 3)) rfl) s97 rfl rfl p99 ?_
      refine s_iload (oe_t124 78 (q := (149, .iload 7, 2)) rfl) rfl ?_
      obtain ⟨n101, s100, vc⟩ := vc
      obtain ⟨i102, i103, vc⟩ := vc
      refine s_iaload (oe_t124 79 (q := (151, .iaload, 1)) rfl) s100 i102 i103 ?_
      obtain ⟨n105, s104, vc⟩ := vc
      obtain ⟨i106, i107, vc⟩ := vc
      refine t_iastore (oe_t124 80 (q := (152, .iastore, 1)) rfl) s104 i106 i107 (fun h108 e109 => ?_)
      replace vc := vc h108 e109
      refine s_goto (oe_t124 81 (q := (153, .goto 178, 3)) rfl) ?_
      obtain ⟨r110, vc⟩ := vc
      refine s_iinc (oe_t124 93 (q := (178, .iinc 5 1, 3)) rfl) rfl r110 ?_
      refine s_goto (oe_t124 94 (q := (181, .goto 27, 3)) rfl) ?_
      exact oe_V.fg (oe_M_mono _) (show oe_fg [some (.inr (.inl v0)), none, none, some (.inl v3), some (.inl (v4 + 1)), some (.inl (v5 + 1)), none, none] _ from ⟨rfl, ⟨rfl, ⟨rfl, ⟨rfl, trivial⟩⟩⟩⟩) vc
theorem oe_u126 : oe_c126.all (fun q => decide (oe_find oe_c126 q.1 = some q.2)) = true := by decide +kernel
theorem oe_t126 (k : Nat) {q : Nat × Jvm.ClassFile.Instr × Nat} (h : oe_c126[k]? = some q) : oe_find (oe_code 126) q.1 = some q.2 := oe_ft oe_u126 h
theorem g126 {d : Nat} {sh : List (Nat × Nat)} {g : Nat → Nat → Option Nat} {h : Nat → Nat → Int} {Q : oeQ} {v0 : Nat}
    (vc : sh[v0]? = some (11, 2) ∧ ∃ q2, g v0 0 = some q2 ∧ ∃ n5, sh[q2]? = some (4, n5) ∧ ((h v0 1) < ((n5 : Nat) : Int) → Q (some (.inl 0)) (sh, g, h)) ∧ (((n5 : Nat) : Int) ≤ (h v0 1) → Q (some (.inl 1)) (sh, g, h))) :
    oe_M (d + 2) 126 [.inr (.inl v0)] (sh, g, h) Q := by
  refine oe_M.of (by simp [oe_c1]) (Nat.le_of_ble_eq_true rfl) ?_
  show oe_V (oe_cost 126) 126 (oe_M (d + 1)) none Q 0 [some (.inr (.inl v0))] [] (sh, g, h) 0 0
  refine s_aload_n (oe_t126 0 (q := (0, .aload_n 0, 1)) rfl) rfl ?_
  obtain ⟨s1, vc⟩ := vc
  refine s_geti (oe_t126 1 (q := (1, .getfield 6010, 3)) rfl) s1 rfl (by decide) ?_
  refine s_aload_n (oe_t126 2 (q := (4, .aload_n 0, 1)) rfl) rfl ?_
  obtain ⟨q2, p3, vc⟩ := vc
  refine s_getr (oe_t126 3 (q := (5, .getfield 6001, 3)) rfl) s1 rfl rfl p3 ?_
  obtain ⟨n5, s4, vc⟩ := vc
  refine s_alen (oe_t126 4 (q := (8, .arraylength, 1)) rfl) s4 (by decide) ?_
  refine s_ic_lt (oe_t126 5 (q := (9, .if_icmp .lt 16, 3)) rfl) (fun c6 => ?_) (fun c6 => ?_)
  · replace vc := vc.1 c6
    refine s_iconst (oe_t126 8 (q := (16, .iconst 0, 1)) rfl) ?_
    exact s_iret (oe_t126 9 (q := (17, .ireturn, 1)) rfl) (Or.inr (Or.inl ⟨rfl, Or.inl rfl⟩)) vc
  · replace vc := vc.2 c6
    refine s_iconst (oe_t126 6 (q := (12, .iconst 1, 1)) rfl) ?_
    refine s_goto (oe_t126 7 (q := (13, .goto 17, 3)) rfl) ?_
    exact s_iret (oe_t126 9 (q := (17, .ireturn, 1)) rfl) (Or.inr (Or.inl ⟨rfl, Or.inr rfl⟩)) vc
theorem oe_u127 : oe_c127.all (fun q => decide (oe_find oe_c127 q.1 = some q.2)) = true := by decide +kernel
theorem oe_t127 (k : Nat) {q : Nat × Jvm.ClassFile.Instr × Nat} (h : oe_c127[k]? = some q) : oe_find (oe_code 127) q.1 = some q.2 := oe_ft oe_u127 h
theorem g127 {d : Nat} {sh : List (Nat × Nat)} {g : Nat → Nat → Option Nat} {h : Nat → Nat → Int} {Q : oeQ} {v0 : Nat} {v1 : Nat}
    (vc : sh[v0]? = some (11, 2) ∧ oe_M (d + 1) 126 [.inr (.inl v0)] (sh, g, h) (fun r hp => ∃ (x1 : Int), r = some (.inl x1) ∧ hp = (sh, g, h) ∧ (x1 ≠ 0 → Q none (sh, g, h)) ∧ (x1 = 0 → ∃ q4, g v0 0 = some q4 ∧ ∃ n7, sh[q4]? = some (4, n7) ∧ 0 ≤ (h v0 1) ∧ (h v0 1) < (n7 : Nat) ∧ ∃ q10, g q4 ((h v0 1) : Int).toNat = some q10 ∧ sh[v1]? = some (7, 2) ∧ ∃ q13, g v1 0 = some q13 ∧ ∃ q15, g v1 1 = some q15 ∧ sh[q10]? = some (7, 2) ∧ oe_M (d + 1) 95 [.inr (.inl q10), .inr (.inl q13), .inr (.inl q15)] (sh, g, h) (fun r hp => ∃ (h17 : Nat → Nat → Int), r = none ∧ hp = (sh, g, h17) ∧ oe_rg ((h17 v0 1) + 1) ∧ ∀ h20, h20 = oe_up h17 v0 1 ((h17 v0 1) + 1) → Q none (sh, g, h20))))) :
    oe_M (d + 2) 127 [.inr (.inl v0), .inr (.inl v1)] (sh, g, h) Q := by
  refine oe_M.of (by simp [oe_c1]) (Nat.le_of_ble_eq_true rfl) ?_
  show oe_V (oe_cost 127) 127 (oe_M (d + 1)) none Q 0 [some (.inr (.inl v0)), some (.inr (.inl v1))] [] (sh, g, h) 0 0
  refine s_aload_n (oe_t127 0 (q := (0, .aload_n 0, 1)) rfl) rfl ?_
  obtain ⟨s2, vc⟩ := vc
  refine s_callv (oe_t127 1 (q := (1, .invokevirtual 126060, 3)) rfl) rfl s2 rfl (Nat.le_of_ble_eq_true rfl) (Nat.le_of_ble_eq_true rfl) (Nat.le_of_ble_eq_true rfl) (Nat.le_of_ble_eq_true rfl) ?_
  refine oe_M_mono _ _ _ _ _ _ (fun r hp vq => ?_) vc
  obtain ⟨x1, rfl, rfl, vc⟩ := vq
  show oe_V (oe_cost 127) 127 (oe_M (d + 1)) none Q 4 [some (.inr (.inl v0)), some (.inr (.inl v1))] [.inl x1] (sh, g, h) 0 0
  refine s_if_ne (oe_t127 2 (q := (4, .ifCond .ne 37, 3)) rfl) (fun c3 => ?_) (fun c3 => ?_)
  · replace vc := vc.1 c3
    exact s_ret (oe_t127 19 (q := (37, .return_, 1)) rfl) rfl vc
  · replace vc := vc.2 c3
    refine s_aload_n (oe_t127 3 (q := (7, .aload_n 0, 1)) rfl) rfl ?_
    obtain ⟨q4, p5, vc⟩ := vc
    refine s_getr (oe_t127 4 (q := (8, .getfield 6001, 3)) rfl) s2 rfl rfl p5 ?_
    refine s_aload_n (oe_t127 5 (q := (11, .aload_n 0, 1)) rfl) rfl ?_
    refine s_geti (oe_t127 6 (q := (12, .getfield 6010, 3)) rfl) s2 rfl (by decide) ?_
    obtain ⟨n7, s6, vc⟩ := vc
    obtain ⟨i8, i9, q10, p11, vc⟩ := vc
    refine s_aaload (oe_t127 7 (q := (15, .aaload, 1)) rfl) s6 i8 i9 p11 ?_
    refine s_aload_n (oe_t127 8 (q := (16, .aload_n 1, 1)) rfl) rfl ?_
    obtain ⟨s12, vc⟩ := vc
    obtain ⟨q13, p14, vc⟩ := vc
    refine s_getr (oe_t127 9 (q := (17, .getfield 2001, 3)) rfl) s12 rfl rfl p14 ?_
    refine s_aload_n (oe_t127 10 (q := (20, .aload_n 1, 1)) rfl) rfl ?_
    obtain ⟨q15, p16, vc⟩ := vc
    refine s_getr (oe_t127 11 (q := (21, .getfield 2011, 3)) rfl) s12 rfl rfl p16 ?_
    obtain ⟨s18, vc⟩ := vc
    refine s_callv (oe_t127 12 (q := (24, .invokevirtual 95022, 3)) rfl) rfl s18 rfl (Nat.le_of_ble_eq_true rfl) (Nat.le_of_ble_eq_true rfl) (Nat.le_of_ble_eq_true rfl) (Nat.le_of_ble_eq_true rfl) ?_
    refine oe_M_mono _ _ _ _ _ _ (fun r hp vq => ?_) vc
    obtain ⟨h17, rfl, rfl, vc⟩ := vq
    show oe_V (oe_cost 127) 127 (oe_M (d + 1)) none Q 27 [some (.inr (.inl v0)), some (.inr (.inl v1))] [] (sh, g, h17) 0 0
    refine s_aload_n (oe_t127 13 (q := (27, .aload_n 0, 1)) rfl) rfl ?_
    refine s_dup (oe_t127 14 (q := (28, .dup, 1)) rfl) trivial ?_
    refine s_geti (oe_t127 15 (q := (29, .getfield 6010, 3)) rfl) s2 rfl (by decide) ?_
    refine s_iconst (oe_t127 16 (q := (32, .iconst 1, 1)) rfl) ?_
    obtain ⟨r19, vc⟩ := vc
    refine s_iadd (oe_t127 17 (q := (33, .iadd, 1)) rfl) r19 ?_
    refine t_puti (oe_t127 18 (q := (34, .putfield 6010, 3)) rfl) s2 rfl (Or.inl rfl) (fun h20 e21 => ?_)
    replace vc := vc h20 e21
    exact s_ret (oe_t127 19 (q := (37, .return_, 1)) rfl) rfl vc
theorem oe_u128 : oe_c128.all (fun q => decide (oe_find oe_c128 q.1 = some q.2)) = true := by decide +kernel
theorem oe_t128 (k : Nat) {q : Nat × Jvm.ClassFile.Instr × Nat} (h : oe_c128[k]? = some q) : oe_find (oe_code 128) q.1 = some q.2 := oe_ft oe_u128 h
theorem g128 {d : Nat} {sh : List (Nat × Nat)} {g : Nat → Nat → Option Nat} {h : Nat → Nat → Int} {Q : oeQ} {v0 : Nat} {v1 : Nat}
    (vc : sh[v0]? = some (11, 2) ∧ ((h v0 1) ≠ 0 → oe_V (oe_cost 128) 128 (oe_M (d + 1)) none Q 12 [some (.inr (.inl v0)), some (.inr (.inl v1)), some (.inl 0), some (.inl 1), none] [] (sh, g, h) 0 0) ∧ ((h v0 1) = 0 → Q none (sh, g, h))) :
    oe_M (d + 2) 128 [.inr (.inl v0), .inr (.inl v1)] (sh, g, h) Q := by
  refine oe_M.of (by simp [oe_c1]) (Nat.le_of_ble_eq_true rfl) ?_
  show oe_V (oe_cost 128) 128 (oe_M (d + 1)) none Q 0 [some (.inr (.inl v0)), some (.inr (.inl v1)), none, none, none] [] (sh, g, h) 0 0
  refine s_aload_n (oe_t128 0 (q := (0, .aload_n 0, 1)) rfl) rfl ?_
  obtain ⟨s1, vc⟩ := vc
  refine s_geti (oe_t128 1 (q := (1, .getfield 6010, 3)) rfl) s1 rfl (by decide) ?_
  refine s_if_ne (oe_t128 2 (q := (4, .ifCond .ne 8, 3)) rfl) (fun c2 => ?_) (fun c2 => ?_)
  · replace vc := vc.1 c2
    refine s_iconst (oe_t128 4 (q := (8, .iconst 0, 1)) rfl) ?_
    refine s_istore_n (oe_t128 5 (q := (9, .istore_n 2, 1)) rfl) ?_
    refine s_iconst (oe_t128 6 (q := (10, .iconst 1, 1)) rfl) ?_
    refine s_istore_n (oe_t128 7 (q := (11, .istore_n 3, 1)) rfl) ?_
    exact oe_V.fg (oe_M_mono _) (show oe_fg [some (.inr (.inl v0)), some (.inr (.inl v1)), some (.inl 0), some (.inl 1), none] _ from ⟨rfl, ⟨rfl, ⟨rfl, ⟨rfl, trivial⟩⟩⟩⟩) vc
  · replace vc := vc.2 c2
    exact s_ret (oe_t128 3 (q := (7, .return_, 1)) rfl) rfl vc
theorem g128_12 {d : Nat} {sh : List (Nat × Nat)} {g : Nat → Nat → Option Nat} {h : Nat → Nat → Int} {Q : oeQ} {v0 : Nat} {v1 : Nat} {v2 : Int} {v3 : Int}
    (vc : sh[v0]? = some (11, 2) ∧ ((h v0 1) ≤ v3 → ∃ q5, g v0 0 = some q5 ∧ ∃ n8, sh[q5]? = some (4, n8) ∧ 0 ≤ v2 ∧ v2 < (n8 : Nat) ∧ ∃ q11, g q5 (v2 : Int).toNat = some q11 ∧ sh[q11]? = some (7, 2) ∧ ∃ q14, g q11 0 = some q14 ∧ ∃ q16, g q11 1 = some q16 ∧ sh[v1]? = some (7, 2) ∧ oe_M (d + 1) 95 [.inr (.inl v1), .inr (.inl q14), .inr (.inl q16)] (sh, g, h) (fun r hp => ∃ (h18 : Nat → Nat → Int), r = none ∧ hp = (sh, g, h18) ∧ oe_rg ((h18 v0 1) - 1) ∧ ∀ h21, h21 = oe_up h18 v0 1 ((h18 v0 1) - 1) → oe_V (oe_cost 128) 128 (oe_M (d + 1)) none Q 81 [some (.inr (.inl v0)), none, none, some (.inr (.inl q11)), some (.inl v2)] [] (sh, g, h21) 0 0)) ∧ (v3 < (h v0 1) → ∃ q23, g v0 0 = some q23 ∧ ∃ n26, sh[q23]? = some (4, n26) ∧ 0 ≤ v3 ∧ v3 < (n26 : Nat) ∧ ∃ q29, g q23 (v3 : Int).toNat = some q29 ∧ sh[q29]? = some (7, 2) ∧ oe_M (d + 1) 94 [.inr (.inl q29)] (sh, g, h) (fun r hp => ∃ (x31 : Int), r = some (.inl x31) ∧ hp = (sh, g, h) ∧ 0 ≤ v2 ∧ v2 < (n26 : Nat) ∧ ∃ q35, g q23 (v2 : Int).toNat = some q35 ∧ sh[q35]? = some (7, 2) ∧ oe_M (d + 1) 94 [.inr (.inl q35)] (sh, g, h) (fun r hp => ∃ (x37 : Int), r = some (.inl x37) ∧ hp = (sh, g, h) ∧ (x37 ≤ x31 → oe_rg (v3 + 1) ∧ oe_V (oe_cost 128) 128 (oe_M (d + 1)) none Q 12 [some (.inr (.inl v0)), some (.inr (.inl v1)), some (.inl v2), some (.inl (v3 + 1)), none] [] (sh, g, h) 0 0) ∧ (x31 < x37 → oe_rg (v3 + 1) ∧ oe_V (oe_cost 128) 128 (oe_M (d + 1)) none Q 12 [some (.inr (.inl v0)), some (.inr (.inl v1)), some (.inl v3), some (.inl (v3 + 1)), none] [] (sh, g, h) 0 0))))) :
    oe_V (oe_cost 128) 128 (oe_M (d + 1)) none Q 12 [some (.inr (.inl v0)), some (.inr (.inl v1)), some (.inl v2), some (.inl v3), none] [] (sh, g, h) 0 0 := by
  refine s_iload_n (oe_t128 8 (q := (12, .iload_n 3, 1)) rfl) rfl ?_
  refine s_aload_n (oe_t128 9 (q := (13, .aload_n 0, 1)) rfl) rfl ?_
  obtain ⟨s3, vc⟩ := vc
  refine s_geti (oe_t128 10 (q := (14, .getfield 6010, 3)) rfl) s3 rfl (by decide) ?_
  refine s_ic_ge (oe_t128 11 (q := (17, .if_icmp .ge 49, 3)) rfl) (fun c4 => ?_) (fun c4 => ?_)
  · replace vc := vc.1 c4
    refine s_aload_n (oe_t128 27 (q := (49, .aload_n 0, 1)) rfl) rfl ?_
    obtain ⟨q5, p6, vc⟩ := vc
    refine s_getr (oe_t128 28 (q := (50, .getfield 6001, 3)) rfl) s3 rfl rfl p6 ?_
    refine s_iload_n (oe_t128 29 (q := (53, .iload_n 2, 1)) rfl) rfl ?_
    obtain ⟨n8, s7, vc⟩ := vc
    obtain ⟨i9, i10, q11, p12, vc⟩ := vc
    refine s_aaload (oe_t128 30 (q := (54, .aaload, 1)) rfl) s7 i9 i10 p12 ?_
    refine s_astore_n (oe_t128 31 (q := (55, .astore_n 3, 1)) rfl) ?_
    refine s_aload_n (oe_t128 32 (q := (56, .aload_n 1, 1)) rfl) rfl ?_
    refine s_aload_n (oe_t128 33 (q := (57, .aload_n 3, 1)) rfl) rfl ?_
    obtain ⟨s13, vc⟩ := vc
    obtain ⟨q14, p15, vc⟩ := vc
    refine s_getr (oe_t128 34 (q := (58, .getfield 2001, 3)) rfl) s13 rfl rfl p15 ?_
    refine s_aload_n (oe_t128 35 (q := (61, .aload_n 3, 1)) rfl) rfl ?_
    obtain ⟨q16, p17, vc⟩ := vc
    refine s_getr (oe_t128 36 (q := (62, .getfield 2011, 3)) rfl) s13 rfl rfl p17 ?_
    obtain ⟨s19, vc⟩ := vc
    refine s_callv (oe_t128 37 (q := (65, .invokevirtual 95022, 3)) rfl) rfl s19 rfl (Nat.le_of_ble_eq_true rfl) (Nat.le_of_ble_eq_true rfl) (Nat.le_of_ble_eq_true rfl) (Nat.le_of_ble_eq_true rfl) ?_
    refine oe_M_mono _ _ _ _ _ _ (fun r hp vq => ?_) vc
    obtain ⟨h18, rfl, rfl, vc⟩ := vq
    show oe_V (oe_cost 128) 128 (oe_M (d + 1)) none Q 68 [some (.inr (.inl v0)), some (.inr (.inl v1)), some (.inl v2), some (.inr (.inl q11)), none] [] (sh, g, h18) 0 0
    refine s_aload_n (oe_t128 38 (q := (68, .aload_n 0, 1)) rfl) rfl ?_
    refine s_dup (oe_t128 39 (q := (69, .dup, 1)) rfl) trivial ?_
    refine s_geti (oe_t128 40 (q := (70, .getfield 6010, 3)) rfl) s3 rfl (by decide) ?_
    refine s_iconst (oe_t128 41 (q := (73, .iconst 1, 1)) rfl) ?_
    obtain ⟨r20, vc⟩ := vc
    refine s_isub (oe_t128 42 (q := (74, .isub, 1)) rfl) r20 ?_
    refine t_puti (oe_t128 43 (q := (75, .putfield 6010, 3)) rfl) s3 rfl (Or.inl rfl) (fun h21 e22 => ?_)
    replace vc := vc h21 e22
    refine s_iload_n (oe_t128 44 (q := (78, .iload_n 2, 1)) rfl) rfl ?_
    refine s_istore (oe_t128 45 (q := (79, .istore 4, 2)) rfl) ?_
    exact oe_V.fg (oe_M_mono _) (show oe_fg [some (.inr (.inl v0)), none, none, some (.inr (.inl q11)), some (.inl v2)] _ from ⟨rfl, ⟨rfl, ⟨rfl, trivial⟩⟩⟩) vc
  · replace vc := vc.2 c4
    refine s_aload_n (oe_t128 12 (q := (20, .aload_n 0, 1)) rfl) rfl ?_
    obtain ⟨q23, p24, vc⟩ := vc
    refine s_getr (oe_t128 13 (q := (21, .getfield 6001, 3)) rfl) s3 rfl rfl p24 ?_
    refine s_iload_n (oe_t128 14 (q := (24, .iload_n 3, 1)) rfl) rfl ?_
    obtain ⟨n26, s25, vc⟩ := vc
    obtain ⟨i27, i28, q29, p30, vc⟩ := vc
    refine s_aaload (oe_t128 15 (q := (25, .aaload, 1)) rfl) s25 i27 i28 p30 ?_
    obtain ⟨s32, vc⟩ := vc
    refine s_callv (oe_t128 16 (q := (26, .invokevirtual 94020, 3)) rfl) rfl s32 rfl (Nat.le_of_ble_eq_true rfl) (Nat.le_of_ble_eq_true rfl) (Nat.le_of_ble_eq_true rfl) (Nat.le_of_ble_eq_true rfl) ?_
    refine oe_M_mono _ _ _ _ _ _ (fun r hp vq => ?_) vc
    obtain ⟨x31, rfl, rfl, vc⟩ := vq
    show oe_V (oe_cost 128) 128 (oe_M (d + 1)) none Q 29 [some (.inr (.inl v0)), some (.inr (.inl v1)), some (.inl v2), some (.inl v3), none] [.inl x31] (sh, g, h) 0 0
    refine s_aload_n (oe_t128 17 (q := (29, .aload_n 0, 1)) rfl) rfl ?_
    refine s_getr (oe_t128 18 (q := (30, .getfield 6001, 3)) rfl) s3 rfl rfl p24 ?_
    refine s_iload_n (oe_t128 19 (q := (33, .iload_n 2, 1)) rfl) rfl ?_
    obtain ⟨i33, i34, q35, p36, vc⟩ := vc
    refine s_aaload (oe_t128 20 (q := (34, .aaload, 1)) rfl) s25 i33 i34 p36 ?_
    obtain ⟨s38, vc⟩ := vc
    refine s_callv (oe_t128 21 (q := (35, .invokevirtual 94020, 3)) rfl) rfl s38 rfl (Nat.le_of_ble_eq_true rfl) (Nat.le_of_ble_eq_true rfl) (Nat.le_of_ble_eq_true rfl) (Nat.le_of_ble_eq_true rfl) ?_
    refine oe_M_mono _ _ _ _ _ _ (fun r hp vq => ?_) vc
    obtain ⟨x37, rfl, rfl, vc⟩ := vq
    show oe_V (oe_cost 128) 128 (oe_M (d + 1)) none Q 38 [some (.inr (.inl v0)), some (.inr (.inl v1)), some (.inl v2), some (.inl v3), none] [.inl x37, .inl x31] (sh, g, h) 0 0
    refine s_ic_ge (oe_t128 22 (q := (38, .if_icmp .ge 43, 3)) rfl) (fun c39 => ?_) (fun c39 => ?_)
    · replace vc := vc.1 c39
      obtain ⟨r40, vc⟩ := vc
      refine s_iinc (oe_t128 25 (q := (43, .iinc 3 1, 3)) rfl) rfl r40 ?_
      refine s_goto (oe_t128 26 (q := (46, .goto 12, 3)) rfl) ?_
      exact oe_V.fg (oe_M_mono _) (show oe_fg [some (.inr (.inl v0)), some (.inr (.inl v1)), some (.inl v2), some (.inl (v3 + 1)), none] _ from ⟨rfl, ⟨rfl, ⟨rfl, ⟨rfl, trivial⟩⟩⟩⟩) vc
    · replace vc := vc.2 c39
      refine s_iload_n (oe_t128 23 (q := (41, .iload_n 3, 1)) rfl) rfl ?_
      refine s_istore_n (oe_t128 24 (q := (42, .istore_n 2, 1)) rfl) ?_
      obtain ⟨r41, vc⟩ := vc
      refine s_iinc (oe_t128 25 (q := (43, .iinc 3 1, 3)) rfl) rfl r41 ?_
      refine s_goto (oe_t128 26 (q := (46, .goto 12, 3)) rfl) ?_
      exact oe_V.fg (oe_M_mono _) (show oe_fg [some (.inr (.inl v0)), some (.inr (.inl v1)), some (.inl v3), some (.inl (v3 + 1)), none] _ from ⟨rfl, ⟨rfl, ⟨rfl, ⟨rfl, trivial⟩⟩⟩⟩) vc
theorem g128_81 {d : Nat} {sh : List (Nat × Nat)} {g : Nat → Nat → Option Nat} {h : Nat → Nat → Int} {Q : oeQ} {v0 : Nat} {v3 : Nat} {v4 : Int}
    (vc : sh[v0]? = some (11, 2) ∧ ((h v0 1) ≤ v4 → ∃ q44, g v0 0 = some q44 ∧ sh[v3]? = some (7, 2) ∧ ∃ n48, sh[q44]? = some (4, n48) ∧ 0 ≤ (h v0 1) ∧ (h v0 1) < (n48 : Nat) ∧ ∀ g51, g51 = oe_up g q44 ((h v0 1) : Int).toNat (some v3) → Q none (sh, g51, h)) ∧ (v4 < (h v0 1) → ∃ q53, g v0 0 = some q53 ∧ oe_rg (v4 + 1) ∧ ∃ n57, sh[q53]? = some (4, n57) ∧ 0 ≤ (v4 + 1) ∧ (v4 + 1) < (n57 : Nat) ∧ ∃ q60, g q53 ((v4 + 1) : Int).toNat = some q60 ∧ sh[q60]? = some (7, 2) ∧ 0 ≤ v4 ∧ v4 < (n57 : Nat) ∧ ∀ g65, g65 = oe_up g q53 (v4 : Int).toNat (some q60) → oe_rg (v4 + 1) ∧ oe_V (oe_cost 128) 128 (oe_M (d + 1)) none Q 81 [some (.inr (.inl v0)), none, none, some (.inr (.inl v3)), some (.inl (v4 + 1))] [] (sh, g65, h) 0 0)) :
    oe_V (oe_cost 128) 128 (oe_M (d + 1)) none Q 81 [some (.inr (.inl v0)), none, none, some (.inr (.inl v3)), some (.inl v4)] [] (sh, g, h) 0 0 := by
  refine s_iload (oe_t128 46 (q := (81, .iload 4, 2)) rfl) rfl ?_
  refine s_aload_n (oe_t128 47 (q := (83, .aload_n 0, 1)) rfl) rfl ?_
  obtain ⟨s42, vc⟩ := vc
  refine s_geti (oe_t128 48 (q := (84, .getfield 6010, 3)) rfl) s42 rfl (by decide) ?_
  refine s_ic_ge (oe_t128 49 (q := (87, .if_icmp .ge 112, 3)) rfl) (fun c43 => ?_) (fun c43 => ?_)
  · replace vc := vc.1 c43
    refine s_aload_n (oe_t128 62 (q := (112, .aload_n 0, 1)) rfl) rfl ?_
    obtain ⟨q44, p45, vc⟩ := vc
    refine s_getr (oe_t128 63 (q := (113, .getfield 6001, 3)) rfl) s42 rfl rfl p45 ?_
    refine s_aload_n (oe_t128 64 (q := (116, .aload_n 0, 1)) rfl) rfl ?_
    refine s_geti (oe_t128 65 (q := (117, .getfield 6010, 3)) rfl) s42 rfl (by decide) ?_
    refine s_aload_n (oe_t128 66 (q := (120, .aload_n 3, 1)) rfl) rfl ?_
    obtain ⟨s46, vc⟩ := vc
    obtain ⟨n48, s47, vc⟩ := vc
    obtain ⟨i49, i50, vc⟩ := vc
    refine t_aastore (oe_t128 67 (q := (121, .aastore, 1)) rfl) s46 s47 i49 i50 (fun g51 e52 => ?_)
    replace vc := vc g51 e52
    exact s_ret (oe_t128 68 (q := (122, .return_, 1)) rfl) rfl vc
  · replace vc := vc.2 c43
    refine s_aload_n (oe_t128 50 (q := (90, .aload_n 0, 1)) rfl) rfl ?_
    obtain ⟨q53, p54, vc⟩ := vc
    refine s_getr (oe_t128 51 (q := (91, .getfield 6001, 3)) rfl) s42 rfl rfl p54 ?_
    refine s_iload (oe_t128 52 (q := (94, .iload 4, 2)) rfl) rfl ?_
    refine s_aload_n (oe_t128 53 (q := (96, .aload_n 0, 1)) rfl) rfl ?_
    refine s_getr (oe_t128 54 (q := (97, .getfield 6001, 3)) rfl) s42 rfl rfl p54 ?_
    refine s_iload (oe_t128 55 (q := (100, .iload 4, 2)) rfl) rfl ?_
    refine s_iconst (oe_t128 56 (q := (102, .iconst 1, 1)) rfl) ?_
    obtain ⟨r55, vc⟩ := vc
    refine s_iadd (oe_t128 57 (q := (103, .iadd, 1)) rfl) r55 ?_
    obtain ⟨n57, s56, vc⟩ := vc
    obtain ⟨i58, i59, q60, p61, vc⟩ := vc
    refine s_aaload (oe_t128 58 (q := (104, .aaload, 1)) rfl) s56 i58 i59 p61 ?_
    obtain ⟨s62, vc⟩ := vc
    obtain ⟨i63, i64, vc⟩ := vc
    refine t_aastore (oe_t128 59 (q := (105, .aastore, 1)) rfl) s62 s56 i63 i64 (fun g65 e66 => ?_)
    replace vc := vc g65 e66
    obtain ⟨r67, vc⟩ := vc
    refine s_iinc (oe_t128 60 (q := (106, .iinc 4 1, 3)) rfl) rfl r67 ?_
    refine s_goto (oe_t128 61 (q := (109, .goto 81, 3)) rfl) ?_
    exact oe_V.fg (oe_M_mono _) (show oe_fg [some (.inr (.inl v0)), none, none, some (.inr (.inl v3)), some (.inl (v4 + 1))] _ from ⟨rfl, ⟨rfl, ⟨rfl, trivial⟩⟩⟩) vc
theorem oe_u129 : oe_c129.all (fun q => decide (oe_find oe_c129 q.1 = some q.2)) = true := by decide +kernel
theorem oe_t129 (k : Nat) {q : Nat × Jvm.ClassFile.Instr × Nat} (h : oe_c129[k]? = some q) : oe_find (oe_code 129) q.1 = some q.2 := oe_ft oe_u129 h
theorem g129 {d : Nat} {sh : List (Nat × Nat)} {g : Nat → Nat → Option Nat} {h : Nat → Nat → Int} {Q : oeQ} {v0 : Nat} {v1 : Int}
    (vc : ∃ n2, sh[v0]? = some (0, n2) ∧ oe_V (oe_cost 129) 129 (oe_M (d + 1)) none Q 5 [some (.inr (.inl v0)), some (.inl v1), some (.inl 0), some (.inl ((n2 : Nat) : Int))] [] (sh, g, h) 0 0) :
    oe_M (d + 2) 129 [.inr (.inl v0), .inl v1] (sh, g, h) Q := by
  refine oe_M.of (by simp [oe_c1]) (Nat.le_of_ble_eq_true rfl) ?_
  show oe_V (oe_cost 129) 129 (oe_M (d + 1)) none Q 0 [some (.inr (.inl v0)), some (.inl v1), none, none] [] (sh, g, h) 0 0
  refine s_iconst (oe_t129 0 (q := (0, .iconst 0, 1)) rfl) ?_
  refine s_istore_n (oe_t129 1 (q := (1, .istore_n 2, 1)) rfl) ?_
  refine s_aload_n (oe_t129 2 (q := (2, .aload_n 0, 1)) rfl) rfl ?_
  obtain ⟨n2, s1, vc⟩ := vc
  refine s_alen (oe_t129 3 (q := (3, .arraylength, 1)) rfl) s1 (by decide) ?_
  refine s_istore_n (oe_t129 4 (q := (4, .istore_n 3, 1)) rfl) ?_
  exact oe_V.fg (oe_M_mono _) (show oe_fg [some (.inr (.inl v0)), some (.inl v1), some (.inl 0), some (.inl ((n2 : Nat) : Int))] _ from ⟨rfl, ⟨rfl, ⟨rfl, ⟨rfl, trivial⟩⟩⟩⟩) vc
theorem g129_5 {d : Nat} {sh : List (Nat × Nat)} {g : Nat → Nat → Option Nat} {h : Nat → Nat → Int} {Q : oeQ} {v0 : Nat} {v1 : Int} {v2 : Int} {v3 : Int}
    (vc : (v3 ≤ v2 → Q none (sh, g, h)) ∧ (v2 < v3 → ∃ n5, sh[v0]? = some (0, n5) ∧ 0 ≤ v2 ∧ v2 < (n5 : Nat) ∧ ∀ h8, h8 = oe_up h v0 (v2 : Int).toNat v1 → oe_rg (v2 + 1) ∧ oe_V (oe_cost 129) 129 (oe_M (d + 1)) none Q 5 [some (.inr (.inl v0)), some (.inl v1), some (.inl (v2 + 1)), some (.inl v3)] [] (sh, g, h8) 0 0)) :
    oe_V (oe_cost 129) 129 (oe_M (d + 1)) none Q 5 [some (.inr (.inl v0)), some (.inl v1), some (.inl v2), some (.inl v3)] [] (sh, g, h) 0 0 := by
  refine s_iload_n (oe_t129 5 (q := (5, .iload_n 2, 1)) rfl) rfl ?_
  refine s_iload_n (oe_t129 6 (q := (6, .iload_n 3, 1)) rfl) rfl ?_
  refine s_ic_ge (oe_t129 7 (q := (7, .if_icmp .ge 20, 3)) rfl) (fun c3 => ?_) (fun c3 => ?_)
  · replace vc := vc.1 c3
    exact s_ret (oe_t129 14 (q := (20, .return_, 1)) rfl) rfl vc
  · replace vc := vc.2 c3
    refine s_aload_n (oe_t129 8 (q := (10, .aload_n 0, 1)) rfl) rfl ?_
    refine s_iload_n (oe_t129 9 (q := (11, .iload_n 2, 1)) rfl) rfl ?_
    refine s_iload_n (oe_t129 10 (q := (12, .iload_n 1, 1)) rfl) rfl ?_
    obtain ⟨n5, s4, vc⟩ := vc
    obtain ⟨i6, i7, vc⟩ := vc
    refine t_iastore (oe_t129 11 (q := (13, .iastore, 1)) rfl) s4 i6 i7 (fun h8 e9 => ?_)
    replace vc := vc h8 e9
    obtain ⟨r10, vc⟩ := vc
    refine s_iinc (oe_t129 12 (q := (14, .iinc 2 1, 3)) rfl) rfl r10 ?_
    refine s_goto (oe_t129 13 (q := (17, .goto 5, 3)) rfl) ?_
    exact oe_V.fg (oe_M_mono _) (show oe_fg [some (.inr (.inl v0)), some (.inl v1), some (.inl (v2 + 1)), some (.inl v3)] _ from ⟨rfl, ⟨rfl, ⟨rfl, ⟨rfl, trivial⟩⟩⟩⟩) vc
