/-! Walks laid by program. -/
theorem oe_u56 : oe_c56.all (fun q => decide (oe_find oe_c56 q.1 = some q.2)) = true := by decide +kernel
theorem oe_t56 (k : Nat) {q : Nat × Jvm.ClassFile.Instr × Nat} (h : oe_c56[k]? = some q) : oe_find (oe_code 56) q.1 = some q.2 := oe_ft oe_u56 h
theorem g56 {d : Nat} {sh : List (Nat × Nat)} {g : Nat → Nat → Option Nat} {h : Nat → Nat → Int} {Q : oeQ} {v0 : Nat} {v1 : Int}
    (vc : sh[v0]? = some (12, 45) ∧ oe_M (d + 1) 53 [.inr (.inl v0), .inl 3, .inl 2] (sh, g, h) (fun r hp => ∃ (x2 : Int) (h1 : Nat → Nat → Int), r = some (.inl x2) ∧ hp = (sh, g, h1) ∧ oe_V (oe_cost 56) 56 (oe_M (d + 1)) none Q 11 [some (.inr (.inl v0)), some (.inl v1), some (.inl 0), some (.inl 0)] [] (sh, g, h1) 0 0)) :
    oe_M (d + 2) 56 [.inr (.inl v0), .inl v1] (sh, g, h) Q := by
  refine oe_M.of (by simp [oe_c1]) (Nat.le_of_ble_eq_true rfl) ?_
  show oe_V (oe_cost 56) 56 (oe_M (d + 1)) none Q 0 [some (.inr (.inl v0)), some (.inl v1), none, none] [] (sh, g, h) 0 0
  refine s_aload_n (oe_t56 0 (q := (0, .aload_n 0, 1)) rfl) rfl ?_
  refine s_iconst (oe_t56 1 (q := (1, .iconst 3, 1)) rfl) ?_
  refine s_iconst (oe_t56 2 (q := (2, .iconst 2, 1)) rfl) ?_
  obtain ⟨s3, vc⟩ := vc
  refine s_callv (oe_t56 3 (q := (3, .invokevirtual 53072, 3)) rfl) rfl s3 rfl (Nat.le_of_ble_eq_true rfl) (Nat.le_of_ble_eq_true rfl) (Nat.le_of_ble_eq_true rfl) (Nat.le_of_ble_eq_true rfl) ?_
  refine oe_M_mono _ _ _ _ _ _ (fun r hp vq => ?_) vc
  obtain ⟨x2, h1, rfl, rfl, vc⟩ := vq
  show oe_V (oe_cost 56) 56 (oe_M (d + 1)) none Q 6 [some (.inr (.inl v0)), some (.inl v1), none, none] [.inl x2] (sh, g, h1) 0 0
  refine s_pop (oe_t56 4 (q := (6, .pop, 1)) rfl) trivial ?_
  refine s_iconst (oe_t56 5 (q := (7, .iconst 0, 1)) rfl) ?_
  refine s_istore_n (oe_t56 6 (q := (8, .istore_n 2, 1)) rfl) ?_
  refine s_iconst (oe_t56 7 (q := (9, .iconst 0, 1)) rfl) ?_
  refine s_istore_n (oe_t56 8 (q := (10, .istore_n 3, 1)) rfl) ?_
  exact oe_V.fg (oe_M_mono _) (show oe_fg [some (.inr (.inl v0)), some (.inl v1), some (.inl 0), some (.inl 0)] _ from ⟨rfl, ⟨rfl, ⟨rfl, ⟨rfl, trivial⟩⟩⟩⟩) vc
theorem g56_11 {d : Nat} {sh : List (Nat × Nat)} {g : Nat → Nat → Option Nat} {h : Nat → Nat → Int} {Q : oeQ} {v0 : Nat} {v1 : Int} {v2 : Int} {v3 : Int}
    (vc : sh[v0]? = some (12, 45) ∧ ((h v0 12) ≤ v3 → oe_V (oe_cost 56) 56 (oe_M (d + 1)) none Q 89 [some (.inr (.inl v0)), some (.inl v1), some (.inl v2), some (.inl 0)] [] (sh, g, h) 0 0) ∧ (v3 < (h v0 12) → (v2 ≠ 0 → oe_rg (v3 + 1) ∧ oe_V (oe_cost 56) 56 (oe_M (d + 1)) none Q 11 [some (.inr (.inl v0)), some (.inl v1), some (.inl 1), some (.inl (v3 + 1))] [] (sh, g, h) 0 0) ∧ (v2 = 0 → ∃ q8, g v0 13 = some q8 ∧ ∃ q10, g v0 14 = some q10 ∧ ∃ n13, sh[q10]? = some (0, n13) ∧ 0 ≤ v3 ∧ v3 < (n13 : Nat) ∧ ∃ q16, g v0 15 = some q16 ∧ ∃ n19, sh[q16]? = some (0, n19) ∧ 0 ≤ v3 ∧ v3 < (n19 : Nat) ∧ oe_M (d + 1) 55 [.inr (.inl v0), .inr (.inl q8), .inl v3, .inl (h q10 (v3 : Int).toNat), .inl (h q16 (v3 : Int).toNat), .inl 2, .inl 3] (sh, g, h) (fun r hp => ∃ (x22 : Int), r = some (.inl x22) ∧ hp = (sh, g, h) ∧ (x22 ≠ 0 → oe_rg (v3 + 1) ∧ oe_V (oe_cost 56) 56 (oe_M (d + 1)) none Q 11 [some (.inr (.inl v0)), some (.inl v1), some (.inl 1), some (.inl (v3 + 1))] [] (sh, g, h) 0 0) ∧ (x22 = 0 → 0 ≤ v3 ∧ v3 < (n13 : Nat) ∧ 0 ≤ v3 ∧ v3 < (n19 : Nat) ∧ oe_M (d + 1) 55 [.inr (.inl v0), .inr (.inl q8), .inl v3, .inl (h q10 (v3 : Int).toNat), .inl (h q16 (v3 : Int).toNat), .inl 4, .inl 5] (sh, g, h) (fun r hp => ∃ (x29 : Int), r = some (.inl x29) ∧ hp = (sh, g, h) ∧ (x29 = 0 → oe_rg (v3 + 1) ∧ oe_V (oe_cost 56) 56 (oe_M (d + 1)) none Q 11 [some (.inr (.inl v0)), some (.inl v1), some (.inl 0), some (.inl (v3 + 1))] [] (sh, g, h) 0 0) ∧ (x29 ≠ 0 → oe_rg (v3 + 1) ∧ oe_V (oe_cost 56) 56 (oe_M (d + 1)) none Q 11 [some (.inr (.inl v0)), some (.inl v1), some (.inl 1), some (.inl (v3 + 1))] [] (sh, g, h) 0 0))))))) :
    oe_V (oe_cost 56) 56 (oe_M (d + 1)) none Q 11 [some (.inr (.inl v0)), some (.inl v1), some (.inl v2), some (.inl v3)] [] (sh, g, h) 0 0 := by
  refine s_iload_n (oe_t56 9 (q := (11, .iload_n 3, 1)) rfl) rfl ?_
  refine s_aload_n (oe_t56 10 (q := (12, .aload_n 0, 1)) rfl) rfl ?_
  obtain ⟨s4, vc⟩ := vc
  refine s_geti (oe_t56 11 (q := (13, .getfield 7120, 3)) rfl) s4 rfl (by decide) ?_
  refine s_ic_ge (oe_t56 12 (q := (16, .if_icmp .ge 87, 3)) rfl) (fun c5 => ?_) (fun c5 => ?_)
  · replace vc := vc.1 c5
    refine s_iconst (oe_t56 53 (q := (87, .iconst 0, 1)) rfl) ?_
    refine s_istore_n (oe_t56 54 (q := (88, .istore_n 3, 1)) rfl) ?_
    exact oe_V.fg (oe_M_mono _) (show oe_fg [some (.inr (.inl v0)), some (.inl v1), some (.inl v2), some (.inl 0)] _ from ⟨rfl, ⟨rfl, ⟨rfl, ⟨rfl, trivial⟩⟩⟩⟩) vc
  · replace vc := vc.2 c5
    refine s_iload_n (oe_t56 13 (q := (19, .iload_n 2, 1)) rfl) rfl ?_
    refine s_if_ne (oe_t56 14 (q := (20, .ifCond .ne 75, 3)) rfl) (fun c6 => ?_) (fun c6 => ?_)
    · replace vc := vc.1 c6
      refine s_iconst (oe_t56 47 (q := (75, .iconst 1, 1)) rfl) ?_
      refine s_goto (oe_t56 48 (q := (76, .goto 80, 3)) rfl) ?_
      refine s_istore_n (oe_t56 50 (q := (80, .istore_n 2, 1)) rfl) ?_
      obtain ⟨r7, vc⟩ := vc
      refine s_iinc (oe_t56 51 (q := (81, .iinc 3 1, 3)) rfl) rfl r7 ?_
      refine s_goto (oe_t56 52 (q := (84, .goto 11, 3)) rfl) ?_
      exact oe_V.fg (oe_M_mono _) (show oe_fg [some (.inr (.inl v0)), some (.inl v1), some (.inl 1), some (.inl (v3 + 1))] _ from ⟨rfl, ⟨rfl, ⟨rfl, ⟨rfl, trivial⟩⟩⟩⟩) vc
    · replace vc := vc.2 c6
      refine s_aload_n (oe_t56 15 (q := (23, .aload_n 0, 1)) rfl) rfl ?_
      refine s_aload_n (oe_t56 16 (q := (24, .aload_n 0, 1)) rfl) rfl ?_
      obtain ⟨q8, p9, vc⟩ := vc
      refine s_getr (oe_t56 17 (q := (25, .getfield 7131, 3)) rfl) s4 rfl rfl p9 ?_
      refine s_iload_n (oe_t56 18 (q := (28, .iload_n 3, 1)) rfl) rfl ?_
      refine s_aload_n (oe_t56 19 (q := (29, .aload_n 0, 1)) rfl) rfl ?_
      obtain ⟨q10, p11, vc⟩ := vc
      refine s_getr (oe_t56 20 (q := (30, .getfield 7141, 3)) rfl) s4 rfl rfl p11 ?_
      refine s_iload_n (oe_t56 21 (q := (33, .iload_n 3, 1)) rfl) rfl ?_
      obtain ⟨n13, s12, vc⟩ := vc
      obtain ⟨i14, i15, vc⟩ := vc
      refine s_iaload (oe_t56 22 (q := (34, .iaload, 1)) rfl) s12 i14 i15 ?_
      refine s_aload_n (oe_t56 23 (q := (35, .aload_n 0, 1)) rfl) rfl ?_
      obtain ⟨q16, p17, vc⟩ := vc
      refine s_getr (oe_t56 24 (q := (36, .getfield 7151, 3)) rfl) s4 rfl rfl p17 ?_
      refine s_iload_n (oe_t56 25 (q := (39, .iload_n 3, 1)) rfl) rfl ?_
      obtain ⟨n19, s18, vc⟩ := vc
      obtain ⟨i20, i21, vc⟩ := vc
      refine s_iaload (oe_t56 26 (q := (40, .iaload, 1)) rfl) s18 i20 i21 ?_
      refine s_iconst (oe_t56 27 (q := (41, .iconst 2, 1)) rfl) ?_
      refine s_iconst (oe_t56 28 (q := (42, .iconst 3, 1)) rfl) ?_
      refine s_callv (oe_t56 29 (q := (43, .invokevirtual 55076, 3)) rfl) rfl s4 rfl (Nat.le_of_ble_eq_true rfl) (Nat.le_of_ble_eq_true rfl) (Nat.le_of_ble_eq_true rfl) (Nat.le_of_ble_eq_true rfl) ?_
      refine oe_M_mono _ _ _ _ _ _ (fun r hp vq => ?_) vc
      obtain ⟨x22, rfl, rfl, vc⟩ := vq
      show oe_V (oe_cost 56) 56 (oe_M (d + 1)) none Q 46 [some (.inr (.inl v0)), some (.inl v1), some (.inl v2), some (.inl v3)] [.inl x22] (sh, g, h) 0 0
      refine s_if_ne (oe_t56 30 (q := (46, .ifCond .ne 75, 3)) rfl) (fun c23 => ?_) (fun c23 => ?_)
      · replace vc := vc.1 c23
        refine s_iconst (oe_t56 47 (q := (75, .iconst 1, 1)) rfl) ?_
        refine s_goto (oe_t56 48 (q := (76, .goto 80, 3)) rfl) ?_
        refine s_istore_n (oe_t56 50 (q := (80, .istore_n 2, 1)) rfl) ?_
        obtain ⟨r24, vc⟩ := vc
        refine s_iinc (oe_t56 51 (q := (81, .iinc 3 1, 3)) rfl) rfl r24 ?_
        refine s_goto (oe_t56 52 (q := (84, .goto 11, 3)) rfl) ?_
        exact oe_V.fg (oe_M_mono _) (show oe_fg [some (.inr (.inl v0)), some (.inl v1), some (.inl 1), some (.inl (v3 + 1))] _ from ⟨rfl, ⟨rfl, ⟨rfl, ⟨rfl, trivial⟩⟩⟩⟩) vc
      · replace vc := vc.2 c23
        refine s_aload_n (oe_t56 31 (q := (49, .aload_n 0, 1)) rfl) rfl ?_
        refine s_aload_n (oe_t56 32 (q := (50, .aload_n 0, 1)) rfl) rfl ?_
        refine s_getr (oe_t56 33 (q := (51, .getfield 7131, 3)) rfl) s4 rfl rfl p9 ?_
        refine s_iload_n (oe_t56 34 (q := (54, .iload_n 3, 1)) rfl) rfl ?_
        refine s_aload_n (oe_t56 35 (q := (55, .aload_n 0, 1)) rfl) rfl ?_
        refine s_getr (oe_t56 36 (q := (56, .getfield 7141, 3)) rfl) s4 rfl rfl p11 ?_
        refine s_iload_n (oe_t56 37 (q := (59, .iload_n 3, 1)) rfl) rfl ?_
        obtain ⟨i25, i26, vc⟩ := vc
        refine s_iaload (oe_t56 38 (q := (60, .iaload, 1)) rfl) s12 i25 i26 ?_
        refine s_aload_n (oe_t56 39 (q := (61, .aload_n 0, 1)) rfl) rfl ?_
        refine s_getr (oe_t56 40 (q := (62, .getfield 7151, 3)) rfl) s4 rfl rfl p17 ?_
        refine s_iload_n (oe_t56 41 (q := (65, .iload_n 3, 1)) rfl) rfl ?_
        obtain ⟨i27, i28, vc⟩ := vc
        refine s_iaload (oe_t56 42 (q := (66, .iaload, 1)) rfl) s18 i27 i28 ?_
        refine s_iconst (oe_t56 43 (q := (67, .iconst 4, 1)) rfl) ?_
        refine s_iconst (oe_t56 44 (q := (68, .iconst 5, 1)) rfl) ?_
        refine s_callv (oe_t56 45 (q := (69, .invokevirtual 55076, 3)) rfl) rfl s4 rfl (Nat.le_of_ble_eq_true rfl) (Nat.le_of_ble_eq_true rfl) (Nat.le_of_ble_eq_true rfl) (Nat.le_of_ble_eq_true rfl) ?_
        refine oe_M_mono _ _ _ _ _ _ (fun r hp vq => ?_) vc
        obtain ⟨x29, rfl, rfl, vc⟩ := vq
        show oe_V (oe_cost 56) 56 (oe_M (d + 1)) none Q 72 [some (.inr (.inl v0)), some (.inl v1), some (.inl v2), some (.inl v3)] [.inl x29] (sh, g, h) 0 0
        refine s_if_eq (oe_t56 46 (q := (72, .ifCond .eq 79, 3)) rfl) (fun c30 => ?_) (fun c30 => ?_)
        · replace vc := vc.1 c30
          refine s_iconst (oe_t56 49 (q := (79, .iconst 0, 1)) rfl) ?_
          refine s_istore_n (oe_t56 50 (q := (80, .istore_n 2, 1)) rfl) ?_
          obtain ⟨r31, vc⟩ := vc
          refine s_iinc (oe_t56 51 (q := (81, .iinc 3 1, 3)) rfl) rfl r31 ?_
          refine s_goto (oe_t56 52 (q := (84, .goto 11, 3)) rfl) ?_
          exact oe_V.fg (oe_M_mono _) (show oe_fg [some (.inr (.inl v0)), some (.inl v1), some (.inl 0), some (.inl (v3 + 1))] _ from ⟨rfl, ⟨rfl, ⟨rfl, ⟨rfl, trivial⟩⟩⟩⟩) vc
        · replace vc := vc.2 c30
          refine s_iconst (oe_t56 47 (q := (75, .iconst 1, 1)) rfl) ?_
          refine s_goto (oe_t56 48 (q := (76, .goto 80, 3)) rfl) ?_
          refine s_istore_n (oe_t56 50 (q := (80, .istore_n 2, 1)) rfl) ?_
          obtain ⟨r32, vc⟩ := vc
          refine s_iinc (oe_t56 51 (q := (81, .iinc 3 1, 3)) rfl) rfl r32 ?_
          refine s_goto (oe_t56 52 (q := (84, .goto 11, 3)) rfl) ?_
          exact oe_V.fg (oe_M_mono _) (show oe_fg [some (.inr (.inl v0)), some (.inl v1), some (.inl 1), some (.inl (v3 + 1))] _ from ⟨rfl, ⟨rfl, ⟨rfl, ⟨rfl, trivial⟩⟩⟩⟩) vc
theorem g56_89 {d : Nat} {sh : List (Nat × Nat)} {g : Nat → Nat → Option Nat} {h : Nat → Nat → Int} {Q : oeQ} {v0 : Nat} {v1 : Int} {v2 : Int} {v3 : Int}
    (vc : sh[v0]? = some (12, 45) ∧ ((h v0 8) ≤ v3 → (v2 = 0 ∨ v2 = 1) ∧ Q (some (.inl v2)) (sh, g, h)) ∧ (v3 < (h v0 8) → (v1 = 0 → (v2 = 0 ∨ v2 = 1) ∧ Q (some (.inl v2)) (sh, g, h)) ∧ (v1 ≠ 0 → (v2 ≠ 0 → oe_rg (v3 + 1) ∧ oe_V (oe_cost 56) 56 (oe_M (d + 1)) none Q 89 [some (.inr (.inl v0)), some (.inl v1), some (.inl 1), some (.inl (v3 + 1))] [] (sh, g, h) 0 0) ∧ (v2 = 0 → ∃ q40, g v0 9 = some q40 ∧ ∃ q42, g v0 10 = some q42 ∧ ∃ n45, sh[q42]? = some (0, n45) ∧ 0 ≤ v3 ∧ v3 < (n45 : Nat) ∧ ∃ q48, g v0 11 = some q48 ∧ ∃ n51, sh[q48]? = some (0, n51) ∧ 0 ≤ v3 ∧ v3 < (n51 : Nat) ∧ oe_M (d + 1) 55 [.inr (.inl v0), .inr (.inl q40), .inl v3, .inl (h q42 (v3 : Int).toNat), .inl (h q48 (v3 : Int).toNat), .inl 2, .inl 3] (sh, g, h) (fun r hp => ∃ (x54 : Int), r = some (.inl x54) ∧ hp = (sh, g, h) ∧ (x54 ≠ 0 → oe_rg (v3 + 1) ∧ oe_V (oe_cost 56) 56 (oe_M (d + 1)) none Q 89 [some (.inr (.inl v0)), some (.inl v1), some (.inl 1), some (.inl (v3 + 1))] [] (sh, g, h) 0 0) ∧ (x54 = 0 → 0 ≤ v3 ∧ v3 < (n45 : Nat) ∧ 0 ≤ v3 ∧ v3 < (n51 : Nat) ∧ oe_M (d + 1) 55 [.inr (.inl v0), .inr (.inl q40), .inl v3, .inl (h q42 (v3 : Int).toNat), .inl (h q48 (v3 : Int).toNat), .inl 4, .inl 5] (sh, g, h) (fun r hp => ∃ (x61 : Int), r = some (.inl x61) ∧ hp = (sh, g, h) ∧ (x61 = 0 → oe_rg (v3 + 1) ∧ oe_V (oe_cost 56) 56 (oe_M (d + 1)) none Q 89 [some (.inr (.inl v0)), some (.inl v1), some (.inl 0), some (.inl (v3 + 1))] [] (sh, g, h) 0 0) ∧ (x61 ≠ 0 → oe_rg (v3 + 1) ∧ oe_V (oe_cost 56) 56 (oe_M (d + 1)) none Q 89 [some (.inr (.inl v0)), some (.inl v1), some (.inl 1), some (.inl (v3 + 1))] [] (sh, g, h) 0 0)))))))) :
    oe_V (oe_cost 56) 56 (oe_M (d + 1)) none Q 89 [some (.inr (.inl v0)), some (.inl v1), some (.inl v2), some (.inl v3)] [] (sh, g, h) 0 0 := by
  refine s_iload_n (oe_t56 55 (q := (89, .iload_n 3, 1)) rfl) rfl ?_
  refine s_aload_n (oe_t56 56 (q := (90, .aload_n 0, 1)) rfl) rfl ?_
  obtain ⟨s33, vc⟩ := vc
  refine s_geti (oe_t56 57 (q := (91, .getfield 7080, 3)) rfl) s33 rfl (by decide) ?_
  refine s_ic_ge (oe_t56 58 (q := (94, .if_icmp .ge 169, 3)) rfl) (fun c34 => ?_) (fun c34 => ?_)
  · replace vc := vc.1 c34
    refine s_iload_n (oe_t56 101 (q := (169, .iload_n 2, 1)) rfl) rfl ?_
    obtain ⟨b35, vc⟩ := vc
    exact s_iret (oe_t56 102 (q := (170, .ireturn, 1)) rfl) (Or.inr (Or.inl ⟨rfl, b35⟩)) vc
  · replace vc := vc.2 c34
    refine s_iload_n (oe_t56 59 (q := (97, .iload_n 1, 1)) rfl) rfl ?_
    refine s_if_eq (oe_t56 60 (q := (98, .ifCond .eq 169, 3)) rfl) (fun c36 => ?_) (fun c36 => ?_)
    · replace vc := vc.1 c36
      refine s_iload_n (oe_t56 101 (q := (169, .iload_n 2, 1)) rfl) rfl ?_
      obtain ⟨b37, vc⟩ := vc
      exact s_iret (oe_t56 102 (q := (170, .ireturn, 1)) rfl) (Or.inr (Or.inl ⟨rfl, b37⟩)) vc
    · replace vc := vc.2 c36
      refine s_iload_n (oe_t56 61 (q := (101, .iload_n 2, 1)) rfl) rfl ?_
      refine s_if_ne (oe_t56 62 (q := (102, .ifCond .ne 157, 3)) rfl) (fun c38 => ?_) (fun c38 => ?_)
      · replace vc := vc.1 c38
        refine s_iconst (oe_t56 95 (q := (157, .iconst 1, 1)) rfl) ?_
        refine s_goto (oe_t56 96 (q := (158, .goto 162, 3)) rfl) ?_
        refine s_istore_n (oe_t56 98 (q := (162, .istore_n 2, 1)) rfl) ?_
        obtain ⟨r39, vc⟩ := vc
        refine s_iinc (oe_t56 99 (q := (163, .iinc 3 1, 3)) rfl) rfl r39 ?_
        refine s_goto (oe_t56 100 (q := (166, .goto 89, 3)) rfl) ?_
        exact oe_V.fg (oe_M_mono _) (show oe_fg [some (.inr (.inl v0)), some (.inl v1), some (.inl 1), some (.inl (v3 + 1))] _ from ⟨rfl, ⟨rfl, ⟨rfl, ⟨rfl, trivial⟩⟩⟩⟩) vc
      · replace vc := vc.2 c38
        refine s_aload_n (oe_t56 63 (q := (105, .aload_n 0, 1)) rfl) rfl ?_
        refine s_aload_n (oe_t56 64 (q := (106, .aload_n 0, 1)) rfl) rfl ?_
        obtain ⟨q40, p41, vc⟩ := vc
        refine s_getr (oe_t56 65 (q := (107, .getfield 7091, 3)) rfl) s33 rfl rfl p41 ?_
        refine s_iload_n (oe_t56 66 (q := (110, .iload_n 3, 1)) rfl) rfl ?_
        refine s_aload_n (oe_t56 67 (q := (111, .aload_n 0, 1)) rfl) rfl ?_
        obtain ⟨q42, p43, vc⟩ := vc
        refine s_getr (oe_t56 68 (q := (112, .getfield 7101, 3)) rfl) s33 rfl rfl p43 ?_
        refine s_iload_n (oe_t56 69 (q := (115, .iload_n 3, 1)) rfl) rfl ?_
        obtain ⟨n45, s44, vc⟩ := vc
        obtain ⟨i46, i47, vc⟩ := vc
        refine s_iaload (oe_t56 70 (q := (116, .iaload, 1)) rfl) s44 i46 i47 ?_
        refine s_aload_n (oe_t56 71 (q := (117, .aload_n 0, 1)) rfl) rfl ?_
        obtain ⟨q48, p49, vc⟩ := vc
        refine s_getr (oe_t56 72 (q := (118, .getfield 7111, 3)) rfl) s33 rfl rfl p49 ?_
        refine s_iload_n (oe_t56 73 (q := (121, .iload_n 3, 1)) rfl) rfl ?_
        obtain ⟨n51, s50, vc⟩ := vc
        obtain ⟨i52, i53, vc⟩ := vc
        refine s_iaload (oe_t56 74 (q := (122, .iaload, 1)) rfl) s50 i52 i53 ?_
        refine s_iconst (oe_t56 75 (q := (123, .iconst 2, 1)) rfl) ?_
        refine s_iconst (oe_t56 76 (q := (124, .iconst 3, 1)) rfl) ?_
        refine s_callv (oe_t56 77 (q := (125, .invokevirtual 55076, 3)) rfl) rfl s33 rfl (Nat.le_of_ble_eq_true rfl) (Nat.le_of_ble_eq_true rfl) (Nat.le_of_ble_eq_true rfl) (Nat.le_of_ble_eq_true rfl) ?_
        refine oe_M_mono _ _ _ _ _ _ (fun r hp vq => ?_) vc
        obtain ⟨x54, rfl, rfl, vc⟩ := vq
        show oe_V (oe_cost 56) 56 (oe_M (d + 1)) none Q 128 [some (.inr (.inl v0)), some (.inl v1), some (.inl v2), some (.inl v3)] [.inl x54] (sh, g, h) 0 0
        refine s_if_ne (oe_t56 78 (q := (128, .ifCond .ne 157, 3)) rfl) (fun c55 => ?_) (fun c55 => ?_)
        · replace vc := vc.1 c55
          refine s_iconst (oe_t56 95 (q := (157, .iconst 1, 1)) rfl) ?_
          refine s_goto (oe_t56 96 (q := (158, .goto 162, 3)) rfl) ?_
          refine s_istore_n (oe_t56 98 (q := (162, .istore_n 2, 1)) rfl) ?_
          obtain ⟨r56, vc⟩ := vc
          refine s_iinc (oe_t56 99 (q := (163, .iinc 3 1, 3)) rfl) rfl r56 ?_
          refine s_goto (oe_t56 100 (q := (166, .goto 89, 3)) rfl) ?_
          exact oe_V.fg (oe_M_mono _) (show oe_fg [some (.inr (.inl v0)), some (.inl v1), some (.inl 1), some (.inl (v3 + 1))] _ from ⟨rfl, ⟨rfl, ⟨rfl, ⟨rfl, trivial⟩⟩⟩⟩) vc
        · replace vc := vc.2 c55
          refine s_aload_n (oe_t56 79 (q := (131, .aload_n 0, 1)) rfl) rfl ?_
          refine s_aload_n (oe_t56 80 (q := (132, .aload_n 0, 1)) rfl) rfl ?_
          refine s_getr (oe_t56 81 (q := (133, .getfield 7091, 3)) rfl) s33 rfl rfl p41 ?_
          refine s_iload_n (oe_t56 82 (q := (136, .iload_n 3, 1)) rfl) rfl ?_
          refine s_aload_n (oe_t56 83 (q := (137, .aload_n 0, 1)) rfl) rfl ?_
          refine s_getr (oe_t56 84 (q := (138, .getfield 7101, 3)) rfl) s33 rfl rfl p43 ?_
          refine s_iload_n (oe_t56 85 (q := (141, .iload_n 3, 1)) rfl) rfl ?_
          obtain ⟨i57, i58, vc⟩ := vc
          refine s_iaload (oe_t56 86 (q := (142, .iaload, 1)) rfl) s44 i57 i58 ?_
          refine s_aload_n (oe_t56 87 (q := (143, .aload_n 0, 1)) rfl) rfl ?_
          refine s_getr (oe_t56 88 (q := (144, .getfield 7111, 3)) rfl) s33 rfl rfl p49 ?_
          refine s_iload_n (oe_t56 89 (q := (147, .iload_n 3, 1)) rfl) rfl ?_
          obtain ⟨i59, i60, vc⟩ := vc
          refine s_iaload (oe_t56 90 (q := (148, .iaload, 1)) rfl) s50 i59 i60 ?_
          refine s_iconst (oe_t56 91 (q := (149, .iconst 4, 1)) rfl) ?_
          refine s_iconst (oe_t56 92 (q := (150, .iconst 5, 1)) rfl) ?_
          refine s_callv (oe_t56 93 (q := (151, .invokevirtual 55076, 3)) rfl) rfl s33 rfl (Nat.le_of_ble_eq_true rfl) (Nat.le_of_ble_eq_true rfl) (Nat.le_of_ble_eq_true rfl) (Nat.le_of_ble_eq_true rfl) ?_
          refine oe_M_mono _ _ _ _ _ _ (fun r hp vq => ?_) vc
          obtain ⟨x61, rfl, rfl, vc⟩ := vq
          show oe_V (oe_cost 56) 56 (oe_M (d + 1)) none Q 154 [some (.inr (.inl v0)), some (.inl v1), some (.inl v2), some (.inl v3)] [.inl x61] (sh, g, h) 0 0
          refine s_if_eq (oe_t56 94 (q := (154, .ifCond .eq 161, 3)) rfl) (fun c62 => ?_) (fun c62 => ?_)
          · replace vc := vc.1 c62
            refine s_iconst (oe_t56 97 (q := (161, .iconst 0, 1)) rfl) ?_
            refine s_istore_n (oe_t56 98 (q := (162, .istore_n 2, 1)) rfl) ?_
            obtain ⟨r63, vc⟩ := vc
            refine s_iinc (oe_t56 99 (q := (163, .iinc 3 1, 3)) rfl) rfl r63 ?_
            refine s_goto (oe_t56 100 (q := (166, .goto 89, 3)) rfl) ?_
            exact oe_V.fg (oe_M_mono _) (show oe_fg [some (.inr (.inl v0)), some (.inl v1), some (.inl 0), some (.inl (v3 + 1))] _ from ⟨rfl, ⟨rfl, ⟨rfl, ⟨rfl, trivial⟩⟩⟩⟩) vc
          · replace vc := vc.2 c62
            refine s_iconst (oe_t56 95 (q := (157, .iconst 1, 1)) rfl) ?_
            refine s_goto (oe_t56 96 (q := (158, .goto 162, 3)) rfl) ?_
            refine s_istore_n (oe_t56 98 (q := (162, .istore_n 2, 1)) rfl) ?_
            obtain ⟨r64, vc⟩ := vc
            refine s_iinc (oe_t56 99 (q := (163, .iinc 3 1, 3)) rfl) rfl r64 ?_
            refine s_goto (oe_t56 100 (q := (166, .goto 89, 3)) rfl) ?_
            exact oe_V.fg (oe_M_mono _) (show oe_fg [some (.inr (.inl v0)), some (.inl v1), some (.inl 1), some (.inl (v3 + 1))] _ from ⟨rfl, ⟨rfl, ⟨rfl, ⟨rfl, trivial⟩⟩⟩⟩) vc
theorem oe_u57 : oe_c57.all (fun q => decide (oe_find oe_c57 q.1 = some q.2)) = true := by decide +kernel
theorem oe_t57 (k : Nat) {q : Nat × Jvm.ClassFile.Instr × Nat} (h : oe_c57[k]? = some q) : oe_find (oe_code 57) q.1 = some q.2 := oe_ft oe_u57 h
theorem g57 {d : Nat} {sh : List (Nat × Nat)} {g : Nat → Nat → Option Nat} {h : Nat → Nat → Int} {Q : oeQ} {v0 : Nat}
    (vc : sh[v0]? = some (12, 45) ∧ ∃ q2, g v0 10 = some q2 ∧ ∃ q4, g v0 19 = some q4 ∧ ∃ n7, sh[q4]? = some (0, n7) ∧ 0 ≤ (2 : Int) ∧ (2 : Int) < (n7 : Nat) ∧ ∃ n11, sh[q2]? = some (0, n11) ∧ 0 ≤ (h v0 8) ∧ (h v0 8) < (n11 : Nat) ∧ ∀ h14, h14 = oe_up h q2 ((h v0 8) : Int).toNat (h q4 2) → ∃ q16, g v0 11 = some q16 ∧ 0 ≤ (2 : Int) ∧ (2 : Int) < (n7 : Nat) ∧ 0 ≤ (3 : Int) ∧ (3 : Int) < (n7 : Nat) ∧ oe_rg ((h14 q4 2) + (h14 q4 3)) ∧ ∃ n24, sh[q16]? = some (0, n24) ∧ 0 ≤ (h14 v0 8) ∧ (h14 v0 8) < (n24 : Nat) ∧ ∀ h27, h27 = oe_up h14 q16 ((h14 v0 8) : Int).toNat ((h14 q4 2) + (h14 q4 3)) → oe_V (oe_cost 57) 57 (oe_M (d + 1)) none Q 39 [some (.inr (.inl v0)), some (.inl 0)] [] (sh, g, h27) 0 0) :
    oe_M (d + 2) 57 [.inr (.inl v0)] (sh, g, h) Q := by
  refine oe_M.of (by simp [oe_c1]) (Nat.le_of_ble_eq_true rfl) ?_
  show oe_V (oe_cost 57) 57 (oe_M (d + 1)) none Q 0 [some (.inr (.inl v0)), none] [] (sh, g, h) 0 0
  refine s_aload_n (oe_t57 0 (q := (0, .aload_n 0, 1)) rfl) rfl ?_
  obtain ⟨s1, vc⟩ := vc
  obtain ⟨q2, p3, vc⟩ := vc
  refine s_getr (oe_t57 1 (q := (1, .getfield 7101, 3)) rfl) s1 rfl rfl p3 ?_
  refine s_aload_n (oe_t57 2 (q := (4, .aload_n 0, 1)) rfl) rfl ?_
  refine s_geti (oe_t57 3 (q := (5, .getfield 7080, 3)) rfl) s1 rfl (by decide) ?_
  refine s_aload_n (oe_t57 4 (q := (8, .aload_n 0, 1)) rfl) rfl ?_
  obtain ⟨q4, p5, vc⟩ := vc
  refine s_getr (oe_t57 5 (q := (9, .getfield 7191, 3)) rfl) s1 rfl rfl p5 ?_
  refine s_iconst (oe_t57 6 (q := (12, .iconst 2, 1)) rfl) ?_
  obtain ⟨n7, s6, vc⟩ := vc
  obtain ⟨i8, i9, vc⟩ := vc
  refine s_iaload (oe_t57 7 (q := (13, .iaload, 1)) rfl) s6 i8 i9 ?_
  obtain ⟨n11, s10, vc⟩ := vc
  obtain ⟨i12, i13, vc⟩ := vc
  refine t_iastore (oe_t57 8 (q := (14, .iastore, 1)) rfl) s10 i12 i13 (fun h14 e15 => ?_)
  replace vc := vc h14 e15
  refine s_aload_n (oe_t57 9 (q := (15, .aload_n 0, 1)) rfl) rfl ?_
  obtain ⟨q16, p17, vc⟩ := vc
  refine s_getr (oe_t57 10 (q := (16, .getfield 7111, 3)) rfl) s1 rfl rfl p17 ?_
  refine s_aload_n (oe_t57 11 (q := (19, .aload_n 0, 1)) rfl) rfl ?_
  refine s_geti (oe_t57 12 (q := (20, .getfield 7080, 3)) rfl) s1 rfl (by decide) ?_
  refine s_aload_n (oe_t57 13 (q := (23, .aload_n 0, 1)) rfl) rfl ?_
  refine s_getr (oe_t57 14 (q := (24, .getfield 7191, 3)) rfl) s1 rfl rfl p5 ?_
  refine s_iconst (oe_t57 15 (q := (27, .iconst 2, 1)) rfl) ?_
  obtain ⟨i18, i19, vc⟩ := vc
  refine s_iaload (oe_t57 16 (q := (28, .iaload, 1)) rfl) s6 i18 i19 ?_
  refine s_aload_n (oe_t57 17 (q := (29, .aload_n 0, 1)) rfl) rfl ?_
  refine s_getr (oe_t57 18 (q := (30, .getfield 7191, 3)) rfl) s1 rfl rfl p5 ?_
  refine s_iconst (oe_t57 19 (q := (33, .iconst 3, 1)) rfl) ?_
  obtain ⟨i20, i21, vc⟩ := vc
  refine s_iaload (oe_t57 20 (q := (34, .iaload, 1)) rfl) s6 i20 i21 ?_
  obtain ⟨r22, vc⟩ := vc
  refine s_iadd (oe_t57 21 (q := (35, .iadd, 1)) rfl) r22 ?_
  obtain ⟨n24, s23, vc⟩ := vc
  obtain ⟨i25, i26, vc⟩ := vc
  refine t_iastore (oe_t57 22 (q := (36, .iastore, 1)) rfl) s23 i25 i26 (fun h27 e28 => ?_)
  replace vc := vc h27 e28
  refine s_iconst (oe_t57 23 (q := (37, .iconst 0, 1)) rfl) ?_
  refine s_istore_n (oe_t57 24 (q := (38, .istore_n 1, 1)) rfl) ?_
  exact oe_V.fg (oe_M_mono _) (show oe_fg [some (.inr (.inl v0)), some (.inl 0)] _ from ⟨rfl, ⟨rfl, trivial⟩⟩) vc
theorem g57_39 {d : Nat} {sh : List (Nat × Nat)} {g : Nat → Nat → Option Nat} {h : Nat → Nat → Int} {Q : oeQ} {v0 : Nat} {v1 : Int}
    (vc : sh[v0]? = some (12, 45) ∧ ∃ q30, g v0 11 = some q30 ∧ ∃ n33, sh[q30]? = some (0, n33) ∧ 0 ≤ (h v0 8) ∧ (h v0 8) < (n33 : Nat) ∧ ((h q30 ((h v0 8) : Int).toNat) ≤ v1 → oe_rg ((h v0 8) + 1) ∧ ∀ h38, h38 = oe_up h v0 8 ((h v0 8) + 1) → Q none (sh, g, h38)) ∧ (v1 < (h q30 ((h v0 8) : Int).toNat) → ∃ q40, g v0 9 = some q40 ∧ oe_rg (20 * (h v0 8)) ∧ oe_rg ((20 * (h v0 8)) + v1) ∧ ∃ q44, g v0 19 = some q44 ∧ ∃ n47, sh[q44]? = some (0, n47) ∧ 0 ≤ (2 : Int) ∧ (2 : Int) < (n47 : Nat) ∧ ((h q44 2) ≤ v1 → ∃ q51, g v0 18 = some q51 ∧ oe_rg (120 + v1) ∧ 0 ≤ (2 : Int) ∧ (2 : Int) < (n47 : Nat) ∧ oe_rg ((120 + v1) - (h q44 2)) ∧ ∃ n58, sh[q51]? = some (0, n58) ∧ 0 ≤ ((120 + v1) - (h q44 2)) ∧ ((120 + v1) - (h q44 2)) < (n58 : Nat) ∧ ∃ n62, sh[q40]? = some (0, n62) ∧ 0 ≤ ((20 * (h v0 8)) + v1) ∧ ((20 * (h v0 8)) + v1) < (n62 : Nat) ∧ ∀ h65, h65 = oe_up h q40 (((20 * (h v0 8)) + v1) : Int).toNat (h q51 (((120 + v1) - (h q44 2)) : Int).toNat) → oe_rg (v1 + 1) ∧ oe_V (oe_cost 57) 57 (oe_M (d + 1)) none Q 39 [some (.inr (.inl v0)), some (.inl (v1 + 1))] [] (sh, g, h65) 0 0) ∧ (v1 < (h q44 2) → ∃ q68, g v0 18 = some q68 ∧ oe_rg (80 + v1) ∧ ∃ n72, sh[q68]? = some (0, n72) ∧ 0 ≤ (80 + v1) ∧ (80 + v1) < (n72 : Nat) ∧ ∃ n76, sh[q40]? = some (0, n76) ∧ 0 ≤ ((20 * (h v0 8)) + v1) ∧ ((20 * (h v0 8)) + v1) < (n76 : Nat) ∧ ∀ h79, h79 = oe_up h q40 (((20 * (h v0 8)) + v1) : Int).toNat (h q68 ((80 + v1) : Int).toNat) → oe_rg (v1 + 1) ∧ oe_V (oe_cost 57) 57 (oe_M (d + 1)) none Q 39 [some (.inr (.inl v0)), some (.inl (v1 + 1))] [] (sh, g, h79) 0 0))) :
    oe_V (oe_cost 57) 57 (oe_M (d + 1)) none Q 39 [some (.inr (.inl v0)), some (.inl v1)] [] (sh, g, h) 0 0 := by
  refine s_iload_n (oe_t57 25 (q := (39, .iload_n 1, 1)) rfl) rfl ?_
  refine s_aload_n (oe_t57 26 (q := (40, .aload_n 0, 1)) rfl) rfl ?_
  obtain ⟨s29, vc⟩ := vc
  obtain ⟨q30, p31, vc⟩ := vc
  refine s_getr (oe_t57 27 (q := (41, .getfield 7111, 3)) rfl) s29 rfl rfl p31 ?_
  refine s_aload_n (oe_t57 28 (q := (44, .aload_n 0, 1)) rfl) rfl ?_
  refine s_geti (oe_t57 29 (q := (45, .getfield 7080, 3)) rfl) s29 rfl (by decide) ?_
  obtain ⟨n33, s32, vc⟩ := vc
  obtain ⟨i34, i35, vc⟩ := vc
  refine s_iaload (oe_t57 30 (q := (48, .iaload, 1)) rfl) s32 i34 i35 ?_
  refine s_ic_ge (oe_t57 31 (q := (49, .if_icmp .ge 110, 3)) rfl) (fun c36 => ?_) (fun c36 => ?_)
  · replace vc := vc.1 c36
    refine s_aload_n (oe_t57 67 (q := (110, .aload_n 0, 1)) rfl) rfl ?_
    refine s_dup (oe_t57 68 (q := (111, .dup, 1)) rfl) trivial ?_
    refine s_geti (oe_t57 69 (q := (112, .getfield 7080, 3)) rfl) s29 rfl (by decide) ?_
    refine s_iconst (oe_t57 70 (q := (115, .iconst 1, 1)) rfl) ?_
    obtain ⟨r37, vc⟩ := vc
    refine s_iadd (oe_t57 71 (q := (116, .iadd, 1)) rfl) r37 ?_
    refine t_puti (oe_t57 72 (q := (117, .putfield 7080, 3)) rfl) s29 rfl (Or.inl rfl) (fun h38 e39 => ?_)
    replace vc := vc h38 e39
    exact s_ret (oe_t57 73 (q := (120, .return_, 1)) rfl) rfl vc
  · replace vc := vc.2 c36
    refine s_aload_n (oe_t57 32 (q := (52, .aload_n 0, 1)) rfl) rfl ?_
    obtain ⟨q40, p41, vc⟩ := vc
    refine s_getr (oe_t57 33 (q := (53, .getfield 7091, 3)) rfl) s29 rfl rfl p41 ?_
    refine s_bipush (oe_t57 34 (q := (56, .bipush 20, 2)) rfl) ?_
    refine s_aload_n (oe_t57 35 (q := (58, .aload_n 0, 1)) rfl) rfl ?_
    refine s_geti (oe_t57 36 (q := (59, .getfield 7080, 3)) rfl) s29 rfl (by decide) ?_
    obtain ⟨r42, vc⟩ := vc
    refine s_imul (oe_t57 37 (q := (62, .imul, 1)) rfl) r42 ?_
    refine s_iload_n (oe_t57 38 (q := (63, .iload_n 1, 1)) rfl) rfl ?_
    obtain ⟨r43, vc⟩ := vc
    refine s_iadd (oe_t57 39 (q := (64, .iadd, 1)) rfl) r43 ?_
    refine s_iload_n (oe_t57 40 (q := (65, .iload_n 1, 1)) rfl) rfl ?_
    refine s_aload_n (oe_t57 41 (q := (66, .aload_n 0, 1)) rfl) rfl ?_
    obtain ⟨q44, p45, vc⟩ := vc
    refine s_getr (oe_t57 42 (q := (67, .getfield 7191, 3)) rfl) s29 rfl rfl p45 ?_
    refine s_iconst (oe_t57 43 (q := (70, .iconst 2, 1)) rfl) ?_
    obtain ⟨n47, s46, vc⟩ := vc
    obtain ⟨i48, i49, vc⟩ := vc
    refine s_iaload (oe_t57 44 (q := (71, .iaload, 1)) rfl) s46 i48 i49 ?_
    refine s_ic_ge (oe_t57 45 (q := (72, .if_icmp .ge 87, 3)) rfl) (fun c50 => ?_) (fun c50 => ?_)
    · replace vc := vc.1 c50
      refine s_aload_n (oe_t57 53 (q := (87, .aload_n 0, 1)) rfl) rfl ?_
      obtain ⟨q51, p52, vc⟩ := vc
      refine s_getr (oe_t57 54 (q := (88, .getfield 7181, 3)) rfl) s29 rfl rfl p52 ?_
      refine s_bipush (oe_t57 55 (q := (91, .bipush 120, 2)) rfl) ?_
      refine s_iload_n (oe_t57 56 (q := (93, .iload_n 1, 1)) rfl) rfl ?_
      obtain ⟨r53, vc⟩ := vc
      refine s_iadd (oe_t57 57 (q := (94, .iadd, 1)) rfl) r53 ?_
      refine s_aload_n (oe_t57 58 (q := (95, .aload_n 0, 1)) rfl) rfl ?_
      refine s_getr (oe_t57 59 (q := (96, .getfield 7191, 3)) rfl) s29 rfl rfl p45 ?_
      refine s_iconst (oe_t57 60 (q := (99, .iconst 2, 1)) rfl) ?_
      obtain ⟨i54, i55, vc⟩ := vc
      refine s_iaload (oe_t57 61 (q := (100, .iaload, 1)) rfl) s46 i54 i55 ?_
      obtain ⟨r56, vc⟩ := vc
      refine s_isub (oe_t57 62 (q := (101, .isub, 1)) rfl) r56 ?_
      obtain ⟨n58, s57, vc⟩ := vc
      obtain ⟨i59, i60, vc⟩ := vc
      refine s_iaload (oe_t57 63 (q := (102, .iaload, 1)) rfl) s57 i59 i60 ?_
      obtain ⟨n62, s61, vc⟩ := vc
      obtain ⟨i63, i64, vc⟩ := vc
      refine t_iastore (oe_t57 64 (q := (103, .iastore, 1)) rfl) s61 i63 i64 (fun h65 e66 => ?_)
      replace vc := vc h65 e66
      obtain ⟨r67, vc⟩ := vc
      refine s_iinc (oe_t57 65 (q := (104, .iinc 1 1, 3)) rfl) rfl r67 ?_
      refine s_goto (oe_t57 66 (q := (107, .goto 39, 3)) rfl) ?_
      exact oe_V.fg (oe_M_mono _) (show oe_fg [some (.inr (.inl v0)), some (.inl (v1 + 1))] _ from ⟨rfl, ⟨rfl, trivial⟩⟩) vc
    · replace vc := vc.2 c50
      refine s_aload_n (oe_t57 46 (q := (75, .aload_n 0, 1)) rfl) rfl ?_
      obtain ⟨q68, p69, vc⟩ := vc
      refine s_getr (oe_t57 47 (q := (76, .getfield 7181, 3)) rfl) s29 rfl rfl p69 ?_
      refine s_bipush (oe_t57 48 (q := (79, .bipush 80, 2)) rfl) ?_
      refine s_iload_n (oe_t57 49 (q := (81, .iload_n 1, 1)) rfl) rfl ?_
      obtain ⟨r70, vc⟩ := vc
      refine s_iadd (oe_t57 50 (q := (82, .iadd, 1)) rfl) r70 ?_
      obtain ⟨n72, s71, vc⟩ := vc
      obtain ⟨i73, i74, vc⟩ := vc
      refine s_iaload (oe_t57 51 (q := (83, .iaload, 1)) rfl) s71 i73 i74 ?_
      refine s_goto (oe_t57 52 (q := (84, .goto 103, 3)) rfl) ?_
      obtain ⟨n76, s75, vc⟩ := vc
      obtain ⟨i77, i78, vc⟩ := vc
      refine t_iastore (oe_t57 64 (q := (103, .iastore, 1)) rfl) s75 i77 i78 (fun h79 e80 => ?_)
      replace vc := vc h79 e80
      obtain ⟨r81, vc⟩ := vc
      refine s_iinc (oe_t57 65 (q := (104, .iinc 1 1, 3)) rfl) rfl r81 ?_
      refine s_goto (oe_t57 66 (q := (107, .goto 39, 3)) rfl) ?_
      exact oe_V.fg (oe_M_mono _) (show oe_fg [some (.inr (.inl v0)), some (.inl (v1 + 1))] _ from ⟨rfl, ⟨rfl, trivial⟩⟩) vc
theorem oe_u58 : oe_c58.all (fun q => decide (oe_find oe_c58 q.1 = some q.2)) = true := by decide +kernel
theorem oe_t58 (k : Nat) {q : Nat × Jvm.ClassFile.Instr × Nat} (h : oe_c58[k]? = some q) : oe_find (oe_code 58) q.1 = some q.2 := oe_ft oe_u58 h
theorem g58 {d : Nat} {sh : List (Nat × Nat)} {g : Nat → Nat → Option Nat} {h : Nat → Nat → Int} {Q : oeQ} {v0 : Nat} {v1 : Int}
    (vc : oe_V (oe_cost 58) 58 (oe_M (d + 1)) none Q 2 [some (.inr (.inl v0)), none, some (.inl v1)] [] (sh, g, h) 0 0) :
    oe_M (d + 2) 58 [.inr (.inl v0), .inl v1] (sh, g, h) Q := by
  refine oe_M.of (by simp [oe_c1]) (Nat.le_of_ble_eq_true rfl) ?_
  show oe_V (oe_cost 58) 58 (oe_M (d + 1)) none Q 0 [some (.inr (.inl v0)), some (.inl v1), none] [] (sh, g, h) 0 0
  refine s_iload_n (oe_t58 0 (q := (0, .iload_n 1, 1)) rfl) rfl ?_
  refine s_istore_n (oe_t58 1 (q := (1, .istore_n 2, 1)) rfl) ?_
  exact oe_V.fg (oe_M_mono _) (show oe_fg [some (.inr (.inl v0)), none, some (.inl v1)] _ from ⟨rfl, ⟨rfl, trivial⟩⟩) vc
theorem g58_2 {d : Nat} {sh : List (Nat × Nat)} {g : Nat → Nat → Option Nat} {h : Nat → Nat → Int} {Q : oeQ} {v0 : Nat} {v2 : Int}
    (vc : sh[v0]? = some (12, 45) ∧ ∃ q2, g v0 34 = some q2 ∧ ∃ n5, sh[q2]? = some (0, n5) ∧ 0 ≤ v2 ∧ v2 < (n5 : Nat) ∧ ((h q2 (v2 : Int).toNat) < 20 → ∃ q9, g v0 35 = some q9 ∧ 0 ≤ v2 ∧ v2 < (n5 : Nat) ∧ ∃ n14, sh[q9]? = some (0, n14) ∧ 0 ≤ (h q2 (v2 : Int).toNat) ∧ (h q2 (v2 : Int).toNat) < (n14 : Nat) ∧ ((h q9 ((h q2 (v2 : Int).toNat) : Int).toNat) < 0 → Q (some (.inl v2)) (sh, g, h)) ∧ (0 ≤ (h q9 ((h q2 (v2 : Int).toNat) : Int).toNat) → 0 ≤ v2 ∧ v2 < (n5 : Nat) ∧ 0 ≤ (h q2 (v2 : Int).toNat) ∧ (h q2 (v2 : Int).toNat) < (n14 : Nat) ∧ oe_V (oe_cost 58) 58 (oe_M (d + 1)) none Q 2 [some (.inr (.inl v0)), none, some (.inl (h q9 ((h q2 (v2 : Int).toNat) : Int).toNat))] [] (sh, g, h) 0 0)) ∧ (20 ≤ (h q2 (v2 : Int).toNat) → Q (some (.inl v2)) (sh, g, h))) :
    oe_V (oe_cost 58) 58 (oe_M (d + 1)) none Q 2 [some (.inr (.inl v0)), none, some (.inl v2)] [] (sh, g, h) 0 0 := by
  refine s_aload_n (oe_t58 2 (q := (2, .aload_n 0, 1)) rfl) rfl ?_
  obtain ⟨s1, vc⟩ := vc
  obtain ⟨q2, p3, vc⟩ := vc
  refine s_getr (oe_t58 3 (q := (3, .getfield 7341, 3)) rfl) s1 rfl rfl p3 ?_
  refine s_iload_n (oe_t58 4 (q := (6, .iload_n 2, 1)) rfl) rfl ?_
  obtain ⟨n5, s4, vc⟩ := vc
  obtain ⟨i6, i7, vc⟩ := vc
  refine s_iaload (oe_t58 5 (q := (7, .iaload, 1)) rfl) s4 i6 i7 ?_
  refine s_calls (oe_t58 6 (q := (8, .invokestatic 35071, 3)) rfl) (by decide) (Nat.le_of_ble_eq_true rfl) (Nat.le_of_ble_eq_true rfl) (Nat.le_of_ble_eq_true rfl) (Nat.le_of_ble_eq_true rfl) (sp_35 (fun c8 => ?_) (fun c8 => ?_))
  · replace vc := vc.1 c8
    show oe_V (oe_cost 58) 58 (oe_M (d + 1)) none Q 11 [some (.inr (.inl v0)), none, some (.inl v2)] [.inl 1] (sh, g, h) 0 0
    refine s_if_eq (oe_t58 7 (q := (11, .ifCond .eq 43, 3)) rfl) (fun q => absurd q (by decide)) (fun _ => ?_)
    refine s_aload_n (oe_t58 8 (q := (14, .aload_n 0, 1)) rfl) rfl ?_
    obtain ⟨q9, p10, vc⟩ := vc
    refine s_getr (oe_t58 9 (q := (15, .getfield 7351, 3)) rfl) s1 rfl rfl p10 ?_
    refine s_aload_n (oe_t58 10 (q := (18, .aload_n 0, 1)) rfl) rfl ?_
    refine s_getr (oe_t58 11 (q := (19, .getfield 7341, 3)) rfl) s1 rfl rfl p3 ?_
    refine s_iload_n (oe_t58 12 (q := (22, .iload_n 2, 1)) rfl) rfl ?_
    obtain ⟨i11, i12, vc⟩ := vc
    refine s_iaload (oe_t58 13 (q := (23, .iaload, 1)) rfl) s4 i11 i12 ?_
    obtain ⟨n14, s13, vc⟩ := vc
    obtain ⟨i15, i16, vc⟩ := vc
    refine s_iaload (oe_t58 14 (q := (24, .iaload, 1)) rfl) s13 i15 i16 ?_
    refine s_if_lt (oe_t58 15 (q := (25, .ifCond .lt 43, 3)) rfl) (fun c17 => ?_) (fun c17 => ?_)
    · replace vc := vc.1 c17
      refine s_iload_n (oe_t58 25 (q := (43, .iload_n 2, 1)) rfl) rfl ?_
      exact s_iret (oe_t58 26 (q := (44, .ireturn, 1)) rfl) (Or.inl rfl) vc
    · replace vc := vc.2 c17
      refine s_aload_n (oe_t58 16 (q := (28, .aload_n 0, 1)) rfl) rfl ?_
      refine s_getr (oe_t58 17 (q := (29, .getfield 7351, 3)) rfl) s1 rfl rfl p10 ?_
      refine s_aload_n (oe_t58 18 (q := (32, .aload_n 0, 1)) rfl) rfl ?_
      refine s_getr (oe_t58 19 (q := (33, .getfield 7341, 3)) rfl) s1 rfl rfl p3 ?_
      refine s_iload_n (oe_t58 20 (q := (36, .iload_n 2, 1)) rfl) rfl ?_
      obtain ⟨i18, i19, vc⟩ := vc
      refine s_iaload (oe_t58 21 (q := (37, .iaload, 1)) rfl) s4 i18 i19 ?_
      obtain ⟨i20, i21, vc⟩ := vc
      refine s_iaload (oe_t58 22 (q := (38, .iaload, 1)) rfl) s13 i20 i21 ?_
      refine s_istore_n (oe_t58 23 (q := (39, .istore_n 2, 1)) rfl) ?_
      refine s_goto (oe_t58 24 (q := (40, .goto 2, 3)) rfl) ?_
      exact oe_V.fg (oe_M_mono _) (show oe_fg [some (.inr (.inl v0)), none, some (.inl (h q9 ((h q2 (v2 : Int).toNat) : Int).toNat))] _ from ⟨rfl, ⟨rfl, trivial⟩⟩) vc
  · replace vc := vc.2 c8
    show oe_V (oe_cost 58) 58 (oe_M (d + 1)) none Q 11 [some (.inr (.inl v0)), none, some (.inl v2)] [.inl 0] (sh, g, h) 0 0
    refine s_if_eq (oe_t58 7 (q := (11, .ifCond .eq 43, 3)) rfl) (fun _ => ?_) (fun q => absurd q (by decide))
    refine s_iload_n (oe_t58 25 (q := (43, .iload_n 2, 1)) rfl) rfl ?_
    exact s_iret (oe_t58 26 (q := (44, .ireturn, 1)) rfl) (Or.inl rfl) vc
theorem oe_u59 : oe_c59.all (fun q => decide (oe_find oe_c59 q.1 = some q.2)) = true := by decide +kernel
theorem oe_t59 (k : Nat) {q : Nat × Jvm.ClassFile.Instr × Nat} (h : oe_c59[k]? = some q) : oe_find (oe_code 59) q.1 = some q.2 := oe_ft oe_u59 h
theorem g59 {d : Nat} {sh : List (Nat × Nat)} {g : Nat → Nat → Option Nat} {h : Nat → Nat → Int} {Q : oeQ} {v0 : Nat} {v1 : Int}
    (vc : oe_V (oe_cost 59) 59 (oe_M (d + 1)) none Q 4 [some (.inr (.inl v0)), none, some (.inl 1), some (.inl v1)] [] (sh, g, h) 0 0) :
    oe_M (d + 2) 59 [.inr (.inl v0), .inl v1] (sh, g, h) Q := by
  refine oe_M.of (by simp [oe_c1]) (Nat.le_of_ble_eq_true rfl) ?_
  show oe_V (oe_cost 59) 59 (oe_M (d + 1)) none Q 0 [some (.inr (.inl v0)), some (.inl v1), none, none] [] (sh, g, h) 0 0
  refine s_iconst (oe_t59 0 (q := (0, .iconst 1, 1)) rfl) ?_
  refine s_istore_n (oe_t59 1 (q := (1, .istore_n 2, 1)) rfl) ?_
  refine s_iload_n (oe_t59 2 (q := (2, .iload_n 1, 1)) rfl) rfl ?_
  refine s_istore_n (oe_t59 3 (q := (3, .istore_n 3, 1)) rfl) ?_
  exact oe_V.fg (oe_M_mono _) (show oe_fg [some (.inr (.inl v0)), none, some (.inl 1), some (.inl v1)] _ from ⟨rfl, ⟨rfl, ⟨rfl, trivial⟩⟩⟩) vc
theorem g59_4 {d : Nat} {sh : List (Nat × Nat)} {g : Nat → Nat → Option Nat} {h : Nat → Nat → Int} {Q : oeQ} {v0 : Nat} {v2 : Int} {v3 : Int}
    (vc : (v2 ≤ 0 → Q (some (.inl v3)) (sh, g, h)) ∧ (0 < v2 → oe_rg (v2 - 1) ∧ sh[v0]? = some (12, 45) ∧ ∃ q4, g v0 34 = some q4 ∧ ∃ n7, sh[q4]? = some (0, n7) ∧ 0 ≤ v3 ∧ v3 < (n7 : Nat) ∧ oe_M (d + 1) 34 [.inl (h q4 (v3 : Int).toNat)] (sh, g, h) (fun r hp => ∃ (x10 : Int), r = some (.inl x10) ∧ hp = (sh, g, h) ∧ oe_rg ((v2 - 1) + x10) ∧ oe_rg (v3 + 1) ∧ oe_V (oe_cost 59) 59 (oe_M (d + 1)) none Q 4 [some (.inr (.inl v0)), none, some (.inl ((v2 - 1) + x10)), some (.inl (v3 + 1))] [] (sh, g, h) 0 0))) :
    oe_V (oe_cost 59) 59 (oe_M (d + 1)) none Q 4 [some (.inr (.inl v0)), none, some (.inl v2), some (.inl v3)] [] (sh, g, h) 0 0 := by
  refine s_iload_n (oe_t59 4 (q := (4, .iload_n 2, 1)) rfl) rfl ?_
  refine s_if_le (oe_t59 5 (q := (5, .ifCond .le 28, 3)) rfl) (fun c1 => ?_) (fun c1 => ?_)
  · replace vc := vc.1 c1
    refine s_iload_n (oe_t59 18 (q := (28, .iload_n 3, 1)) rfl) rfl ?_
    exact s_iret (oe_t59 19 (q := (29, .ireturn, 1)) rfl) (Or.inl rfl) vc
  · replace vc := vc.2 c1
    refine s_iload_n (oe_t59 6 (q := (8, .iload_n 2, 1)) rfl) rfl ?_
    refine s_iconst (oe_t59 7 (q := (9, .iconst 1, 1)) rfl) ?_
    obtain ⟨r2, vc⟩ := vc
    refine s_isub (oe_t59 8 (q := (10, .isub, 1)) rfl) r2 ?_
    refine s_aload_n (oe_t59 9 (q := (11, .aload_n 0, 1)) rfl) rfl ?_
    obtain ⟨s3, vc⟩ := vc
    obtain ⟨q4, p5, vc⟩ := vc
    refine s_getr (oe_t59 10 (q := (12, .getfield 7341, 3)) rfl) s3 rfl rfl p5 ?_
    refine s_iload_n (oe_t59 11 (q := (15, .iload_n 3, 1)) rfl) rfl ?_
    obtain ⟨n7, s6, vc⟩ := vc
    obtain ⟨i8, i9, vc⟩ := vc
    refine s_iaload (oe_t59 12 (q := (16, .iaload, 1)) rfl) s6 i8 i9 ?_
    refine s_calls (oe_t59 13 (q := (17, .invokestatic 34071, 3)) rfl) (by decide) (Nat.le_of_ble_eq_true rfl) (Nat.le_of_ble_eq_true rfl) (Nat.le_of_ble_eq_true rfl) (Nat.le_of_ble_eq_true rfl) ?_
    refine oe_M_mono _ _ _ _ _ _ (fun r hp vq => ?_) vc
    obtain ⟨x10, rfl, rfl, vc⟩ := vq
    show oe_V (oe_cost 59) 59 (oe_M (d + 1)) none Q 20 [some (.inr (.inl v0)), none, some (.inl v2), some (.inl v3)] [.inl x10, .inl (v2 - 1)] (sh, g, h) 0 0
    obtain ⟨r11, vc⟩ := vc
    refine s_iadd (oe_t59 14 (q := (20, .iadd, 1)) rfl) r11 ?_
    refine s_istore_n (oe_t59 15 (q := (21, .istore_n 2, 1)) rfl) ?_
    obtain ⟨r12, vc⟩ := vc
    refine s_iinc (oe_t59 16 (q := (22, .iinc 3 1, 3)) rfl) rfl r12 ?_
    refine s_goto (oe_t59 17 (q := (25, .goto 4, 3)) rfl) ?_
    exact oe_V.fg (oe_M_mono _) (show oe_fg [some (.inr (.inl v0)), none, some (.inl ((v2 - 1) + x10)), some (.inl (v3 + 1))] _ from ⟨rfl, ⟨rfl, ⟨rfl, trivial⟩⟩⟩) vc
theorem oe_u60 : oe_c60.all (fun q => decide (oe_find oe_c60 q.1 = some q.2)) = true := by decide +kernel
theorem oe_t60 (k : Nat) {q : Nat × Jvm.ClassFile.Instr × Nat} (h : oe_c60[k]? = some q) : oe_find (oe_code 60) q.1 = some q.2 := oe_ft oe_u60 h
theorem g60 {d : Nat} {sh : List (Nat × Nat)} {g : Nat → Nat → Option Nat} {h : Nat → Nat → Int} {Q : oeQ} {v0 : Nat} {v1 : Int} {v2 : Int} {v3 : Int}
    (vc : sh[v0]? = some (12, 45) ∧ ∃ q2, g v0 41 = some q2 ∧ ∃ n5, sh[q2]? = some (0, n5) ∧ 0 ≤ (0 : Int) ∧ (0 : Int) < (n5 : Nat) ∧ ∀ h8, h8 = oe_up h q2 0 v1 → ∃ q10, g v0 42 = some q10 ∧ ∃ n13, sh[q10]? = some (0, n13) ∧ 0 ≤ (0 : Int) ∧ (0 : Int) < (n13 : Nat) ∧ ∀ h16, h16 = oe_up h8 q10 0 v2 → oe_V (oe_cost 60) 60 (oe_M (d + 1)) none Q 17 [some (.inr (.inl v0)), none, none, some (.inl v3), some (.inl 1), none] [] (sh, g, h16) 0 0) :
    oe_M (d + 2) 60 [.inr (.inl v0), .inl v1, .inl v2, .inl v3] (sh, g, h) Q := by
  refine oe_M.of (by simp [oe_c1]) (Nat.le_of_ble_eq_true rfl) ?_
  show oe_V (oe_cost 60) 60 (oe_M (d + 1)) none Q 0 [some (.inr (.inl v0)), some (.inl v1), some (.inl v2), some (.inl v3), none, none] [] (sh, g, h) 0 0
  refine s_iconst (oe_t60 0 (q := (0, .iconst 1, 1)) rfl) ?_
  refine s_istore (oe_t60 1 (q := (1, .istore 4, 2)) rfl) ?_
  refine s_aload_n (oe_t60 2 (q := (3, .aload_n 0, 1)) rfl) rfl ?_
  obtain ⟨s1, vc⟩ := vc
  obtain ⟨q2, p3, vc⟩ := vc
  refine s_getr (oe_t60 3 (q := (4, .getfield 7411, 3)) rfl) s1 rfl rfl p3 ?_
  refine s_iconst (oe_t60 4 (q := (7, .iconst 0, 1)) rfl) ?_
  refine s_iload_n (oe_t60 5 (q := (8, .iload_n 1, 1)) rfl) rfl ?_
  obtain ⟨n5, s4, vc⟩ := vc
  obtain ⟨i6, i7, vc⟩ := vc
  refine t_iastore (oe_t60 6 (q := (9, .iastore, 1)) rfl) s4 i6 i7 (fun h8 e9 => ?_)
  replace vc := vc h8 e9
  refine s_aload_n (oe_t60 7 (q := (10, .aload_n 0, 1)) rfl) rfl ?_
  obtain ⟨q10, p11, vc⟩ := vc
  refine s_getr (oe_t60 8 (q := (11, .getfield 7421, 3)) rfl) s1 rfl rfl p11 ?_
  refine s_iconst (oe_t60 9 (q := (14, .iconst 0, 1)) rfl) ?_
  refine s_iload_n (oe_t60 10 (q := (15, .iload_n 2, 1)) rfl) rfl ?_
  obtain ⟨n13, s12, vc⟩ := vc
  obtain ⟨i14, i15, vc⟩ := vc
  refine t_iastore (oe_t60 11 (q := (16, .iastore, 1)) rfl) s12 i14 i15 (fun h16 e17 => ?_)
  replace vc := vc h16 e17
  exact oe_V.fg (oe_M_mono _) (show oe_fg [some (.inr (.inl v0)), none, none, some (.inl v3), some (.inl 1), none] _ from ⟨rfl, ⟨rfl, ⟨rfl, trivial⟩⟩⟩) vc
theorem g60_17 {d : Nat} {sh : List (Nat × Nat)} {g : Nat → Nat → Option Nat} {h : Nat → Nat → Int} {Q : oeQ} {v0 : Nat} {v3 : Int} {v4 : Int}
    (vc : (v4 ≤ 0 → Q (some (.inl 1)) (sh, g, h)) ∧ (0 < v4 → sh[v0]? = some (12, 45) ∧ ∃ q20, g v0 41 = some q20 ∧ oe_rg (v4 - 1) ∧ ∃ n24, sh[q20]? = some (0, n24) ∧ 0 ≤ (v4 - 1) ∧ (v4 - 1) < (n24 : Nat) ∧ ∃ q27, g v0 42 = some q27 ∧ oe_rg (v4 - 1) ∧ ∃ n31, sh[q27]? = some (0, n31) ∧ 0 ≤ (v4 - 1) ∧ (v4 - 1) < (n31 : Nat) ∧ ((h q20 ((v4 - 1) : Int).toNat) ≠ (h q27 ((v4 - 1) : Int).toNat) → oe_rg (v4 - 1) ∧ 0 ≤ (v4 - 1) ∧ (v4 - 1) < (n24 : Nat) ∧ oe_rg (v4 - 1) ∧ 0 ≤ (v4 - 1) ∧ (v4 - 1) < (n24 : Nat) ∧ oe_rg ((h q20 ((v4 - 1) : Int).toNat) + 1) ∧ 0 ≤ (v4 - 1) ∧ (v4 - 1) < (n24 : Nat) ∧ ∀ h44, h44 = oe_up h q20 ((v4 - 1) : Int).toNat ((h q20 ((v4 - 1) : Int).toNat) + 1) → ∃ q46, g v0 34 = some q46 ∧ ∃ n49, sh[q46]? = some (0, n49) ∧ 0 ≤ (h q20 ((v4 - 1) : Int).toNat) ∧ (h q20 ((v4 - 1) : Int).toNat) < (n49 : Nat) ∧ ((h44 q46 ((h q20 ((v4 - 1) : Int).toNat) : Int).toNat) < 20 → ∃ q53, g v0 35 = some q53 ∧ 0 ≤ (h q20 ((v4 - 1) : Int).toNat) ∧ (h q20 ((v4 - 1) : Int).toNat) < (n49 : Nat) ∧ ∃ n58, sh[q53]? = some (0, n58) ∧ 0 ≤ (h44 q46 ((h q20 ((v4 - 1) : Int).toNat) : Int).toNat) ∧ (h44 q46 ((h q20 ((v4 - 1) : Int).toNat) : Int).toNat) < (n58 : Nat) ∧ ((h44 q53 ((h44 q46 ((h q20 ((v4 - 1) : Int).toNat) : Int).toNat) : Int).toNat) < 0 → ((h44 v0 40) ≠ v3 → ∃ q63, g v0 39 = some q63 ∧ 0 ≤ (h q20 ((v4 - 1) : Int).toNat) ∧ (h q20 ((v4 - 1) : Int).toNat) < (n49 : Nat) ∧ ∃ n68, sh[q63]? = some (0, n68) ∧ 0 ≤ (h44 v0 40) ∧ (h44 v0 40) < (n68 : Nat) ∧ ∀ h71, h71 = oe_up h44 q63 ((h44 v0 40) : Int).toNat (h44 q46 ((h q20 ((v4 - 1) : Int).toNat) : Int).toNat) → oe_rg ((h71 v0 40) + 1) ∧ ∀ h74, h74 = oe_up h71 v0 40 ((h71 v0 40) + 1) → oe_V (oe_cost 60) 60 (oe_M (d + 1)) none Q 17 [some (.inr (.inl v0)), none, none, some (.inl v3), some (.inl v4), none] [] (sh, g, h74) 0 0) ∧ ((h44 v0 40) = v3 → Q (some (.inl 0)) (sh, g, h44))) ∧ (0 ≤ (h44 q53 ((h44 q46 ((h q20 ((v4 - 1) : Int).toNat) : Int).toNat) : Int).toNat) → 0 ≤ (h q20 ((v4 - 1) : Int).toNat) ∧ (h q20 ((v4 - 1) : Int).toNat) < (n49 : Nat) ∧ 0 ≤ (h44 q46 ((h q20 ((v4 - 1) : Int).toNat) : Int).toNat) ∧ (h44 q46 ((h q20 ((v4 - 1) : Int).toNat) : Int).toNat) < (n58 : Nat) ∧ 0 ≤ v4 ∧ v4 < (n24 : Nat) ∧ ∀ h82, h82 = oe_up h44 q20 (v4 : Int).toNat (h44 q53 ((h44 q46 ((h q20 ((v4 - 1) : Int).toNat) : Int).toNat) : Int).toNat) → 0 ≤ (h q20 ((v4 - 1) : Int).toNat) ∧ (h q20 ((v4 - 1) : Int).toNat) < (n49 : Nat) ∧ 0 ≤ (h82 q46 ((h q20 ((v4 - 1) : Int).toNat) : Int).toNat) ∧ (h82 q46 ((h q20 ((v4 - 1) : Int).toNat) : Int).toNat) < (n58 : Nat) ∧ oe_M (d + 1) 59 [.inr (.inl v0), .inl (h82 q53 ((h82 q46 ((h q20 ((v4 - 1) : Int).toNat) : Int).toNat) : Int).toNat)] (sh, g, h82) (fun r hp => ∃ (x88 : Int), r = some (.inl x88) ∧ hp = (sh, g, h82) ∧ 0 ≤ v4 ∧ v4 < (n31 : Nat) ∧ ∀ h91, h91 = oe_up h82 q27 (v4 : Int).toNat x88 → oe_rg (v4 + 1) ∧ oe_V (oe_cost 60) 60 (oe_M (d + 1)) none Q 17 [some (.inr (.inl v0)), none, none, some (.inl v3), some (.inl (v4 + 1)), none] [] (sh, g, h91) 0 0))) ∧ (20 ≤ (h44 q46 ((h q20 ((v4 - 1) : Int).toNat) : Int).toNat) → ((h44 v0 40) ≠ v3 → ∃ q95, g v0 39 = some q95 ∧ 0 ≤ (h q20 ((v4 - 1) : Int).toNat) ∧ (h q20 ((v4 - 1) : Int).toNat) < (n49 : Nat) ∧ ∃ n100, sh[q95]? = some (0, n100) ∧ 0 ≤ (h44 v0 40) ∧ (h44 v0 40) < (n100 : Nat) ∧ ∀ h103, h103 = oe_up h44 q95 ((h44 v0 40) : Int).toNat (h44 q46 ((h q20 ((v4 - 1) : Int).toNat) : Int).toNat) → oe_rg ((h103 v0 40) + 1) ∧ ∀ h106, h106 = oe_up h103 v0 40 ((h103 v0 40) + 1) → oe_V (oe_cost 60) 60 (oe_M (d + 1)) none Q 17 [some (.inr (.inl v0)), none, none, some (.inl v3), some (.inl v4), none] [] (sh, g, h106) 0 0) ∧ ((h44 v0 40) = v3 → Q (some (.inl 0)) (sh, g, h44)))) ∧ ((h q20 ((v4 - 1) : Int).toNat) = (h q27 ((v4 - 1) : Int).toNat) → oe_rg (v4 + (-1)) ∧ oe_V (oe_cost 60) 60 (oe_M (d + 1)) none Q 17 [some (.inr (.inl v0)), none, none, some (.inl v3), some (.inl (v4 + (-1))), none] [] (sh, g, h) 0 0))) :
    oe_V (oe_cost 60) 60 (oe_M (d + 1)) none Q 17 [some (.inr (.inl v0)), none, none, some (.inl v3), some (.inl v4), none] [] (sh, g, h) 0 0 := by
  refine s_iload (oe_t60 12 (q := (17, .iload 4, 2)) rfl) rfl ?_
  refine s_if_le (oe_t60 13 (q := (19, .ifCond .le 188, 3)) rfl) (fun c18 => ?_) (fun c18 => ?_)
  · replace vc := vc.1 c18
    refine s_iconst (oe_t60 108 (q := (188, .iconst 1, 1)) rfl) ?_
    exact s_iret (oe_t60 109 (q := (189, .ireturn, 1)) rfl) (Or.inr (Or.inl ⟨rfl, Or.inr rfl⟩)) vc
  · replace vc := vc.2 c18
    refine s_aload_n (oe_t60 14 (q := (22, .aload_n 0, 1)) rfl) rfl ?_
    obtain ⟨s19, vc⟩ := vc
    obtain ⟨q20, p21, vc⟩ := vc
    refine s_getr (oe_t60 15 (q := (23, .getfield 7411, 3)) rfl) s19 rfl rfl p21 ?_
    refine s_iload (oe_t60 16 (q := (26, .iload 4, 2)) rfl) rfl ?_
    refine s_iconst (oe_t60 17 (q := (28, .iconst 1, 1)) rfl) ?_
    obtain ⟨r22, vc⟩ := vc
    refine s_isub (oe_t60 18 (q := (29, .isub, 1)) rfl) r22 ?_
    obtain ⟨n24, s23, vc⟩ := vc
    obtain ⟨i25, i26, vc⟩ := vc
    refine s_iaload (oe_t60 19 (q := (30, .iaload, 1)) rfl) s23 i25 i26 ?_
    refine s_aload_n (oe_t60 20 (q := (31, .aload_n 0, 1)) rfl) rfl ?_
    obtain ⟨q27, p28, vc⟩ := vc
    refine s_getr (oe_t60 21 (q := (32, .getfield 7421, 3)) rfl) s19 rfl rfl p28 ?_
    refine s_iload (oe_t60 22 (q := (35, .iload 4, 2)) rfl) rfl ?_
    refine s_iconst (oe_t60 23 (q := (37, .iconst 1, 1)) rfl) ?_
    obtain ⟨r29, vc⟩ := vc
    refine s_isub (oe_t60 24 (q := (38, .isub, 1)) rfl) r29 ?_
    obtain ⟨n31, s30, vc⟩ := vc
    obtain ⟨i32, i33, vc⟩ := vc
    refine s_iaload (oe_t60 25 (q := (39, .iaload, 1)) rfl) s30 i32 i33 ?_
    refine s_ic_ne (oe_t60 26 (q := (40, .if_icmp .ne 49, 3)) rfl) (fun c34 => ?_) (fun c34 => ?_)
    · replace vc := vc.1 c34
      refine s_aload_n (oe_t60 29 (q := (49, .aload_n 0, 1)) rfl) rfl ?_
      refine s_getr (oe_t60 30 (q := (50, .getfield 7411, 3)) rfl) s19 rfl rfl p21 ?_
      refine s_iload (oe_t60 31 (q := (53, .iload 4, 2)) rfl) rfl ?_
      refine s_iconst (oe_t60 32 (q := (55, .iconst 1, 1)) rfl) ?_
      obtain ⟨r35, vc⟩ := vc
      refine s_isub (oe_t60 33 (q := (56, .isub, 1)) rfl) r35 ?_
      obtain ⟨i36, i37, vc⟩ := vc
      refine s_iaload (oe_t60 34 (q := (57, .iaload, 1)) rfl) s23 i36 i37 ?_
      refine s_istore (oe_t60 35 (q := (58, .istore 5, 2)) rfl) ?_
      refine s_aload_n (oe_t60 36 (q := (60, .aload_n 0, 1)) rfl) rfl ?_
      refine s_getr (oe_t60 37 (q := (61, .getfield 7411, 3)) rfl) s19 rfl rfl p21 ?_
      refine s_iload (oe_t60 38 (q := (64, .iload 4, 2)) rfl) rfl ?_
      refine s_iconst (oe_t60 39 (q := (66, .iconst 1, 1)) rfl) ?_
      obtain ⟨r38, vc⟩ := vc
      refine s_isub (oe_t60 40 (q := (67, .isub, 1)) rfl) r38 ?_
      refine s_dup2 (oe_t60 41 (q := (68, .dup2, 1)) rfl) trivial trivial ?_
      obtain ⟨i39, i40, vc⟩ := vc
      refine s_iaload (oe_t60 42 (q := (69, .iaload, 1)) rfl) s23 i39 i40 ?_
      refine s_iconst (oe_t60 43 (q := (70, .iconst 1, 1)) rfl) ?_
      obtain ⟨r41, vc⟩ := vc
      refine s_iadd (oe_t60 44 (q := (71, .iadd, 1)) rfl) r41 ?_
      obtain ⟨i42, i43, vc⟩ := vc
      refine t_iastore (oe_t60 45 (q := (72, .iastore, 1)) rfl) s23 i42 i43 (fun h44 e45 => ?_)
      replace vc := vc h44 e45
      refine s_aload_n (oe_t60 46 (q := (73, .aload_n 0, 1)) rfl) rfl ?_
      obtain ⟨q46, p47, vc⟩ := vc
      refine s_getr (oe_t60 47 (q := (74, .getfield 7341, 3)) rfl) s19 rfl rfl p47 ?_
      refine s_iload (oe_t60 48 (q := (77, .iload 5, 2)) rfl) rfl ?_
      obtain ⟨n49, s48, vc⟩ := vc
      obtain ⟨i50, i51, vc⟩ := vc
      refine s_iaload (oe_t60 49 (q := (79, .iaload, 1)) rfl) s48 i50 i51 ?_
      refine s_calls (oe_t60 50 (q := (80, .invokestatic 35071, 3)) rfl) (by decide) (Nat.le_of_ble_eq_true rfl) (Nat.le_of_ble_eq_true rfl) (Nat.le_of_ble_eq_true rfl) (Nat.le_of_ble_eq_true rfl) (sp_35 (fun c52 => ?_) (fun c52 => ?_))
      · replace vc := vc.1 c52
        show oe_V (oe_cost 60) 60 (oe_M (d + 1)) none Q 83 [some (.inr (.inl v0)), none, none, some (.inl v3), some (.inl v4), some (.inl (h q20 ((v4 - 1) : Int).toNat))] [.inl 1] (sh, g, h44) 0 0
        refine s_if_eq (oe_t60 51 (q := (83, .ifCond .eq 149, 3)) rfl) (fun q => absurd q (by decide)) (fun _ => ?_)
        refine s_aload_n (oe_t60 52 (q := (86, .aload_n 0, 1)) rfl) rfl ?_
        obtain ⟨q53, p54, vc⟩ := vc
        refine s_getr (oe_t60 53 (q := (87, .getfield 7351, 3)) rfl) s19 rfl rfl p54 ?_
        refine s_aload_n (oe_t60 54 (q := (90, .aload_n 0, 1)) rfl) rfl ?_
        refine s_getr (oe_t60 55 (q := (91, .getfield 7341, 3)) rfl) s19 rfl rfl p47 ?_
        refine s_iload (oe_t60 56 (q := (94, .iload 5, 2)) rfl) rfl ?_
        obtain ⟨i55, i56, vc⟩ := vc
        refine s_iaload (oe_t60 57 (q := (96, .iaload, 1)) rfl) s48 i55 i56 ?_
        obtain ⟨n58, s57, vc⟩ := vc
        obtain ⟨i59, i60, vc⟩ := vc
        refine s_iaload (oe_t60 58 (q := (97, .iaload, 1)) rfl) s57 i59 i60 ?_
        refine s_if_lt (oe_t60 59 (q := (98, .ifCond .lt 149, 3)) rfl) (fun c61 => ?_) (fun c61 => ?_)
        · replace vc := vc.1 c61
          refine s_aload_n (oe_t60 86 (q := (149, .aload_n 0, 1)) rfl) rfl ?_
          refine s_geti (oe_t60 87 (q := (150, .getfield 7400, 3)) rfl) s19 rfl (by decide) ?_
          refine s_iload_n (oe_t60 88 (q := (153, .iload_n 3, 1)) rfl) rfl ?_
          refine s_ic_ne (oe_t60 89 (q := (154, .if_icmp .ne 159, 3)) rfl) (fun c62 => ?_) (fun c62 => ?_)
          · replace vc := vc.1 c62
            refine s_aload_n (oe_t60 92 (q := (159, .aload_n 0, 1)) rfl) rfl ?_
            obtain ⟨q63, p64, vc⟩ := vc
            refine s_getr (oe_t60 93 (q := (160, .getfield 7391, 3)) rfl) s19 rfl rfl p64 ?_
            refine s_aload_n (oe_t60 94 (q := (163, .aload_n 0, 1)) rfl) rfl ?_
            refine s_geti (oe_t60 95 (q := (164, .getfield 7400, 3)) rfl) s19 rfl (by decide) ?_
            refine s_aload_n (oe_t60 96 (q := (167, .aload_n 0, 1)) rfl) rfl ?_
            refine s_getr (oe_t60 97 (q := (168, .getfield 7341, 3)) rfl) s19 rfl rfl p47 ?_
            refine s_iload (oe_t60 98 (q := (171, .iload 5, 2)) rfl) rfl ?_
            obtain ⟨i65, i66, vc⟩ := vc
            refine s_iaload (oe_t60 99 (q := (173, .iaload, 1)) rfl) s48 i65 i66 ?_
            obtain ⟨n68, s67, vc⟩ := vc
            obtain ⟨i69, i70, vc⟩ := vc
            refine t_iastore (oe_t60 100 (q := (174, .iastore, 1)) rfl) s67 i69 i70 (fun h71 e72 => ?_)
            replace vc := vc h71 e72
            refine s_aload_n (oe_t60 101 (q := (175, .aload_n 0, 1)) rfl) rfl ?_
            refine s_dup (oe_t60 102 (q := (176, .dup, 1)) rfl) trivial ?_
            refine s_geti (oe_t60 103 (q := (177, .getfield 7400, 3)) rfl) s19 rfl (by decide) ?_
            refine s_iconst (oe_t60 104 (q := (180, .iconst 1, 1)) rfl) ?_
            obtain ⟨r73, vc⟩ := vc
            refine s_iadd (oe_t60 105 (q := (181, .iadd, 1)) rfl) r73 ?_
            refine t_puti (oe_t60 106 (q := (182, .putfield 7400, 3)) rfl) s19 rfl (Or.inl rfl) (fun h74 e75 => ?_)
            replace vc := vc h74 e75
            refine s_goto (oe_t60 107 (q := (185, .goto 17, 3)) rfl) ?_
            exact oe_V.fg (oe_M_mono _) (show oe_fg [some (.inr (.inl v0)), none, none, some (.inl v3), some (.inl v4), none] _ from ⟨rfl, ⟨rfl, ⟨rfl, trivial⟩⟩⟩) vc
          · replace vc := vc.2 c62
            refine s_iconst (oe_t60 90 (q := (157, .iconst 0, 1)) rfl) ?_
            exact s_iret (oe_t60 91 (q := (158, .ireturn, 1)) rfl) (Or.inr (Or.inl ⟨rfl, Or.inl rfl⟩)) vc
        · replace vc := vc.2 c61
          refine s_aload_n (oe_t60 60 (q := (101, .aload_n 0, 1)) rfl) rfl ?_
          refine s_getr (oe_t60 61 (q := (102, .getfield 7411, 3)) rfl) s19 rfl rfl p21 ?_
          refine s_iload (oe_t60 62 (q := (105, .iload 4, 2)) rfl) rfl ?_
          refine s_aload_n (oe_t60 63 (q := (107, .aload_n 0, 1)) rfl) rfl ?_
          refine s_getr (oe_t60 64 (q := (108, .getfield 7351, 3)) rfl) s19 rfl rfl p54 ?_
          refine s_aload_n (oe_t60 65 (q := (111, .aload_n 0, 1)) rfl) rfl ?_
          refine s_getr (oe_t60 66 (q := (112, .getfield 7341, 3)) rfl) s19 rfl rfl p47 ?_
          refine s_iload (oe_t60 67 (q := (115, .iload 5, 2)) rfl) rfl ?_
          obtain ⟨i76, i77, vc⟩ := vc
          refine s_iaload (oe_t60 68 (q := (117, .iaload, 1)) rfl) s48 i76 i77 ?_
          obtain ⟨i78, i79, vc⟩ := vc
          refine s_iaload (oe_t60 69 (q := (118, .iaload, 1)) rfl) s57 i78 i79 ?_
          obtain ⟨i80, i81, vc⟩ := vc
          refine t_iastore (oe_t60 70 (q := (119, .iastore, 1)) rfl) s23 i80 i81 (fun h82 e83 => ?_)
          replace vc := vc h82 e83
          refine s_aload_n (oe_t60 71 (q := (120, .aload_n 0, 1)) rfl) rfl ?_
          refine s_getr (oe_t60 72 (q := (121, .getfield 7421, 3)) rfl) s19 rfl rfl p28 ?_
          refine s_iload (oe_t60 73 (q := (124, .iload 4, 2)) rfl) rfl ?_
          refine s_aload_n (oe_t60 74 (q := (126, .aload_n 0, 1)) rfl) rfl ?_
          refine s_aload_n (oe_t60 75 (q := (127, .aload_n 0, 1)) rfl) rfl ?_
          refine s_getr (oe_t60 76 (q := (128, .getfield 7351, 3)) rfl) s19 rfl rfl p54 ?_
          refine s_aload_n (oe_t60 77 (q := (131, .aload_n 0, 1)) rfl) rfl ?_
          refine s_getr (oe_t60 78 (q := (132, .getfield 7341, 3)) rfl) s19 rfl rfl p47 ?_
          refine s_iload (oe_t60 79 (q := (135, .iload 5, 2)) rfl) rfl ?_
          obtain ⟨i84, i85, vc⟩ := vc
          refine s_iaload (oe_t60 80 (q := (137, .iaload, 1)) rfl) s48 i84 i85 ?_
          obtain ⟨i86, i87, vc⟩ := vc
          refine s_iaload (oe_t60 81 (q := (138, .iaload, 1)) rfl) s57 i86 i87 ?_
          refine s_callv (oe_t60 82 (q := (139, .invokevirtual 59071, 3)) rfl) rfl s19 rfl (Nat.le_of_ble_eq_true rfl) (Nat.le_of_ble_eq_true rfl) (Nat.le_of_ble_eq_true rfl) (Nat.le_of_ble_eq_true rfl) ?_
          refine oe_M_mono _ _ _ _ _ _ (fun r hp vq => ?_) vc
          obtain ⟨x88, rfl, rfl, vc⟩ := vq
          show oe_V (oe_cost 60) 60 (oe_M (d + 1)) none Q 142 [some (.inr (.inl v0)), none, none, some (.inl v3), some (.inl v4), some (.inl (h q20 ((v4 - 1) : Int).toNat))] [.inl x88, .inl v4, .inr (.inl q27)] (sh, g, h82) 0 0
          obtain ⟨i89, i90, vc⟩ := vc
          refine t_iastore (oe_t60 83 (q := (142, .iastore, 1)) rfl) s30 i89 i90 (fun h91 e92 => ?_)
          replace vc := vc h91 e92
          obtain ⟨r93, vc⟩ := vc
          refine s_iinc (oe_t60 84 (q := (143, .iinc 4 1, 3)) rfl) rfl r93 ?_
          refine s_goto (oe_t60 85 (q := (146, .goto 185, 3)) rfl) ?_
          refine s_goto (oe_t60 107 (q := (185, .goto 17, 3)) rfl) ?_
          exact oe_V.fg (oe_M_mono _) (show oe_fg [some (.inr (.inl v0)), none, none, some (.inl v3), some (.inl (v4 + 1)), none] _ from ⟨rfl, ⟨rfl, ⟨rfl, trivial⟩⟩⟩) vc
      · replace vc := vc.2 c52
        show oe_V (oe_cost 60) 60 (oe_M (d + 1)) none Q 83 [some (.inr (.inl v0)), none, none, some (.inl v3), some (.inl v4), some (.inl (h q20 ((v4 - 1) : Int).toNat))] [.inl 0] (sh, g, h44) 0 0
        refine s_if_eq (oe_t60 51 (q := (83, .ifCond .eq 149, 3)) rfl) (fun _ => ?_) (fun q => absurd q (by decide))
        refine s_aload_n (oe_t60 86 (q := (149, .aload_n 0, 1)) rfl) rfl ?_
        refine s_geti (oe_t60 87 (q := (150, .getfield 7400, 3)) rfl) s19 rfl (by decide) ?_
        refine s_iload_n (oe_t60 88 (q := (153, .iload_n 3, 1)) rfl) rfl ?_
        refine s_ic_ne (oe_t60 89 (q := (154, .if_icmp .ne 159, 3)) rfl) (fun c94 => ?_) (fun c94 => ?_)
        · replace vc := vc.1 c94
          refine s_aload_n (oe_t60 92 (q := (159, .aload_n 0, 1)) rfl) rfl ?_
          obtain ⟨q95, p96, vc⟩ := vc
          refine s_getr (oe_t60 93 (q := (160, .getfield 7391, 3)) rfl) s19 rfl rfl p96 ?_
          refine s_aload_n (oe_t60 94 (q := (163, .aload_n 0, 1)) rfl) rfl ?_
          refine s_geti (oe_t60 95 (q := (164, .getfield 7400, 3)) rfl) s19 rfl (by decide) ?_
          refine s_aload_n (oe_t60 96 (q := (167, .aload_n 0, 1)) rfl) rfl ?_
          refine s_getr (oe_t60 97 (q := (168, .getfield 7341, 3)) rfl) s19 rfl rfl p47 ?_
          refine s_iload (oe_t60 98 (q := (171, .iload 5, 2)) rfl) rfl ?_
          obtain ⟨i97, i98, vc⟩ := vc
          refine s_iaload (oe_t60 99 (q := (173, .iaload, 1)) rfl) s48 i97 i98 ?_
          obtain ⟨n100, s99, vc⟩ := vc
          obtain ⟨i101, i102, vc⟩ := vc
          refine t_iastore (oe_t60 100 (q := (174, .iastore, 1)) rfl) s99 i101 i102 (fun h103 e104 => ?_)
          replace vc := vc h103 e104
          refine s_aload_n (oe_t60 101 (q := (175, .aload_n 0, 1)) rfl) rfl ?_
          refine s_dup (oe_t60 102 (q := (176, .dup, 1)) rfl) trivial ?_
          refine s_geti (oe_t60 103 (q := (177, .getfield 7400, 3)) rfl) s19 rfl (by decide) ?_
          refine s_iconst (oe_t60 104 (q := (180, .iconst 1, 1)) rfl) ?_
          obtain ⟨r105, vc⟩ := vc
          refine s_iadd (oe_t60 105 (q := (181, .iadd, 1)) rfl) r105 ?_
          refine t_puti (oe_t60 106 (q := (182, .putfield 7400, 3)) rfl) s19 rfl (Or.inl rfl) (fun h106 e107 => ?_)
          replace vc := vc h106 e107
          refine s_goto (oe_t60 107 (q := (185, .goto 17, 3)) rfl) ?_
          exact oe_V.fg (oe_M_mono _) (show oe_fg [some (.inr (.inl v0)), none, none, some (.inl v3), some (.inl v4), none] _ from ⟨rfl, ⟨rfl, ⟨rfl, trivial⟩⟩⟩) vc
        · replace vc := vc.2 c94
          refine s_iconst (oe_t60 90 (q := (157, .iconst 0, 1)) rfl) ?_
          exact s_iret (oe_t60 91 (q := (158, .ireturn, 1)) rfl) (Or.inr (Or.inl ⟨rfl, Or.inl rfl⟩)) vc
    · replace vc := vc.2 c34
      obtain ⟨r108, vc⟩ := vc
      refine s_iinc (oe_t60 27 (q := (43, .iinc 4 (-1), 3)) rfl) rfl r108 ?_
      refine s_goto (oe_t60 28 (q := (46, .goto 17, 3)) rfl) ?_
      exact oe_V.fg (oe_M_mono _) (show oe_fg [some (.inr (.inl v0)), none, none, some (.inl v3), some (.inl (v4 + (-1))), none] _ from ⟨rfl, ⟨rfl, ⟨rfl, trivial⟩⟩⟩) vc
theorem oe_u61 : oe_c61.all (fun q => decide (oe_find oe_c61 q.1 = some q.2)) = true := by decide +kernel
theorem oe_t61 (k : Nat) {q : Nat × Jvm.ClassFile.Instr × Nat} (h : oe_c61[k]? = some q) : oe_find (oe_code 61) q.1 = some q.2 := oe_ft oe_u61 h
theorem g61 {d : Nat} {sh : List (Nat × Nat)} {g : Nat → Nat → Option Nat} {h : Nat → Nat → Int} {Q : oeQ} {v0 : Nat} {v1 : Int} {v2 : Int}
    (vc : sh[v0]? = some (12, 45) ∧ ∀ h2, h2 = oe_up h v0 40 0 → oe_M (d + 1) 59 [.inr (.inl v0), .inl v2] (sh, g, h2) (fun r hp => ∃ (x4 : Int), r = some (.inl x4) ∧ hp = (sh, g, h2) ∧ oe_M (d + 1) 60 [.inr (.inl v0), .inl v2, .inl x4, .inl 300] (sh, g, h2) (fun r hp => ∃ (x6 : Int) (h5 : Nat → Nat → Int), r = some (.inl x6) ∧ hp = (sh, g, h5) ∧ oe_V (oe_cost 61) 61 (oe_M (d + 1)) none Q 22 [some (.inr (.inl v0)), some (.inl v1), some (.inl v2), some (.inl x6), some (.inl 0)] [] (sh, g, h5) 0 0))) :
    oe_M (d + 2) 61 [.inr (.inl v0), .inl v1, .inl v2] (sh, g, h) Q := by
  refine oe_M.of (by simp [oe_c1]) (Nat.le_of_ble_eq_true rfl) ?_
  show oe_V (oe_cost 61) 61 (oe_M (d + 1)) none Q 0 [some (.inr (.inl v0)), some (.inl v1), some (.inl v2), none, none] [] (sh, g, h) 0 0
  refine s_aload_n (oe_t61 0 (q := (0, .aload_n 0, 1)) rfl) rfl ?_
  refine s_iconst (oe_t61 1 (q := (1, .iconst 0, 1)) rfl) ?_
  obtain ⟨s1, vc⟩ := vc
  refine t_puti (oe_t61 2 (q := (2, .putfield 7400, 3)) rfl) s1 rfl (Or.inl rfl) (fun h2 e3 => ?_)
  replace vc := vc h2 e3
  refine s_aload_n (oe_t61 3 (q := (5, .aload_n 0, 1)) rfl) rfl ?_
  refine s_iload_n (oe_t61 4 (q := (6, .iload_n 2, 1)) rfl) rfl ?_
  refine s_aload_n (oe_t61 5 (q := (7, .aload_n 0, 1)) rfl) rfl ?_
  refine s_iload_n (oe_t61 6 (q := (8, .iload_n 2, 1)) rfl) rfl ?_
  refine s_callv (oe_t61 7 (q := (9, .invokevirtual 59071, 3)) rfl) rfl s1 rfl (Nat.le_of_ble_eq_true rfl) (Nat.le_of_ble_eq_true rfl) (Nat.le_of_ble_eq_true rfl) (Nat.le_of_ble_eq_true rfl) ?_
  refine oe_M_mono _ _ _ _ _ _ (fun r hp vq => ?_) vc
  obtain ⟨x4, rfl, rfl, vc⟩ := vq
  show oe_V (oe_cost 61) 61 (oe_M (d + 1)) none Q 12 [some (.inr (.inl v0)), some (.inl v1), some (.inl v2), none, none] [.inl x4, .inl v2, .inr (.inl v0)] (sh, g, h2) 0 0
  refine s_sipush (oe_t61 8 (q := (12, .sipush 300, 3)) rfl) ?_
  refine s_callv (oe_t61 9 (q := (15, .invokevirtual 60073, 3)) rfl) rfl s1 rfl (Nat.le_of_ble_eq_true rfl) (Nat.le_of_ble_eq_true rfl) (Nat.le_of_ble_eq_true rfl) (Nat.le_of_ble_eq_true rfl) ?_
  refine oe_M_mono _ _ _ _ _ _ (fun r hp vq => ?_) vc
  obtain ⟨x6, h5, rfl, rfl, vc⟩ := vq
  show oe_V (oe_cost 61) 61 (oe_M (d + 1)) none Q 18 [some (.inr (.inl v0)), some (.inl v1), some (.inl v2), none, none] [.inl x6] (sh, g, h5) 0 0
  refine s_istore_n (oe_t61 10 (q := (18, .istore_n 3, 1)) rfl) ?_
  refine s_iconst (oe_t61 11 (q := (19, .iconst 0, 1)) rfl) ?_
  refine s_istore (oe_t61 12 (q := (20, .istore 4, 2)) rfl) ?_
  exact oe_V.fg (oe_M_mono _) (show oe_fg [some (.inr (.inl v0)), some (.inl v1), some (.inl v2), some (.inl x6), some (.inl 0)] _ from ⟨rfl, ⟨rfl, ⟨rfl, ⟨rfl, ⟨rfl, trivial⟩⟩⟩⟩⟩) vc
theorem g61_22 {d : Nat} {sh : List (Nat × Nat)} {g : Nat → Nat → Option Nat} {h : Nat → Nat → Int} {Q : oeQ} {v0 : Nat} {v1 : Int} {v2 : Int} {v3 : Int} {v4 : Int}
    (vc : (v3 = 0 → (v3 = 0 → (v3 = 0 ∨ v3 = 1) ∧ Q (some (.inl v3)) (sh, g, h)) ∧ (v3 ≠ 0 → sh[v0]? = some (12, 45) ∧ ∃ q11, g v0 35 = some q11 ∧ ∃ n14, sh[q11]? = some (0, n14) ∧ 0 ≤ v1 ∧ v1 < (n14 : Nat) ∧ ∀ h17, h17 = oe_up h q11 (v1 : Int).toNat v2 → (v3 = 0 ∨ v3 = 1) ∧ Q (some (.inl v3)) (sh, g, h17))) ∧ (v3 ≠ 0 → sh[v0]? = some (12, 45) ∧ ((h v0 40) ≤ v4 → (v3 = 0 → (v3 = 0 ∨ v3 = 1) ∧ Q (some (.inl v3)) (sh, g, h)) ∧ (v3 ≠ 0 → ∃ q24, g v0 35 = some q24 ∧ ∃ n27, sh[q24]? = some (0, n27) ∧ 0 ≤ v1 ∧ v1 < (n27 : Nat) ∧ ∀ h30, h30 = oe_up h q24 (v1 : Int).toNat v2 → (v3 = 0 ∨ v3 = 1) ∧ Q (some (.inl v3)) (sh, g, h30))) ∧ (v4 < (h v0 40) → ∃ q33, g v0 39 = some q33 ∧ ∃ n36, sh[q33]? = some (0, n36) ∧ 0 ≤ v4 ∧ v4 < (n36 : Nat) ∧ ((h q33 (v4 : Int).toNat) = v1 → oe_rg (v4 + 1) ∧ oe_V (oe_cost 61) 61 (oe_M (d + 1)) none Q 22 [some (.inr (.inl v0)), some (.inl v1), some (.inl v2), some (.inl 0), some (.inl (v4 + 1))] [] (sh, g, h) 0 0) ∧ ((h q33 (v4 : Int).toNat) ≠ v1 → oe_rg (v4 + 1) ∧ oe_V (oe_cost 61) 61 (oe_M (d + 1)) none Q 22 [some (.inr (.inl v0)), some (.inl v1), some (.inl v2), some (.inl 1), some (.inl (v4 + 1))] [] (sh, g, h) 0 0)))) :
    oe_V (oe_cost 61) 61 (oe_M (d + 1)) none Q 22 [some (.inr (.inl v0)), some (.inl v1), some (.inl v2), some (.inl v3), some (.inl v4)] [] (sh, g, h) 0 0 := by
  refine s_iload_n (oe_t61 13 (q := (22, .iload_n 3, 1)) rfl) rfl ?_
  refine s_if_eq (oe_t61 14 (q := (23, .ifCond .eq 58, 3)) rfl) (fun c7 => ?_) (fun c7 => ?_)
  · replace vc := vc.1 c7
    refine s_iload_n (oe_t61 31 (q := (58, .iload_n 3, 1)) rfl) rfl ?_
    refine s_if_eq (oe_t61 32 (q := (59, .ifCond .eq 69, 3)) rfl) (fun c8 => ?_) (fun c8 => ?_)
    · replace vc := vc.1 c8
      refine s_iload_n (oe_t61 38 (q := (69, .iload_n 3, 1)) rfl) rfl ?_
      obtain ⟨b9, vc⟩ := vc
      exact s_iret (oe_t61 39 (q := (70, .ireturn, 1)) rfl) (Or.inr (Or.inl ⟨rfl, b9⟩)) vc
    · replace vc := vc.2 c8
      refine s_aload_n (oe_t61 33 (q := (62, .aload_n 0, 1)) rfl) rfl ?_
      obtain ⟨s10, vc⟩ := vc
      obtain ⟨q11, p12, vc⟩ := vc
      refine s_getr (oe_t61 34 (q := (63, .getfield 7351, 3)) rfl) s10 rfl rfl p12 ?_
      refine s_iload_n (oe_t61 35 (q := (66, .iload_n 1, 1)) rfl) rfl ?_
      refine s_iload_n (oe_t61 36 (q := (67, .iload_n 2, 1)) rfl) rfl ?_
      obtain ⟨n14, s13, vc⟩ := vc
      obtain ⟨i15, i16, vc⟩ := vc
      refine t_iastore (oe_t61 37 (q := (68, .iastore, 1)) rfl) s13 i15 i16 (fun h17 e18 => ?_)
      replace vc := vc h17 e18
      refine s_iload_n (oe_t61 38 (q := (69, .iload_n 3, 1)) rfl) rfl ?_
      obtain ⟨b19, vc⟩ := vc
      exact s_iret (oe_t61 39 (q := (70, .ireturn, 1)) rfl) (Or.inr (Or.inl ⟨rfl, b19⟩)) vc
  · replace vc := vc.2 c7
    refine s_iload (oe_t61 15 (q := (26, .iload 4, 2)) rfl) rfl ?_
    refine s_aload_n (oe_t61 16 (q := (28, .aload_n 0, 1)) rfl) rfl ?_
    obtain ⟨s20, vc⟩ := vc
    refine s_geti (oe_t61 17 (q := (29, .getfield 7400, 3)) rfl) s20 rfl (by decide) ?_
    refine s_ic_ge (oe_t61 18 (q := (32, .if_icmp .ge 58, 3)) rfl) (fun c21 => ?_) (fun c21 => ?_)
    · replace vc := vc.1 c21
      refine s_iload_n (oe_t61 31 (q := (58, .iload_n 3, 1)) rfl) rfl ?_
      refine s_if_eq (oe_t61 32 (q := (59, .ifCond .eq 69, 3)) rfl) (fun c22 => ?_) (fun c22 => ?_)
      · replace vc := vc.1 c22
        refine s_iload_n (oe_t61 38 (q := (69, .iload_n 3, 1)) rfl) rfl ?_
        obtain ⟨b23, vc⟩ := vc
        exact s_iret (oe_t61 39 (q := (70, .ireturn, 1)) rfl) (Or.inr (Or.inl ⟨rfl, b23⟩)) vc
      · replace vc := vc.2 c22
        refine s_aload_n (oe_t61 33 (q := (62, .aload_n 0, 1)) rfl) rfl ?_
        obtain ⟨q24, p25, vc⟩ := vc
        refine s_getr (oe_t61 34 (q := (63, .getfield 7351, 3)) rfl) s20 rfl rfl p25 ?_
        refine s_iload_n (oe_t61 35 (q := (66, .iload_n 1, 1)) rfl) rfl ?_
        refine s_iload_n (oe_t61 36 (q := (67, .iload_n 2, 1)) rfl) rfl ?_
        obtain ⟨n27, s26, vc⟩ := vc
        obtain ⟨i28, i29, vc⟩ := vc
        refine t_iastore (oe_t61 37 (q := (68, .iastore, 1)) rfl) s26 i28 i29 (fun h30 e31 => ?_)
        replace vc := vc h30 e31
        refine s_iload_n (oe_t61 38 (q := (69, .iload_n 3, 1)) rfl) rfl ?_
        obtain ⟨b32, vc⟩ := vc
        exact s_iret (oe_t61 39 (q := (70, .ireturn, 1)) rfl) (Or.inr (Or.inl ⟨rfl, b32⟩)) vc
    · replace vc := vc.2 c21
      refine s_aload_n (oe_t61 19 (q := (35, .aload_n 0, 1)) rfl) rfl ?_
      obtain ⟨q33, p34, vc⟩ := vc
      refine s_getr (oe_t61 20 (q := (36, .getfield 7391, 3)) rfl) s20 rfl rfl p34 ?_
      refine s_iload (oe_t61 21 (q := (39, .iload 4, 2)) rfl) rfl ?_
      obtain ⟨n36, s35, vc⟩ := vc
      obtain ⟨i37, i38, vc⟩ := vc
      refine s_iaload (oe_t61 22 (q := (41, .iaload, 1)) rfl) s35 i37 i38 ?_
      refine s_iload_n (oe_t61 23 (q := (42, .iload_n 1, 1)) rfl) rfl ?_
      refine s_ic_eq (oe_t61 24 (q := (43, .if_icmp .eq 50, 3)) rfl) (fun c39 => ?_) (fun c39 => ?_)
      · replace vc := vc.1 c39
        refine s_iconst (oe_t61 27 (q := (50, .iconst 0, 1)) rfl) ?_
        refine s_istore_n (oe_t61 28 (q := (51, .istore_n 3, 1)) rfl) ?_
        obtain ⟨r40, vc⟩ := vc
        refine s_iinc (oe_t61 29 (q := (52, .iinc 4 1, 3)) rfl) rfl r40 ?_
        refine s_goto (oe_t61 30 (q := (55, .goto 22, 3)) rfl) ?_
        exact oe_V.fg (oe_M_mono _) (show oe_fg [some (.inr (.inl v0)), some (.inl v1), some (.inl v2), some (.inl 0), some (.inl (v4 + 1))] _ from ⟨rfl, ⟨rfl, ⟨rfl, ⟨rfl, ⟨rfl, trivial⟩⟩⟩⟩⟩) vc
      · replace vc := vc.2 c39
        refine s_iconst (oe_t61 25 (q := (46, .iconst 1, 1)) rfl) ?_
        refine s_goto (oe_t61 26 (q := (47, .goto 51, 3)) rfl) ?_
        refine s_istore_n (oe_t61 28 (q := (51, .istore_n 3, 1)) rfl) ?_
        obtain ⟨r41, vc⟩ := vc
        refine s_iinc (oe_t61 29 (q := (52, .iinc 4 1, 3)) rfl) rfl r41 ?_
        refine s_goto (oe_t61 30 (q := (55, .goto 22, 3)) rfl) ?_
        exact oe_V.fg (oe_M_mono _) (show oe_fg [some (.inr (.inl v0)), some (.inl v1), some (.inl v2), some (.inl 1), some (.inl (v4 + 1))] _ from ⟨rfl, ⟨rfl, ⟨rfl, ⟨rfl, ⟨rfl, trivial⟩⟩⟩⟩⟩) vc
theorem oe_u62 : oe_c62.all (fun q => decide (oe_find oe_c62 q.1 = some q.2)) = true := by decide +kernel
theorem oe_t62 (k : Nat) {q : Nat × Jvm.ClassFile.Instr × Nat} (h : oe_c62[k]? = some q) : oe_find (oe_code 62) q.1 = some q.2 := oe_ft oe_u62 h
theorem g62 {d : Nat} {sh : List (Nat × Nat)} {g : Nat → Nat → Option Nat} {h : Nat → Nat → Int} {Q : oeQ} {v0 : Nat} {v1 : Int} {v2 : Int}
    (vc : oe_V (oe_cost 62) 62 (oe_M (d + 1)) none Q 2 [some (.inr (.inl v0)), some (.inl v1), some (.inl v2), some (.inl 0), none, none, none] [] (sh, g, h) 0 0) :
    oe_M (d + 2) 62 [.inr (.inl v0), .inl v1, .inl v2] (sh, g, h) Q := by
  refine oe_M.of (by simp [oe_c1]) (Nat.le_of_ble_eq_true rfl) ?_
  show oe_V (oe_cost 62) 62 (oe_M (d + 1)) none Q 0 [some (.inr (.inl v0)), some (.inl v1), some (.inl v2), none, none, none, none] [] (sh, g, h) 0 0
  refine s_iconst (oe_t62 0 (q := (0, .iconst 0, 1)) rfl) ?_
  refine s_istore_n (oe_t62 1 (q := (1, .istore_n 3, 1)) rfl) ?_
  exact oe_V.fg (oe_M_mono _) (show oe_fg [some (.inr (.inl v0)), some (.inl v1), some (.inl v2), some (.inl 0), none, none, none] _ from ⟨rfl, ⟨rfl, ⟨rfl, ⟨rfl, trivial⟩⟩⟩⟩) vc
theorem g62_2 {d : Nat} {sh : List (Nat × Nat)} {g : Nat → Nat → Option Nat} {h : Nat → Nat → Int} {Q : oeQ} {v0 : Nat} {v1 : Int} {v2 : Int} {v3 : Int}
    (vc : (12 ≤ v3 → sh[v0]? = some (12, 45) ∧ ∃ q3, g v0 37 = some q3 ∧ ∃ n6, sh[q3]? = some (0, n6) ∧ 0 ≤ (0 : Int) ∧ (0 : Int) < (n6 : Nat) ∧ ∀ h9, h9 = oe_up h q3 0 v1 → ∃ q11, g v0 38 = some q11 ∧ ∃ n14, sh[q11]? = some (0, n14) ∧ 0 ≤ (0 : Int) ∧ (0 : Int) < (n14 : Nat) ∧ ∀ h17, h17 = oe_up h9 q11 0 v2 → ∀ h19, h19 = oe_up h17 v0 36 0 → oe_V (oe_cost 62) 62 (oe_M (d + 1)) none Q 42 [some (.inr (.inl v0)), none, none, some (.inl 1), none, none, none] [] (sh, g, h19) 0 0) ∧ (v3 < 12 → sh[v0]? = some (12, 45) ∧ ∃ q22, g v0 35 = some q22 ∧ ∃ n25, sh[q22]? = some (0, n25) ∧ 0 ≤ v3 ∧ v3 < (n25 : Nat) ∧ ∀ h28, h28 = oe_up h q22 (v3 : Int).toNat (-1) → oe_rg (v3 + 1) ∧ oe_V (oe_cost 62) 62 (oe_M (d + 1)) none Q 2 [some (.inr (.inl v0)), some (.inl v1), some (.inl v2), some (.inl (v3 + 1)), none, none, none] [] (sh, g, h28) 0 0)) :
    oe_V (oe_cost 62) 62 (oe_M (d + 1)) none Q 2 [some (.inr (.inl v0)), some (.inl v1), some (.inl v2), some (.inl v3), none, none, none] [] (sh, g, h) 0 0 := by
  refine s_iload_n (oe_t62 2 (q := (2, .iload_n 3, 1)) rfl) rfl ?_
  refine s_bipush (oe_t62 3 (q := (3, .bipush 12, 2)) rfl) ?_
  refine s_ic_ge (oe_t62 4 (q := (5, .if_icmp .ge 21, 3)) rfl) (fun c1 => ?_) (fun c1 => ?_)
  · replace vc := vc.1 c1
    refine s_aload_n (oe_t62 12 (q := (21, .aload_n 0, 1)) rfl) rfl ?_
    obtain ⟨s2, vc⟩ := vc
    obtain ⟨q3, p4, vc⟩ := vc
    refine s_getr (oe_t62 13 (q := (22, .getfield 7371, 3)) rfl) s2 rfl rfl p4 ?_
    refine s_iconst (oe_t62 14 (q := (25, .iconst 0, 1)) rfl) ?_
    refine s_iload_n (oe_t62 15 (q := (26, .iload_n 1, 1)) rfl) rfl ?_
    obtain ⟨n6, s5, vc⟩ := vc
    obtain ⟨i7, i8, vc⟩ := vc
    refine t_iastore (oe_t62 16 (q := (27, .iastore, 1)) rfl) s5 i7 i8 (fun h9 e10 => ?_)
    replace vc := vc h9 e10
    refine s_aload_n (oe_t62 17 (q := (28, .aload_n 0, 1)) rfl) rfl ?_
    obtain ⟨q11, p12, vc⟩ := vc
    refine s_getr (oe_t62 18 (q := (29, .getfield 7381, 3)) rfl) s2 rfl rfl p12 ?_
    refine s_iconst (oe_t62 19 (q := (32, .iconst 0, 1)) rfl) ?_
    refine s_iload_n (oe_t62 20 (q := (33, .iload_n 2, 1)) rfl) rfl ?_
    obtain ⟨n14, s13, vc⟩ := vc
    obtain ⟨i15, i16, vc⟩ := vc
    refine t_iastore (oe_t62 21 (q := (34, .iastore, 1)) rfl) s13 i15 i16 (fun h17 e18 => ?_)
    replace vc := vc h17 e18
    refine s_iconst (oe_t62 22 (q := (35, .iconst 1, 1)) rfl) ?_
    refine s_istore_n (oe_t62 23 (q := (36, .istore_n 3, 1)) rfl) ?_
    refine s_aload_n (oe_t62 24 (q := (37, .aload_n 0, 1)) rfl) rfl ?_
    refine s_iconst (oe_t62 25 (q := (38, .iconst 0, 1)) rfl) ?_
    refine t_puti (oe_t62 26 (q := (39, .putfield 7360, 3)) rfl) s2 rfl (Or.inl rfl) (fun h19 e20 => ?_)
    replace vc := vc h19 e20
    exact oe_V.fg (oe_M_mono _) (show oe_fg [some (.inr (.inl v0)), none, none, some (.inl 1), none, none, none] _ from ⟨rfl, ⟨rfl, trivial⟩⟩) vc
  · replace vc := vc.2 c1
    refine s_aload_n (oe_t62 5 (q := (8, .aload_n 0, 1)) rfl) rfl ?_
    obtain ⟨s21, vc⟩ := vc
    obtain ⟨q22, p23, vc⟩ := vc
    refine s_getr (oe_t62 6 (q := (9, .getfield 7351, 3)) rfl) s21 rfl rfl p23 ?_
    refine s_iload_n (oe_t62 7 (q := (12, .iload_n 3, 1)) rfl) rfl ?_
    refine s_iconst (oe_t62 8 (q := (13, .iconst (-1), 1)) rfl) ?_
    obtain ⟨n25, s24, vc⟩ := vc
    obtain ⟨i26, i27, vc⟩ := vc
    refine t_iastore (oe_t62 9 (q := (14, .iastore, 1)) rfl) s24 i26 i27 (fun h28 e29 => ?_)
    replace vc := vc h28 e29
    obtain ⟨r30, vc⟩ := vc
    refine s_iinc (oe_t62 10 (q := (15, .iinc 3 1, 3)) rfl) rfl r30 ?_
    refine s_goto (oe_t62 11 (q := (18, .goto 2, 3)) rfl) ?_
    exact oe_V.fg (oe_M_mono _) (show oe_fg [some (.inr (.inl v0)), some (.inl v1), some (.inl v2), some (.inl (v3 + 1)), none, none, none] _ from ⟨rfl, ⟨rfl, ⟨rfl, ⟨rfl, trivial⟩⟩⟩⟩) vc
theorem g62_42 {d : Nat} {sh : List (Nat × Nat)} {g : Nat → Nat → Option Nat} {h : Nat → Nat → Int} {Q : oeQ} {v0 : Nat} {v3 : Int}
    (vc : (v3 ≤ 0 → Q (some (.inl 1)) (sh, g, h)) ∧ (0 < v3 → oe_rg (v3 + (-1)) ∧ sh[v0]? = some (12, 45) ∧ ∃ q34, g v0 37 = some q34 ∧ ∃ n37, sh[q34]? = some (0, n37) ∧ 0 ≤ (v3 + (-1)) ∧ (v3 + (-1)) < (n37 : Nat) ∧ oe_M (d + 1) 58 [.inr (.inl v0), .inl (h q34 ((v3 + (-1)) : Int).toNat)] (sh, g, h) (fun r hp => ∃ (x40 : Int), r = some (.inl x40) ∧ hp = (sh, g, h) ∧ ∃ q41, g v0 38 = some q41 ∧ ∃ n44, sh[q41]? = some (0, n44) ∧ 0 ≤ (v3 + (-1)) ∧ (v3 + (-1)) < (n44 : Nat) ∧ oe_M (d + 1) 58 [.inr (.inl v0), .inl (h q41 ((v3 + (-1)) : Int).toNat)] (sh, g, h) (fun r hp => ∃ (x47 : Int), r = some (.inl x47) ∧ hp = (sh, g, h) ∧ oe_rg ((h v0 36) + 1) ∧ ∀ h49, h49 = oe_up h v0 36 ((h v0 36) + 1) → ((h49 v0 36) ≤ 300 → ∃ q52, g v0 34 = some q52 ∧ ∃ n55, sh[q52]? = some (0, n55) ∧ 0 ≤ x40 ∧ x40 < (n55 : Nat) ∧ ((h49 q52 (x40 : Int).toNat) < 20 → 0 ≤ x40 ∧ x40 < (n55 : Nat) ∧ 0 ≤ x47 ∧ x47 < (n55 : Nat) ∧ ((h49 q52 (x40 : Int).toNat) = (h49 q52 (x47 : Int).toNat) → oe_V (oe_cost 62) 62 (oe_M (d + 1)) none Q 42 [some (.inr (.inl v0)), none, none, some (.inl (v3 + (-1))), none, none, none] [] (sh, g, h49) 0 0) ∧ ((h49 q52 (x40 : Int).toNat) ≠ (h49 q52 (x47 : Int).toNat) → 0 ≤ x40 ∧ x40 < (n55 : Nat) ∧ oe_M (d + 1) 61 [.inr (.inl v0), .inl (h49 q52 (x40 : Int).toNat), .inl x47] (sh, g, h49) (fun r hp => ∃ (x67 : Int) (h66 : Nat → Nat → Int), r = some (.inl x67) ∧ hp = (sh, g, h66) ∧ (x67 ≠ 0 → oe_V (oe_cost 62) 62 (oe_M (d + 1)) none Q 42 [some (.inr (.inl v0)), none, none, some (.inl (v3 + (-1))), none, none, none] [] (sh, g, h66) 0 0) ∧ (x67 = 0 → Q (some (.inl 0)) (sh, g, h66))))) ∧ (20 ≤ (h49 q52 (x40 : Int).toNat) → 0 ≤ x47 ∧ x47 < (n55 : Nat) ∧ ((h49 q52 (x47 : Int).toNat) < 20 → 0 ≤ x47 ∧ x47 < (n55 : Nat) ∧ oe_M (d + 1) 61 [.inr (.inl v0), .inl (h49 q52 (x47 : Int).toNat), .inl x40] (sh, g, h49) (fun r hp => ∃ (x75 : Int) (h74 : Nat → Nat → Int), r = some (.inl x75) ∧ hp = (sh, g, h74) ∧ (x75 ≠ 0 → oe_V (oe_cost 62) 62 (oe_M (d + 1)) none Q 42 [some (.inr (.inl v0)), none, none, some (.inl (v3 + (-1))), none, none, none] [] (sh, g, h74) 0 0) ∧ (x75 = 0 → Q (some (.inl 0)) (sh, g, h74)))) ∧ (20 ≤ (h49 q52 (x47 : Int).toNat) → 0 ≤ x40 ∧ x40 < (n55 : Nat) ∧ 0 ≤ x47 ∧ x47 < (n55 : Nat) ∧ ((h49 q52 (x40 : Int).toNat) = (h49 q52 (x47 : Int).toNat) → 0 ≤ x40 ∧ x40 < (n55 : Nat) ∧ oe_M (d + 1) 34 [.inl (h49 q52 (x40 : Int).toNat)] (sh, g, h49) (fun r hp => ∃ (x84 : Int), r = some (.inl x84) ∧ hp = (sh, g, h49) ∧ (x84 ≠ 2 → (x84 ≤ 0 → oe_V (oe_cost 62) 62 (oe_M (d + 1)) none Q 42 [some (.inr (.inl v0)), none, none, some (.inl (v3 + (-1))), none, none, none] [] (sh, g, h49) 0 0) ∧ (0 < x84 → oe_rg (x40 + 1) ∧ 0 ≤ (v3 + (-1)) ∧ (v3 + (-1)) < (n37 : Nat) ∧ ∀ h90, h90 = oe_up h49 q34 ((v3 + (-1)) : Int).toNat (x40 + 1) → oe_rg (x47 + 1) ∧ 0 ≤ (v3 + (-1)) ∧ (v3 + (-1)) < (n44 : Nat) ∧ ∀ h95, h95 = oe_up h90 q41 ((v3 + (-1)) : Int).toNat (x47 + 1) → oe_rg ((v3 + (-1)) + 1) ∧ oe_V (oe_cost 62) 62 (oe_M (d + 1)) none Q 42 [some (.inr (.inl v0)), none, none, some (.inl ((v3 + (-1)) + 1)), none, none, none] [] (sh, g, h95) 0 0)) ∧ (x84 = 2 → oe_rg (x40 + 1) ∧ oe_M (d + 1) 59 [.inr (.inl v0), .inl (x40 + 1)] (sh, g, h49) (fun r hp => ∃ (x99 : Int), r = some (.inl x99) ∧ hp = (sh, g, h49) ∧ 0 ≤ (v3 + (-1)) ∧ (v3 + (-1)) < (n37 : Nat) ∧ ∀ h102, h102 = oe_up h49 q34 ((v3 + (-1)) : Int).toNat x99 → oe_rg (x47 + 1) ∧ oe_M (d + 1) 59 [.inr (.inl v0), .inl (x47 + 1)] (sh, g, h102) (fun r hp => ∃ (x105 : Int), r = some (.inl x105) ∧ hp = (sh, g, h102) ∧ 0 ≤ (v3 + (-1)) ∧ (v3 + (-1)) < (n44 : Nat) ∧ ∀ h108, h108 = oe_up h102 q41 ((v3 + (-1)) : Int).toNat x105 → oe_rg ((v3 + (-1)) + 1) ∧ (x84 ≤ 0 → oe_V (oe_cost 62) 62 (oe_M (d + 1)) none Q 42 [some (.inr (.inl v0)), none, none, some (.inl ((v3 + (-1)) + 1)), none, none, none] [] (sh, g, h108) 0 0) ∧ (0 < x84 → oe_rg (x40 + 1) ∧ 0 ≤ ((v3 + (-1)) + 1) ∧ ((v3 + (-1)) + 1) < (n37 : Nat) ∧ ∀ h115, h115 = oe_up h108 q34 (((v3 + (-1)) + 1) : Int).toNat (x40 + 1) → oe_rg (x47 + 1) ∧ 0 ≤ ((v3 + (-1)) + 1) ∧ ((v3 + (-1)) + 1) < (n44 : Nat) ∧ ∀ h120, h120 = oe_up h115 q41 (((v3 + (-1)) + 1) : Int).toNat (x47 + 1) → oe_rg (((v3 + (-1)) + 1) + 1) ∧ oe_V (oe_cost 62) 62 (oe_M (d + 1)) none Q 42 [some (.inr (.inl v0)), none, none, some (.inl (((v3 + (-1)) + 1) + 1)), none, none, none] [] (sh, g, h120) 0 0)))))) ∧ ((h49 q52 (x40 : Int).toNat) ≠ (h49 q52 (x47 : Int).toNat) → Q (some (.inl 0)) (sh, g, h49))))) ∧ (300 < (h49 v0 36) → Q (some (.inl 0)) (sh, g, h49)))))) :
    oe_V (oe_cost 62) 62 (oe_M (d + 1)) none Q 42 [some (.inr (.inl v0)), none, none, some (.inl v3), none, none, none] [] (sh, g, h) 0 0 := by
  refine s_iload_n (oe_t62 27 (q := (42, .iload_n 3, 1)) rfl) rfl ?_
  refine s_if_le (oe_t62 28 (q := (43, .ifCond .le 273, 3)) rfl) (fun c31 => ?_) (fun c31 => ?_)
  · replace vc := vc.1 c31
    refine s_iconst (oe_t62 154 (q := (273, .iconst 1, 1)) rfl) ?_
    exact s_iret (oe_t62 155 (q := (274, .ireturn, 1)) rfl) (Or.inr (Or.inl ⟨rfl, Or.inr rfl⟩)) vc
  · replace vc := vc.2 c31
    obtain ⟨r32, vc⟩ := vc
    refine s_iinc (oe_t62 29 (q := (46, .iinc 3 (-1), 3)) rfl) rfl r32 ?_
    refine s_aload_n (oe_t62 30 (q := (49, .aload_n 0, 1)) rfl) rfl ?_
    refine s_aload_n (oe_t62 31 (q := (50, .aload_n 0, 1)) rfl) rfl ?_
    obtain ⟨s33, vc⟩ := vc
    obtain ⟨q34, p35, vc⟩ := vc
    refine s_getr (oe_t62 32 (q := (51, .getfield 7371, 3)) rfl) s33 rfl rfl p35 ?_
    refine s_iload_n (oe_t62 33 (q := (54, .iload_n 3, 1)) rfl) rfl ?_
    obtain ⟨n37, s36, vc⟩ := vc
    obtain ⟨i38, i39, vc⟩ := vc
    refine s_iaload (oe_t62 34 (q := (55, .iaload, 1)) rfl) s36 i38 i39 ?_
    refine s_callv (oe_t62 35 (q := (56, .invokevirtual 58071, 3)) rfl) rfl s33 rfl (Nat.le_of_ble_eq_true rfl) (Nat.le_of_ble_eq_true rfl) (Nat.le_of_ble_eq_true rfl) (Nat.le_of_ble_eq_true rfl) ?_
    refine oe_M_mono _ _ _ _ _ _ (fun r hp vq => ?_) vc
    obtain ⟨x40, rfl, rfl, vc⟩ := vq
    show oe_V (oe_cost 62) 62 (oe_M (d + 1)) none Q 59 [some (.inr (.inl v0)), none, none, some (.inl (v3 + (-1))), none, none, none] [.inl x40] (sh, g, h) 0 0
    refine s_istore (oe_t62 36 (q := (59, .istore 4, 2)) rfl) ?_
    refine s_aload_n (oe_t62 37 (q := (61, .aload_n 0, 1)) rfl) rfl ?_
    refine s_aload_n (oe_t62 38 (q := (62, .aload_n 0, 1)) rfl) rfl ?_
    obtain ⟨q41, p42, vc⟩ := vc
    refine s_getr (oe_t62 39 (q := (63, .getfield 7381, 3)) rfl) s33 rfl rfl p42 ?_
    refine s_iload_n (oe_t62 40 (q := (66, .iload_n 3, 1)) rfl) rfl ?_
    obtain ⟨n44, s43, vc⟩ := vc
    obtain ⟨i45, i46, vc⟩ := vc
    refine s_iaload (oe_t62 41 (q := (67, .iaload, 1)) rfl) s43 i45 i46 ?_
    refine s_callv (oe_t62 42 (q := (68, .invokevirtual 58071, 3)) rfl) rfl s33 rfl (Nat.le_of_ble_eq_true rfl) (Nat.le_of_ble_eq_true rfl) (Nat.le_of_ble_eq_true rfl) (Nat.le_of_ble_eq_true rfl) ?_
    refine oe_M_mono _ _ _ _ _ _ (fun r hp vq => ?_) vc
    obtain ⟨x47, rfl, rfl, vc⟩ := vq
    show oe_V (oe_cost 62) 62 (oe_M (d + 1)) none Q 71 [some (.inr (.inl v0)), none, none, some (.inl (v3 + (-1))), some (.inl x40), none, none] [.inl x47] (sh, g, h) 0 0
    refine s_istore (oe_t62 43 (q := (71, .istore 5, 2)) rfl) ?_
    refine s_aload_n (oe_t62 44 (q := (73, .aload_n 0, 1)) rfl) rfl ?_
    refine s_dup (oe_t62 45 (q := (74, .dup, 1)) rfl) trivial ?_
    refine s_geti (oe_t62 46 (q := (75, .getfield 7360, 3)) rfl) s33 rfl (by decide) ?_
    refine s_iconst (oe_t62 47 (q := (78, .iconst 1, 1)) rfl) ?_
    obtain ⟨r48, vc⟩ := vc
    refine s_iadd (oe_t62 48 (q := (79, .iadd, 1)) rfl) r48 ?_
    refine t_puti (oe_t62 49 (q := (80, .putfield 7360, 3)) rfl) s33 rfl (Or.inl rfl) (fun h49 e50 => ?_)
    replace vc := vc h49 e50
    refine s_aload_n (oe_t62 50 (q := (83, .aload_n 0, 1)) rfl) rfl ?_
    refine s_geti (oe_t62 51 (q := (84, .getfield 7360, 3)) rfl) s33 rfl (by decide) ?_
    refine s_sipush (oe_t62 52 (q := (87, .sipush 300, 3)) rfl) ?_
    refine s_ic_le (oe_t62 53 (q := (90, .if_icmp .le 95, 3)) rfl) (fun c51 => ?_) (fun c51 => ?_)
    · replace vc := vc.1 c51
      refine s_aload_n (oe_t62 56 (q := (95, .aload_n 0, 1)) rfl) rfl ?_
      obtain ⟨q52, p53, vc⟩ := vc
      refine s_getr (oe_t62 57 (q := (96, .getfield 7341, 3)) rfl) s33 rfl rfl p53 ?_
      refine s_iload (oe_t62 58 (q := (99, .iload 4, 2)) rfl) rfl ?_
      obtain ⟨n55, s54, vc⟩ := vc
      obtain ⟨i56, i57, vc⟩ := vc
      refine s_iaload (oe_t62 59 (q := (101, .iaload, 1)) rfl) s54 i56 i57 ?_
      refine s_calls (oe_t62 60 (q := (102, .invokestatic 35071, 3)) rfl) (by decide) (Nat.le_of_ble_eq_true rfl) (Nat.le_of_ble_eq_true rfl) (Nat.le_of_ble_eq_true rfl) (Nat.le_of_ble_eq_true rfl) (sp_35 (fun c58 => ?_) (fun c58 => ?_))
      · replace vc := vc.1 c58
        show oe_V (oe_cost 62) 62 (oe_M (d + 1)) none Q 105 [some (.inr (.inl v0)), none, none, some (.inl (v3 + (-1))), some (.inl x40), some (.inl x47), none] [.inl 1] (sh, g, h49) 0 0
        refine s_if_eq (oe_t62 61 (q := (105, .ifCond .eq 143, 3)) rfl) (fun q => absurd q (by decide)) (fun _ => ?_)
        refine s_aload_n (oe_t62 62 (q := (108, .aload_n 0, 1)) rfl) rfl ?_
        refine s_getr (oe_t62 63 (q := (109, .getfield 7341, 3)) rfl) s33 rfl rfl p53 ?_
        refine s_iload (oe_t62 64 (q := (112, .iload 4, 2)) rfl) rfl ?_
        obtain ⟨i59, i60, vc⟩ := vc
        refine s_iaload (oe_t62 65 (q := (114, .iaload, 1)) rfl) s54 i59 i60 ?_
        refine s_aload_n (oe_t62 66 (q := (115, .aload_n 0, 1)) rfl) rfl ?_
        refine s_getr (oe_t62 67 (q := (116, .getfield 7341, 3)) rfl) s33 rfl rfl p53 ?_
        refine s_iload (oe_t62 68 (q := (119, .iload 5, 2)) rfl) rfl ?_
        obtain ⟨i61, i62, vc⟩ := vc
        refine s_iaload (oe_t62 69 (q := (121, .iaload, 1)) rfl) s54 i61 i62 ?_
        refine s_ic_eq (oe_t62 70 (q := (122, .if_icmp .eq 270, 3)) rfl) (fun c63 => ?_) (fun c63 => ?_)
        · replace vc := vc.1 c63
          refine s_goto (oe_t62 153 (q := (270, .goto 42, 3)) rfl) ?_
          exact oe_V.fg (oe_M_mono _) (show oe_fg [some (.inr (.inl v0)), none, none, some (.inl (v3 + (-1))), none, none, none] _ from ⟨rfl, ⟨rfl, trivial⟩⟩) vc
        · replace vc := vc.2 c63
          refine s_aload_n (oe_t62 71 (q := (125, .aload_n 0, 1)) rfl) rfl ?_
          refine s_aload_n (oe_t62 72 (q := (126, .aload_n 0, 1)) rfl) rfl ?_
          refine s_getr (oe_t62 73 (q := (127, .getfield 7341, 3)) rfl) s33 rfl rfl p53 ?_
          refine s_iload (oe_t62 74 (q := (130, .iload 4, 2)) rfl) rfl ?_
          obtain ⟨i64, i65, vc⟩ := vc
          refine s_iaload (oe_t62 75 (q := (132, .iaload, 1)) rfl) s54 i64 i65 ?_
          refine s_iload (oe_t62 76 (q := (133, .iload 5, 2)) rfl) rfl ?_
          refine s_callv (oe_t62 77 (q := (135, .invokevirtual 61072, 3)) rfl) rfl s33 rfl (Nat.le_of_ble_eq_true rfl) (Nat.le_of_ble_eq_true rfl) (Nat.le_of_ble_eq_true rfl) (Nat.le_of_ble_eq_true rfl) ?_
          refine oe_M_mono _ _ _ _ _ _ (fun r hp vq => ?_) vc
          obtain ⟨x67, h66, rfl, rfl, vc⟩ := vq
          show oe_V (oe_cost 62) 62 (oe_M (d + 1)) none Q 138 [some (.inr (.inl v0)), none, none, some (.inl (v3 + (-1))), some (.inl x40), some (.inl x47), none] [.inl x67] (sh, g, h66) 0 0
          refine s_if_ne (oe_t62 78 (q := (138, .ifCond .ne 270, 3)) rfl) (fun c68 => ?_) (fun c68 => ?_)
          · replace vc := vc.1 c68
            refine s_goto (oe_t62 153 (q := (270, .goto 42, 3)) rfl) ?_
            exact oe_V.fg (oe_M_mono _) (show oe_fg [some (.inr (.inl v0)), none, none, some (.inl (v3 + (-1))), none, none, none] _ from ⟨rfl, ⟨rfl, trivial⟩⟩) vc
          · replace vc := vc.2 c68
            refine s_iconst (oe_t62 79 (q := (141, .iconst 0, 1)) rfl) ?_
            exact s_iret (oe_t62 80 (q := (142, .ireturn, 1)) rfl) (Or.inr (Or.inl ⟨rfl, Or.inl rfl⟩)) vc
      · replace vc := vc.2 c58
        show oe_V (oe_cost 62) 62 (oe_M (d + 1)) none Q 105 [some (.inr (.inl v0)), none, none, some (.inl (v3 + (-1))), some (.inl x40), some (.inl x47), none] [.inl 0] (sh, g, h49) 0 0
        refine s_if_eq (oe_t62 61 (q := (105, .ifCond .eq 143, 3)) rfl) (fun _ => ?_) (fun q => absurd q (by decide))
        refine s_aload_n (oe_t62 81 (q := (143, .aload_n 0, 1)) rfl) rfl ?_
        refine s_getr (oe_t62 82 (q := (144, .getfield 7341, 3)) rfl) s33 rfl rfl p53 ?_
        refine s_iload (oe_t62 83 (q := (147, .iload 5, 2)) rfl) rfl ?_
        obtain ⟨i69, i70, vc⟩ := vc
        refine s_iaload (oe_t62 84 (q := (149, .iaload, 1)) rfl) s54 i69 i70 ?_
        refine s_calls (oe_t62 85 (q := (150, .invokestatic 35071, 3)) rfl) (by decide) (Nat.le_of_ble_eq_true rfl) (Nat.le_of_ble_eq_true rfl) (Nat.le_of_ble_eq_true rfl) (Nat.le_of_ble_eq_true rfl) (sp_35 (fun c71 => ?_) (fun c71 => ?_))
        · replace vc := vc.1 c71
          show oe_V (oe_cost 62) 62 (oe_M (d + 1)) none Q 153 [some (.inr (.inl v0)), none, none, some (.inl (v3 + (-1))), some (.inl x40), some (.inl x47), none] [.inl 1] (sh, g, h49) 0 0
          refine s_if_eq (oe_t62 86 (q := (153, .ifCond .eq 174, 3)) rfl) (fun q => absurd q (by decide)) (fun _ => ?_)
          refine s_aload_n (oe_t62 87 (q := (156, .aload_n 0, 1)) rfl) rfl ?_
          refine s_aload_n (oe_t62 88 (q := (157, .aload_n 0, 1)) rfl) rfl ?_
          refine s_getr (oe_t62 89 (q := (158, .getfield 7341, 3)) rfl) s33 rfl rfl p53 ?_
          refine s_iload (oe_t62 90 (q := (161, .iload 5, 2)) rfl) rfl ?_
          obtain ⟨i72, i73, vc⟩ := vc
          refine s_iaload (oe_t62 91 (q := (163, .iaload, 1)) rfl) s54 i72 i73 ?_
          refine s_iload (oe_t62 92 (q := (164, .iload 4, 2)) rfl) rfl ?_
          refine s_callv (oe_t62 93 (q := (166, .invokevirtual 61072, 3)) rfl) rfl s33 rfl (Nat.le_of_ble_eq_true rfl) (Nat.le_of_ble_eq_true rfl) (Nat.le_of_ble_eq_true rfl) (Nat.le_of_ble_eq_true rfl) ?_
          refine oe_M_mono _ _ _ _ _ _ (fun r hp vq => ?_) vc
          obtain ⟨x75, h74, rfl, rfl, vc⟩ := vq
          show oe_V (oe_cost 62) 62 (oe_M (d + 1)) none Q 169 [some (.inr (.inl v0)), none, none, some (.inl (v3 + (-1))), some (.inl x40), some (.inl x47), none] [.inl x75] (sh, g, h74) 0 0
          refine s_if_ne (oe_t62 94 (q := (169, .ifCond .ne 270, 3)) rfl) (fun c76 => ?_) (fun c76 => ?_)
          · replace vc := vc.1 c76
            refine s_goto (oe_t62 153 (q := (270, .goto 42, 3)) rfl) ?_
            exact oe_V.fg (oe_M_mono _) (show oe_fg [some (.inr (.inl v0)), none, none, some (.inl (v3 + (-1))), none, none, none] _ from ⟨rfl, ⟨rfl, trivial⟩⟩) vc
          · replace vc := vc.2 c76
            refine s_iconst (oe_t62 95 (q := (172, .iconst 0, 1)) rfl) ?_
            exact s_iret (oe_t62 96 (q := (173, .ireturn, 1)) rfl) (Or.inr (Or.inl ⟨rfl, Or.inl rfl⟩)) vc
        · replace vc := vc.2 c71
          show oe_V (oe_cost 62) 62 (oe_M (d + 1)) none Q 153 [some (.inr (.inl v0)), none, none, some (.inl (v3 + (-1))), some (.inl x40), some (.inl x47), none] [.inl 0] (sh, g, h49) 0 0
          refine s_if_eq (oe_t62 86 (q := (153, .ifCond .eq 174, 3)) rfl) (fun _ => ?_) (fun q => absurd q (by decide))
          refine s_aload_n (oe_t62 97 (q := (174, .aload_n 0, 1)) rfl) rfl ?_
          refine s_getr (oe_t62 98 (q := (175, .getfield 7341, 3)) rfl) s33 rfl rfl p53 ?_
          refine s_iload (oe_t62 99 (q := (178, .iload 4, 2)) rfl) rfl ?_
          obtain ⟨i77, i78, vc⟩ := vc
          refine s_iaload (oe_t62 100 (q := (180, .iaload, 1)) rfl) s54 i77 i78 ?_
          refine s_aload_n (oe_t62 101 (q := (181, .aload_n 0, 1)) rfl) rfl ?_
          refine s_getr (oe_t62 102 (q := (182, .getfield 7341, 3)) rfl) s33 rfl rfl p53 ?_
          refine s_iload (oe_t62 103 (q := (185, .iload 5, 2)) rfl) rfl ?_
          obtain ⟨i79, i80, vc⟩ := vc
          refine s_iaload (oe_t62 104 (q := (187, .iaload, 1)) rfl) s54 i79 i80 ?_
          refine s_ic_eq (oe_t62 105 (q := (188, .if_icmp .eq 193, 3)) rfl) (fun c81 => ?_) (fun c81 => ?_)
          · replace vc := vc.1 c81
            refine s_aload_n (oe_t62 108 (q := (193, .aload_n 0, 1)) rfl) rfl ?_
            refine s_getr (oe_t62 109 (q := (194, .getfield 7341, 3)) rfl) s33 rfl rfl p53 ?_
            refine s_iload (oe_t62 110 (q := (197, .iload 4, 2)) rfl) rfl ?_
            obtain ⟨i82, i83, vc⟩ := vc
            refine s_iaload (oe_t62 111 (q := (199, .iaload, 1)) rfl) s54 i82 i83 ?_
            refine s_calls (oe_t62 112 (q := (200, .invokestatic 34071, 3)) rfl) (by decide) (Nat.le_of_ble_eq_true rfl) (Nat.le_of_ble_eq_true rfl) (Nat.le_of_ble_eq_true rfl) (Nat.le_of_ble_eq_true rfl) ?_
            refine oe_M_mono _ _ _ _ _ _ (fun r hp vq => ?_) vc
            obtain ⟨x84, rfl, rfl, vc⟩ := vq
            show oe_V (oe_cost 62) 62 (oe_M (d + 1)) none Q 203 [some (.inr (.inl v0)), none, none, some (.inl (v3 + (-1))), some (.inl x40), some (.inl x47), none] [.inl x84] (sh, g, h49) 0 0
            refine s_istore (oe_t62 113 (q := (203, .istore 6, 2)) rfl) ?_
            refine s_iload (oe_t62 114 (q := (205, .iload 6, 2)) rfl) rfl ?_
            refine s_iconst (oe_t62 115 (q := (207, .iconst 2, 1)) rfl) ?_
            refine s_ic_ne (oe_t62 116 (q := (208, .if_icmp .ne 242, 3)) rfl) (fun c85 => ?_) (fun c85 => ?_)
            · replace vc := vc.1 c85
              refine s_iload (oe_t62 136 (q := (242, .iload 6, 2)) rfl) rfl ?_
              refine s_if_le (oe_t62 137 (q := (244, .ifCond .le 270, 3)) rfl) (fun c86 => ?_) (fun c86 => ?_)
              · replace vc := vc.1 c86
                refine s_goto (oe_t62 153 (q := (270, .goto 42, 3)) rfl) ?_
                exact oe_V.fg (oe_M_mono _) (show oe_fg [some (.inr (.inl v0)), none, none, some (.inl (v3 + (-1))), none, none, none] _ from ⟨rfl, ⟨rfl, trivial⟩⟩) vc
              · replace vc := vc.2 c86
                refine s_aload_n (oe_t62 138 (q := (247, .aload_n 0, 1)) rfl) rfl ?_
                refine s_getr (oe_t62 139 (q := (248, .getfield 7371, 3)) rfl) s33 rfl rfl p35 ?_
                refine s_iload_n (oe_t62 140 (q := (251, .iload_n 3, 1)) rfl) rfl ?_
                refine s_iload (oe_t62 141 (q := (252, .iload 4, 2)) rfl) rfl ?_
                refine s_iconst (oe_t62 142 (q := (254, .iconst 1, 1)) rfl) ?_
                obtain ⟨r87, vc⟩ := vc
                refine s_iadd (oe_t62 143 (q := (255, .iadd, 1)) rfl) r87 ?_
                obtain ⟨i88, i89, vc⟩ := vc
                refine t_iastore (oe_t62 144 (q := (256, .iastore, 1)) rfl) s36 i88 i89 (fun h90 e91 => ?_)
                replace vc := vc h90 e91
                refine s_aload_n (oe_t62 145 (q := (257, .aload_n 0, 1)) rfl) rfl ?_
                refine s_getr (oe_t62 146 (q := (258, .getfield 7381, 3)) rfl) s33 rfl rfl p42 ?_
                refine s_iload_n (oe_t62 147 (q := (261, .iload_n 3, 1)) rfl) rfl ?_
                refine s_iload (oe_t62 148 (q := (262, .iload 5, 2)) rfl) rfl ?_
                refine s_iconst (oe_t62 149 (q := (264, .iconst 1, 1)) rfl) ?_
                obtain ⟨r92, vc⟩ := vc
                refine s_iadd (oe_t62 150 (q := (265, .iadd, 1)) rfl) r92 ?_
                obtain ⟨i93, i94, vc⟩ := vc
                refine t_iastore (oe_t62 151 (q := (266, .iastore, 1)) rfl) s43 i93 i94 (fun h95 e96 => ?_)
                replace vc := vc h95 e96
                obtain ⟨r97, vc⟩ := vc
                refine s_iinc (oe_t62 152 (q := (267, .iinc 3 1, 3)) rfl) rfl r97 ?_
                refine s_goto (oe_t62 153 (q := (270, .goto 42, 3)) rfl) ?_
                exact oe_V.fg (oe_M_mono _) (show oe_fg [some (.inr (.inl v0)), none, none, some (.inl ((v3 + (-1)) + 1)), none, none, none] _ from ⟨rfl, ⟨rfl, trivial⟩⟩) vc
            · replace vc := vc.2 c85
              refine s_aload_n (oe_t62 117 (q := (211, .aload_n 0, 1)) rfl) rfl ?_
              refine s_getr (oe_t62 118 (q := (212, .getfield 7371, 3)) rfl) s33 rfl rfl p35 ?_
              refine s_iload_n (oe_t62 119 (q := (215, .iload_n 3, 1)) rfl) rfl ?_
              refine s_aload_n (oe_t62 120 (q := (216, .aload_n 0, 1)) rfl) rfl ?_
              refine s_iload (oe_t62 121 (q := (217, .iload 4, 2)) rfl) rfl ?_
              refine s_iconst (oe_t62 122 (q := (219, .iconst 1, 1)) rfl) ?_
              obtain ⟨r98, vc⟩ := vc
              refine s_iadd (oe_t62 123 (q := (220, .iadd, 1)) rfl) r98 ?_
              refine s_callv (oe_t62 124 (q := (221, .invokevirtual 59071, 3)) rfl) rfl s33 rfl (Nat.le_of_ble_eq_true rfl) (Nat.le_of_ble_eq_true rfl) (Nat.le_of_ble_eq_true rfl) (Nat.le_of_ble_eq_true rfl) ?_
              refine oe_M_mono _ _ _ _ _ _ (fun r hp vq => ?_) vc
              obtain ⟨x99, rfl, rfl, vc⟩ := vq
              show oe_V (oe_cost 62) 62 (oe_M (d + 1)) none Q 224 [some (.inr (.inl v0)), none, none, some (.inl (v3 + (-1))), some (.inl x40), some (.inl x47), some (.inl x84)] [.inl x99, .inl (v3 + (-1)), .inr (.inl q34)] (sh, g, h49) 0 0
              obtain ⟨i100, i101, vc⟩ := vc
              refine t_iastore (oe_t62 125 (q := (224, .iastore, 1)) rfl) s36 i100 i101 (fun h102 e103 => ?_)
              replace vc := vc h102 e103
              refine s_aload_n (oe_t62 126 (q := (225, .aload_n 0, 1)) rfl) rfl ?_
              refine s_getr (oe_t62 127 (q := (226, .getfield 7381, 3)) rfl) s33 rfl rfl p42 ?_
              refine s_iload_n (oe_t62 128 (q := (229, .iload_n 3, 1)) rfl) rfl ?_
              refine s_aload_n (oe_t62 129 (q := (230, .aload_n 0, 1)) rfl) rfl ?_
              refine s_iload (oe_t62 130 (q := (231, .iload 5, 2)) rfl) rfl ?_
              refine s_iconst (oe_t62 131 (q := (233, .iconst 1, 1)) rfl) ?_
              obtain ⟨r104, vc⟩ := vc
              refine s_iadd (oe_t62 132 (q := (234, .iadd, 1)) rfl) r104 ?_
              refine s_callv (oe_t62 133 (q := (235, .invokevirtual 59071, 3)) rfl) rfl s33 rfl (Nat.le_of_ble_eq_true rfl) (Nat.le_of_ble_eq_true rfl) (Nat.le_of_ble_eq_true rfl) (Nat.le_of_ble_eq_true rfl) ?_
              refine oe_M_mono _ _ _ _ _ _ (fun r hp vq => ?_) vc
              obtain ⟨x105, rfl, rfl, vc⟩ := vq
              show oe_V (oe_cost 62) 62 (oe_M (d + 1)) none Q 238 [some (.inr (.inl v0)), none, none, some (.inl (v3 + (-1))), some (.inl x40), some (.inl x47), some (.inl x84)] [.inl x105, .inl (v3 + (-1)), .inr (.inl q41)] (sh, g, h102) 0 0
              obtain ⟨i106, i107, vc⟩ := vc
              refine t_iastore (oe_t62 134 (q := (238, .iastore, 1)) rfl) s43 i106 i107 (fun h108 e109 => ?_)
              replace vc := vc h108 e109
              obtain ⟨r110, vc⟩ := vc
              refine s_iinc (oe_t62 135 (q := (239, .iinc 3 1, 3)) rfl) rfl r110 ?_
              refine s_iload (oe_t62 136 (q := (242, .iload 6, 2)) rfl) rfl ?_
              refine s_if_le (oe_t62 137 (q := (244, .ifCond .le 270, 3)) rfl) (fun c111 => ?_) (fun c111 => ?_)
              · replace vc := vc.1 c111
                refine s_goto (oe_t62 153 (q := (270, .goto 42, 3)) rfl) ?_
                exact oe_V.fg (oe_M_mono _) (show oe_fg [some (.inr (.inl v0)), none, none, some (.inl ((v3 + (-1)) + 1)), none, none, none] _ from ⟨rfl, ⟨rfl, trivial⟩⟩) vc
              · replace vc := vc.2 c111
                refine s_aload_n (oe_t62 138 (q := (247, .aload_n 0, 1)) rfl) rfl ?_
                refine s_getr (oe_t62 139 (q := (248, .getfield 7371, 3)) rfl) s33 rfl rfl p35 ?_
                refine s_iload_n (oe_t62 140 (q := (251, .iload_n 3, 1)) rfl) rfl ?_
                refine s_iload (oe_t62 141 (q := (252, .iload 4, 2)) rfl) rfl ?_
                refine s_iconst (oe_t62 142 (q := (254, .iconst 1, 1)) rfl) ?_
                obtain ⟨r112, vc⟩ := vc
                refine s_iadd (oe_t62 143 (q := (255, .iadd, 1)) rfl) r112 ?_
                obtain ⟨i113, i114, vc⟩ := vc
                refine t_iastore (oe_t62 144 (q := (256, .iastore, 1)) rfl) s36 i113 i114 (fun h115 e116 => ?_)
                replace vc := vc h115 e116
                refine s_aload_n (oe_t62 145 (q := (257, .aload_n 0, 1)) rfl) rfl ?_
                refine s_getr (oe_t62 146 (q := (258, .getfield 7381, 3)) rfl) s33 rfl rfl p42 ?_
                refine s_iload_n (oe_t62 147 (q := (261, .iload_n 3, 1)) rfl) rfl ?_
                refine s_iload (oe_t62 148 (q := (262, .iload 5, 2)) rfl) rfl ?_
                refine s_iconst (oe_t62 149 (q := (264, .iconst 1, 1)) rfl) ?_
                obtain ⟨r117, vc⟩ := vc
                refine s_iadd (oe_t62 150 (q := (265, .iadd, 1)) rfl) r117 ?_
                obtain ⟨i118, i119, vc⟩ := vc
                refine t_iastore (oe_t62 151 (q := (266, .iastore, 1)) rfl) s43 i118 i119 (fun h120 e121 => ?_)
                replace vc := vc h120 e121
                obtain ⟨r122, vc⟩ := vc
                refine s_iinc (oe_t62 152 (q := (267, .iinc 3 1, 3)) rfl) rfl r122 ?_
                refine s_goto (oe_t62 153 (q := (270, .goto 42, 3)) rfl) ?_
                exact oe_V.fg (oe_M_mono _) (show oe_fg [some (.inr (.inl v0)), none, none, some (.inl (((v3 + (-1)) + 1) + 1)), none, none, none] _ from ⟨rfl, ⟨rfl, trivial⟩⟩) vc
          · replace vc := vc.2 c81
            refine s_iconst (oe_t62 106 (q := (191, .iconst 0, 1)) rfl) ?_
            exact s_iret (oe_t62 107 (q := (192, .ireturn, 1)) rfl) (Or.inr (Or.inl ⟨rfl, Or.inl rfl⟩)) vc
    · replace vc := vc.2 c51
      refine s_iconst (oe_t62 54 (q := (93, .iconst 0, 1)) rfl) ?_
      exact s_iret (oe_t62 55 (q := (94, .ireturn, 1)) rfl) (Or.inr (Or.inl ⟨rfl, Or.inl rfl⟩)) vc
theorem oe_u63 : oe_c63.all (fun q => decide (oe_find oe_c63 q.1 = some q.2)) = true := by decide +kernel
theorem oe_t63 (k : Nat) {q : Nat × Jvm.ClassFile.Instr × Nat} (h : oe_c63[k]? = some q) : oe_find (oe_code 63) q.1 = some q.2 := oe_ft oe_u63 h
theorem g63 {d : Nat} {sh : List (Nat × Nat)} {g : Nat → Nat → Option Nat} {h : Nat → Nat → Int} {Q : oeQ} {v0 : Nat} {v1 : Int} {v2 : Int} {v3 : Int}
    (vc : sh[v0]? = some (12, 45) ∧ ∀ h2, h2 = oe_up h v0 40 0 → oe_M (d + 1) 60 [.inr (.inl v0), .inl v2, .inl v3, .inl 30] (sh, g, h2) (fun r hp => ∃ (x5 : Int) (h4 : Nat → Nat → Int), r = some (.inl x5) ∧ hp = (sh, g, h4) ∧ oe_V (oe_cost 63) 63 (oe_M (d + 1)) none Q 18 [some (.inr (.inl v0)), some (.inl v1), none, none, some (.inl x5), some (.inl 0)] [] (sh, g, h4) 0 0)) :
    oe_M (d + 2) 63 [.inr (.inl v0), .inl v1, .inl v2, .inl v3] (sh, g, h) Q := by
  refine oe_M.of (by simp [oe_c1]) (Nat.le_of_ble_eq_true rfl) ?_
  show oe_V (oe_cost 63) 63 (oe_M (d + 1)) none Q 0 [some (.inr (.inl v0)), some (.inl v1), some (.inl v2), some (.inl v3), none, none] [] (sh, g, h) 0 0
  refine s_aload_n (oe_t63 0 (q := (0, .aload_n 0, 1)) rfl) rfl ?_
  refine s_iconst (oe_t63 1 (q := (1, .iconst 0, 1)) rfl) ?_
  obtain ⟨s1, vc⟩ := vc
  refine t_puti (oe_t63 2 (q := (2, .putfield 7400, 3)) rfl) s1 rfl (Or.inl rfl) (fun h2 e3 => ?_)
  replace vc := vc h2 e3
  refine s_aload_n (oe_t63 3 (q := (5, .aload_n 0, 1)) rfl) rfl ?_
  refine s_iload_n (oe_t63 4 (q := (6, .iload_n 2, 1)) rfl) rfl ?_
  refine s_iload_n (oe_t63 5 (q := (7, .iload_n 3, 1)) rfl) rfl ?_
  refine s_bipush (oe_t63 6 (q := (8, .bipush 30, 2)) rfl) ?_
  refine s_callv (oe_t63 7 (q := (10, .invokevirtual 60073, 3)) rfl) rfl s1 rfl (Nat.le_of_ble_eq_true rfl) (Nat.le_of_ble_eq_true rfl) (Nat.le_of_ble_eq_true rfl) (Nat.le_of_ble_eq_true rfl) ?_
  refine oe_M_mono _ _ _ _ _ _ (fun r hp vq => ?_) vc
  obtain ⟨x5, h4, rfl, rfl, vc⟩ := vq
  show oe_V (oe_cost 63) 63 (oe_M (d + 1)) none Q 13 [some (.inr (.inl v0)), some (.inl v1), some (.inl v2), some (.inl v3), none, none] [.inl x5] (sh, g, h4) 0 0
  refine s_istore (oe_t63 8 (q := (13, .istore 4, 2)) rfl) ?_
  refine s_iconst (oe_t63 9 (q := (15, .iconst 0, 1)) rfl) ?_
  refine s_istore (oe_t63 10 (q := (16, .istore 5, 2)) rfl) ?_
  exact oe_V.fg (oe_M_mono _) (show oe_fg [some (.inr (.inl v0)), some (.inl v1), none, none, some (.inl x5), some (.inl 0)] _ from ⟨rfl, ⟨rfl, ⟨rfl, ⟨rfl, trivial⟩⟩⟩⟩) vc
theorem g63_18 {d : Nat} {sh : List (Nat × Nat)} {g : Nat → Nat → Option Nat} {h : Nat → Nat → Int} {Q : oeQ} {v0 : Nat} {v1 : Int} {v4 : Int} {v5 : Int}
    (vc : sh[v0]? = some (12, 45) ∧ ((h v0 40) ≤ v5 → ∃ q8, g v0 44 = some q8 ∧ ∃ n11, sh[q8]? = some (0, n11) ∧ 0 ≤ v1 ∧ v1 < (n11 : Nat) ∧ ∀ h14, h14 = oe_up h q8 (v1 : Int).toNat (h v0 40) → (v4 = 0 ∨ v4 = 1) ∧ Q (some (.inl v4)) (sh, g, h14)) ∧ (v5 < (h v0 40) → ∃ q17, g v0 43 = some q17 ∧ oe_rg (32 * v1) ∧ oe_rg ((32 * v1) + v5) ∧ ∃ q21, g v0 39 = some q21 ∧ ∃ n24, sh[q21]? = some (0, n24) ∧ 0 ≤ v5 ∧ v5 < (n24 : Nat) ∧ ∃ n28, sh[q17]? = some (0, n28) ∧ 0 ≤ ((32 * v1) + v5) ∧ ((32 * v1) + v5) < (n28 : Nat) ∧ ∀ h31, h31 = oe_up h q17 (((32 * v1) + v5) : Int).toNat (h q21 (v5 : Int).toNat) → oe_rg (v5 + 1) ∧ oe_V (oe_cost 63) 63 (oe_M (d + 1)) none Q 18 [some (.inr (.inl v0)), some (.inl v1), none, none, some (.inl v4), some (.inl (v5 + 1))] [] (sh, g, h31) 0 0)) :
    oe_V (oe_cost 63) 63 (oe_M (d + 1)) none Q 18 [some (.inr (.inl v0)), some (.inl v1), none, none, some (.inl v4), some (.inl v5)] [] (sh, g, h) 0 0 := by
  refine s_iload (oe_t63 11 (q := (18, .iload 5, 2)) rfl) rfl ?_
  refine s_aload_n (oe_t63 12 (q := (20, .aload_n 0, 1)) rfl) rfl ?_
  obtain ⟨s6, vc⟩ := vc
  refine s_geti (oe_t63 13 (q := (21, .getfield 7400, 3)) rfl) s6 rfl (by decide) ?_
  refine s_ic_ge (oe_t63 14 (q := (24, .if_icmp .ge 52, 3)) rfl) (fun c7 => ?_) (fun c7 => ?_)
  · replace vc := vc.1 c7
    refine s_aload_n (oe_t63 29 (q := (52, .aload_n 0, 1)) rfl) rfl ?_
    obtain ⟨q8, p9, vc⟩ := vc
    refine s_getr (oe_t63 30 (q := (53, .getfield 7441, 3)) rfl) s6 rfl rfl p9 ?_
    refine s_iload_n (oe_t63 31 (q := (56, .iload_n 1, 1)) rfl) rfl ?_
    refine s_aload_n (oe_t63 32 (q := (57, .aload_n 0, 1)) rfl) rfl ?_
    refine s_geti (oe_t63 33 (q := (58, .getfield 7400, 3)) rfl) s6 rfl (by decide) ?_
    obtain ⟨n11, s10, vc⟩ := vc
    obtain ⟨i12, i13, vc⟩ := vc
    refine t_iastore (oe_t63 34 (q := (61, .iastore, 1)) rfl) s10 i12 i13 (fun h14 e15 => ?_)
    replace vc := vc h14 e15
    refine s_iload (oe_t63 35 (q := (62, .iload 4, 2)) rfl) rfl ?_
    obtain ⟨b16, vc⟩ := vc
    exact s_iret (oe_t63 36 (q := (64, .ireturn, 1)) rfl) (Or.inr (Or.inl ⟨rfl, b16⟩)) vc
  · replace vc := vc.2 c7
    refine s_aload_n (oe_t63 15 (q := (27, .aload_n 0, 1)) rfl) rfl ?_
    obtain ⟨q17, p18, vc⟩ := vc
    refine s_getr (oe_t63 16 (q := (28, .getfield 7431, 3)) rfl) s6 rfl rfl p18 ?_
    refine s_bipush (oe_t63 17 (q := (31, .bipush 32, 2)) rfl) ?_
    refine s_iload_n (oe_t63 18 (q := (33, .iload_n 1, 1)) rfl) rfl ?_
    obtain ⟨r19, vc⟩ := vc
    refine s_imul (oe_t63 19 (q := (34, .imul, 1)) rfl) r19 ?_
    refine s_iload (oe_t63 20 (q := (35, .iload 5, 2)) rfl) rfl ?_
    obtain ⟨r20, vc⟩ := vc
    refine s_iadd (oe_t63 21 (q := (37, .iadd, 1)) rfl) r20 ?_
    refine s_aload_n (oe_t63 22 (q := (38, .aload_n 0, 1)) rfl) rfl ?_
    obtain ⟨q21, p22, vc⟩ := vc
    refine s_getr (oe_t63 23 (q := (39, .getfield 7391, 3)) rfl) s6 rfl rfl p22 ?_
    refine s_iload (oe_t63 24 (q := (42, .iload 5, 2)) rfl) rfl ?_
    obtain ⟨n24, s23, vc⟩ := vc
    obtain ⟨i25, i26, vc⟩ := vc
    refine s_iaload (oe_t63 25 (q := (44, .iaload, 1)) rfl) s23 i25 i26 ?_
    obtain ⟨n28, s27, vc⟩ := vc
    obtain ⟨i29, i30, vc⟩ := vc
    refine t_iastore (oe_t63 26 (q := (45, .iastore, 1)) rfl) s27 i29 i30 (fun h31 e32 => ?_)
    replace vc := vc h31 e32
    obtain ⟨r33, vc⟩ := vc
    refine s_iinc (oe_t63 27 (q := (46, .iinc 5 1, 3)) rfl) rfl r33 ?_
    refine s_goto (oe_t63 28 (q := (49, .goto 18, 3)) rfl) ?_
    exact oe_V.fg (oe_M_mono _) (show oe_fg [some (.inr (.inl v0)), some (.inl v1), none, none, some (.inl v4), some (.inl (v5 + 1))] _ from ⟨rfl, ⟨rfl, ⟨rfl, ⟨rfl, trivial⟩⟩⟩⟩) vc
theorem oe_u64 : oe_c64.all (fun q => decide (oe_find oe_c64 q.1 = some q.2)) = true := by decide +kernel
theorem oe_t64 (k : Nat) {q : Nat × Jvm.ClassFile.Instr × Nat} (h : oe_c64[k]? = some q) : oe_find (oe_code 64) q.1 = some q.2 := oe_ft oe_u64 h
theorem g64 {d : Nat} {sh : List (Nat × Nat)} {g : Nat → Nat → Option Nat} {h : Nat → Nat → Int} {Q : oeQ} {v0 : Nat} {v1 : Int} {v2 : Int}
    (vc : sh[v0]? = some (12, 45) ∧ ∃ q2, g v0 44 = some q2 ∧ ∃ n5, sh[q2]? = some (0, n5) ∧ 0 ≤ v1 ∧ v1 < (n5 : Nat) ∧ ∀ h8, h8 = oe_up h v0 22 (h q2 (v1 : Int).toNat) → 0 ≤ v2 ∧ v2 < (n5 : Nat) ∧ ∀ h12, h12 = oe_up h8 v0 24 (h8 q2 (v2 : Int).toNat) → ((h12 v0 22) ≠ (h12 v0 24) → oe_V (oe_cost 64) 64 (oe_M (d + 1)) none Q 40 [some (.inr (.inl v0)), some (.inl v1), some (.inl v2), some (.inl 0), some (.inl 0)] [] (sh, g, h12) 0 0) ∧ ((h12 v0 22) = (h12 v0 24) → oe_V (oe_cost 64) 64 (oe_M (d + 1)) none Q 40 [some (.inr (.inl v0)), some (.inl v1), some (.inl v2), some (.inl 1), some (.inl 0)] [] (sh, g, h12) 0 0)) :
    oe_M (d + 2) 64 [.inr (.inl v0), .inl v1, .inl v2] (sh, g, h) Q := by
  refine oe_M.of (by simp [oe_c1]) (Nat.le_of_ble_eq_true rfl) ?_
  show oe_V (oe_cost 64) 64 (oe_M (d + 1)) none Q 0 [some (.inr (.inl v0)), some (.inl v1), some (.inl v2), none, none] [] (sh, g, h) 0 0
  refine s_aload_n (oe_t64 0 (q := (0, .aload_n 0, 1)) rfl) rfl ?_
  refine s_aload_n (oe_t64 1 (q := (1, .aload_n 0, 1)) rfl) rfl ?_
  obtain ⟨s1, vc⟩ := vc
  obtain ⟨q2, p3, vc⟩ := vc
  refine s_getr (oe_t64 2 (q := (2, .getfield 7441, 3)) rfl) s1 rfl rfl p3 ?_
  refine s_iload_n (oe_t64 3 (q := (5, .iload_n 1, 1)) rfl) rfl ?_
  obtain ⟨n5, s4, vc⟩ := vc
  obtain ⟨i6, i7, vc⟩ := vc
  refine s_iaload (oe_t64 4 (q := (6, .iaload, 1)) rfl) s4 i6 i7 ?_
  refine t_puti (oe_t64 5 (q := (7, .putfield 7220, 3)) rfl) s1 rfl (Or.inl rfl) (fun h8 e9 => ?_)
  replace vc := vc h8 e9
  refine s_aload_n (oe_t64 6 (q := (10, .aload_n 0, 1)) rfl) rfl ?_
  refine s_aload_n (oe_t64 7 (q := (11, .aload_n 0, 1)) rfl) rfl ?_
  refine s_getr (oe_t64 8 (q := (12, .getfield 7441, 3)) rfl) s1 rfl rfl p3 ?_
  refine s_iload_n (oe_t64 9 (q := (15, .iload_n 2, 1)) rfl) rfl ?_
  obtain ⟨i10, i11, vc⟩ := vc
  refine s_iaload (oe_t64 10 (q := (16, .iaload, 1)) rfl) s4 i10 i11 ?_
  refine t_puti (oe_t64 11 (q := (17, .putfield 7240, 3)) rfl) s1 rfl (Or.inl rfl) (fun h12 e13 => ?_)
  replace vc := vc h12 e13
  refine s_aload_n (oe_t64 12 (q := (20, .aload_n 0, 1)) rfl) rfl ?_
  refine s_geti (oe_t64 13 (q := (21, .getfield 7220, 3)) rfl) s1 rfl (by decide) ?_
  refine s_aload_n (oe_t64 14 (q := (24, .aload_n 0, 1)) rfl) rfl ?_
  refine s_geti (oe_t64 15 (q := (25, .getfield 7240, 3)) rfl) s1 rfl (by decide) ?_
  refine s_ic_ne (oe_t64 16 (q := (28, .if_icmp .ne 35, 3)) rfl) (fun c14 => ?_) (fun c14 => ?_)
  · replace vc := vc.1 c14
    refine s_iconst (oe_t64 19 (q := (35, .iconst 0, 1)) rfl) ?_
    refine s_istore_n (oe_t64 20 (q := (36, .istore_n 3, 1)) rfl) ?_
    refine s_iconst (oe_t64 21 (q := (37, .iconst 0, 1)) rfl) ?_
    refine s_istore (oe_t64 22 (q := (38, .istore 4, 2)) rfl) ?_
    exact oe_V.fg (oe_M_mono _) (show oe_fg [some (.inr (.inl v0)), some (.inl v1), some (.inl v2), some (.inl 0), some (.inl 0)] _ from ⟨rfl, ⟨rfl, ⟨rfl, ⟨rfl, ⟨rfl, trivial⟩⟩⟩⟩⟩) vc
  · replace vc := vc.2 c14
    refine s_iconst (oe_t64 17 (q := (31, .iconst 1, 1)) rfl) ?_
    refine s_goto (oe_t64 18 (q := (32, .goto 36, 3)) rfl) ?_
    refine s_istore_n (oe_t64 20 (q := (36, .istore_n 3, 1)) rfl) ?_
    refine s_iconst (oe_t64 21 (q := (37, .iconst 0, 1)) rfl) ?_
    refine s_istore (oe_t64 22 (q := (38, .istore 4, 2)) rfl) ?_
    exact oe_V.fg (oe_M_mono _) (show oe_fg [some (.inr (.inl v0)), some (.inl v1), some (.inl v2), some (.inl 1), some (.inl 0)] _ from ⟨rfl, ⟨rfl, ⟨rfl, ⟨rfl, ⟨rfl, trivial⟩⟩⟩⟩⟩) vc
theorem g64_40 {d : Nat} {sh : List (Nat × Nat)} {g : Nat → Nat → Option Nat} {h : Nat → Nat → Int} {Q : oeQ} {v0 : Nat} {v1 : Int} {v2 : Int} {v3 : Int} {v4 : Int}
    (vc : sh[v0]? = some (12, 45) ∧ ((h v0 22) ≤ v4 → oe_V (oe_cost 64) 64 (oe_M (d + 1)) none Q 77 [some (.inr (.inl v0)), none, some (.inl v2), some (.inl v3), some (.inl 0)] [] (sh, g, h) 0 0) ∧ (v4 < (h v0 22) → ∃ q17, g v0 21 = some q17 ∧ ∃ q19, g v0 43 = some q19 ∧ oe_rg (32 * v1) ∧ oe_rg ((32 * v1) + v4) ∧ ∃ n24, sh[q19]? = some (0, n24) ∧ 0 ≤ ((32 * v1) + v4) ∧ ((32 * v1) + v4) < (n24 : Nat) ∧ ∃ n28, sh[q17]? = some (0, n28) ∧ 0 ≤ v4 ∧ v4 < (n28 : Nat) ∧ ∀ h31, h31 = oe_up h q17 (v4 : Int).toNat (h q19 (((32 * v1) + v4) : Int).toNat) → oe_rg (v4 + 1) ∧ oe_V (oe_cost 64) 64 (oe_M (d + 1)) none Q 40 [some (.inr (.inl v0)), some (.inl v1), some (.inl v2), some (.inl v3), some (.inl (v4 + 1))] [] (sh, g, h31) 0 0)) :
    oe_V (oe_cost 64) 64 (oe_M (d + 1)) none Q 40 [some (.inr (.inl v0)), some (.inl v1), some (.inl v2), some (.inl v3), some (.inl v4)] [] (sh, g, h) 0 0 := by
  refine s_iload (oe_t64 23 (q := (40, .iload 4, 2)) rfl) rfl ?_
  refine s_aload_n (oe_t64 24 (q := (42, .aload_n 0, 1)) rfl) rfl ?_
  obtain ⟨s15, vc⟩ := vc
  refine s_geti (oe_t64 25 (q := (43, .getfield 7220, 3)) rfl) s15 rfl (by decide) ?_
  refine s_ic_ge (oe_t64 26 (q := (46, .if_icmp .ge 74, 3)) rfl) (fun c16 => ?_) (fun c16 => ?_)
  · replace vc := vc.1 c16
    refine s_iconst (oe_t64 41 (q := (74, .iconst 0, 1)) rfl) ?_
    refine s_istore (oe_t64 42 (q := (75, .istore 4, 2)) rfl) ?_
    exact oe_V.fg (oe_M_mono _) (show oe_fg [some (.inr (.inl v0)), none, some (.inl v2), some (.inl v3), some (.inl 0)] _ from ⟨rfl, ⟨rfl, ⟨rfl, ⟨rfl, trivial⟩⟩⟩⟩) vc
  · replace vc := vc.2 c16
    refine s_aload_n (oe_t64 27 (q := (49, .aload_n 0, 1)) rfl) rfl ?_
    obtain ⟨q17, p18, vc⟩ := vc
    refine s_getr (oe_t64 28 (q := (50, .getfield 7211, 3)) rfl) s15 rfl rfl p18 ?_
    refine s_iload (oe_t64 29 (q := (53, .iload 4, 2)) rfl) rfl ?_
    refine s_aload_n (oe_t64 30 (q := (55, .aload_n 0, 1)) rfl) rfl ?_
    obtain ⟨q19, p20, vc⟩ := vc
    refine s_getr (oe_t64 31 (q := (56, .getfield 7431, 3)) rfl) s15 rfl rfl p20 ?_
    refine s_bipush (oe_t64 32 (q := (59, .bipush 32, 2)) rfl) ?_
    refine s_iload_n (oe_t64 33 (q := (61, .iload_n 1, 1)) rfl) rfl ?_
    obtain ⟨r21, vc⟩ := vc
    refine s_imul (oe_t64 34 (q := (62, .imul, 1)) rfl) r21 ?_
    refine s_iload (oe_t64 35 (q := (63, .iload 4, 2)) rfl) rfl ?_
    obtain ⟨r22, vc⟩ := vc
    refine s_iadd (oe_t64 36 (q := (65, .iadd, 1)) rfl) r22 ?_
    obtain ⟨n24, s23, vc⟩ := vc
    obtain ⟨i25, i26, vc⟩ := vc
    refine s_iaload (oe_t64 37 (q := (66, .iaload, 1)) rfl) s23 i25 i26 ?_
    obtain ⟨n28, s27, vc⟩ := vc
    obtain ⟨i29, i30, vc⟩ := vc
    refine t_iastore (oe_t64 38 (q := (67, .iastore, 1)) rfl) s27 i29 i30 (fun h31 e32 => ?_)
    replace vc := vc h31 e32
    obtain ⟨r33, vc⟩ := vc
    refine s_iinc (oe_t64 39 (q := (68, .iinc 4 1, 3)) rfl) rfl r33 ?_
    refine s_goto (oe_t64 40 (q := (71, .goto 40, 3)) rfl) ?_
    exact oe_V.fg (oe_M_mono _) (show oe_fg [some (.inr (.inl v0)), some (.inl v1), some (.inl v2), some (.inl v3), some (.inl (v4 + 1))] _ from ⟨rfl, ⟨rfl, ⟨rfl, ⟨rfl, ⟨rfl, trivial⟩⟩⟩⟩⟩) vc
theorem g64_77 {d : Nat} {sh : List (Nat × Nat)} {g : Nat → Nat → Option Nat} {h : Nat → Nat → Int} {Q : oeQ} {v0 : Nat} {v2 : Int} {v3 : Int} {v4 : Int}
    (vc : sh[v0]? = some (12, 45) ∧ ((h v0 24) ≤ v4 → (v3 ≠ 0 → Q (some (.inl 1)) (sh, g, h)) ∧ (v3 = 0 → oe_M (d + 1) 42 [.inr (.inl v0)] (sh, g, h) (fun r hp => ∃ (x38 : Int) (h37 : Nat → Nat → Int), r = some (.inl x38) ∧ hp = (sh, g, h37) ∧ (x38 = 0 → Q (some (.inl 0)) (sh, g, h37)) ∧ (x38 ≠ 0 → Q (some (.inl 1)) (sh, g, h37))))) ∧ (v4 < (h v0 24) → ∃ q40, g v0 23 = some q40 ∧ ∃ q42, g v0 43 = some q42 ∧ oe_rg (32 * v2) ∧ oe_rg ((32 * v2) + v4) ∧ ∃ n47, sh[q42]? = some (0, n47) ∧ 0 ≤ ((32 * v2) + v4) ∧ ((32 * v2) + v4) < (n47 : Nat) ∧ ∃ n51, sh[q40]? = some (0, n51) ∧ 0 ≤ v4 ∧ v4 < (n51 : Nat) ∧ ∀ h54, h54 = oe_up h q40 (v4 : Int).toNat (h q42 (((32 * v2) + v4) : Int).toNat) → (v3 = 0 → oe_rg (v4 + 1) ∧ oe_V (oe_cost 64) 64 (oe_M (d + 1)) none Q 77 [some (.inr (.inl v0)), none, some (.inl v2), some (.inl 0), some (.inl (v4 + 1))] [] (sh, g, h54) 0 0) ∧ (v3 ≠ 0 → ∃ q58, g v0 21 = some q58 ∧ ∃ n61, sh[q58]? = some (0, n61) ∧ 0 ≤ v4 ∧ v4 < (n61 : Nat) ∧ 0 ≤ v4 ∧ v4 < (n51 : Nat) ∧ ((h54 q58 (v4 : Int).toNat) ≠ (h54 q40 (v4 : Int).toNat) → oe_rg (v4 + 1) ∧ oe_V (oe_cost 64) 64 (oe_M (d + 1)) none Q 77 [some (.inr (.inl v0)), none, some (.inl v2), some (.inl 0), some (.inl (v4 + 1))] [] (sh, g, h54) 0 0) ∧ ((h54 q58 (v4 : Int).toNat) = (h54 q40 (v4 : Int).toNat) → oe_rg (v4 + 1) ∧ oe_V (oe_cost 64) 64 (oe_M (d + 1)) none Q 77 [some (.inr (.inl v0)), none, some (.inl v2), some (.inl 1), some (.inl (v4 + 1))] [] (sh, g, h54) 0 0)))) :
    oe_V (oe_cost 64) 64 (oe_M (d + 1)) none Q 77 [some (.inr (.inl v0)), none, some (.inl v2), some (.inl v3), some (.inl v4)] [] (sh, g, h) 0 0 := by
  refine s_iload (oe_t64 43 (q := (77, .iload 4, 2)) rfl) rfl ?_
  refine s_aload_n (oe_t64 44 (q := (79, .aload_n 0, 1)) rfl) rfl ?_
  obtain ⟨s34, vc⟩ := vc
  refine s_geti (oe_t64 45 (q := (80, .getfield 7240, 3)) rfl) s34 rfl (by decide) ?_
  refine s_ic_ge (oe_t64 46 (q := (83, .if_icmp .ge 138, 3)) rfl) (fun c35 => ?_) (fun c35 => ?_)
  · replace vc := vc.1 c35
    refine s_iload_n (oe_t64 76 (q := (138, .iload_n 3, 1)) rfl) rfl ?_
    refine s_if_ne (oe_t64 77 (q := (139, .ifCond .ne 149, 3)) rfl) (fun c36 => ?_) (fun c36 => ?_)
    · replace vc := vc.1 c36
      refine s_iconst (oe_t64 81 (q := (149, .iconst 1, 1)) rfl) ?_
      refine s_goto (oe_t64 82 (q := (150, .goto 154, 3)) rfl) ?_
      exact s_iret (oe_t64 84 (q := (154, .ireturn, 1)) rfl) (Or.inr (Or.inl ⟨rfl, Or.inr rfl⟩)) vc
    · replace vc := vc.2 c36
      refine s_aload_n (oe_t64 78 (q := (142, .aload_n 0, 1)) rfl) rfl ?_
      refine s_callv (oe_t64 79 (q := (143, .invokevirtual 42070, 3)) rfl) rfl s34 rfl (Nat.le_of_ble_eq_true rfl) (Nat.le_of_ble_eq_true rfl) (Nat.le_of_ble_eq_true rfl) (Nat.le_of_ble_eq_true rfl) ?_
      refine oe_M_mono _ _ _ _ _ _ (fun r hp vq => ?_) vc
      obtain ⟨x38, h37, rfl, rfl, vc⟩ := vq
      show oe_V (oe_cost 64) 64 (oe_M (d + 1)) none Q 146 [some (.inr (.inl v0)), none, some (.inl v2), some (.inl v3), some (.inl v4)] [.inl x38] (sh, g, h37) 0 0
      refine s_if_eq (oe_t64 80 (q := (146, .ifCond .eq 153, 3)) rfl) (fun c39 => ?_) (fun c39 => ?_)
      · replace vc := vc.1 c39
        refine s_iconst (oe_t64 83 (q := (153, .iconst 0, 1)) rfl) ?_
        exact s_iret (oe_t64 84 (q := (154, .ireturn, 1)) rfl) (Or.inr (Or.inl ⟨rfl, Or.inl rfl⟩)) vc
      · replace vc := vc.2 c39
        refine s_iconst (oe_t64 81 (q := (149, .iconst 1, 1)) rfl) ?_
        refine s_goto (oe_t64 82 (q := (150, .goto 154, 3)) rfl) ?_
        exact s_iret (oe_t64 84 (q := (154, .ireturn, 1)) rfl) (Or.inr (Or.inl ⟨rfl, Or.inr rfl⟩)) vc
  · replace vc := vc.2 c35
    refine s_aload_n (oe_t64 47 (q := (86, .aload_n 0, 1)) rfl) rfl ?_
    obtain ⟨q40, p41, vc⟩ := vc
    refine s_getr (oe_t64 48 (q := (87, .getfield 7231, 3)) rfl) s34 rfl rfl p41 ?_
    refine s_iload (oe_t64 49 (q := (90, .iload 4, 2)) rfl) rfl ?_
    refine s_aload_n (oe_t64 50 (q := (92, .aload_n 0, 1)) rfl) rfl ?_
    obtain ⟨q42, p43, vc⟩ := vc
    refine s_getr (oe_t64 51 (q := (93, .getfield 7431, 3)) rfl) s34 rfl rfl p43 ?_
    refine s_bipush (oe_t64 52 (q := (96, .bipush 32, 2)) rfl) ?_
    refine s_iload_n (oe_t64 53 (q := (98, .iload_n 2, 1)) rfl) rfl ?_
    obtain ⟨r44, vc⟩ := vc
    refine s_imul (oe_t64 54 (q := (99, .imul, 1)) rfl) r44 ?_
    refine s_iload (oe_t64 55 (q := (100, .iload 4, 2)) rfl) rfl ?_
    obtain ⟨r45, vc⟩ := vc
    refine s_iadd (oe_t64 56 (q := (102, .iadd, 1)) rfl) r45 ?_
    obtain ⟨n47, s46, vc⟩ := vc
    obtain ⟨i48, i49, vc⟩ := vc
    refine s_iaload (oe_t64 57 (q := (103, .iaload, 1)) rfl) s46 i48 i49 ?_
    obtain ⟨n51, s50, vc⟩ := vc
    obtain ⟨i52, i53, vc⟩ := vc
    refine t_iastore (oe_t64 58 (q := (104, .iastore, 1)) rfl) s50 i52 i53 (fun h54 e55 => ?_)
    replace vc := vc h54 e55
    refine s_iload_n (oe_t64 59 (q := (105, .iload_n 3, 1)) rfl) rfl ?_
    refine s_if_eq (oe_t64 60 (q := (106, .ifCond .eq 130, 3)) rfl) (fun c56 => ?_) (fun c56 => ?_)
    · replace vc := vc.1 c56
      refine s_iconst (oe_t64 72 (q := (130, .iconst 0, 1)) rfl) ?_
      refine s_istore_n (oe_t64 73 (q := (131, .istore_n 3, 1)) rfl) ?_
      obtain ⟨r57, vc⟩ := vc
      refine s_iinc (oe_t64 74 (q := (132, .iinc 4 1, 3)) rfl) rfl r57 ?_
      refine s_goto (oe_t64 75 (q := (135, .goto 77, 3)) rfl) ?_
      exact oe_V.fg (oe_M_mono _) (show oe_fg [some (.inr (.inl v0)), none, some (.inl v2), some (.inl 0), some (.inl (v4 + 1))] _ from ⟨rfl, ⟨rfl, ⟨rfl, ⟨rfl, trivial⟩⟩⟩⟩) vc
    · replace vc := vc.2 c56
      refine s_aload_n (oe_t64 61 (q := (109, .aload_n 0, 1)) rfl) rfl ?_
      obtain ⟨q58, p59, vc⟩ := vc
      refine s_getr (oe_t64 62 (q := (110, .getfield 7211, 3)) rfl) s34 rfl rfl p59 ?_
      refine s_iload (oe_t64 63 (q := (113, .iload 4, 2)) rfl) rfl ?_
      obtain ⟨n61, s60, vc⟩ := vc
      obtain ⟨i62, i63, vc⟩ := vc
      refine s_iaload (oe_t64 64 (q := (115, .iaload, 1)) rfl) s60 i62 i63 ?_
      refine s_aload_n (oe_t64 65 (q := (116, .aload_n 0, 1)) rfl) rfl ?_
      refine s_getr (oe_t64 66 (q := (117, .getfield 7231, 3)) rfl) s34 rfl rfl p41 ?_
      refine s_iload (oe_t64 67 (q := (120, .iload 4, 2)) rfl) rfl ?_
      obtain ⟨i64, i65, vc⟩ := vc
      refine s_iaload (oe_t64 68 (q := (122, .iaload, 1)) rfl) s50 i64 i65 ?_
      refine s_ic_ne (oe_t64 69 (q := (123, .if_icmp .ne 130, 3)) rfl) (fun c66 => ?_) (fun c66 => ?_)
      · replace vc := vc.1 c66
        refine s_iconst (oe_t64 72 (q := (130, .iconst 0, 1)) rfl) ?_
        refine s_istore_n (oe_t64 73 (q := (131, .istore_n 3, 1)) rfl) ?_
        obtain ⟨r67, vc⟩ := vc
        refine s_iinc (oe_t64 74 (q := (132, .iinc 4 1, 3)) rfl) rfl r67 ?_
        refine s_goto (oe_t64 75 (q := (135, .goto 77, 3)) rfl) ?_
        exact oe_V.fg (oe_M_mono _) (show oe_fg [some (.inr (.inl v0)), none, some (.inl v2), some (.inl 0), some (.inl (v4 + 1))] _ from ⟨rfl, ⟨rfl, ⟨rfl, ⟨rfl, trivial⟩⟩⟩⟩) vc
      · replace vc := vc.2 c66
        refine s_iconst (oe_t64 70 (q := (126, .iconst 1, 1)) rfl) ?_
        refine s_goto (oe_t64 71 (q := (127, .goto 131, 3)) rfl) ?_
        refine s_istore_n (oe_t64 73 (q := (131, .istore_n 3, 1)) rfl) ?_
        obtain ⟨r68, vc⟩ := vc
        refine s_iinc (oe_t64 74 (q := (132, .iinc 4 1, 3)) rfl) rfl r68 ?_
        refine s_goto (oe_t64 75 (q := (135, .goto 77, 3)) rfl) ?_
        exact oe_V.fg (oe_M_mono _) (show oe_fg [some (.inr (.inl v0)), none, some (.inl v2), some (.inl 1), some (.inl (v4 + 1))] _ from ⟨rfl, ⟨rfl, ⟨rfl, ⟨rfl, trivial⟩⟩⟩⟩) vc
theorem oe_u65 : oe_c65.all (fun q => decide (oe_find oe_c65 q.1 = some q.2)) = true := by decide +kernel
theorem oe_t65 (k : Nat) {q : Nat × Jvm.ClassFile.Instr × Nat} (h : oe_c65[k]? = some q) : oe_find (oe_code 65) q.1 = some q.2 := oe_ft oe_u65 h
theorem g65 {d : Nat} {sh : List (Nat × Nat)} {g : Nat → Nat → Option Nat} {h : Nat → Nat → Int} {Q : oeQ} {v0 : Nat} {v1 : Int} {v2 : Int} {v3 : Int} {v4 : Int} {v5 : Int}
    (vc : sh[v0]? = some (12, 45) ∧ ∃ q2, g v0 15 = some q2 ∧ ∃ n5, sh[q2]? = some (0, n5) ∧ 0 ≤ v1 ∧ v1 < (n5 : Nat) ∧ oe_V (oe_cost 65) 65 (oe_M (d + 1)) none Q 11 [some (.inr (.inl v0)), some (.inl v1), some (.inl v2), some (.inl v3), some (.inl v4), some (.inl v5), some (.inl (h q2 (v1 : Int).toNat)), some (.inl 0), none, none, none, none, none, none, none, none, none, none] [] (sh, g, h) 0 0) :
    oe_M (d + 2) 65 [.inr (.inl v0), .inl v1, .inl v2, .inl v3, .inl v4, .inl v5] (sh, g, h) Q := by
  refine oe_M.of (by simp [oe_c1]) (Nat.le_of_ble_eq_true rfl) ?_
  show oe_V (oe_cost 65) 65 (oe_M (d + 1)) none Q 0 [some (.inr (.inl v0)), some (.inl v1), some (.inl v2), some (.inl v3), some (.inl v4), some (.inl v5), none, none, none, none, none, none, none, none, none, none, none, none] [] (sh, g, h) 0 0
  refine s_aload_n (oe_t65 0 (q := (0, .aload_n 0, 1)) rfl) rfl ?_
  obtain ⟨s1, vc⟩ := vc
  obtain ⟨q2, p3, vc⟩ := vc
  refine s_getr (oe_t65 1 (q := (1, .getfield 7151, 3)) rfl) s1 rfl rfl p3 ?_
  refine s_iload_n (oe_t65 2 (q := (4, .iload_n 1, 1)) rfl) rfl ?_
  obtain ⟨n5, s4, vc⟩ := vc
  obtain ⟨i6, i7, vc⟩ := vc
  refine s_iaload (oe_t65 3 (q := (5, .iaload, 1)) rfl) s4 i6 i7 ?_
  refine s_istore (oe_t65 4 (q := (6, .istore 6, 2)) rfl) ?_
  refine s_iconst (oe_t65 5 (q := (8, .iconst 0, 1)) rfl) ?_
  refine s_istore (oe_t65 6 (q := (9, .istore 7, 2)) rfl) ?_
  exact oe_V.fg (oe_M_mono _) (show oe_fg [some (.inr (.inl v0)), some (.inl v1), some (.inl v2), some (.inl v3), some (.inl v4), some (.inl v5), some (.inl (h q2 (v1 : Int).toNat)), some (.inl 0), none, none, none, none, none, none, none, none, none, none] _ from ⟨rfl, ⟨rfl, ⟨rfl, ⟨rfl, ⟨rfl, ⟨rfl, ⟨rfl, ⟨rfl, trivial⟩⟩⟩⟩⟩⟩⟩⟩) vc
theorem g65_11 {d : Nat} {sh : List (Nat × Nat)} {g : Nat → Nat → Option Nat} {h : Nat → Nat → Int} {Q : oeQ} {v0 : Nat} {v1 : Int} {v2 : Int} {v3 : Int} {v4 : Int} {v5 : Int} {v6 : Int} {v7 : Int}
    (vc : (v6 ≤ v7 → oe_V (oe_cost 65) 65 (oe_M (d + 1)) none Q 46 [some (.inr (.inl v0)), some (.inl v1), some (.inl v2), some (.inl v3), some (.inl v4), some (.inl v5), some (.inl v6), some (.inl 0), none, none, none, none, none, none, none, none, none, none] [] (sh, g, h) 0 0) ∧ (v7 < v6 → sh[v0]? = some (12, 45) ∧ ∃ q10, g v0 34 = some q10 ∧ ∃ q12, g v0 13 = some q12 ∧ oe_rg (20 * v1) ∧ oe_rg ((20 * v1) + v7) ∧ ∃ n17, sh[q12]? = some (0, n17) ∧ 0 ≤ ((20 * v1) + v7) ∧ ((20 * v1) + v7) < (n17 : Nat) ∧ ∃ n21, sh[q10]? = some (0, n21) ∧ 0 ≤ v7 ∧ v7 < (n21 : Nat) ∧ ∀ h24, h24 = oe_up h q10 (v7 : Int).toNat (h q12 (((20 * v1) + v7) : Int).toNat) → oe_rg (v7 + 1) ∧ oe_V (oe_cost 65) 65 (oe_M (d + 1)) none Q 11 [some (.inr (.inl v0)), some (.inl v1), some (.inl v2), some (.inl v3), some (.inl v4), some (.inl v5), some (.inl v6), some (.inl (v7 + 1)), none, none, none, none, none, none, none, none, none, none] [] (sh, g, h24) 0 0)) :
    oe_V (oe_cost 65) 65 (oe_M (d + 1)) none Q 11 [some (.inr (.inl v0)), some (.inl v1), some (.inl v2), some (.inl v3), some (.inl v4), some (.inl v5), some (.inl v6), some (.inl v7), none, none, none, none, none, none, none, none, none, none] [] (sh, g, h) 0 0 := by
  refine s_iload (oe_t65 7 (q := (11, .iload 7, 2)) rfl) rfl ?_
  refine s_iload (oe_t65 8 (q := (13, .iload 6, 2)) rfl) rfl ?_
  refine s_ic_ge (oe_t65 9 (q := (15, .if_icmp .ge 43, 3)) rfl) (fun c8 => ?_) (fun c8 => ?_)
  · replace vc := vc.1 c8
    refine s_iconst (oe_t65 24 (q := (43, .iconst 0, 1)) rfl) ?_
    refine s_istore (oe_t65 25 (q := (44, .istore 7, 2)) rfl) ?_
    exact oe_V.fg (oe_M_mono _) (show oe_fg [some (.inr (.inl v0)), some (.inl v1), some (.inl v2), some (.inl v3), some (.inl v4), some (.inl v5), some (.inl v6), some (.inl 0), none, none, none, none, none, none, none, none, none, none] _ from ⟨rfl, ⟨rfl, ⟨rfl, ⟨rfl, ⟨rfl, ⟨rfl, ⟨rfl, ⟨rfl, trivial⟩⟩⟩⟩⟩⟩⟩⟩) vc
  · replace vc := vc.2 c8
    refine s_aload_n (oe_t65 10 (q := (18, .aload_n 0, 1)) rfl) rfl ?_
    obtain ⟨s9, vc⟩ := vc
    obtain ⟨q10, p11, vc⟩ := vc
    refine s_getr (oe_t65 11 (q := (19, .getfield 7341, 3)) rfl) s9 rfl rfl p11 ?_
    refine s_iload (oe_t65 12 (q := (22, .iload 7, 2)) rfl) rfl ?_
    refine s_aload_n (oe_t65 13 (q := (24, .aload_n 0, 1)) rfl) rfl ?_
    obtain ⟨q12, p13, vc⟩ := vc
    refine s_getr (oe_t65 14 (q := (25, .getfield 7131, 3)) rfl) s9 rfl rfl p13 ?_
    refine s_bipush (oe_t65 15 (q := (28, .bipush 20, 2)) rfl) ?_
    refine s_iload_n (oe_t65 16 (q := (30, .iload_n 1, 1)) rfl) rfl ?_
    obtain ⟨r14, vc⟩ := vc
    refine s_imul (oe_t65 17 (q := (31, .imul, 1)) rfl) r14 ?_
    refine s_iload (oe_t65 18 (q := (32, .iload 7, 2)) rfl) rfl ?_
    obtain ⟨r15, vc⟩ := vc
    refine s_iadd (oe_t65 19 (q := (34, .iadd, 1)) rfl) r15 ?_
    obtain ⟨n17, s16, vc⟩ := vc
    obtain ⟨i18, i19, vc⟩ := vc
    refine s_iaload (oe_t65 20 (q := (35, .iaload, 1)) rfl) s16 i18 i19 ?_
    obtain ⟨n21, s20, vc⟩ := vc
    obtain ⟨i22, i23, vc⟩ := vc
    refine t_iastore (oe_t65 21 (q := (36, .iastore, 1)) rfl) s20 i22 i23 (fun h24 e25 => ?_)
    replace vc := vc h24 e25
    obtain ⟨r26, vc⟩ := vc
    refine s_iinc (oe_t65 22 (q := (37, .iinc 7 1, 3)) rfl) rfl r26 ?_
    refine s_goto (oe_t65 23 (q := (40, .goto 11, 3)) rfl) ?_
    exact oe_V.fg (oe_M_mono _) (show oe_fg [some (.inr (.inl v0)), some (.inl v1), some (.inl v2), some (.inl v3), some (.inl v4), some (.inl v5), some (.inl v6), some (.inl (v7 + 1)), none, none, none, none, none, none, none, none, none, none] _ from ⟨rfl, ⟨rfl, ⟨rfl, ⟨rfl, ⟨rfl, ⟨rfl, ⟨rfl, ⟨rfl, trivial⟩⟩⟩⟩⟩⟩⟩⟩) vc
theorem g65_46 {d : Nat} {sh : List (Nat × Nat)} {g : Nat → Nat → Option Nat} {h : Nat → Nat → Int} {Q : oeQ} {v0 : Nat} {v1 : Int} {v2 : Int} {v3 : Int} {v4 : Int} {v5 : Int} {v6 : Int} {v7 : Int}
    (vc : sh[v0]? = some (12, 45) ∧ ∃ q28, g v0 15 = some q28 ∧ ∃ n31, sh[q28]? = some (0, n31) ∧ 0 ≤ v2 ∧ v2 < (n31 : Nat) ∧ ((h q28 (v2 : Int).toNat) ≤ v7 → (v3 = 0 → ∃ q36, g v0 14 = some q36 ∧ ∃ n39, sh[q36]? = some (0, n39) ∧ 0 ≤ v1 ∧ v1 < (n39 : Nat) ∧ oe_V (oe_cost 65) 65 (oe_M (d + 1)) none Q 119 [some (.inr (.inl v0)), some (.inl v1), some (.inl v2), some (.inl v3), some (.inl v4), some (.inl v5), some (.inl v6), none, none, none, none, none, none, none, none, none, none, none] [.inl (h q36 (v1 : Int).toNat)] (sh, g, h) 0 0) ∧ (v3 ≠ 0 → oe_V (oe_cost 65) 65 (oe_M (d + 1)) none Q 119 [some (.inr (.inl v0)), some (.inl v1), some (.inl v2), some (.inl v3), some (.inl v4), some (.inl v5), some (.inl v6), none, none, none, none, none, none, none, none, none, none, none] [.inl 0] (sh, g, h) 0 0)) ∧ (v7 < (h q28 (v2 : Int).toNat) → ∃ q42, g v0 13 = some q42 ∧ oe_rg (20 * v2) ∧ oe_rg ((20 * v2) + v7) ∧ ∃ n47, sh[q42]? = some (0, n47) ∧ 0 ≤ ((20 * v2) + v7) ∧ ((20 * v2) + v7) < (n47 : Nat) ∧ ∃ q50, g v0 34 = some q50 ∧ oe_rg (v6 + v7) ∧ ((h q42 (((20 * v2) + v7) : Int).toNat) < 20 → oe_rg ((h q42 (((20 * v2) + v7) : Int).toNat) + 6) ∧ ∃ n56, sh[q50]? = some (0, n56) ∧ 0 ≤ (v6 + v7) ∧ (v6 + v7) < (n56 : Nat) ∧ ∀ h59, h59 = oe_up h q50 ((v6 + v7) : Int).toNat ((h q42 (((20 * v2) + v7) : Int).toNat) + 6) → oe_rg (v7 + 1) ∧ oe_V (oe_cost 65) 65 (oe_M (d + 1)) none Q 46 [some (.inr (.inl v0)), some (.inl v1), some (.inl v2), some (.inl v3), some (.inl v4), some (.inl v5), some (.inl v6), some (.inl (v7 + 1)), none, none, none, none, none, none, none, none, none, none] [] (sh, g, h59) 0 0) ∧ (20 ≤ (h q42 (((20 * v2) + v7) : Int).toNat) → ∃ n63, sh[q50]? = some (0, n63) ∧ 0 ≤ (v6 + v7) ∧ (v6 + v7) < (n63 : Nat) ∧ ∀ h66, h66 = oe_up h q50 ((v6 + v7) : Int).toNat (h q42 (((20 * v2) + v7) : Int).toNat) → oe_rg (v7 + 1) ∧ oe_V (oe_cost 65) 65 (oe_M (d + 1)) none Q 46 [some (.inr (.inl v0)), some (.inl v1), some (.inl v2), some (.inl v3), some (.inl v4), some (.inl v5), some (.inl v6), some (.inl (v7 + 1)), none, none, none, none, none, none, none, none, none, none] [] (sh, g, h66) 0 0))) :
    oe_V (oe_cost 65) 65 (oe_M (d + 1)) none Q 46 [some (.inr (.inl v0)), some (.inl v1), some (.inl v2), some (.inl v3), some (.inl v4), some (.inl v5), some (.inl v6), some (.inl v7), none, none, none, none, none, none, none, none, none, none] [] (sh, g, h) 0 0 := by
  refine s_iload (oe_t65 26 (q := (46, .iload 7, 2)) rfl) rfl ?_
  refine s_aload_n (oe_t65 27 (q := (48, .aload_n 0, 1)) rfl) rfl ?_
  obtain ⟨s27, vc⟩ := vc
  obtain ⟨q28, p29, vc⟩ := vc
  refine s_getr (oe_t65 28 (q := (49, .getfield 7151, 3)) rfl) s27 rfl rfl p29 ?_
  refine s_iload_n (oe_t65 29 (q := (52, .iload_n 2, 1)) rfl) rfl ?_
  obtain ⟨n31, s30, vc⟩ := vc
  obtain ⟨i32, i33, vc⟩ := vc
  refine s_iaload (oe_t65 30 (q := (53, .iaload, 1)) rfl) s30 i32 i33 ?_
  refine s_ic_ge (oe_t65 31 (q := (54, .if_icmp .ge 105, 3)) rfl) (fun c34 => ?_) (fun c34 => ?_)
  · replace vc := vc.1 c34
    refine s_iload_n (oe_t65 57 (q := (105, .iload_n 3, 1)) rfl) rfl ?_
    refine s_if_eq (oe_t65 58 (q := (106, .ifCond .eq 113, 3)) rfl) (fun c35 => ?_) (fun c35 => ?_)
    · replace vc := vc.1 c35
      refine s_aload_n (oe_t65 61 (q := (113, .aload_n 0, 1)) rfl) rfl ?_
      obtain ⟨q36, p37, vc⟩ := vc
      refine s_getr (oe_t65 62 (q := (114, .getfield 7141, 3)) rfl) s27 rfl rfl p37 ?_
      refine s_iload_n (oe_t65 63 (q := (117, .iload_n 1, 1)) rfl) rfl ?_
      obtain ⟨n39, s38, vc⟩ := vc
      obtain ⟨i40, i41, vc⟩ := vc
      refine s_iaload (oe_t65 64 (q := (118, .iaload, 1)) rfl) s38 i40 i41 ?_
      exact oe_V.fg (oe_M_mono _) (show oe_fg [some (.inr (.inl v0)), some (.inl v1), some (.inl v2), some (.inl v3), some (.inl v4), some (.inl v5), some (.inl v6), none, none, none, none, none, none, none, none, none, none, none] _ from ⟨rfl, ⟨rfl, ⟨rfl, ⟨rfl, ⟨rfl, ⟨rfl, ⟨rfl, trivial⟩⟩⟩⟩⟩⟩⟩) vc
    · replace vc := vc.2 c35
      refine s_iconst (oe_t65 59 (q := (109, .iconst 0, 1)) rfl) ?_
      refine s_goto (oe_t65 60 (q := (110, .goto 119, 3)) rfl) ?_
      exact oe_V.fg (oe_M_mono _) (show oe_fg [some (.inr (.inl v0)), some (.inl v1), some (.inl v2), some (.inl v3), some (.inl v4), some (.inl v5), some (.inl v6), none, none, none, none, none, none, none, none, none, none, none] _ from ⟨rfl, ⟨rfl, ⟨rfl, ⟨rfl, ⟨rfl, ⟨rfl, ⟨rfl, trivial⟩⟩⟩⟩⟩⟩⟩) vc
  · replace vc := vc.2 c34
    refine s_aload_n (oe_t65 32 (q := (57, .aload_n 0, 1)) rfl) rfl ?_
    obtain ⟨q42, p43, vc⟩ := vc
    refine s_getr (oe_t65 33 (q := (58, .getfield 7131, 3)) rfl) s27 rfl rfl p43 ?_
    refine s_bipush (oe_t65 34 (q := (61, .bipush 20, 2)) rfl) ?_
    refine s_iload_n (oe_t65 35 (q := (63, .iload_n 2, 1)) rfl) rfl ?_
    obtain ⟨r44, vc⟩ := vc
    refine s_imul (oe_t65 36 (q := (64, .imul, 1)) rfl) r44 ?_
    refine s_iload (oe_t65 37 (q := (65, .iload 7, 2)) rfl) rfl ?_
    obtain ⟨r45, vc⟩ := vc
    refine s_iadd (oe_t65 38 (q := (67, .iadd, 1)) rfl) r45 ?_
    obtain ⟨n47, s46, vc⟩ := vc
    obtain ⟨i48, i49, vc⟩ := vc
    refine s_iaload (oe_t65 39 (q := (68, .iaload, 1)) rfl) s46 i48 i49 ?_
    refine s_istore (oe_t65 40 (q := (69, .istore 8, 2)) rfl) ?_
    refine s_aload_n (oe_t65 41 (q := (71, .aload_n 0, 1)) rfl) rfl ?_
    obtain ⟨q50, p51, vc⟩ := vc
    refine s_getr (oe_t65 42 (q := (72, .getfield 7341, 3)) rfl) s27 rfl rfl p51 ?_
    refine s_iload (oe_t65 43 (q := (75, .iload 6, 2)) rfl) rfl ?_
    refine s_iload (oe_t65 44 (q := (77, .iload 7, 2)) rfl) rfl ?_
    obtain ⟨r52, vc⟩ := vc
    refine s_iadd (oe_t65 45 (q := (79, .iadd, 1)) rfl) r52 ?_
    refine s_iload (oe_t65 46 (q := (80, .iload 8, 2)) rfl) rfl ?_
    refine s_calls (oe_t65 47 (q := (82, .invokestatic 35071, 3)) rfl) (by decide) (Nat.le_of_ble_eq_true rfl) (Nat.le_of_ble_eq_true rfl) (Nat.le_of_ble_eq_true rfl) (Nat.le_of_ble_eq_true rfl) (sp_35 (fun c53 => ?_) (fun c53 => ?_))
    · replace vc := vc.1 c53
      show oe_V (oe_cost 65) 65 (oe_M (d + 1)) none Q 85 [some (.inr (.inl v0)), some (.inl v1), some (.inl v2), some (.inl v3), some (.inl v4), some (.inl v5), some (.inl v6), some (.inl v7), some (.inl (h q42 (((20 * v2) + v7) : Int).toNat)), none, none, none, none, none, none, none, none, none] [.inl 1, .inl (v6 + v7), .inr (.inl q50)] (sh, g, h) 0 0
      refine s_if_eq (oe_t65 48 (q := (85, .ifCond .eq 96, 3)) rfl) (fun q => absurd q (by decide)) (fun _ => ?_)
      refine s_iload (oe_t65 49 (q := (88, .iload 8, 2)) rfl) rfl ?_
      refine s_bipush (oe_t65 50 (q := (90, .bipush 6, 2)) rfl) ?_
      obtain ⟨r54, vc⟩ := vc
      refine s_iadd (oe_t65 51 (q := (92, .iadd, 1)) rfl) r54 ?_
      refine s_goto (oe_t65 52 (q := (93, .goto 98, 3)) rfl) ?_
      obtain ⟨n56, s55, vc⟩ := vc
      obtain ⟨i57, i58, vc⟩ := vc
      refine t_iastore (oe_t65 54 (q := (98, .iastore, 1)) rfl) s55 i57 i58 (fun h59 e60 => ?_)
      replace vc := vc h59 e60
      obtain ⟨r61, vc⟩ := vc
      refine s_iinc (oe_t65 55 (q := (99, .iinc 7 1, 3)) rfl) rfl r61 ?_
      refine s_goto (oe_t65 56 (q := (102, .goto 46, 3)) rfl) ?_
      exact oe_V.fg (oe_M_mono _) (show oe_fg [some (.inr (.inl v0)), some (.inl v1), some (.inl v2), some (.inl v3), some (.inl v4), some (.inl v5), some (.inl v6), some (.inl (v7 + 1)), none, none, none, none, none, none, none, none, none, none] _ from ⟨rfl, ⟨rfl, ⟨rfl, ⟨rfl, ⟨rfl, ⟨rfl, ⟨rfl, ⟨rfl, trivial⟩⟩⟩⟩⟩⟩⟩⟩) vc
    · replace vc := vc.2 c53
      show oe_V (oe_cost 65) 65 (oe_M (d + 1)) none Q 85 [some (.inr (.inl v0)), some (.inl v1), some (.inl v2), some (.inl v3), some (.inl v4), some (.inl v5), some (.inl v6), some (.inl v7), some (.inl (h q42 (((20 * v2) + v7) : Int).toNat)), none, none, none, none, none, none, none, none, none] [.inl 0, .inl (v6 + v7), .inr (.inl q50)] (sh, g, h) 0 0
      refine s_if_eq (oe_t65 48 (q := (85, .ifCond .eq 96, 3)) rfl) (fun _ => ?_) (fun q => absurd q (by decide))
      refine s_iload (oe_t65 53 (q := (96, .iload 8, 2)) rfl) rfl ?_
      obtain ⟨n63, s62, vc⟩ := vc
      obtain ⟨i64, i65, vc⟩ := vc
      refine t_iastore (oe_t65 54 (q := (98, .iastore, 1)) rfl) s62 i64 i65 (fun h66 e67 => ?_)
      replace vc := vc h66 e67
      obtain ⟨r68, vc⟩ := vc
      refine s_iinc (oe_t65 55 (q := (99, .iinc 7 1, 3)) rfl) rfl r68 ?_
      refine s_goto (oe_t65 56 (q := (102, .goto 46, 3)) rfl) ?_
      exact oe_V.fg (oe_M_mono _) (show oe_fg [some (.inr (.inl v0)), some (.inl v1), some (.inl v2), some (.inl v3), some (.inl v4), some (.inl v5), some (.inl v6), some (.inl (v7 + 1)), none, none, none, none, none, none, none, none, none, none] _ from ⟨rfl, ⟨rfl, ⟨rfl, ⟨rfl, ⟨rfl, ⟨rfl, ⟨rfl, ⟨rfl, trivial⟩⟩⟩⟩⟩⟩⟩⟩) vc
theorem g65_119 {d : Nat} {sh : List (Nat × Nat)} {g : Nat → Nat → Option Nat} {h : Nat → Nat → Int} {Q : oeQ} {v0 : Nat} {v1 : Int} {v2 : Int} {v3 : Int} {v4 : Int} {v5 : Int} {v6 : Int} {w0 : Int}
    (vc : (v3 = 0 → (v3 = 0 → (v3 = 0 → sh[v0]? = some (12, 45) ∧ ∃ q73, g v0 14 = some q73 ∧ ∃ n76, sh[q73]? = some (0, n76) ∧ 0 ≤ v1 ∧ v1 < (n76 : Nat) ∧ oe_V (oe_cost 65) 65 (oe_M (d + 1)) none Q 169 [some (.inr (.inl v0)), none, some (.inl v2), none, some (.inl v4), some (.inl v5), some (.inl v6), some (.inl w0), some (.inl v6), some (.inl 0), none, none, none, none, none, none, none, none] [.inl (h q73 (v1 : Int).toNat)] (sh, g, h) 0 0) ∧ (v3 ≠ 0 → oe_V (oe_cost 65) 65 (oe_M (d + 1)) none Q 169 [some (.inr (.inl v0)), none, some (.inl v2), none, some (.inl v4), some (.inl v5), some (.inl v6), some (.inl w0), some (.inl v6), some (.inl 0), none, none, none, none, none, none, none, none] [.inl v6] (sh, g, h) 0 0)) ∧ (v3 ≠ 0 → sh[v0]? = some (12, 45) ∧ ∃ q80, g v0 14 = some q80 ∧ ∃ n83, sh[q80]? = some (0, n83) ∧ 0 ≤ v1 ∧ v1 < (n83 : Nat) ∧ (v3 = 0 → 0 ≤ v1 ∧ v1 < (n83 : Nat) ∧ oe_V (oe_cost 65) 65 (oe_M (d + 1)) none Q 169 [some (.inr (.inl v0)), none, some (.inl v2), none, some (.inl v4), some (.inl v5), some (.inl v6), some (.inl w0), some (.inl v6), some (.inl (h q80 (v1 : Int).toNat)), none, none, none, none, none, none, none, none] [.inl (h q80 (v1 : Int).toNat)] (sh, g, h) 0 0) ∧ (v3 ≠ 0 → oe_V (oe_cost 65) 65 (oe_M (d + 1)) none Q 169 [some (.inr (.inl v0)), none, some (.inl v2), none, some (.inl v4), some (.inl v5), some (.inl v6), some (.inl w0), some (.inl v6), some (.inl (h q80 (v1 : Int).toNat)), none, none, none, none, none, none, none, none] [.inl v6] (sh, g, h) 0 0))) ∧ (v3 ≠ 0 → sh[v0]? = some (12, 45) ∧ ∃ q90, g v0 14 = some q90 ∧ ∃ n93, sh[q90]? = some (0, n93) ∧ 0 ≤ v1 ∧ v1 < (n93 : Nat) ∧ (v3 = 0 → (v3 = 0 → 0 ≤ v1 ∧ v1 < (n93 : Nat) ∧ oe_V (oe_cost 65) 65 (oe_M (d + 1)) none Q 169 [some (.inr (.inl v0)), none, some (.inl v2), none, some (.inl v4), some (.inl v5), some (.inl v6), some (.inl w0), some (.inl (h q90 (v1 : Int).toNat)), some (.inl 0), none, none, none, none, none, none, none, none] [.inl (h q90 (v1 : Int).toNat)] (sh, g, h) 0 0) ∧ (v3 ≠ 0 → oe_V (oe_cost 65) 65 (oe_M (d + 1)) none Q 169 [some (.inr (.inl v0)), none, some (.inl v2), none, some (.inl v4), some (.inl v5), some (.inl v6), some (.inl w0), some (.inl (h q90 (v1 : Int).toNat)), some (.inl 0), none, none, none, none, none, none, none, none] [.inl v6] (sh, g, h) 0 0)) ∧ (v3 ≠ 0 → 0 ≤ v1 ∧ v1 < (n93 : Nat) ∧ (v3 = 0 → 0 ≤ v1 ∧ v1 < (n93 : Nat) ∧ oe_V (oe_cost 65) 65 (oe_M (d + 1)) none Q 169 [some (.inr (.inl v0)), none, some (.inl v2), none, some (.inl v4), some (.inl v5), some (.inl v6), some (.inl w0), some (.inl (h q90 (v1 : Int).toNat)), some (.inl (h q90 (v1 : Int).toNat)), none, none, none, none, none, none, none, none] [.inl (h q90 (v1 : Int).toNat)] (sh, g, h) 0 0) ∧ (v3 ≠ 0 → oe_V (oe_cost 65) 65 (oe_M (d + 1)) none Q 169 [some (.inr (.inl v0)), none, some (.inl v2), none, some (.inl v4), some (.inl v5), some (.inl v6), some (.inl w0), some (.inl (h q90 (v1 : Int).toNat)), some (.inl (h q90 (v1 : Int).toNat)), none, none, none, none, none, none, none, none] [.inl v6] (sh, g, h) 0 0)))) :
    oe_V (oe_cost 65) 65 (oe_M (d + 1)) none Q 119 [some (.inr (.inl v0)), some (.inl v1), some (.inl v2), some (.inl v3), some (.inl v4), some (.inl v5), some (.inl v6), none, none, none, none, none, none, none, none, none, none, none] [.inl w0] (sh, g, h) 0 0 := by
  refine s_istore (oe_t65 65 (q := (119, .istore 7, 2)) rfl) ?_
  refine s_iload_n (oe_t65 66 (q := (121, .iload_n 3, 1)) rfl) rfl ?_
  refine s_if_eq (oe_t65 67 (q := (122, .ifCond .eq 134, 3)) rfl) (fun c69 => ?_) (fun c69 => ?_)
  · replace vc := vc.1 c69
    refine s_iload (oe_t65 73 (q := (134, .iload 6, 2)) rfl) rfl ?_
    refine s_istore (oe_t65 74 (q := (136, .istore 8, 2)) rfl) ?_
    refine s_iload_n (oe_t65 75 (q := (138, .iload_n 3, 1)) rfl) rfl ?_
    refine s_if_eq (oe_t65 76 (q := (139, .ifCond .eq 151, 3)) rfl) (fun c70 => ?_) (fun c70 => ?_)
    · replace vc := vc.1 c70
      refine s_iconst (oe_t65 82 (q := (151, .iconst 0, 1)) rfl) ?_
      refine s_istore (oe_t65 83 (q := (152, .istore 9, 2)) rfl) ?_
      refine s_iload_n (oe_t65 84 (q := (154, .iload_n 3, 1)) rfl) rfl ?_
      refine s_if_eq (oe_t65 85 (q := (155, .ifCond .eq 163, 3)) rfl) (fun c71 => ?_) (fun c71 => ?_)
      · replace vc := vc.1 c71
        refine s_aload_n (oe_t65 88 (q := (163, .aload_n 0, 1)) rfl) rfl ?_
        obtain ⟨s72, vc⟩ := vc
        obtain ⟨q73, p74, vc⟩ := vc
        refine s_getr (oe_t65 89 (q := (164, .getfield 7141, 3)) rfl) s72 rfl rfl p74 ?_
        refine s_iload_n (oe_t65 90 (q := (167, .iload_n 1, 1)) rfl) rfl ?_
        obtain ⟨n76, s75, vc⟩ := vc
        obtain ⟨i77, i78, vc⟩ := vc
        refine s_iaload (oe_t65 91 (q := (168, .iaload, 1)) rfl) s75 i77 i78 ?_
        exact oe_V.fg (oe_M_mono _) (show oe_fg [some (.inr (.inl v0)), none, some (.inl v2), none, some (.inl v4), some (.inl v5), some (.inl v6), some (.inl w0), some (.inl v6), some (.inl 0), none, none, none, none, none, none, none, none] _ from ⟨rfl, ⟨rfl, ⟨rfl, ⟨rfl, ⟨rfl, ⟨rfl, ⟨rfl, ⟨rfl, trivial⟩⟩⟩⟩⟩⟩⟩⟩) vc
      · replace vc := vc.2 c71
        refine s_iload (oe_t65 86 (q := (158, .iload 6, 2)) rfl) rfl ?_
        refine s_goto (oe_t65 87 (q := (160, .goto 169, 3)) rfl) ?_
        exact oe_V.fg (oe_M_mono _) (show oe_fg [some (.inr (.inl v0)), none, some (.inl v2), none, some (.inl v4), some (.inl v5), some (.inl v6), some (.inl w0), some (.inl v6), some (.inl 0), none, none, none, none, none, none, none, none] _ from ⟨rfl, ⟨rfl, ⟨rfl, ⟨rfl, ⟨rfl, ⟨rfl, ⟨rfl, ⟨rfl, trivial⟩⟩⟩⟩⟩⟩⟩⟩) vc
    · replace vc := vc.2 c70
      refine s_aload_n (oe_t65 77 (q := (142, .aload_n 0, 1)) rfl) rfl ?_
      obtain ⟨s79, vc⟩ := vc
      obtain ⟨q80, p81, vc⟩ := vc
      refine s_getr (oe_t65 78 (q := (143, .getfield 7141, 3)) rfl) s79 rfl rfl p81 ?_
      refine s_iload_n (oe_t65 79 (q := (146, .iload_n 1, 1)) rfl) rfl ?_
      obtain ⟨n83, s82, vc⟩ := vc
      obtain ⟨i84, i85, vc⟩ := vc
      refine s_iaload (oe_t65 80 (q := (147, .iaload, 1)) rfl) s82 i84 i85 ?_
      refine s_goto (oe_t65 81 (q := (148, .goto 152, 3)) rfl) ?_
      refine s_istore (oe_t65 83 (q := (152, .istore 9, 2)) rfl) ?_
      refine s_iload_n (oe_t65 84 (q := (154, .iload_n 3, 1)) rfl) rfl ?_
      refine s_if_eq (oe_t65 85 (q := (155, .ifCond .eq 163, 3)) rfl) (fun c86 => ?_) (fun c86 => ?_)
      · replace vc := vc.1 c86
        refine s_aload_n (oe_t65 88 (q := (163, .aload_n 0, 1)) rfl) rfl ?_
        refine s_getr (oe_t65 89 (q := (164, .getfield 7141, 3)) rfl) s79 rfl rfl p81 ?_
        refine s_iload_n (oe_t65 90 (q := (167, .iload_n 1, 1)) rfl) rfl ?_
        obtain ⟨i87, i88, vc⟩ := vc
        refine s_iaload (oe_t65 91 (q := (168, .iaload, 1)) rfl) s82 i87 i88 ?_
        exact oe_V.fg (oe_M_mono _) (show oe_fg [some (.inr (.inl v0)), none, some (.inl v2), none, some (.inl v4), some (.inl v5), some (.inl v6), some (.inl w0), some (.inl v6), some (.inl (h q80 (v1 : Int).toNat)), none, none, none, none, none, none, none, none] _ from ⟨rfl, ⟨rfl, ⟨rfl, ⟨rfl, ⟨rfl, ⟨rfl, ⟨rfl, ⟨rfl, trivial⟩⟩⟩⟩⟩⟩⟩⟩) vc
      · replace vc := vc.2 c86
        refine s_iload (oe_t65 86 (q := (158, .iload 6, 2)) rfl) rfl ?_
        refine s_goto (oe_t65 87 (q := (160, .goto 169, 3)) rfl) ?_
        exact oe_V.fg (oe_M_mono _) (show oe_fg [some (.inr (.inl v0)), none, some (.inl v2), none, some (.inl v4), some (.inl v5), some (.inl v6), some (.inl w0), some (.inl v6), some (.inl (h q80 (v1 : Int).toNat)), none, none, none, none, none, none, none, none] _ from ⟨rfl, ⟨rfl, ⟨rfl, ⟨rfl, ⟨rfl, ⟨rfl, ⟨rfl, ⟨rfl, trivial⟩⟩⟩⟩⟩⟩⟩⟩) vc
  · replace vc := vc.2 c69
    refine s_aload_n (oe_t65 68 (q := (125, .aload_n 0, 1)) rfl) rfl ?_
    obtain ⟨s89, vc⟩ := vc
    obtain ⟨q90, p91, vc⟩ := vc
    refine s_getr (oe_t65 69 (q := (126, .getfield 7141, 3)) rfl) s89 rfl rfl p91 ?_
    refine s_iload_n (oe_t65 70 (q := (129, .iload_n 1, 1)) rfl) rfl ?_
    obtain ⟨n93, s92, vc⟩ := vc
    obtain ⟨i94, i95, vc⟩ := vc
    refine s_iaload (oe_t65 71 (q := (130, .iaload, 1)) rfl) s92 i94 i95 ?_
    refine s_goto (oe_t65 72 (q := (131, .goto 136, 3)) rfl) ?_
    refine s_istore (oe_t65 74 (q := (136, .istore 8, 2)) rfl) ?_
    refine s_iload_n (oe_t65 75 (q := (138, .iload_n 3, 1)) rfl) rfl ?_
    refine s_if_eq (oe_t65 76 (q := (139, .ifCond .eq 151, 3)) rfl) (fun c96 => ?_) (fun c96 => ?_)
    · replace vc := vc.1 c96
      refine s_iconst (oe_t65 82 (q := (151, .iconst 0, 1)) rfl) ?_
      refine s_istore (oe_t65 83 (q := (152, .istore 9, 2)) rfl) ?_
      refine s_iload_n (oe_t65 84 (q := (154, .iload_n 3, 1)) rfl) rfl ?_
      refine s_if_eq (oe_t65 85 (q := (155, .ifCond .eq 163, 3)) rfl) (fun c97 => ?_) (fun c97 => ?_)
      · replace vc := vc.1 c97
        refine s_aload_n (oe_t65 88 (q := (163, .aload_n 0, 1)) rfl) rfl ?_
        refine s_getr (oe_t65 89 (q := (164, .getfield 7141, 3)) rfl) s89 rfl rfl p91 ?_
        refine s_iload_n (oe_t65 90 (q := (167, .iload_n 1, 1)) rfl) rfl ?_
        obtain ⟨i98, i99, vc⟩ := vc
        refine s_iaload (oe_t65 91 (q := (168, .iaload, 1)) rfl) s92 i98 i99 ?_
        exact oe_V.fg (oe_M_mono _) (show oe_fg [some (.inr (.inl v0)), none, some (.inl v2), none, some (.inl v4), some (.inl v5), some (.inl v6), some (.inl w0), some (.inl (h q90 (v1 : Int).toNat)), some (.inl 0), none, none, none, none, none, none, none, none] _ from ⟨rfl, ⟨rfl, ⟨rfl, ⟨rfl, ⟨rfl, ⟨rfl, ⟨rfl, ⟨rfl, trivial⟩⟩⟩⟩⟩⟩⟩⟩) vc
      · replace vc := vc.2 c97
        refine s_iload (oe_t65 86 (q := (158, .iload 6, 2)) rfl) rfl ?_
        refine s_goto (oe_t65 87 (q := (160, .goto 169, 3)) rfl) ?_
        exact oe_V.fg (oe_M_mono _) (show oe_fg [some (.inr (.inl v0)), none, some (.inl v2), none, some (.inl v4), some (.inl v5), some (.inl v6), some (.inl w0), some (.inl (h q90 (v1 : Int).toNat)), some (.inl 0), none, none, none, none, none, none, none, none] _ from ⟨rfl, ⟨rfl, ⟨rfl, ⟨rfl, ⟨rfl, ⟨rfl, ⟨rfl, ⟨rfl, trivial⟩⟩⟩⟩⟩⟩⟩⟩) vc
    · replace vc := vc.2 c96
      refine s_aload_n (oe_t65 77 (q := (142, .aload_n 0, 1)) rfl) rfl ?_
      refine s_getr (oe_t65 78 (q := (143, .getfield 7141, 3)) rfl) s89 rfl rfl p91 ?_
      refine s_iload_n (oe_t65 79 (q := (146, .iload_n 1, 1)) rfl) rfl ?_
      obtain ⟨i100, i101, vc⟩ := vc
      refine s_iaload (oe_t65 80 (q := (147, .iaload, 1)) rfl) s92 i100 i101 ?_
      refine s_goto (oe_t65 81 (q := (148, .goto 152, 3)) rfl) ?_
      refine s_istore (oe_t65 83 (q := (152, .istore 9, 2)) rfl) ?_
      refine s_iload_n (oe_t65 84 (q := (154, .iload_n 3, 1)) rfl) rfl ?_
      refine s_if_eq (oe_t65 85 (q := (155, .ifCond .eq 163, 3)) rfl) (fun c102 => ?_) (fun c102 => ?_)
      · replace vc := vc.1 c102
        refine s_aload_n (oe_t65 88 (q := (163, .aload_n 0, 1)) rfl) rfl ?_
        refine s_getr (oe_t65 89 (q := (164, .getfield 7141, 3)) rfl) s89 rfl rfl p91 ?_
        refine s_iload_n (oe_t65 90 (q := (167, .iload_n 1, 1)) rfl) rfl ?_
        obtain ⟨i103, i104, vc⟩ := vc
        refine s_iaload (oe_t65 91 (q := (168, .iaload, 1)) rfl) s92 i103 i104 ?_
        exact oe_V.fg (oe_M_mono _) (show oe_fg [some (.inr (.inl v0)), none, some (.inl v2), none, some (.inl v4), some (.inl v5), some (.inl v6), some (.inl w0), some (.inl (h q90 (v1 : Int).toNat)), some (.inl (h q90 (v1 : Int).toNat)), none, none, none, none, none, none, none, none] _ from ⟨rfl, ⟨rfl, ⟨rfl, ⟨rfl, ⟨rfl, ⟨rfl, ⟨rfl, ⟨rfl, trivial⟩⟩⟩⟩⟩⟩⟩⟩) vc
      · replace vc := vc.2 c102
        refine s_iload (oe_t65 86 (q := (158, .iload 6, 2)) rfl) rfl ?_
        refine s_goto (oe_t65 87 (q := (160, .goto 169, 3)) rfl) ?_
        exact oe_V.fg (oe_M_mono _) (show oe_fg [some (.inr (.inl v0)), none, some (.inl v2), none, some (.inl v4), some (.inl v5), some (.inl v6), some (.inl w0), some (.inl (h q90 (v1 : Int).toNat)), some (.inl (h q90 (v1 : Int).toNat)), none, none, none, none, none, none, none, none] _ from ⟨rfl, ⟨rfl, ⟨rfl, ⟨rfl, ⟨rfl, ⟨rfl, ⟨rfl, ⟨rfl, trivial⟩⟩⟩⟩⟩⟩⟩⟩) vc
theorem g65_169 {d : Nat} {sh : List (Nat × Nat)} {g : Nat → Nat → Option Nat} {h : Nat → Nat → Int} {Q : oeQ} {v0 : Nat} {v2 : Int} {v4 : Int} {v5 : Int} {v6 : Int} {v7 : Int} {v8 : Int} {v9 : Int} {w0 : Int}
    (vc : (v4 = 0 → sh[v0]? = some (12, 45) ∧ ∃ q107, g v0 14 = some q107 ∧ ∃ n110, sh[q107]? = some (0, n110) ∧ 0 ≤ v2 ∧ v2 < (n110 : Nat) ∧ oe_rg (v6 + (h q107 (v2 : Int).toNat)) ∧ (v4 = 0 → ∃ q115, g v0 15 = some q115 ∧ ∃ n118, sh[q115]? = some (0, n118) ∧ 0 ≤ v2 ∧ v2 < (n118 : Nat) ∧ oe_rg (v6 + (h q115 (v2 : Int).toNat)) ∧ oe_V (oe_cost 65) 65 (oe_M (d + 1)) none Q 218 [some (.inr (.inl v0)), none, some (.inl v2), none, some (.inl v4), some (.inl v5), some (.inl v6), some (.inl v7), some (.inl v8), some (.inl v9), some (.inl w0), some (.inl (v6 + (h q107 (v2 : Int).toNat))), none, none, none, none, none, none] [.inl (v6 + (h q115 (v2 : Int).toNat))] (sh, g, h) 0 0) ∧ (v4 ≠ 0 → 0 ≤ v2 ∧ v2 < (n110 : Nat) ∧ oe_rg (v6 + (h q107 (v2 : Int).toNat)) ∧ oe_V (oe_cost 65) 65 (oe_M (d + 1)) none Q 218 [some (.inr (.inl v0)), none, some (.inl v2), none, some (.inl v4), some (.inl v5), some (.inl v6), some (.inl v7), some (.inl v8), some (.inl v9), some (.inl w0), some (.inl (v6 + (h q107 (v2 : Int).toNat))), none, none, none, none, none, none] [.inl (v6 + (h q107 (v2 : Int).toNat))] (sh, g, h) 0 0)) ∧ (v4 ≠ 0 → (v4 = 0 → sh[v0]? = some (12, 45) ∧ ∃ q127, g v0 15 = some q127 ∧ ∃ n130, sh[q127]? = some (0, n130) ∧ 0 ≤ v2 ∧ v2 < (n130 : Nat) ∧ oe_rg (v6 + (h q127 (v2 : Int).toNat)) ∧ oe_V (oe_cost 65) 65 (oe_M (d + 1)) none Q 218 [some (.inr (.inl v0)), none, some (.inl v2), none, some (.inl v4), some (.inl v5), some (.inl v6), some (.inl v7), some (.inl v8), some (.inl v9), some (.inl w0), some (.inl v6), none, none, none, none, none, none] [.inl (v6 + (h q127 (v2 : Int).toNat))] (sh, g, h) 0 0) ∧ (v4 ≠ 0 → sh[v0]? = some (12, 45) ∧ ∃ q135, g v0 14 = some q135 ∧ ∃ n138, sh[q135]? = some (0, n138) ∧ 0 ≤ v2 ∧ v2 < (n138 : Nat) ∧ oe_rg (v6 + (h q135 (v2 : Int).toNat)) ∧ oe_V (oe_cost 65) 65 (oe_M (d + 1)) none Q 218 [some (.inr (.inl v0)), none, some (.inl v2), none, some (.inl v4), some (.inl v5), some (.inl v6), some (.inl v7), some (.inl v8), some (.inl v9), some (.inl w0), some (.inl v6), none, none, none, none, none, none] [.inl (v6 + (h q135 (v2 : Int).toNat))] (sh, g, h) 0 0))) :
    oe_V (oe_cost 65) 65 (oe_M (d + 1)) none Q 169 [some (.inr (.inl v0)), none, some (.inl v2), none, some (.inl v4), some (.inl v5), some (.inl v6), some (.inl v7), some (.inl v8), some (.inl v9), none, none, none, none, none, none, none, none] [.inl w0] (sh, g, h) 0 0 := by
  refine s_istore (oe_t65 92 (q := (169, .istore 10, 2)) rfl) ?_
  refine s_iload (oe_t65 93 (q := (171, .iload 4, 2)) rfl) rfl ?_
  refine s_if_eq (oe_t65 94 (q := (173, .ifCond .eq 181, 3)) rfl) (fun c105 => ?_) (fun c105 => ?_)
  · replace vc := vc.1 c105
    refine s_iload (oe_t65 97 (q := (181, .iload 6, 2)) rfl) rfl ?_
    refine s_aload_n (oe_t65 98 (q := (183, .aload_n 0, 1)) rfl) rfl ?_
    obtain ⟨s106, vc⟩ := vc
    obtain ⟨q107, p108, vc⟩ := vc
    refine s_getr (oe_t65 99 (q := (184, .getfield 7141, 3)) rfl) s106 rfl rfl p108 ?_
    refine s_iload_n (oe_t65 100 (q := (187, .iload_n 2, 1)) rfl) rfl ?_
    obtain ⟨n110, s109, vc⟩ := vc
    obtain ⟨i111, i112, vc⟩ := vc
    refine s_iaload (oe_t65 101 (q := (188, .iaload, 1)) rfl) s109 i111 i112 ?_
    obtain ⟨r113, vc⟩ := vc
    refine s_iadd (oe_t65 102 (q := (189, .iadd, 1)) rfl) r113 ?_
    refine s_istore (oe_t65 103 (q := (190, .istore 11, 2)) rfl) ?_
    refine s_iload (oe_t65 104 (q := (192, .iload 4, 2)) rfl) rfl ?_
    refine s_if_eq (oe_t65 105 (q := (194, .ifCond .eq 209, 3)) rfl) (fun c114 => ?_) (fun c114 => ?_)
    · replace vc := vc.1 c114
      refine s_iload (oe_t65 113 (q := (209, .iload 6, 2)) rfl) rfl ?_
      refine s_aload_n (oe_t65 114 (q := (211, .aload_n 0, 1)) rfl) rfl ?_
      obtain ⟨q115, p116, vc⟩ := vc
      refine s_getr (oe_t65 115 (q := (212, .getfield 7151, 3)) rfl) s106 rfl rfl p116 ?_
      refine s_iload_n (oe_t65 116 (q := (215, .iload_n 2, 1)) rfl) rfl ?_
      obtain ⟨n118, s117, vc⟩ := vc
      obtain ⟨i119, i120, vc⟩ := vc
      refine s_iaload (oe_t65 117 (q := (216, .iaload, 1)) rfl) s117 i119 i120 ?_
      obtain ⟨r121, vc⟩ := vc
      refine s_iadd (oe_t65 118 (q := (217, .iadd, 1)) rfl) r121 ?_
      exact oe_V.fg (oe_M_mono _) (show oe_fg [some (.inr (.inl v0)), none, some (.inl v2), none, some (.inl v4), some (.inl v5), some (.inl v6), some (.inl v7), some (.inl v8), some (.inl v9), some (.inl w0), some (.inl (v6 + (h q107 (v2 : Int).toNat))), none, none, none, none, none, none] _ from ⟨rfl, ⟨rfl, ⟨rfl, ⟨rfl, ⟨rfl, ⟨rfl, ⟨rfl, ⟨rfl, ⟨rfl, ⟨rfl, trivial⟩⟩⟩⟩⟩⟩⟩⟩⟩⟩) vc
    · replace vc := vc.2 c114
      refine s_iload (oe_t65 106 (q := (197, .iload 6, 2)) rfl) rfl ?_
      refine s_aload_n (oe_t65 107 (q := (199, .aload_n 0, 1)) rfl) rfl ?_
      refine s_getr (oe_t65 108 (q := (200, .getfield 7141, 3)) rfl) s106 rfl rfl p108 ?_
      refine s_iload_n (oe_t65 109 (q := (203, .iload_n 2, 1)) rfl) rfl ?_
      obtain ⟨i122, i123, vc⟩ := vc
      refine s_iaload (oe_t65 110 (q := (204, .iaload, 1)) rfl) s109 i122 i123 ?_
      obtain ⟨r124, vc⟩ := vc
      refine s_iadd (oe_t65 111 (q := (205, .iadd, 1)) rfl) r124 ?_
      refine s_goto (oe_t65 112 (q := (206, .goto 218, 3)) rfl) ?_
      exact oe_V.fg (oe_M_mono _) (show oe_fg [some (.inr (.inl v0)), none, some (.inl v2), none, some (.inl v4), some (.inl v5), some (.inl v6), some (.inl v7), some (.inl v8), some (.inl v9), some (.inl w0), some (.inl (v6 + (h q107 (v2 : Int).toNat))), none, none, none, none, none, none] _ from ⟨rfl, ⟨rfl, ⟨rfl, ⟨rfl, ⟨rfl, ⟨rfl, ⟨rfl, ⟨rfl, ⟨rfl, ⟨rfl, trivial⟩⟩⟩⟩⟩⟩⟩⟩⟩⟩) vc
  · replace vc := vc.2 c105
    refine s_iload (oe_t65 95 (q := (176, .iload 6, 2)) rfl) rfl ?_
    refine s_goto (oe_t65 96 (q := (178, .goto 190, 3)) rfl) ?_
    refine s_istore (oe_t65 103 (q := (190, .istore 11, 2)) rfl) ?_
    refine s_iload (oe_t65 104 (q := (192, .iload 4, 2)) rfl) rfl ?_
    refine s_if_eq (oe_t65 105 (q := (194, .ifCond .eq 209, 3)) rfl) (fun c125 => ?_) (fun c125 => ?_)
    · replace vc := vc.1 c125
      refine s_iload (oe_t65 113 (q := (209, .iload 6, 2)) rfl) rfl ?_
      refine s_aload_n (oe_t65 114 (q := (211, .aload_n 0, 1)) rfl) rfl ?_
      obtain ⟨s126, vc⟩ := vc
      obtain ⟨q127, p128, vc⟩ := vc
      refine s_getr (oe_t65 115 (q := (212, .getfield 7151, 3)) rfl) s126 rfl rfl p128 ?_
      refine s_iload_n (oe_t65 116 (q := (215, .iload_n 2, 1)) rfl) rfl ?_
      obtain ⟨n130, s129, vc⟩ := vc
      obtain ⟨i131, i132, vc⟩ := vc
      refine s_iaload (oe_t65 117 (q := (216, .iaload, 1)) rfl) s129 i131 i132 ?_
      obtain ⟨r133, vc⟩ := vc
      refine s_iadd (oe_t65 118 (q := (217, .iadd, 1)) rfl) r133 ?_
      exact oe_V.fg (oe_M_mono _) (show oe_fg [some (.inr (.inl v0)), none, some (.inl v2), none, some (.inl v4), some (.inl v5), some (.inl v6), some (.inl v7), some (.inl v8), some (.inl v9), some (.inl w0), some (.inl v6), none, none, none, none, none, none] _ from ⟨rfl, ⟨rfl, ⟨rfl, ⟨rfl, ⟨rfl, ⟨rfl, ⟨rfl, ⟨rfl, ⟨rfl, ⟨rfl, trivial⟩⟩⟩⟩⟩⟩⟩⟩⟩⟩) vc
    · replace vc := vc.2 c125
      refine s_iload (oe_t65 106 (q := (197, .iload 6, 2)) rfl) rfl ?_
      refine s_aload_n (oe_t65 107 (q := (199, .aload_n 0, 1)) rfl) rfl ?_
      obtain ⟨s134, vc⟩ := vc
      obtain ⟨q135, p136, vc⟩ := vc
      refine s_getr (oe_t65 108 (q := (200, .getfield 7141, 3)) rfl) s134 rfl rfl p136 ?_
      refine s_iload_n (oe_t65 109 (q := (203, .iload_n 2, 1)) rfl) rfl ?_
      obtain ⟨n138, s137, vc⟩ := vc
      obtain ⟨i139, i140, vc⟩ := vc
      refine s_iaload (oe_t65 110 (q := (204, .iaload, 1)) rfl) s137 i139 i140 ?_
      obtain ⟨r141, vc⟩ := vc
      refine s_iadd (oe_t65 111 (q := (205, .iadd, 1)) rfl) r141 ?_
      refine s_goto (oe_t65 112 (q := (206, .goto 218, 3)) rfl) ?_
      exact oe_V.fg (oe_M_mono _) (show oe_fg [some (.inr (.inl v0)), none, some (.inl v2), none, some (.inl v4), some (.inl v5), some (.inl v6), some (.inl v7), some (.inl v8), some (.inl v9), some (.inl w0), some (.inl v6), none, none, none, none, none, none] _ from ⟨rfl, ⟨rfl, ⟨rfl, ⟨rfl, ⟨rfl, ⟨rfl, ⟨rfl, ⟨rfl, ⟨rfl, ⟨rfl, trivial⟩⟩⟩⟩⟩⟩⟩⟩⟩⟩) vc
theorem g65_218 {d : Nat} {sh : List (Nat × Nat)} {g : Nat → Nat → Option Nat} {h : Nat → Nat → Int} {Q : oeQ} {v0 : Nat} {v2 : Int} {v4 : Int} {v5 : Int} {v6 : Int} {v7 : Int} {v8 : Int} {v9 : Int} {v10 : Int} {v11 : Int} {w0 : Int}
    (vc : (v4 = 0 → (v4 = 0 → sh[v0]? = some (12, 45) ∧ ∃ q145, g v0 14 = some q145 ∧ ∃ n148, sh[q145]? = some (0, n148) ∧ 0 ≤ v2 ∧ v2 < (n148 : Nat) ∧ oe_rg (v6 + (h q145 (v2 : Int).toNat)) ∧ oe_V (oe_cost 65) 65 (oe_M (d + 1)) none Q 267 [some (.inr (.inl v0)), none, none, none, none, some (.inl v5), none, some (.inl v7), some (.inl v8), some (.inl v9), some (.inl v10), some (.inl v11), some (.inl w0), some (.inl v6), none, none, none, none] [.inl (v6 + (h q145 (v2 : Int).toNat))] (sh, g, h) 0 0) ∧ (v4 ≠ 0 → sh[v0]? = some (12, 45) ∧ ∃ q153, g v0 15 = some q153 ∧ ∃ n156, sh[q153]? = some (0, n156) ∧ 0 ≤ v2 ∧ v2 < (n156 : Nat) ∧ oe_rg (v6 + (h q153 (v2 : Int).toNat)) ∧ oe_V (oe_cost 65) 65 (oe_M (d + 1)) none Q 267 [some (.inr (.inl v0)), none, none, none, none, some (.inl v5), none, some (.inl v7), some (.inl v8), some (.inl v9), some (.inl v10), some (.inl v11), some (.inl w0), some (.inl v6), none, none, none, none] [.inl (v6 + (h q153 (v2 : Int).toNat))] (sh, g, h) 0 0)) ∧ (v4 ≠ 0 → sh[v0]? = some (12, 45) ∧ ∃ q161, g v0 14 = some q161 ∧ ∃ n164, sh[q161]? = some (0, n164) ∧ 0 ≤ v2 ∧ v2 < (n164 : Nat) ∧ oe_rg (v6 + (h q161 (v2 : Int).toNat)) ∧ (v4 = 0 → 0 ≤ v2 ∧ v2 < (n164 : Nat) ∧ oe_rg (v6 + (h q161 (v2 : Int).toNat)) ∧ oe_V (oe_cost 65) 65 (oe_M (d + 1)) none Q 267 [some (.inr (.inl v0)), none, none, none, none, some (.inl v5), none, some (.inl v7), some (.inl v8), some (.inl v9), some (.inl v10), some (.inl v11), some (.inl w0), some (.inl (v6 + (h q161 (v2 : Int).toNat))), none, none, none, none] [.inl (v6 + (h q161 (v2 : Int).toNat))] (sh, g, h) 0 0) ∧ (v4 ≠ 0 → ∃ q172, g v0 15 = some q172 ∧ ∃ n175, sh[q172]? = some (0, n175) ∧ 0 ≤ v2 ∧ v2 < (n175 : Nat) ∧ oe_rg (v6 + (h q172 (v2 : Int).toNat)) ∧ oe_V (oe_cost 65) 65 (oe_M (d + 1)) none Q 267 [some (.inr (.inl v0)), none, none, none, none, some (.inl v5), none, some (.inl v7), some (.inl v8), some (.inl v9), some (.inl v10), some (.inl v11), some (.inl w0), some (.inl (v6 + (h q161 (v2 : Int).toNat))), none, none, none, none] [.inl (v6 + (h q172 (v2 : Int).toNat))] (sh, g, h) 0 0))) :
    oe_V (oe_cost 65) 65 (oe_M (d + 1)) none Q 218 [some (.inr (.inl v0)), none, some (.inl v2), none, some (.inl v4), some (.inl v5), some (.inl v6), some (.inl v7), some (.inl v8), some (.inl v9), some (.inl v10), some (.inl v11), none, none, none, none, none, none] [.inl w0] (sh, g, h) 0 0 := by
  refine s_istore (oe_t65 119 (q := (218, .istore 12, 2)) rfl) ?_
  refine s_iload (oe_t65 120 (q := (220, .iload 4, 2)) rfl) rfl ?_
  refine s_if_eq (oe_t65 121 (q := (222, .ifCond .eq 237, 3)) rfl) (fun c142 => ?_) (fun c142 => ?_)
  · replace vc := vc.1 c142
    refine s_iload (oe_t65 129 (q := (237, .iload 6, 2)) rfl) rfl ?_
    refine s_istore (oe_t65 130 (q := (239, .istore 13, 2)) rfl) ?_
    refine s_iload (oe_t65 131 (q := (241, .iload 4, 2)) rfl) rfl ?_
    refine s_if_eq (oe_t65 132 (q := (243, .ifCond .eq 258, 3)) rfl) (fun c143 => ?_) (fun c143 => ?_)
    · replace vc := vc.1 c143
      refine s_iload (oe_t65 140 (q := (258, .iload 6, 2)) rfl) rfl ?_
      refine s_aload_n (oe_t65 141 (q := (260, .aload_n 0, 1)) rfl) rfl ?_
      obtain ⟨s144, vc⟩ := vc
      obtain ⟨q145, p146, vc⟩ := vc
      refine s_getr (oe_t65 142 (q := (261, .getfield 7141, 3)) rfl) s144 rfl rfl p146 ?_
      refine s_iload_n (oe_t65 143 (q := (264, .iload_n 2, 1)) rfl) rfl ?_
      obtain ⟨n148, s147, vc⟩ := vc
      obtain ⟨i149, i150, vc⟩ := vc
      refine s_iaload (oe_t65 144 (q := (265, .iaload, 1)) rfl) s147 i149 i150 ?_
      obtain ⟨r151, vc⟩ := vc
      refine s_iadd (oe_t65 145 (q := (266, .iadd, 1)) rfl) r151 ?_
      exact oe_V.fg (oe_M_mono _) (show oe_fg [some (.inr (.inl v0)), none, none, none, none, some (.inl v5), none, some (.inl v7), some (.inl v8), some (.inl v9), some (.inl v10), some (.inl v11), some (.inl w0), some (.inl v6), none, none, none, none] _ from ⟨rfl, ⟨rfl, ⟨rfl, ⟨rfl, ⟨rfl, ⟨rfl, ⟨rfl, ⟨rfl, ⟨rfl, trivial⟩⟩⟩⟩⟩⟩⟩⟩⟩) vc
    · replace vc := vc.2 c143
      refine s_iload (oe_t65 133 (q := (246, .iload 6, 2)) rfl) rfl ?_
      refine s_aload_n (oe_t65 134 (q := (248, .aload_n 0, 1)) rfl) rfl ?_
      obtain ⟨s152, vc⟩ := vc
      obtain ⟨q153, p154, vc⟩ := vc
      refine s_getr (oe_t65 135 (q := (249, .getfield 7151, 3)) rfl) s152 rfl rfl p154 ?_
      refine s_iload_n (oe_t65 136 (q := (252, .iload_n 2, 1)) rfl) rfl ?_
      obtain ⟨n156, s155, vc⟩ := vc
      obtain ⟨i157, i158, vc⟩ := vc
      refine s_iaload (oe_t65 137 (q := (253, .iaload, 1)) rfl) s155 i157 i158 ?_
      obtain ⟨r159, vc⟩ := vc
      refine s_iadd (oe_t65 138 (q := (254, .iadd, 1)) rfl) r159 ?_
      refine s_goto (oe_t65 139 (q := (255, .goto 267, 3)) rfl) ?_
      exact oe_V.fg (oe_M_mono _) (show oe_fg [some (.inr (.inl v0)), none, none, none, none, some (.inl v5), none, some (.inl v7), some (.inl v8), some (.inl v9), some (.inl v10), some (.inl v11), some (.inl w0), some (.inl v6), none, none, none, none] _ from ⟨rfl, ⟨rfl, ⟨rfl, ⟨rfl, ⟨rfl, ⟨rfl, ⟨rfl, ⟨rfl, ⟨rfl, trivial⟩⟩⟩⟩⟩⟩⟩⟩⟩) vc
  · replace vc := vc.2 c142
    refine s_iload (oe_t65 122 (q := (225, .iload 6, 2)) rfl) rfl ?_
    refine s_aload_n (oe_t65 123 (q := (227, .aload_n 0, 1)) rfl) rfl ?_
    obtain ⟨s160, vc⟩ := vc
    obtain ⟨q161, p162, vc⟩ := vc
    refine s_getr (oe_t65 124 (q := (228, .getfield 7141, 3)) rfl) s160 rfl rfl p162 ?_
    refine s_iload_n (oe_t65 125 (q := (231, .iload_n 2, 1)) rfl) rfl ?_
    obtain ⟨n164, s163, vc⟩ := vc
    obtain ⟨i165, i166, vc⟩ := vc
    refine s_iaload (oe_t65 126 (q := (232, .iaload, 1)) rfl) s163 i165 i166 ?_
    obtain ⟨r167, vc⟩ := vc
    refine s_iadd (oe_t65 127 (q := (233, .iadd, 1)) rfl) r167 ?_
    refine s_goto (oe_t65 128 (q := (234, .goto 239, 3)) rfl) ?_
    refine s_istore (oe_t65 130 (q := (239, .istore 13, 2)) rfl) ?_
    refine s_iload (oe_t65 131 (q := (241, .iload 4, 2)) rfl) rfl ?_
    refine s_if_eq (oe_t65 132 (q := (243, .ifCond .eq 258, 3)) rfl) (fun c168 => ?_) (fun c168 => ?_)
    · replace vc := vc.1 c168
      refine s_iload (oe_t65 140 (q := (258, .iload 6, 2)) rfl) rfl ?_
      refine s_aload_n (oe_t65 141 (q := (260, .aload_n 0, 1)) rfl) rfl ?_
      refine s_getr (oe_t65 142 (q := (261, .getfield 7141, 3)) rfl) s160 rfl rfl p162 ?_
      refine s_iload_n (oe_t65 143 (q := (264, .iload_n 2, 1)) rfl) rfl ?_
      obtain ⟨i169, i170, vc⟩ := vc
      refine s_iaload (oe_t65 144 (q := (265, .iaload, 1)) rfl) s163 i169 i170 ?_
      obtain ⟨r171, vc⟩ := vc
      refine s_iadd (oe_t65 145 (q := (266, .iadd, 1)) rfl) r171 ?_
      exact oe_V.fg (oe_M_mono _) (show oe_fg [some (.inr (.inl v0)), none, none, none, none, some (.inl v5), none, some (.inl v7), some (.inl v8), some (.inl v9), some (.inl v10), some (.inl v11), some (.inl w0), some (.inl (v6 + (h q161 (v2 : Int).toNat))), none, none, none, none] _ from ⟨rfl, ⟨rfl, ⟨rfl, ⟨rfl, ⟨rfl, ⟨rfl, ⟨rfl, ⟨rfl, ⟨rfl, trivial⟩⟩⟩⟩⟩⟩⟩⟩⟩) vc
    · replace vc := vc.2 c168
      refine s_iload (oe_t65 133 (q := (246, .iload 6, 2)) rfl) rfl ?_
      refine s_aload_n (oe_t65 134 (q := (248, .aload_n 0, 1)) rfl) rfl ?_
      obtain ⟨q172, p173, vc⟩ := vc
      refine s_getr (oe_t65 135 (q := (249, .getfield 7151, 3)) rfl) s160 rfl rfl p173 ?_
      refine s_iload_n (oe_t65 136 (q := (252, .iload_n 2, 1)) rfl) rfl ?_
      obtain ⟨n175, s174, vc⟩ := vc
      obtain ⟨i176, i177, vc⟩ := vc
      refine s_iaload (oe_t65 137 (q := (253, .iaload, 1)) rfl) s174 i176 i177 ?_
      obtain ⟨r178, vc⟩ := vc
      refine s_iadd (oe_t65 138 (q := (254, .iadd, 1)) rfl) r178 ?_
      refine s_goto (oe_t65 139 (q := (255, .goto 267, 3)) rfl) ?_
      exact oe_V.fg (oe_M_mono _) (show oe_fg [some (.inr (.inl v0)), none, none, none, none, some (.inl v5), none, some (.inl v7), some (.inl v8), some (.inl v9), some (.inl v10), some (.inl v11), some (.inl w0), some (.inl (v6 + (h q161 (v2 : Int).toNat))), none, none, none, none] _ from ⟨rfl, ⟨rfl, ⟨rfl, ⟨rfl, ⟨rfl, ⟨rfl, ⟨rfl, ⟨rfl, ⟨rfl, trivial⟩⟩⟩⟩⟩⟩⟩⟩⟩) vc
theorem g65_267 {d : Nat} {sh : List (Nat × Nat)} {g : Nat → Nat → Option Nat} {h : Nat → Nat → Int} {Q : oeQ} {v0 : Nat} {v5 : Int} {v7 : Int} {v8 : Int} {v9 : Int} {v10 : Int} {v11 : Int} {v12 : Int} {v13 : Int} {w0 : Int}
    (vc : oe_rg (v11 + v5) ∧ sh[v0]? = some (12, 45) ∧ oe_M (d + 1) 62 [.inr (.inl v0), .inl (v11 + v5), .inl v7] (sh, g, h) (fun r hp => ∃ (x181 : Int) (h180 : Nat → Nat → Int), r = some (.inl x181) ∧ hp = (sh, g, h180) ∧ (x181 ≠ 0 → oe_M (d + 1) 63 [.inr (.inl v0), .inl 0, .inl v7, .inl v8] (sh, g, h180) (fun r hp => ∃ (x185 : Int) (h184 : Nat → Nat → Int), r = some (.inl x185) ∧ hp = (sh, g, h184) ∧ (x185 = 0 → oe_V (oe_cost 65) 65 (oe_M (d + 1)) none Q 341 [some (.inr (.inl v0)), none, none, none, none, none, none, none, none, some (.inl v9), some (.inl v10), some (.inl v11), some (.inl v12), none, none, some (.inl (v11 + v5)), none, none] [.inl 0] (sh, g, h184) 0 0) ∧ (x185 ≠ 0 → oe_M (d + 1) 63 [.inr (.inl v0), .inl 1, .inl v9, .inl v10] (sh, g, h184) (fun r hp => ∃ (x188 : Int) (h187 : Nat → Nat → Int), r = some (.inl x188) ∧ hp = (sh, g, h187) ∧ (x188 = 0 → oe_V (oe_cost 65) 65 (oe_M (d + 1)) none Q 341 [some (.inr (.inl v0)), none, none, none, none, none, none, none, none, some (.inl v9), some (.inl v10), some (.inl v11), some (.inl v12), none, none, some (.inl (v11 + v5)), none, none] [.inl 0] (sh, g, h187) 0 0) ∧ (x188 ≠ 0 → oe_M (d + 1) 63 [.inr (.inl v0), .inl 2, .inl v11, .inl v12] (sh, g, h187) (fun r hp => ∃ (x191 : Int) (h190 : Nat → Nat → Int), r = some (.inl x191) ∧ hp = (sh, g, h190) ∧ (x191 = 0 → oe_V (oe_cost 65) 65 (oe_M (d + 1)) none Q 341 [some (.inr (.inl v0)), none, none, none, none, none, none, none, none, some (.inl v9), some (.inl v10), some (.inl v11), some (.inl v12), none, none, some (.inl (v11 + v5)), none, none] [.inl 0] (sh, g, h190) 0 0) ∧ (x191 ≠ 0 → oe_M (d + 1) 63 [.inr (.inl v0), .inl 3, .inl v13, .inl w0] (sh, g, h190) (fun r hp => ∃ (x194 : Int) (h193 : Nat → Nat → Int), r = some (.inl x194) ∧ hp = (sh, g, h193) ∧ (x194 = 0 → oe_V (oe_cost 65) 65 (oe_M (d + 1)) none Q 341 [some (.inr (.inl v0)), none, none, none, none, none, none, none, none, some (.inl v9), some (.inl v10), some (.inl v11), some (.inl v12), none, none, some (.inl (v11 + v5)), none, none] [.inl 0] (sh, g, h193) 0 0) ∧ (x194 ≠ 0 → oe_V (oe_cost 65) 65 (oe_M (d + 1)) none Q 341 [some (.inr (.inl v0)), none, none, none, none, none, none, none, none, some (.inl v9), some (.inl v10), some (.inl v11), some (.inl v12), none, none, some (.inl (v11 + v5)), none, none] [.inl 1] (sh, g, h193) 0 0))))))))) ∧ (x181 = 0 → Q none (sh, g, h180)))) :
    oe_V (oe_cost 65) 65 (oe_M (d + 1)) none Q 267 [some (.inr (.inl v0)), none, none, none, none, some (.inl v5), none, some (.inl v7), some (.inl v8), some (.inl v9), some (.inl v10), some (.inl v11), some (.inl v12), some (.inl v13), none, none, none, none] [.inl w0] (sh, g, h) 0 0 := by
  refine s_istore (oe_t65 146 (q := (267, .istore 14, 2)) rfl) ?_
  refine s_iload (oe_t65 147 (q := (269, .iload 11, 2)) rfl) rfl ?_
  refine s_iload (oe_t65 148 (q := (271, .iload 5, 2)) rfl) rfl ?_
  obtain ⟨r179, vc⟩ := vc
  refine s_iadd (oe_t65 149 (q := (273, .iadd, 1)) rfl) r179 ?_
  refine s_istore (oe_t65 150 (q := (274, .istore 15, 2)) rfl) ?_
  refine s_aload_n (oe_t65 151 (q := (276, .aload_n 0, 1)) rfl) rfl ?_
  refine s_iload (oe_t65 152 (q := (277, .iload 15, 2)) rfl) rfl ?_
  refine s_iload (oe_t65 153 (q := (279, .iload 7, 2)) rfl) rfl ?_
  obtain ⟨s182, vc⟩ := vc
  refine s_callv (oe_t65 154 (q := (281, .invokevirtual 62072, 3)) rfl) rfl s182 rfl (Nat.le_of_ble_eq_true rfl) (Nat.le_of_ble_eq_true rfl) (Nat.le_of_ble_eq_true rfl) (Nat.le_of_ble_eq_true rfl) ?_
  refine oe_M_mono _ _ _ _ _ _ (fun r hp vq => ?_) vc
  obtain ⟨x181, h180, rfl, rfl, vc⟩ := vq
  show oe_V (oe_cost 65) 65 (oe_M (d + 1)) none Q 284 [some (.inr (.inl v0)), none, none, none, none, some (.inl v5), none, some (.inl v7), some (.inl v8), some (.inl v9), some (.inl v10), some (.inl v11), some (.inl v12), some (.inl v13), some (.inl w0), some (.inl (v11 + v5)), none, none] [.inl x181] (sh, g, h180) 0 0
  refine s_if_ne (oe_t65 155 (q := (284, .ifCond .ne 288, 3)) rfl) (fun c183 => ?_) (fun c183 => ?_)
  · replace vc := vc.1 c183
    refine s_aload_n (oe_t65 157 (q := (288, .aload_n 0, 1)) rfl) rfl ?_
    refine s_iconst (oe_t65 158 (q := (289, .iconst 0, 1)) rfl) ?_
    refine s_iload (oe_t65 159 (q := (290, .iload 7, 2)) rfl) rfl ?_
    refine s_iload (oe_t65 160 (q := (292, .iload 8, 2)) rfl) rfl ?_
    refine s_callv (oe_t65 161 (q := (294, .invokevirtual 63073, 3)) rfl) rfl s182 rfl (Nat.le_of_ble_eq_true rfl) (Nat.le_of_ble_eq_true rfl) (Nat.le_of_ble_eq_true rfl) (Nat.le_of_ble_eq_true rfl) ?_
    refine oe_M_mono _ _ _ _ _ _ (fun r hp vq => ?_) vc
    obtain ⟨x185, h184, rfl, rfl, vc⟩ := vq
    show oe_V (oe_cost 65) 65 (oe_M (d + 1)) none Q 297 [some (.inr (.inl v0)), none, none, none, none, some (.inl v5), none, some (.inl v7), some (.inl v8), some (.inl v9), some (.inl v10), some (.inl v11), some (.inl v12), some (.inl v13), some (.inl w0), some (.inl (v11 + v5)), none, none] [.inl x185] (sh, g, h184) 0 0
    refine s_if_eq (oe_t65 162 (q := (297, .ifCond .eq 340, 3)) rfl) (fun c186 => ?_) (fun c186 => ?_)
    · replace vc := vc.1 c186
      refine s_iconst (oe_t65 183 (q := (340, .iconst 0, 1)) rfl) ?_
      exact oe_V.fg (oe_M_mono _) (show oe_fg [some (.inr (.inl v0)), none, none, none, none, none, none, none, none, some (.inl v9), some (.inl v10), some (.inl v11), some (.inl v12), none, none, some (.inl (v11 + v5)), none, none] _ from ⟨rfl, ⟨rfl, ⟨rfl, ⟨rfl, ⟨rfl, ⟨rfl, trivial⟩⟩⟩⟩⟩⟩) vc
    · replace vc := vc.2 c186
      refine s_aload_n (oe_t65 163 (q := (300, .aload_n 0, 1)) rfl) rfl ?_
      refine s_iconst (oe_t65 164 (q := (301, .iconst 1, 1)) rfl) ?_
      refine s_iload (oe_t65 165 (q := (302, .iload 9, 2)) rfl) rfl ?_
      refine s_iload (oe_t65 166 (q := (304, .iload 10, 2)) rfl) rfl ?_
      refine s_callv (oe_t65 167 (q := (306, .invokevirtual 63073, 3)) rfl) rfl s182 rfl (Nat.le_of_ble_eq_true rfl) (Nat.le_of_ble_eq_true rfl) (Nat.le_of_ble_eq_true rfl) (Nat.le_of_ble_eq_true rfl) ?_
      refine oe_M_mono _ _ _ _ _ _ (fun r hp vq => ?_) vc
      obtain ⟨x188, h187, rfl, rfl, vc⟩ := vq
      show oe_V (oe_cost 65) 65 (oe_M (d + 1)) none Q 309 [some (.inr (.inl v0)), none, none, none, none, some (.inl v5), none, some (.inl v7), some (.inl v8), some (.inl v9), some (.inl v10), some (.inl v11), some (.inl v12), some (.inl v13), some (.inl w0), some (.inl (v11 + v5)), none, none] [.inl x188] (sh, g, h187) 0 0
      refine s_if_eq (oe_t65 168 (q := (309, .ifCond .eq 340, 3)) rfl) (fun c189 => ?_) (fun c189 => ?_)
      · replace vc := vc.1 c189
        refine s_iconst (oe_t65 183 (q := (340, .iconst 0, 1)) rfl) ?_
        exact oe_V.fg (oe_M_mono _) (show oe_fg [some (.inr (.inl v0)), none, none, none, none, none, none, none, none, some (.inl v9), some (.inl v10), some (.inl v11), some (.inl v12), none, none, some (.inl (v11 + v5)), none, none] _ from ⟨rfl, ⟨rfl, ⟨rfl, ⟨rfl, ⟨rfl, ⟨rfl, trivial⟩⟩⟩⟩⟩⟩) vc
      · replace vc := vc.2 c189
        refine s_aload_n (oe_t65 169 (q := (312, .aload_n 0, 1)) rfl) rfl ?_
        refine s_iconst (oe_t65 170 (q := (313, .iconst 2, 1)) rfl) ?_
        refine s_iload (oe_t65 171 (q := (314, .iload 11, 2)) rfl) rfl ?_
        refine s_iload (oe_t65 172 (q := (316, .iload 12, 2)) rfl) rfl ?_
        refine s_callv (oe_t65 173 (q := (318, .invokevirtual 63073, 3)) rfl) rfl s182 rfl (Nat.le_of_ble_eq_true rfl) (Nat.le_of_ble_eq_true rfl) (Nat.le_of_ble_eq_true rfl) (Nat.le_of_ble_eq_true rfl) ?_
        refine oe_M_mono _ _ _ _ _ _ (fun r hp vq => ?_) vc
        obtain ⟨x191, h190, rfl, rfl, vc⟩ := vq
        show oe_V (oe_cost 65) 65 (oe_M (d + 1)) none Q 321 [some (.inr (.inl v0)), none, none, none, none, some (.inl v5), none, some (.inl v7), some (.inl v8), some (.inl v9), some (.inl v10), some (.inl v11), some (.inl v12), some (.inl v13), some (.inl w0), some (.inl (v11 + v5)), none, none] [.inl x191] (sh, g, h190) 0 0
        refine s_if_eq (oe_t65 174 (q := (321, .ifCond .eq 340, 3)) rfl) (fun c192 => ?_) (fun c192 => ?_)
        · replace vc := vc.1 c192
          refine s_iconst (oe_t65 183 (q := (340, .iconst 0, 1)) rfl) ?_
          exact oe_V.fg (oe_M_mono _) (show oe_fg [some (.inr (.inl v0)), none, none, none, none, none, none, none, none, some (.inl v9), some (.inl v10), some (.inl v11), some (.inl v12), none, none, some (.inl (v11 + v5)), none, none] _ from ⟨rfl, ⟨rfl, ⟨rfl, ⟨rfl, ⟨rfl, ⟨rfl, trivial⟩⟩⟩⟩⟩⟩) vc
        · replace vc := vc.2 c192
          refine s_aload_n (oe_t65 175 (q := (324, .aload_n 0, 1)) rfl) rfl ?_
          refine s_iconst (oe_t65 176 (q := (325, .iconst 3, 1)) rfl) ?_
          refine s_iload (oe_t65 177 (q := (326, .iload 13, 2)) rfl) rfl ?_
          refine s_iload (oe_t65 178 (q := (328, .iload 14, 2)) rfl) rfl ?_
          refine s_callv (oe_t65 179 (q := (330, .invokevirtual 63073, 3)) rfl) rfl s182 rfl (Nat.le_of_ble_eq_true rfl) (Nat.le_of_ble_eq_true rfl) (Nat.le_of_ble_eq_true rfl) (Nat.le_of_ble_eq_true rfl) ?_
          refine oe_M_mono _ _ _ _ _ _ (fun r hp vq => ?_) vc
          obtain ⟨x194, h193, rfl, rfl, vc⟩ := vq
          show oe_V (oe_cost 65) 65 (oe_M (d + 1)) none Q 333 [some (.inr (.inl v0)), none, none, none, none, some (.inl v5), none, some (.inl v7), some (.inl v8), some (.inl v9), some (.inl v10), some (.inl v11), some (.inl v12), some (.inl v13), some (.inl w0), some (.inl (v11 + v5)), none, none] [.inl x194] (sh, g, h193) 0 0
          refine s_if_eq (oe_t65 180 (q := (333, .ifCond .eq 340, 3)) rfl) (fun c195 => ?_) (fun c195 => ?_)
          · replace vc := vc.1 c195
            refine s_iconst (oe_t65 183 (q := (340, .iconst 0, 1)) rfl) ?_
            exact oe_V.fg (oe_M_mono _) (show oe_fg [some (.inr (.inl v0)), none, none, none, none, none, none, none, none, some (.inl v9), some (.inl v10), some (.inl v11), some (.inl v12), none, none, some (.inl (v11 + v5)), none, none] _ from ⟨rfl, ⟨rfl, ⟨rfl, ⟨rfl, ⟨rfl, ⟨rfl, trivial⟩⟩⟩⟩⟩⟩) vc
          · replace vc := vc.2 c195
            refine s_iconst (oe_t65 181 (q := (336, .iconst 1, 1)) rfl) ?_
            refine s_goto (oe_t65 182 (q := (337, .goto 341, 3)) rfl) ?_
            exact oe_V.fg (oe_M_mono _) (show oe_fg [some (.inr (.inl v0)), none, none, none, none, none, none, none, none, some (.inl v9), some (.inl v10), some (.inl v11), some (.inl v12), none, none, some (.inl (v11 + v5)), none, none] _ from ⟨rfl, ⟨rfl, ⟨rfl, ⟨rfl, ⟨rfl, ⟨rfl, trivial⟩⟩⟩⟩⟩⟩) vc
  · replace vc := vc.2 c183
    exact s_ret (oe_t65 156 (q := (287, .return_, 1)) rfl) rfl vc
theorem g65_341 {d : Nat} {sh : List (Nat × Nat)} {g : Nat → Nat → Option Nat} {h : Nat → Nat → Int} {Q : oeQ} {v0 : Nat} {v9 : Int} {v10 : Int} {v11 : Int} {v12 : Int} {v15 : Int} {w0 : Int}
    (vc : (w0 ≠ 0 → sh[v0]? = some (12, 45) ∧ oe_M (d + 1) 64 [.inr (.inl v0), .inl 1, .inl 0] (sh, g, h) (fun r hp => ∃ (x198 : Int) (h197 : Nat → Nat → Int), r = some (.inl x198) ∧ hp = (sh, g, h197) ∧ (x198 ≠ 0 → Q none (sh, g, h197)) ∧ (x198 = 0 → oe_M (d + 1) 64 [.inr (.inl v0), .inl 3, .inl 2] (sh, g, h197) (fun r hp => ∃ (x202 : Int) (h201 : Nat → Nat → Int), r = some (.inl x202) ∧ hp = (sh, g, h201) ∧ (x202 = 0 → ∀ h204, h204 = oe_up h201 v0 40 0 → oe_M (d + 1) 60 [.inr (.inl v0), .inl v11, .inl v15, .inl 30] (sh, g, h204) (fun r hp => ∃ (x207 : Int) (h206 : Nat → Nat → Int), r = some (.inl x207) ∧ hp = (sh, g, h206) ∧ (x207 = 0 → oe_rg ((h206 v0 16) + 1) ∧ ∀ h210, h210 = oe_up h206 v0 16 ((h206 v0 16) + 1) → Q none (sh, g, h210)) ∧ (x207 ≠ 0 → oe_M (d + 1) 60 [.inr (.inl v0), .inl v9, .inl v10, .inl 30] (sh, g, h206) (fun r hp => ∃ (x213 : Int) (h212 : Nat → Nat → Int), r = some (.inl x213) ∧ hp = (sh, g, h212) ∧ (x213 = 0 → oe_rg ((h212 v0 16) + 1) ∧ ∀ h216, h216 = oe_up h212 v0 16 ((h212 v0 16) + 1) → Q none (sh, g, h216)) ∧ (x213 ≠ 0 → oe_M (d + 1) 59 [.inr (.inl v0), .inl v15] (sh, g, h212) (fun r hp => ∃ (x218 : Int), r = some (.inl x218) ∧ hp = (sh, g, h212) ∧ oe_M (d + 1) 60 [.inr (.inl v0), .inl x218, .inl v12, .inl 30] (sh, g, h212) (fun r hp => ∃ (x220 : Int) (h219 : Nat → Nat → Int), r = some (.inl x220) ∧ hp = (sh, g, h219) ∧ (x220 ≠ 0 → ∃ q222, g v0 19 = some q222 ∧ ∃ n225, sh[q222]? = some (0, n225) ∧ 0 ≤ (2 : Int) ∧ (2 : Int) < (n225 : Nat) ∧ ∀ h228, h228 = oe_up h219 q222 2 (h219 v0 40) → oe_V (oe_cost 65) 65 (oe_M (d + 1)) none Q 450 [some (.inr (.inl v0)), none, none, none, none, none, none, none, none, none, none, none, none, none, none, none, none, some (.inl 0)] [] (sh, g, h228) 0 0) ∧ (x220 = 0 → oe_rg ((h219 v0 16) + 1) ∧ ∀ h231, h231 = oe_up h219 v0 16 ((h219 v0 16) + 1) → Q none (sh, g, h231))))))))) ∧ (x202 ≠ 0 → Q none (sh, g, h201)))))) ∧ (w0 = 0 → sh[v0]? = some (12, 45) ∧ oe_rg ((h v0 16) + 1) ∧ ∀ h235, h235 = oe_up h v0 16 ((h v0 16) + 1) → Q none (sh, g, h235))) :
    oe_V (oe_cost 65) 65 (oe_M (d + 1)) none Q 341 [some (.inr (.inl v0)), none, none, none, none, none, none, none, none, some (.inl v9), some (.inl v10), some (.inl v11), some (.inl v12), none, none, some (.inl v15), none, none] [.inl w0] (sh, g, h) 0 0 := by
  refine s_istore (oe_t65 184 (q := (341, .istore 16, 2)) rfl) ?_
  refine s_iload (oe_t65 185 (q := (343, .iload 16, 2)) rfl) rfl ?_
  refine s_if_ne (oe_t65 186 (q := (345, .ifCond .ne 359, 3)) rfl) (fun c196 => ?_) (fun c196 => ?_)
  · replace vc := vc.1 c196
    refine s_aload_n (oe_t65 194 (q := (359, .aload_n 0, 1)) rfl) rfl ?_
    refine s_iconst (oe_t65 195 (q := (360, .iconst 1, 1)) rfl) ?_
    refine s_iconst (oe_t65 196 (q := (361, .iconst 0, 1)) rfl) ?_
    obtain ⟨s199, vc⟩ := vc
    refine s_callv (oe_t65 197 (q := (362, .invokevirtual 64072, 3)) rfl) rfl s199 rfl (Nat.le_of_ble_eq_true rfl) (Nat.le_of_ble_eq_true rfl) (Nat.le_of_ble_eq_true rfl) (Nat.le_of_ble_eq_true rfl) ?_
    refine oe_M_mono _ _ _ _ _ _ (fun r hp vq => ?_) vc
    obtain ⟨x198, h197, rfl, rfl, vc⟩ := vq
    show oe_V (oe_cost 65) 65 (oe_M (d + 1)) none Q 365 [some (.inr (.inl v0)), none, none, none, none, none, none, none, none, some (.inl v9), some (.inl v10), some (.inl v11), some (.inl v12), none, none, some (.inl v15), some (.inl w0), none] [.inl x198] (sh, g, h197) 0 0
    refine s_if_ne (oe_t65 198 (q := (365, .ifCond .ne 377, 3)) rfl) (fun c200 => ?_) (fun c200 => ?_)
    · replace vc := vc.1 c200
      exact s_ret (oe_t65 204 (q := (377, .return_, 1)) rfl) rfl vc
    · replace vc := vc.2 c200
      refine s_aload_n (oe_t65 199 (q := (368, .aload_n 0, 1)) rfl) rfl ?_
      refine s_iconst (oe_t65 200 (q := (369, .iconst 3, 1)) rfl) ?_
      refine s_iconst (oe_t65 201 (q := (370, .iconst 2, 1)) rfl) ?_
      refine s_callv (oe_t65 202 (q := (371, .invokevirtual 64072, 3)) rfl) rfl s199 rfl (Nat.le_of_ble_eq_true rfl) (Nat.le_of_ble_eq_true rfl) (Nat.le_of_ble_eq_true rfl) (Nat.le_of_ble_eq_true rfl) ?_
      refine oe_M_mono _ _ _ _ _ _ (fun r hp vq => ?_) vc
      obtain ⟨x202, h201, rfl, rfl, vc⟩ := vq
      show oe_V (oe_cost 65) 65 (oe_M (d + 1)) none Q 374 [some (.inr (.inl v0)), none, none, none, none, none, none, none, none, some (.inl v9), some (.inl v10), some (.inl v11), some (.inl v12), none, none, some (.inl v15), some (.inl w0), none] [.inl x202] (sh, g, h201) 0 0
      refine s_if_eq (oe_t65 203 (q := (374, .ifCond .eq 378, 3)) rfl) (fun c203 => ?_) (fun c203 => ?_)
      · replace vc := vc.1 c203
        refine s_aload_n (oe_t65 205 (q := (378, .aload_n 0, 1)) rfl) rfl ?_
        refine s_iconst (oe_t65 206 (q := (379, .iconst 0, 1)) rfl) ?_
        refine t_puti (oe_t65 207 (q := (380, .putfield 7400, 3)) rfl) s199 rfl (Or.inl rfl) (fun h204 e205 => ?_)
        replace vc := vc h204 e205
        refine s_aload_n (oe_t65 208 (q := (383, .aload_n 0, 1)) rfl) rfl ?_
        refine s_iload (oe_t65 209 (q := (384, .iload 11, 2)) rfl) rfl ?_
        refine s_iload (oe_t65 210 (q := (386, .iload 15, 2)) rfl) rfl ?_
        refine s_bipush (oe_t65 211 (q := (388, .bipush 30, 2)) rfl) ?_
        refine s_callv (oe_t65 212 (q := (390, .invokevirtual 60073, 3)) rfl) rfl s199 rfl (Nat.le_of_ble_eq_true rfl) (Nat.le_of_ble_eq_true rfl) (Nat.le_of_ble_eq_true rfl) (Nat.le_of_ble_eq_true rfl) ?_
        refine oe_M_mono _ _ _ _ _ _ (fun r hp vq => ?_) vc
        obtain ⟨x207, h206, rfl, rfl, vc⟩ := vq
        show oe_V (oe_cost 65) 65 (oe_M (d + 1)) none Q 393 [some (.inr (.inl v0)), none, none, none, none, none, none, none, none, some (.inl v9), some (.inl v10), some (.inl v11), some (.inl v12), none, none, some (.inl v15), some (.inl w0), none] [.inl x207] (sh, g, h206) 0 0
        refine s_if_eq (oe_t65 213 (q := (393, .ifCond .eq 426, 3)) rfl) (fun c208 => ?_) (fun c208 => ?_)
        · replace vc := vc.1 c208
          refine s_aload_n (oe_t65 228 (q := (426, .aload_n 0, 1)) rfl) rfl ?_
          refine s_dup (oe_t65 229 (q := (427, .dup, 1)) rfl) trivial ?_
          refine s_geti (oe_t65 230 (q := (428, .getfield 7160, 3)) rfl) s199 rfl (by decide) ?_
          refine s_iconst (oe_t65 231 (q := (431, .iconst 1, 1)) rfl) ?_
          obtain ⟨r209, vc⟩ := vc
          refine s_iadd (oe_t65 232 (q := (432, .iadd, 1)) rfl) r209 ?_
          refine t_puti (oe_t65 233 (q := (433, .putfield 7160, 3)) rfl) s199 rfl (Or.inl rfl) (fun h210 e211 => ?_)
          replace vc := vc h210 e211
          exact s_ret (oe_t65 234 (q := (436, .return_, 1)) rfl) rfl vc
        · replace vc := vc.2 c208
          refine s_aload_n (oe_t65 214 (q := (396, .aload_n 0, 1)) rfl) rfl ?_
          refine s_iload (oe_t65 215 (q := (397, .iload 9, 2)) rfl) rfl ?_
          refine s_iload (oe_t65 216 (q := (399, .iload 10, 2)) rfl) rfl ?_
          refine s_bipush (oe_t65 217 (q := (401, .bipush 30, 2)) rfl) ?_
          refine s_callv (oe_t65 218 (q := (403, .invokevirtual 60073, 3)) rfl) rfl s199 rfl (Nat.le_of_ble_eq_true rfl) (Nat.le_of_ble_eq_true rfl) (Nat.le_of_ble_eq_true rfl) (Nat.le_of_ble_eq_true rfl) ?_
          refine oe_M_mono _ _ _ _ _ _ (fun r hp vq => ?_) vc
          obtain ⟨x213, h212, rfl, rfl, vc⟩ := vq
          show oe_V (oe_cost 65) 65 (oe_M (d + 1)) none Q 406 [some (.inr (.inl v0)), none, none, none, none, none, none, none, none, some (.inl v9), some (.inl v10), some (.inl v11), some (.inl v12), none, none, some (.inl v15), some (.inl w0), none] [.inl x213] (sh, g, h212) 0 0
          refine s_if_eq (oe_t65 219 (q := (406, .ifCond .eq 426, 3)) rfl) (fun c214 => ?_) (fun c214 => ?_)
          · replace vc := vc.1 c214
            refine s_aload_n (oe_t65 228 (q := (426, .aload_n 0, 1)) rfl) rfl ?_
            refine s_dup (oe_t65 229 (q := (427, .dup, 1)) rfl) trivial ?_
            refine s_geti (oe_t65 230 (q := (428, .getfield 7160, 3)) rfl) s199 rfl (by decide) ?_
            refine s_iconst (oe_t65 231 (q := (431, .iconst 1, 1)) rfl) ?_
            obtain ⟨r215, vc⟩ := vc
            refine s_iadd (oe_t65 232 (q := (432, .iadd, 1)) rfl) r215 ?_
            refine t_puti (oe_t65 233 (q := (433, .putfield 7160, 3)) rfl) s199 rfl (Or.inl rfl) (fun h216 e217 => ?_)
            replace vc := vc h216 e217
            exact s_ret (oe_t65 234 (q := (436, .return_, 1)) rfl) rfl vc
          · replace vc := vc.2 c214
            refine s_aload_n (oe_t65 220 (q := (409, .aload_n 0, 1)) rfl) rfl ?_
            refine s_aload_n (oe_t65 221 (q := (410, .aload_n 0, 1)) rfl) rfl ?_
            refine s_iload (oe_t65 222 (q := (411, .iload 15, 2)) rfl) rfl ?_
            refine s_callv (oe_t65 223 (q := (413, .invokevirtual 59071, 3)) rfl) rfl s199 rfl (Nat.le_of_ble_eq_true rfl) (Nat.le_of_ble_eq_true rfl) (Nat.le_of_ble_eq_true rfl) (Nat.le_of_ble_eq_true rfl) ?_
            refine oe_M_mono _ _ _ _ _ _ (fun r hp vq => ?_) vc
            obtain ⟨x218, rfl, rfl, vc⟩ := vq
            show oe_V (oe_cost 65) 65 (oe_M (d + 1)) none Q 416 [some (.inr (.inl v0)), none, none, none, none, none, none, none, none, some (.inl v9), some (.inl v10), some (.inl v11), some (.inl v12), none, none, some (.inl v15), some (.inl w0), none] [.inl x218, .inr (.inl v0)] (sh, g, h212) 0 0
            refine s_iload (oe_t65 224 (q := (416, .iload 12, 2)) rfl) rfl ?_
            refine s_bipush (oe_t65 225 (q := (418, .bipush 30, 2)) rfl) ?_
            refine s_callv (oe_t65 226 (q := (420, .invokevirtual 60073, 3)) rfl) rfl s199 rfl (Nat.le_of_ble_eq_true rfl) (Nat.le_of_ble_eq_true rfl) (Nat.le_of_ble_eq_true rfl) (Nat.le_of_ble_eq_true rfl) ?_
            refine oe_M_mono _ _ _ _ _ _ (fun r hp vq => ?_) vc
            obtain ⟨x220, h219, rfl, rfl, vc⟩ := vq
            show oe_V (oe_cost 65) 65 (oe_M (d + 1)) none Q 423 [some (.inr (.inl v0)), none, none, none, none, none, none, none, none, some (.inl v9), some (.inl v10), some (.inl v11), some (.inl v12), none, none, some (.inl v15), some (.inl w0), none] [.inl x220] (sh, g, h219) 0 0
            refine s_if_ne (oe_t65 227 (q := (423, .ifCond .ne 437, 3)) rfl) (fun c221 => ?_) (fun c221 => ?_)
            · replace vc := vc.1 c221
              refine s_aload_n (oe_t65 235 (q := (437, .aload_n 0, 1)) rfl) rfl ?_
              obtain ⟨q222, p223, vc⟩ := vc
              refine s_getr (oe_t65 236 (q := (438, .getfield 7191, 3)) rfl) s199 rfl rfl p223 ?_
              refine s_iconst (oe_t65 237 (q := (441, .iconst 2, 1)) rfl) ?_
              refine s_aload_n (oe_t65 238 (q := (442, .aload_n 0, 1)) rfl) rfl ?_
              refine s_geti (oe_t65 239 (q := (443, .getfield 7400, 3)) rfl) s199 rfl (by decide) ?_
              obtain ⟨n225, s224, vc⟩ := vc
              obtain ⟨i226, i227, vc⟩ := vc
              refine t_iastore (oe_t65 240 (q := (446, .iastore, 1)) rfl) s224 i226 i227 (fun h228 e229 => ?_)
              replace vc := vc h228 e229
              refine s_iconst (oe_t65 241 (q := (447, .iconst 0, 1)) rfl) ?_
              refine s_istore (oe_t65 242 (q := (448, .istore 17, 2)) rfl) ?_
              exact oe_V.fg (oe_M_mono _) (show oe_fg [some (.inr (.inl v0)), none, none, none, none, none, none, none, none, none, none, none, none, none, none, none, none, some (.inl 0)] _ from ⟨rfl, ⟨rfl, trivial⟩⟩) vc
            · replace vc := vc.2 c221
              refine s_aload_n (oe_t65 228 (q := (426, .aload_n 0, 1)) rfl) rfl ?_
              refine s_dup (oe_t65 229 (q := (427, .dup, 1)) rfl) trivial ?_
              refine s_geti (oe_t65 230 (q := (428, .getfield 7160, 3)) rfl) s199 rfl (by decide) ?_
              refine s_iconst (oe_t65 231 (q := (431, .iconst 1, 1)) rfl) ?_
              obtain ⟨r230, vc⟩ := vc
              refine s_iadd (oe_t65 232 (q := (432, .iadd, 1)) rfl) r230 ?_
              refine t_puti (oe_t65 233 (q := (433, .putfield 7160, 3)) rfl) s199 rfl (Or.inl rfl) (fun h231 e232 => ?_)
              replace vc := vc h231 e232
              exact s_ret (oe_t65 234 (q := (436, .return_, 1)) rfl) rfl vc
      · replace vc := vc.2 c203
        exact s_ret (oe_t65 204 (q := (377, .return_, 1)) rfl) rfl vc
  · replace vc := vc.2 c196
    refine s_aload_n (oe_t65 187 (q := (348, .aload_n 0, 1)) rfl) rfl ?_
    refine s_dup (oe_t65 188 (q := (349, .dup, 1)) rfl) trivial ?_
    obtain ⟨s233, vc⟩ := vc
    refine s_geti (oe_t65 189 (q := (350, .getfield 7160, 3)) rfl) s233 rfl (by decide) ?_
    refine s_iconst (oe_t65 190 (q := (353, .iconst 1, 1)) rfl) ?_
    obtain ⟨r234, vc⟩ := vc
    refine s_iadd (oe_t65 191 (q := (354, .iadd, 1)) rfl) r234 ?_
    refine t_puti (oe_t65 192 (q := (355, .putfield 7160, 3)) rfl) s233 rfl (Or.inl rfl) (fun h235 e236 => ?_)
    replace vc := vc h235 e236
    exact s_ret (oe_t65 193 (q := (358, .return_, 1)) rfl) rfl vc
theorem g65_450 {d : Nat} {sh : List (Nat × Nat)} {g : Nat → Nat → Option Nat} {h : Nat → Nat → Int} {Q : oeQ} {v0 : Nat} {v17 : Int}
    (vc : sh[v0]? = some (12, 45) ∧ ((h v0 40) ≤ v17 → ∃ q239, g v0 19 = some q239 ∧ ∃ q241, g v0 44 = some q241 ∧ ∃ n244, sh[q241]? = some (0, n244) ∧ 0 ≤ (3 : Int) ∧ (3 : Int) < (n244 : Nat) ∧ ∃ n248, sh[q239]? = some (0, n248) ∧ 0 ≤ (3 : Int) ∧ (3 : Int) < (n248 : Nat) ∧ ∀ h251, h251 = oe_up h q239 3 (h q241 3) → oe_V (oe_cost 65) 65 (oe_M (d + 1)) none Q 497 [some (.inr (.inl v0)), none, none, none, none, none, none, none, none, none, none, none, none, none, none, none, none, some (.inl 0)] [] (sh, g, h251) 0 0) ∧ (v17 < (h v0 40) → ∃ q253, g v0 18 = some q253 ∧ oe_rg (80 + v17) ∧ ∃ q256, g v0 39 = some q256 ∧ ∃ n259, sh[q256]? = some (0, n259) ∧ 0 ≤ v17 ∧ v17 < (n259 : Nat) ∧ ∃ n263, sh[q253]? = some (0, n263) ∧ 0 ≤ (80 + v17) ∧ (80 + v17) < (n263 : Nat) ∧ ∀ h266, h266 = oe_up h q253 ((80 + v17) : Int).toNat (h q256 (v17 : Int).toNat) → oe_rg (v17 + 1) ∧ oe_V (oe_cost 65) 65 (oe_M (d + 1)) none Q 450 [some (.inr (.inl v0)), none, none, none, none, none, none, none, none, none, none, none, none, none, none, none, none, some (.inl (v17 + 1))] [] (sh, g, h266) 0 0)) :
    oe_V (oe_cost 65) 65 (oe_M (d + 1)) none Q 450 [some (.inr (.inl v0)), none, none, none, none, none, none, none, none, none, none, none, none, none, none, none, none, some (.inl v17)] [] (sh, g, h) 0 0 := by
  refine s_iload (oe_t65 243 (q := (450, .iload 17, 2)) rfl) rfl ?_
  refine s_aload_n (oe_t65 244 (q := (452, .aload_n 0, 1)) rfl) rfl ?_
  obtain ⟨s237, vc⟩ := vc
  refine s_geti (oe_t65 245 (q := (453, .getfield 7400, 3)) rfl) s237 rfl (by decide) ?_
  refine s_ic_ge (oe_t65 246 (q := (456, .if_icmp .ge 482, 3)) rfl) (fun c238 => ?_) (fun c238 => ?_)
  · replace vc := vc.1 c238
    refine s_aload_n (oe_t65 259 (q := (482, .aload_n 0, 1)) rfl) rfl ?_
    obtain ⟨q239, p240, vc⟩ := vc
    refine s_getr (oe_t65 260 (q := (483, .getfield 7191, 3)) rfl) s237 rfl rfl p240 ?_
    refine s_iconst (oe_t65 261 (q := (486, .iconst 3, 1)) rfl) ?_
    refine s_aload_n (oe_t65 262 (q := (487, .aload_n 0, 1)) rfl) rfl ?_
    obtain ⟨q241, p242, vc⟩ := vc
    refine s_getr (oe_t65 263 (q := (488, .getfield 7441, 3)) rfl) s237 rfl rfl p242 ?_
    refine s_iconst (oe_t65 264 (q := (491, .iconst 3, 1)) rfl) ?_
    obtain ⟨n244, s243, vc⟩ := vc
    obtain ⟨i245, i246, vc⟩ := vc
    refine s_iaload (oe_t65 265 (q := (492, .iaload, 1)) rfl) s243 i245 i246 ?_
    obtain ⟨n248, s247, vc⟩ := vc
    obtain ⟨i249, i250, vc⟩ := vc
    refine t_iastore (oe_t65 266 (q := (493, .iastore, 1)) rfl) s247 i249 i250 (fun h251 e252 => ?_)
    replace vc := vc h251 e252
    refine s_iconst (oe_t65 267 (q := (494, .iconst 0, 1)) rfl) ?_
    refine s_istore (oe_t65 268 (q := (495, .istore 17, 2)) rfl) ?_
    exact oe_V.fg (oe_M_mono _) (show oe_fg [some (.inr (.inl v0)), none, none, none, none, none, none, none, none, none, none, none, none, none, none, none, none, some (.inl 0)] _ from ⟨rfl, ⟨rfl, trivial⟩⟩) vc
  · replace vc := vc.2 c238
    refine s_aload_n (oe_t65 247 (q := (459, .aload_n 0, 1)) rfl) rfl ?_
    obtain ⟨q253, p254, vc⟩ := vc
    refine s_getr (oe_t65 248 (q := (460, .getfield 7181, 3)) rfl) s237 rfl rfl p254 ?_
    refine s_bipush (oe_t65 249 (q := (463, .bipush 80, 2)) rfl) ?_
    refine s_iload (oe_t65 250 (q := (465, .iload 17, 2)) rfl) rfl ?_
    obtain ⟨r255, vc⟩ := vc
    refine s_iadd (oe_t65 251 (q := (467, .iadd, 1)) rfl) r255 ?_
    refine s_aload_n (oe_t65 252 (q := (468, .aload_n 0, 1)) rfl) rfl ?_
    obtain ⟨q256, p257, vc⟩ := vc
    refine s_getr (oe_t65 253 (q := (469, .getfield 7391, 3)) rfl) s237 rfl rfl p257 ?_
    refine s_iload (oe_t65 254 (q := (472, .iload 17, 2)) rfl) rfl ?_
    obtain ⟨n259, s258, vc⟩ := vc
    obtain ⟨i260, i261, vc⟩ := vc
    refine s_iaload (oe_t65 255 (q := (474, .iaload, 1)) rfl) s258 i260 i261 ?_
    obtain ⟨n263, s262, vc⟩ := vc
    obtain ⟨i264, i265, vc⟩ := vc
    refine t_iastore (oe_t65 256 (q := (475, .iastore, 1)) rfl) s262 i264 i265 (fun h266 e267 => ?_)
    replace vc := vc h266 e267
    obtain ⟨r268, vc⟩ := vc
    refine s_iinc (oe_t65 257 (q := (476, .iinc 17 1, 3)) rfl) rfl r268 ?_
    refine s_goto (oe_t65 258 (q := (479, .goto 450, 3)) rfl) ?_
    exact oe_V.fg (oe_M_mono _) (show oe_fg [some (.inr (.inl v0)), none, none, none, none, none, none, none, none, none, none, none, none, none, none, none, none, some (.inl (v17 + 1))] _ from ⟨rfl, ⟨rfl, trivial⟩⟩) vc
theorem g65_497 {d : Nat} {sh : List (Nat × Nat)} {g : Nat → Nat → Option Nat} {h : Nat → Nat → Int} {Q : oeQ} {v0 : Nat} {v17 : Int}
    (vc : sh[v0]? = some (12, 45) ∧ ∃ q270, g v0 19 = some q270 ∧ ∃ n273, sh[q270]? = some (0, n273) ∧ 0 ≤ (3 : Int) ∧ (3 : Int) < (n273 : Nat) ∧ ((h q270 3) ≤ v17 → oe_M (d + 1) 66 [.inr (.inl v0)] (sh, g, h) (fun r hp => ∃ (h277 : Nat → Nat → Int), r = none ∧ hp = (sh, g, h277) ∧ Q none (sh, g, h277))) ∧ (v17 < (h q270 3) → ∃ q278, g v0 18 = some q278 ∧ oe_rg (120 + v17) ∧ ∃ q281, g v0 43 = some q281 ∧ oe_rg (96 + v17) ∧ ∃ n285, sh[q281]? = some (0, n285) ∧ 0 ≤ (96 + v17) ∧ (96 + v17) < (n285 : Nat) ∧ ∃ n289, sh[q278]? = some (0, n289) ∧ 0 ≤ (120 + v17) ∧ (120 + v17) < (n289 : Nat) ∧ ∀ h292, h292 = oe_up h q278 ((120 + v17) : Int).toNat (h q281 ((96 + v17) : Int).toNat) → oe_rg (v17 + 1) ∧ oe_V (oe_cost 65) 65 (oe_M (d + 1)) none Q 497 [some (.inr (.inl v0)), none, none, none, none, none, none, none, none, none, none, none, none, none, none, none, none, some (.inl (v17 + 1))] [] (sh, g, h292) 0 0)) :
    oe_V (oe_cost 65) 65 (oe_M (d + 1)) none Q 497 [some (.inr (.inl v0)), none, none, none, none, none, none, none, none, none, none, none, none, none, none, none, none, some (.inl v17)] [] (sh, g, h) 0 0 := by
  refine s_iload (oe_t65 269 (q := (497, .iload 17, 2)) rfl) rfl ?_
  refine s_aload_n (oe_t65 270 (q := (499, .aload_n 0, 1)) rfl) rfl ?_
  obtain ⟨s269, vc⟩ := vc
  obtain ⟨q270, p271, vc⟩ := vc
  refine s_getr (oe_t65 271 (q := (500, .getfield 7191, 3)) rfl) s269 rfl rfl p271 ?_
  refine s_iconst (oe_t65 272 (q := (503, .iconst 3, 1)) rfl) ?_
  obtain ⟨n273, s272, vc⟩ := vc
  obtain ⟨i274, i275, vc⟩ := vc
  refine s_iaload (oe_t65 273 (q := (504, .iaload, 1)) rfl) s272 i274 i275 ?_
  refine s_ic_ge (oe_t65 274 (q := (505, .if_icmp .ge 534, 3)) rfl) (fun c276 => ?_) (fun c276 => ?_)
  · replace vc := vc.1 c276
    refine s_aload_n (oe_t65 289 (q := (534, .aload_n 0, 1)) rfl) rfl ?_
    refine s_callv (oe_t65 290 (q := (535, .invokevirtual 66070, 3)) rfl) rfl s269 rfl (Nat.le_of_ble_eq_true rfl) (Nat.le_of_ble_eq_true rfl) (Nat.le_of_ble_eq_true rfl) (Nat.le_of_ble_eq_true rfl) ?_
    refine oe_M_mono _ _ _ _ _ _ (fun r hp vq => ?_) vc
    obtain ⟨h277, rfl, rfl, vc⟩ := vq
    show oe_V (oe_cost 65) 65 (oe_M (d + 1)) none Q 538 [some (.inr (.inl v0)), none, none, none, none, none, none, none, none, none, none, none, none, none, none, none, none, some (.inl v17)] [] (sh, g, h277) 0 0
    exact s_ret (oe_t65 291 (q := (538, .return_, 1)) rfl) rfl vc
  · replace vc := vc.2 c276
    refine s_aload_n (oe_t65 275 (q := (508, .aload_n 0, 1)) rfl) rfl ?_
    obtain ⟨q278, p279, vc⟩ := vc
    refine s_getr (oe_t65 276 (q := (509, .getfield 7181, 3)) rfl) s269 rfl rfl p279 ?_
    refine s_bipush (oe_t65 277 (q := (512, .bipush 120, 2)) rfl) ?_
    refine s_iload (oe_t65 278 (q := (514, .iload 17, 2)) rfl) rfl ?_
    obtain ⟨r280, vc⟩ := vc
    refine s_iadd (oe_t65 279 (q := (516, .iadd, 1)) rfl) r280 ?_
    refine s_aload_n (oe_t65 280 (q := (517, .aload_n 0, 1)) rfl) rfl ?_
    obtain ⟨q281, p282, vc⟩ := vc
    refine s_getr (oe_t65 281 (q := (518, .getfield 7431, 3)) rfl) s269 rfl rfl p282 ?_
    refine s_bipush (oe_t65 282 (q := (521, .bipush 96, 2)) rfl) ?_
    refine s_iload (oe_t65 283 (q := (523, .iload 17, 2)) rfl) rfl ?_
    obtain ⟨r283, vc⟩ := vc
    refine s_iadd (oe_t65 284 (q := (525, .iadd, 1)) rfl) r283 ?_
    obtain ⟨n285, s284, vc⟩ := vc
    obtain ⟨i286, i287, vc⟩ := vc
    refine s_iaload (oe_t65 285 (q := (526, .iaload, 1)) rfl) s284 i286 i287 ?_
    obtain ⟨n289, s288, vc⟩ := vc
    obtain ⟨i290, i291, vc⟩ := vc
    refine t_iastore (oe_t65 286 (q := (527, .iastore, 1)) rfl) s288 i290 i291 (fun h292 e293 => ?_)
    replace vc := vc h292 e293
    obtain ⟨r294, vc⟩ := vc
    refine s_iinc (oe_t65 287 (q := (528, .iinc 17 1, 3)) rfl) rfl r294 ?_
    refine s_goto (oe_t65 288 (q := (531, .goto 497, 3)) rfl) ?_
    exact oe_V.fg (oe_M_mono _) (show oe_fg [some (.inr (.inl v0)), none, none, none, none, none, none, none, none, none, none, none, none, none, none, none, none, some (.inl (v17 + 1))] _ from ⟨rfl, ⟨rfl, trivial⟩⟩) vc
theorem oe_u66 : oe_c66.all (fun q => decide (oe_find oe_c66 q.1 = some q.2)) = true := by decide +kernel
theorem oe_t66 (k : Nat) {q : Nat × Jvm.ClassFile.Instr × Nat} (h : oe_c66[k]? = some q) : oe_find (oe_code 66) q.1 = some q.2 := oe_ft oe_u66 h
theorem g66 {d : Nat} {sh : List (Nat × Nat)} {g : Nat → Nat → Option Nat} {h : Nat → Nat → Int} {Q : oeQ} {v0 : Nat}
    (vc : sh[v0]? = some (12, 45) ∧ oe_M (d + 1) 51 [.inr (.inl v0), .inl 2] (sh, g, h) (fun r hp => ∃ (h1 : Nat → Nat → Int), r = none ∧ hp = (sh, g, h1) ∧ oe_M (d + 1) 51 [.inr (.inl v0), .inl 3] (sh, g, h1) (fun r hp => ∃ (h3 : Nat → Nat → Int), r = none ∧ hp = (sh, g, h3) ∧ oe_M (d + 1) 52 [.inr (.inl v0), .inl 2, .inl 3] (sh, g, h3) (fun r hp => ∃ (x4 : Int), r = some (.inl x4) ∧ hp = (sh, g, h3) ∧ (x4 = 0 → ∃ q6, g v0 19 = some q6 ∧ ∃ n9, sh[q6]? = some (0, n9) ∧ 0 ≤ (2 : Int) ∧ (2 : Int) < (n9 : Nat) ∧ 0 ≤ (3 : Int) ∧ (3 : Int) < (n9 : Nat) ∧ oe_rg ((h3 q6 2) + (h3 q6 3)) ∧ (20 < ((h3 q6 2) + (h3 q6 3)) → oe_rg ((h3 v0 16) + 1) ∧ ∀ h17, h17 = oe_up h3 v0 16 ((h3 v0 16) + 1) → Q none (sh, g, h17)) ∧ (((h3 q6 2) + (h3 q6 3)) ≤ 20 → oe_M (d + 1) 54 [.inr (.inl v0)] (sh, g, h3) (fun r hp => ∃ (x20 : Int) (h19 : Nat → Nat → Int), r = some (.inl x20) ∧ hp = (sh, g, h19) ∧ (x20 ≤ 6 → oe_M (d + 1) 56 [.inr (.inl v0), .inl 1] (sh, g, h19) (fun r hp => ∃ (x23 : Int) (h22 : Nat → Nat → Int), r = some (.inl x23) ∧ hp = (sh, g, h22) ∧ (x23 ≠ 0 → Q none (sh, g, h22)) ∧ (x23 = 0 → ((h22 v0 8) ≠ 30 → oe_M (d + 1) 57 [.inr (.inl v0)] (sh, g, h22) (fun r hp => ∃ (h26 : Nat → Nat → Int), r = none ∧ hp = (sh, g, h26) ∧ Q none (sh, g, h26))) ∧ ((h22 v0 8) = 30 → oe_rg ((h22 v0 16) + 1) ∧ ∀ h28, h28 = oe_up h22 v0 16 ((h22 v0 16) + 1) → Q none (sh, g, h28))))) ∧ (6 < x20 → oe_rg ((h19 v0 16) + 1) ∧ ∀ h31, h31 = oe_up h19 v0 16 ((h19 v0 16) + 1) → Q none (sh, g, h31))))) ∧ (x4 ≠ 0 → Q none (sh, g, h3)))))) :
    oe_M (d + 2) 66 [.inr (.inl v0)] (sh, g, h) Q := by
  refine oe_M.of (by simp [oe_c1]) (Nat.le_of_ble_eq_true rfl) ?_
  show oe_V (oe_cost 66) 66 (oe_M (d + 1)) none Q 0 [some (.inr (.inl v0))] [] (sh, g, h) 0 0
  refine s_aload_n (oe_t66 0 (q := (0, .aload_n 0, 1)) rfl) rfl ?_
  refine s_iconst (oe_t66 1 (q := (1, .iconst 2, 1)) rfl) ?_
  obtain ⟨s2, vc⟩ := vc
  refine s_callv (oe_t66 2 (q := (2, .invokevirtual 51071, 3)) rfl) rfl s2 rfl (Nat.le_of_ble_eq_true rfl) (Nat.le_of_ble_eq_true rfl) (Nat.le_of_ble_eq_true rfl) (Nat.le_of_ble_eq_true rfl) ?_
  refine oe_M_mono _ _ _ _ _ _ (fun r hp vq => ?_) vc
  obtain ⟨h1, rfl, rfl, vc⟩ := vq
  show oe_V (oe_cost 66) 66 (oe_M (d + 1)) none Q 5 [some (.inr (.inl v0))] [] (sh, g, h1) 0 0
  refine s_aload_n (oe_t66 3 (q := (5, .aload_n 0, 1)) rfl) rfl ?_
  refine s_iconst (oe_t66 4 (q := (6, .iconst 3, 1)) rfl) ?_
  refine s_callv (oe_t66 5 (q := (7, .invokevirtual 51071, 3)) rfl) rfl s2 rfl (Nat.le_of_ble_eq_true rfl) (Nat.le_of_ble_eq_true rfl) (Nat.le_of_ble_eq_true rfl) (Nat.le_of_ble_eq_true rfl) ?_
  refine oe_M_mono _ _ _ _ _ _ (fun r hp vq => ?_) vc
  obtain ⟨h3, rfl, rfl, vc⟩ := vq
  show oe_V (oe_cost 66) 66 (oe_M (d + 1)) none Q 10 [some (.inr (.inl v0))] [] (sh, g, h3) 0 0
  refine s_aload_n (oe_t66 6 (q := (10, .aload_n 0, 1)) rfl) rfl ?_
  refine s_iconst (oe_t66 7 (q := (11, .iconst 2, 1)) rfl) ?_
  refine s_iconst (oe_t66 8 (q := (12, .iconst 3, 1)) rfl) ?_
  refine s_callv (oe_t66 9 (q := (13, .invokevirtual 52072, 3)) rfl) rfl s2 rfl (Nat.le_of_ble_eq_true rfl) (Nat.le_of_ble_eq_true rfl) (Nat.le_of_ble_eq_true rfl) (Nat.le_of_ble_eq_true rfl) ?_
  refine oe_M_mono _ _ _ _ _ _ (fun r hp vq => ?_) vc
  obtain ⟨x4, rfl, rfl, vc⟩ := vq
  show oe_V (oe_cost 66) 66 (oe_M (d + 1)) none Q 16 [some (.inr (.inl v0))] [.inl x4] (sh, g, h3) 0 0
  refine s_if_eq (oe_t66 10 (q := (16, .ifCond .eq 20, 3)) rfl) (fun c5 => ?_) (fun c5 => ?_)
  · replace vc := vc.1 c5
    refine s_aload_n (oe_t66 12 (q := (20, .aload_n 0, 1)) rfl) rfl ?_
    obtain ⟨q6, p7, vc⟩ := vc
    refine s_getr (oe_t66 13 (q := (21, .getfield 7191, 3)) rfl) s2 rfl rfl p7 ?_
    refine s_iconst (oe_t66 14 (q := (24, .iconst 2, 1)) rfl) ?_
    obtain ⟨n9, s8, vc⟩ := vc
    obtain ⟨i10, i11, vc⟩ := vc
    refine s_iaload (oe_t66 15 (q := (25, .iaload, 1)) rfl) s8 i10 i11 ?_
    refine s_aload_n (oe_t66 16 (q := (26, .aload_n 0, 1)) rfl) rfl ?_
    refine s_getr (oe_t66 17 (q := (27, .getfield 7191, 3)) rfl) s2 rfl rfl p7 ?_
    refine s_iconst (oe_t66 18 (q := (30, .iconst 3, 1)) rfl) ?_
    obtain ⟨i12, i13, vc⟩ := vc
    refine s_iaload (oe_t66 19 (q := (31, .iaload, 1)) rfl) s8 i12 i13 ?_
    obtain ⟨r14, vc⟩ := vc
    refine s_iadd (oe_t66 20 (q := (32, .iadd, 1)) rfl) r14 ?_
    refine s_bipush (oe_t66 21 (q := (33, .bipush 20, 2)) rfl) ?_
    refine s_ic_gt (oe_t66 22 (q := (35, .if_icmp .gt 47, 3)) rfl) (fun c15 => ?_) (fun c15 => ?_)
    · replace vc := vc.1 c15
      refine s_aload_n (oe_t66 27 (q := (47, .aload_n 0, 1)) rfl) rfl ?_
      refine s_dup (oe_t66 28 (q := (48, .dup, 1)) rfl) trivial ?_
      refine s_geti (oe_t66 29 (q := (49, .getfield 7160, 3)) rfl) s2 rfl (by decide) ?_
      refine s_iconst (oe_t66 30 (q := (52, .iconst 1, 1)) rfl) ?_
      obtain ⟨r16, vc⟩ := vc
      refine s_iadd (oe_t66 31 (q := (53, .iadd, 1)) rfl) r16 ?_
      refine t_puti (oe_t66 32 (q := (54, .putfield 7160, 3)) rfl) s2 rfl (Or.inl rfl) (fun h17 e18 => ?_)
      replace vc := vc h17 e18
      refine s_goto (oe_t66 33 (q := (57, .goto 94, 3)) rfl) ?_
      exact s_ret (oe_t66 51 (q := (94, .return_, 1)) rfl) rfl vc
    · replace vc := vc.2 c15
      refine s_aload_n (oe_t66 23 (q := (38, .aload_n 0, 1)) rfl) rfl ?_
      refine s_callv (oe_t66 24 (q := (39, .invokevirtual 54070, 3)) rfl) rfl s2 rfl (Nat.le_of_ble_eq_true rfl) (Nat.le_of_ble_eq_true rfl) (Nat.le_of_ble_eq_true rfl) (Nat.le_of_ble_eq_true rfl) ?_
      refine oe_M_mono _ _ _ _ _ _ (fun r hp vq => ?_) vc
      obtain ⟨x20, h19, rfl, rfl, vc⟩ := vq
      show oe_V (oe_cost 66) 66 (oe_M (d + 1)) none Q 42 [some (.inr (.inl v0))] [.inl x20] (sh, g, h19) 0 0
      refine s_bipush (oe_t66 25 (q := (42, .bipush 6, 2)) rfl) ?_
      refine s_ic_le (oe_t66 26 (q := (44, .if_icmp .le 60, 3)) rfl) (fun c21 => ?_) (fun c21 => ?_)
      · replace vc := vc.1 c21
        refine s_aload_n (oe_t66 34 (q := (60, .aload_n 0, 1)) rfl) rfl ?_
        refine s_iconst (oe_t66 35 (q := (61, .iconst 1, 1)) rfl) ?_
        refine s_callv (oe_t66 36 (q := (62, .invokevirtual 56071, 3)) rfl) rfl s2 rfl (Nat.le_of_ble_eq_true rfl) (Nat.le_of_ble_eq_true rfl) (Nat.le_of_ble_eq_true rfl) (Nat.le_of_ble_eq_true rfl) ?_
        refine oe_M_mono _ _ _ _ _ _ (fun r hp vq => ?_) vc
        obtain ⟨x23, h22, rfl, rfl, vc⟩ := vq
        show oe_V (oe_cost 66) 66 (oe_M (d + 1)) none Q 65 [some (.inr (.inl v0))] [.inl x23] (sh, g, h22) 0 0
        refine s_if_ne (oe_t66 37 (q := (65, .ifCond .ne 94, 3)) rfl) (fun c24 => ?_) (fun c24 => ?_)
        · replace vc := vc.1 c24
          exact s_ret (oe_t66 51 (q := (94, .return_, 1)) rfl) rfl vc
        · replace vc := vc.2 c24
          refine s_aload_n (oe_t66 38 (q := (68, .aload_n 0, 1)) rfl) rfl ?_
          refine s_geti (oe_t66 39 (q := (69, .getfield 7080, 3)) rfl) s2 rfl (by decide) ?_
          refine s_bipush (oe_t66 40 (q := (72, .bipush 30, 2)) rfl) ?_
          refine s_ic_ne (oe_t66 41 (q := (74, .if_icmp .ne 90, 3)) rfl) (fun c25 => ?_) (fun c25 => ?_)
          · replace vc := vc.1 c25
            refine s_aload_n (oe_t66 49 (q := (90, .aload_n 0, 1)) rfl) rfl ?_
            refine s_callv (oe_t66 50 (q := (91, .invokevirtual 57070, 3)) rfl) rfl s2 rfl (Nat.le_of_ble_eq_true rfl) (Nat.le_of_ble_eq_true rfl) (Nat.le_of_ble_eq_true rfl) (Nat.le_of_ble_eq_true rfl) ?_
            refine oe_M_mono _ _ _ _ _ _ (fun r hp vq => ?_) vc
            obtain ⟨h26, rfl, rfl, vc⟩ := vq
            show oe_V (oe_cost 66) 66 (oe_M (d + 1)) none Q 94 [some (.inr (.inl v0))] [] (sh, g, h26) 0 0
            exact s_ret (oe_t66 51 (q := (94, .return_, 1)) rfl) rfl vc
          · replace vc := vc.2 c25
            refine s_aload_n (oe_t66 42 (q := (77, .aload_n 0, 1)) rfl) rfl ?_
            refine s_dup (oe_t66 43 (q := (78, .dup, 1)) rfl) trivial ?_
            refine s_geti (oe_t66 44 (q := (79, .getfield 7160, 3)) rfl) s2 rfl (by decide) ?_
            refine s_iconst (oe_t66 45 (q := (82, .iconst 1, 1)) rfl) ?_
            obtain ⟨r27, vc⟩ := vc
            refine s_iadd (oe_t66 46 (q := (83, .iadd, 1)) rfl) r27 ?_
            refine t_puti (oe_t66 47 (q := (84, .putfield 7160, 3)) rfl) s2 rfl (Or.inl rfl) (fun h28 e29 => ?_)
            replace vc := vc h28 e29
            refine s_goto (oe_t66 48 (q := (87, .goto 94, 3)) rfl) ?_
            exact s_ret (oe_t66 51 (q := (94, .return_, 1)) rfl) rfl vc
      · replace vc := vc.2 c21
        refine s_aload_n (oe_t66 27 (q := (47, .aload_n 0, 1)) rfl) rfl ?_
        refine s_dup (oe_t66 28 (q := (48, .dup, 1)) rfl) trivial ?_
        refine s_geti (oe_t66 29 (q := (49, .getfield 7160, 3)) rfl) s2 rfl (by decide) ?_
        refine s_iconst (oe_t66 30 (q := (52, .iconst 1, 1)) rfl) ?_
        obtain ⟨r30, vc⟩ := vc
        refine s_iadd (oe_t66 31 (q := (53, .iadd, 1)) rfl) r30 ?_
        refine t_puti (oe_t66 32 (q := (54, .putfield 7160, 3)) rfl) s2 rfl (Or.inl rfl) (fun h31 e32 => ?_)
        replace vc := vc h31 e32
        refine s_goto (oe_t66 33 (q := (57, .goto 94, 3)) rfl) ?_
        exact s_ret (oe_t66 51 (q := (94, .return_, 1)) rfl) rfl vc
  · replace vc := vc.2 c5
    exact s_ret (oe_t66 11 (q := (19, .return_, 1)) rfl) rfl vc
theorem oe_u67 : oe_c67.all (fun q => decide (oe_find oe_c67 q.1 = some q.2)) = true := by decide +kernel
theorem oe_t67 (k : Nat) {q : Nat × Jvm.ClassFile.Instr × Nat} (h : oe_c67[k]? = some q) : oe_find (oe_code 67) q.1 = some q.2 := oe_ft oe_u67 h
theorem g67 {d : Nat} {sh : List (Nat × Nat)} {g : Nat → Nat → Option Nat} {h : Nat → Nat → Int} {Q : oeQ} {v0 : Nat} {v1 : Int} {v2 : Int}
    (vc : oe_V (oe_cost 67) 67 (oe_M (d + 1)) none Q 2 [some (.inr (.inl v0)), some (.inl v1), some (.inl v2), some (.inl 0), none, none, none, none, none, none] [] (sh, g, h) 0 0) :
    oe_M (d + 2) 67 [.inr (.inl v0), .inl v1, .inl v2] (sh, g, h) Q := by
  refine oe_M.of (by simp [oe_c1]) (Nat.le_of_ble_eq_true rfl) ?_
  show oe_V (oe_cost 67) 67 (oe_M (d + 1)) none Q 0 [some (.inr (.inl v0)), some (.inl v1), some (.inl v2), none, none, none, none, none, none, none] [] (sh, g, h) 0 0
  refine s_iconst (oe_t67 0 (q := (0, .iconst 0, 1)) rfl) ?_
  refine s_istore_n (oe_t67 1 (q := (1, .istore_n 3, 1)) rfl) ?_
  exact oe_V.fg (oe_M_mono _) (show oe_fg [some (.inr (.inl v0)), some (.inl v1), some (.inl v2), some (.inl 0), none, none, none, none, none, none] _ from ⟨rfl, ⟨rfl, ⟨rfl, ⟨rfl, trivial⟩⟩⟩⟩) vc
theorem g67_2 {d : Nat} {sh : List (Nat × Nat)} {g : Nat → Nat → Option Nat} {h : Nat → Nat → Int} {Q : oeQ} {v0 : Nat} {v1 : Int} {v2 : Int} {v3 : Int}
    (vc : (4 ≤ v3 → Q none (sh, g, h)) ∧ (v3 < 4 → (2 ≤ v3 → 0 ≤ v3 ∧ ((v3 % 2) ≠ 0 → oe_V (oe_cost 67) 67 (oe_M (d + 1)) none Q 30 [some (.inr (.inl v0)), some (.inl v1), some (.inl v2), some (.inl v3), some (.inl 0), none, none, none, none, none] [.inl 0] (sh, g, h) 0 0) ∧ ((v3 % 2) = 0 → oe_V (oe_cost 67) 67 (oe_M (d + 1)) none Q 30 [some (.inr (.inl v0)), some (.inl v1), some (.inl v2), some (.inl v3), some (.inl 0), none, none, none, none, none] [.inl 1] (sh, g, h) 0 0)) ∧ (v3 < 2 → 0 ≤ v3 ∧ ((v3 % 2) ≠ 0 → oe_V (oe_cost 67) 67 (oe_M (d + 1)) none Q 30 [some (.inr (.inl v0)), some (.inl v1), some (.inl v2), some (.inl v3), some (.inl 1), none, none, none, none, none] [.inl 0] (sh, g, h) 0 0) ∧ ((v3 % 2) = 0 → oe_V (oe_cost 67) 67 (oe_M (d + 1)) none Q 30 [some (.inr (.inl v0)), some (.inl v1), some (.inl v2), some (.inl v3), some (.inl 1), none, none, none, none, none] [.inl 1] (sh, g, h) 0 0)))) :
    oe_V (oe_cost 67) 67 (oe_M (d + 1)) none Q 2 [some (.inr (.inl v0)), some (.inl v1), some (.inl v2), some (.inl v3), none, none, none, none, none, none] [] (sh, g, h) 0 0 := by
  refine s_iload_n (oe_t67 2 (q := (2, .iload_n 3, 1)) rfl) rfl ?_
  refine s_iconst (oe_t67 3 (q := (3, .iconst 4, 1)) rfl) ?_
  refine s_ic_ge (oe_t67 4 (q := (4, .if_icmp .ge 163, 3)) rfl) (fun c1 => ?_) (fun c1 => ?_)
  · replace vc := vc.1 c1
    exact s_ret (oe_t67 89 (q := (163, .return_, 1)) rfl) rfl vc
  · replace vc := vc.2 c1
    refine s_iload_n (oe_t67 5 (q := (7, .iload_n 3, 1)) rfl) rfl ?_
    refine s_iconst (oe_t67 6 (q := (8, .iconst 2, 1)) rfl) ?_
    refine s_ic_ge (oe_t67 7 (q := (9, .if_icmp .ge 16, 3)) rfl) (fun c2 => ?_) (fun c2 => ?_)
    · replace vc := vc.1 c2
      refine s_iconst (oe_t67 10 (q := (16, .iconst 0, 1)) rfl) ?_
      refine s_istore (oe_t67 11 (q := (17, .istore 4, 2)) rfl) ?_
      refine s_iload_n (oe_t67 12 (q := (19, .iload_n 3, 1)) rfl) rfl ?_
      refine s_iconst (oe_t67 13 (q := (20, .iconst 2, 1)) rfl) ?_
      obtain ⟨r3, vc⟩ := vc
      refine s_irem (oe_t67 14 (q := (21, .irem, 1)) rfl) r3 (by decide) ?_
      refine s_if_ne (oe_t67 15 (q := (22, .ifCond .ne 29, 3)) rfl) (fun c4 => ?_) (fun c4 => ?_)
      · replace vc := vc.1 c4
        refine s_iconst (oe_t67 18 (q := (29, .iconst 0, 1)) rfl) ?_
        exact oe_V.fg (oe_M_mono _) (show oe_fg [some (.inr (.inl v0)), some (.inl v1), some (.inl v2), some (.inl v3), some (.inl 0), none, none, none, none, none] _ from ⟨rfl, ⟨rfl, ⟨rfl, ⟨rfl, ⟨rfl, trivial⟩⟩⟩⟩⟩) vc
      · replace vc := vc.2 c4
        refine s_iconst (oe_t67 16 (q := (25, .iconst 1, 1)) rfl) ?_
        refine s_goto (oe_t67 17 (q := (26, .goto 30, 3)) rfl) ?_
        exact oe_V.fg (oe_M_mono _) (show oe_fg [some (.inr (.inl v0)), some (.inl v1), some (.inl v2), some (.inl v3), some (.inl 0), none, none, none, none, none] _ from ⟨rfl, ⟨rfl, ⟨rfl, ⟨rfl, ⟨rfl, trivial⟩⟩⟩⟩⟩) vc
    · replace vc := vc.2 c2
      refine s_iconst (oe_t67 8 (q := (12, .iconst 1, 1)) rfl) ?_
      refine s_goto (oe_t67 9 (q := (13, .goto 17, 3)) rfl) ?_
      refine s_istore (oe_t67 11 (q := (17, .istore 4, 2)) rfl) ?_
      refine s_iload_n (oe_t67 12 (q := (19, .iload_n 3, 1)) rfl) rfl ?_
      refine s_iconst (oe_t67 13 (q := (20, .iconst 2, 1)) rfl) ?_
      obtain ⟨r5, vc⟩ := vc
      refine s_irem (oe_t67 14 (q := (21, .irem, 1)) rfl) r5 (by decide) ?_
      refine s_if_ne (oe_t67 15 (q := (22, .ifCond .ne 29, 3)) rfl) (fun c6 => ?_) (fun c6 => ?_)
      · replace vc := vc.1 c6
        refine s_iconst (oe_t67 18 (q := (29, .iconst 0, 1)) rfl) ?_
        exact oe_V.fg (oe_M_mono _) (show oe_fg [some (.inr (.inl v0)), some (.inl v1), some (.inl v2), some (.inl v3), some (.inl 1), none, none, none, none, none] _ from ⟨rfl, ⟨rfl, ⟨rfl, ⟨rfl, ⟨rfl, trivial⟩⟩⟩⟩⟩) vc
      · replace vc := vc.2 c6
        refine s_iconst (oe_t67 16 (q := (25, .iconst 1, 1)) rfl) ?_
        refine s_goto (oe_t67 17 (q := (26, .goto 30, 3)) rfl) ?_
        exact oe_V.fg (oe_M_mono _) (show oe_fg [some (.inr (.inl v0)), some (.inl v1), some (.inl v2), some (.inl v3), some (.inl 1), none, none, none, none, none] _ from ⟨rfl, ⟨rfl, ⟨rfl, ⟨rfl, ⟨rfl, trivial⟩⟩⟩⟩⟩) vc
theorem g67_30 {d : Nat} {sh : List (Nat × Nat)} {g : Nat → Nat → Option Nat} {h : Nat → Nat → Int} {Q : oeQ} {v0 : Nat} {v1 : Int} {v2 : Int} {v3 : Int} {v4 : Int} {w0 : Int}
    (vc : oe_rg (20 * v2) ∧ (w0 = 0 → sh[v0]? = some (12, 45) ∧ ∃ q10, g v0 14 = some q10 ∧ ∃ n13, sh[q10]? = some (0, n13) ∧ 0 ≤ v2 ∧ v2 < (n13 : Nat) ∧ oe_rg ((20 * v2) + (h q10 (v2 : Int).toNat)) ∧ oe_rg (20 * v2) ∧ (w0 = 0 → ∃ q19, g v0 15 = some q19 ∧ ∃ n22, sh[q19]? = some (0, n22) ∧ 0 ≤ v2 ∧ v2 < (n22 : Nat) ∧ oe_rg ((20 * v2) + (h q19 (v2 : Int).toNat)) ∧ oe_V (oe_cost 67) 67 (oe_M (d + 1)) none Q 84 [some (.inr (.inl v0)), some (.inl v1), some (.inl v2), some (.inl v3), some (.inl v4), some (.inl w0), some (.inl ((20 * v2) + (h q10 (v2 : Int).toNat))), some (.inl ((20 * v2) + (h q19 (v2 : Int).toNat))), some (.inl 0), none] [] (sh, g, h) 0 0) ∧ (w0 ≠ 0 → 0 ≤ v2 ∧ v2 < (n13 : Nat) ∧ oe_rg ((20 * v2) + (h q10 (v2 : Int).toNat)) ∧ oe_V (oe_cost 67) 67 (oe_M (d + 1)) none Q 84 [some (.inr (.inl v0)), some (.inl v1), some (.inl v2), some (.inl v3), some (.inl v4), some (.inl w0), some (.inl ((20 * v2) + (h q10 (v2 : Int).toNat))), some (.inl ((20 * v2) + (h q10 (v2 : Int).toNat))), some (.inl 0), none] [] (sh, g, h) 0 0)) ∧ (w0 ≠ 0 → oe_rg ((20 * v2) + 0) ∧ oe_rg (20 * v2) ∧ (w0 = 0 → sh[v0]? = some (12, 45) ∧ ∃ q33, g v0 15 = some q33 ∧ ∃ n36, sh[q33]? = some (0, n36) ∧ 0 ≤ v2 ∧ v2 < (n36 : Nat) ∧ oe_rg ((20 * v2) + (h q33 (v2 : Int).toNat)) ∧ oe_V (oe_cost 67) 67 (oe_M (d + 1)) none Q 84 [some (.inr (.inl v0)), some (.inl v1), some (.inl v2), some (.inl v3), some (.inl v4), some (.inl w0), some (.inl ((20 * v2) + 0)), some (.inl ((20 * v2) + (h q33 (v2 : Int).toNat))), some (.inl 0), none] [] (sh, g, h) 0 0) ∧ (w0 ≠ 0 → sh[v0]? = some (12, 45) ∧ ∃ q41, g v0 14 = some q41 ∧ ∃ n44, sh[q41]? = some (0, n44) ∧ 0 ≤ v2 ∧ v2 < (n44 : Nat) ∧ oe_rg ((20 * v2) + (h q41 (v2 : Int).toNat)) ∧ oe_V (oe_cost 67) 67 (oe_M (d + 1)) none Q 84 [some (.inr (.inl v0)), some (.inl v1), some (.inl v2), some (.inl v3), some (.inl v4), some (.inl w0), some (.inl ((20 * v2) + 0)), some (.inl ((20 * v2) + (h q41 (v2 : Int).toNat))), some (.inl 0), none] [] (sh, g, h) 0 0))) :
    oe_V (oe_cost 67) 67 (oe_M (d + 1)) none Q 30 [some (.inr (.inl v0)), some (.inl v1), some (.inl v2), some (.inl v3), some (.inl v4), none, none, none, none, none] [.inl w0] (sh, g, h) 0 0 := by
  refine s_istore (oe_t67 19 (q := (30, .istore 5, 2)) rfl) ?_
  refine s_bipush (oe_t67 20 (q := (32, .bipush 20, 2)) rfl) ?_
  refine s_iload_n (oe_t67 21 (q := (34, .iload_n 2, 1)) rfl) rfl ?_
  obtain ⟨r7, vc⟩ := vc
  refine s_imul (oe_t67 22 (q := (35, .imul, 1)) rfl) r7 ?_
  refine s_iload (oe_t67 23 (q := (36, .iload 5, 2)) rfl) rfl ?_
  refine s_if_eq (oe_t67 24 (q := (38, .ifCond .eq 45, 3)) rfl) (fun c8 => ?_) (fun c8 => ?_)
  · replace vc := vc.1 c8
    refine s_aload_n (oe_t67 27 (q := (45, .aload_n 0, 1)) rfl) rfl ?_
    obtain ⟨s9, vc⟩ := vc
    obtain ⟨q10, p11, vc⟩ := vc
    refine s_getr (oe_t67 28 (q := (46, .getfield 7141, 3)) rfl) s9 rfl rfl p11 ?_
    refine s_iload_n (oe_t67 29 (q := (49, .iload_n 2, 1)) rfl) rfl ?_
    obtain ⟨n13, s12, vc⟩ := vc
    obtain ⟨i14, i15, vc⟩ := vc
    refine s_iaload (oe_t67 30 (q := (50, .iaload, 1)) rfl) s12 i14 i15 ?_
    obtain ⟨r16, vc⟩ := vc
    refine s_iadd (oe_t67 31 (q := (51, .iadd, 1)) rfl) r16 ?_
    refine s_istore (oe_t67 32 (q := (52, .istore 6, 2)) rfl) ?_
    refine s_bipush (oe_t67 33 (q := (54, .bipush 20, 2)) rfl) ?_
    refine s_iload_n (oe_t67 34 (q := (56, .iload_n 2, 1)) rfl) rfl ?_
    obtain ⟨r17, vc⟩ := vc
    refine s_imul (oe_t67 35 (q := (57, .imul, 1)) rfl) r17 ?_
    refine s_iload (oe_t67 36 (q := (58, .iload 5, 2)) rfl) rfl ?_
    refine s_if_eq (oe_t67 37 (q := (60, .ifCond .eq 72, 3)) rfl) (fun c18 => ?_) (fun c18 => ?_)
    · replace vc := vc.1 c18
      refine s_aload_n (oe_t67 43 (q := (72, .aload_n 0, 1)) rfl) rfl ?_
      obtain ⟨q19, p20, vc⟩ := vc
      refine s_getr (oe_t67 44 (q := (73, .getfield 7151, 3)) rfl) s9 rfl rfl p20 ?_
      refine s_iload_n (oe_t67 45 (q := (76, .iload_n 2, 1)) rfl) rfl ?_
      obtain ⟨n22, s21, vc⟩ := vc
      obtain ⟨i23, i24, vc⟩ := vc
      refine s_iaload (oe_t67 46 (q := (77, .iaload, 1)) rfl) s21 i23 i24 ?_
      obtain ⟨r25, vc⟩ := vc
      refine s_iadd (oe_t67 47 (q := (78, .iadd, 1)) rfl) r25 ?_
      refine s_istore (oe_t67 48 (q := (79, .istore 7, 2)) rfl) ?_
      refine s_iconst (oe_t67 49 (q := (81, .iconst 0, 1)) rfl) ?_
      refine s_istore (oe_t67 50 (q := (82, .istore 8, 2)) rfl) ?_
      exact oe_V.fg (oe_M_mono _) (show oe_fg [some (.inr (.inl v0)), some (.inl v1), some (.inl v2), some (.inl v3), some (.inl v4), some (.inl w0), some (.inl ((20 * v2) + (h q10 (v2 : Int).toNat))), some (.inl ((20 * v2) + (h q19 (v2 : Int).toNat))), some (.inl 0), none] _ from ⟨rfl, ⟨rfl, ⟨rfl, ⟨rfl, ⟨rfl, ⟨rfl, ⟨rfl, ⟨rfl, ⟨rfl, trivial⟩⟩⟩⟩⟩⟩⟩⟩⟩) vc
    · replace vc := vc.2 c18
      refine s_aload_n (oe_t67 38 (q := (63, .aload_n 0, 1)) rfl) rfl ?_
      refine s_getr (oe_t67 39 (q := (64, .getfield 7141, 3)) rfl) s9 rfl rfl p11 ?_
      refine s_iload_n (oe_t67 40 (q := (67, .iload_n 2, 1)) rfl) rfl ?_
      obtain ⟨i26, i27, vc⟩ := vc
      refine s_iaload (oe_t67 41 (q := (68, .iaload, 1)) rfl) s12 i26 i27 ?_
      refine s_goto (oe_t67 42 (q := (69, .goto 78, 3)) rfl) ?_
      obtain ⟨r28, vc⟩ := vc
      refine s_iadd (oe_t67 47 (q := (78, .iadd, 1)) rfl) r28 ?_
      refine s_istore (oe_t67 48 (q := (79, .istore 7, 2)) rfl) ?_
      refine s_iconst (oe_t67 49 (q := (81, .iconst 0, 1)) rfl) ?_
      refine s_istore (oe_t67 50 (q := (82, .istore 8, 2)) rfl) ?_
      exact oe_V.fg (oe_M_mono _) (show oe_fg [some (.inr (.inl v0)), some (.inl v1), some (.inl v2), some (.inl v3), some (.inl v4), some (.inl w0), some (.inl ((20 * v2) + (h q10 (v2 : Int).toNat))), some (.inl ((20 * v2) + (h q10 (v2 : Int).toNat))), some (.inl 0), none] _ from ⟨rfl, ⟨rfl, ⟨rfl, ⟨rfl, ⟨rfl, ⟨rfl, ⟨rfl, ⟨rfl, ⟨rfl, trivial⟩⟩⟩⟩⟩⟩⟩⟩⟩) vc
  · replace vc := vc.2 c8
    refine s_iconst (oe_t67 25 (q := (41, .iconst 0, 1)) rfl) ?_
    refine s_goto (oe_t67 26 (q := (42, .goto 51, 3)) rfl) ?_
    obtain ⟨r29, vc⟩ := vc
    refine s_iadd (oe_t67 31 (q := (51, .iadd, 1)) rfl) r29 ?_
    refine s_istore (oe_t67 32 (q := (52, .istore 6, 2)) rfl) ?_
    refine s_bipush (oe_t67 33 (q := (54, .bipush 20, 2)) rfl) ?_
    refine s_iload_n (oe_t67 34 (q := (56, .iload_n 2, 1)) rfl) rfl ?_
    obtain ⟨r30, vc⟩ := vc
    refine s_imul (oe_t67 35 (q := (57, .imul, 1)) rfl) r30 ?_
    refine s_iload (oe_t67 36 (q := (58, .iload 5, 2)) rfl) rfl ?_
    refine s_if_eq (oe_t67 37 (q := (60, .ifCond .eq 72, 3)) rfl) (fun c31 => ?_) (fun c31 => ?_)
    · replace vc := vc.1 c31
      refine s_aload_n (oe_t67 43 (q := (72, .aload_n 0, 1)) rfl) rfl ?_
      obtain ⟨s32, vc⟩ := vc
      obtain ⟨q33, p34, vc⟩ := vc
      refine s_getr (oe_t67 44 (q := (73, .getfield 7151, 3)) rfl) s32 rfl rfl p34 ?_
      refine s_iload_n (oe_t67 45 (q := (76, .iload_n 2, 1)) rfl) rfl ?_
      obtain ⟨n36, s35, vc⟩ := vc
      obtain ⟨i37, i38, vc⟩ := vc
      refine s_iaload (oe_t67 46 (q := (77, .iaload, 1)) rfl) s35 i37 i38 ?_
      obtain ⟨r39, vc⟩ := vc
      refine s_iadd (oe_t67 47 (q := (78, .iadd, 1)) rfl) r39 ?_
      refine s_istore (oe_t67 48 (q := (79, .istore 7, 2)) rfl) ?_
      refine s_iconst (oe_t67 49 (q := (81, .iconst 0, 1)) rfl) ?_
      refine s_istore (oe_t67 50 (q := (82, .istore 8, 2)) rfl) ?_
      exact oe_V.fg (oe_M_mono _) (show oe_fg [some (.inr (.inl v0)), some (.inl v1), some (.inl v2), some (.inl v3), some (.inl v4), some (.inl w0), some (.inl ((20 * v2) + 0)), some (.inl ((20 * v2) + (h q33 (v2 : Int).toNat))), some (.inl 0), none] _ from ⟨rfl, ⟨rfl, ⟨rfl, ⟨rfl, ⟨rfl, ⟨rfl, ⟨rfl, ⟨rfl, ⟨rfl, trivial⟩⟩⟩⟩⟩⟩⟩⟩⟩) vc
    · replace vc := vc.2 c31
      refine s_aload_n (oe_t67 38 (q := (63, .aload_n 0, 1)) rfl) rfl ?_
      obtain ⟨s40, vc⟩ := vc
      obtain ⟨q41, p42, vc⟩ := vc
      refine s_getr (oe_t67 39 (q := (64, .getfield 7141, 3)) rfl) s40 rfl rfl p42 ?_
      refine s_iload_n (oe_t67 40 (q := (67, .iload_n 2, 1)) rfl) rfl ?_
      obtain ⟨n44, s43, vc⟩ := vc
      obtain ⟨i45, i46, vc⟩ := vc
      refine s_iaload (oe_t67 41 (q := (68, .iaload, 1)) rfl) s43 i45 i46 ?_
      refine s_goto (oe_t67 42 (q := (69, .goto 78, 3)) rfl) ?_
      obtain ⟨r47, vc⟩ := vc
      refine s_iadd (oe_t67 47 (q := (78, .iadd, 1)) rfl) r47 ?_
      refine s_istore (oe_t67 48 (q := (79, .istore 7, 2)) rfl) ?_
      refine s_iconst (oe_t67 49 (q := (81, .iconst 0, 1)) rfl) ?_
      refine s_istore (oe_t67 50 (q := (82, .istore 8, 2)) rfl) ?_
      exact oe_V.fg (oe_M_mono _) (show oe_fg [some (.inr (.inl v0)), some (.inl v1), some (.inl v2), some (.inl v3), some (.inl v4), some (.inl w0), some (.inl ((20 * v2) + 0)), some (.inl ((20 * v2) + (h q41 (v2 : Int).toNat))), some (.inl 0), none] _ from ⟨rfl, ⟨rfl, ⟨rfl, ⟨rfl, ⟨rfl, ⟨rfl, ⟨rfl, ⟨rfl, ⟨rfl, trivial⟩⟩⟩⟩⟩⟩⟩⟩⟩) vc
theorem g67_84 {d : Nat} {sh : List (Nat × Nat)} {g : Nat → Nat → Option Nat} {h : Nat → Nat → Int} {Q : oeQ} {v0 : Nat} {v1 : Int} {v2 : Int} {v3 : Int} {v4 : Int} {v5 : Int} {v6 : Int} {v7 : Int} {v8 : Int}
    (vc : oe_rg (v6 + v8) ∧ (v7 ≤ (v6 + v8) → oe_rg (v3 + 1) ∧ oe_V (oe_cost 67) 67 (oe_M (d + 1)) none Q 2 [some (.inr (.inl v0)), some (.inl v1), some (.inl v2), some (.inl (v3 + 1)), none, none, none, none, none, none] [] (sh, g, h) 0 0) ∧ ((v6 + v8) < v7 → (v1 ≠ v2 → sh[v0]? = some (12, 45) ∧ ∃ q53, g v0 13 = some q53 ∧ oe_rg (v6 + v8) ∧ ∃ n57, sh[q53]? = some (0, n57) ∧ 0 ≤ (v6 + v8) ∧ (v6 + v8) < (n57 : Nat) ∧ ((h q53 ((v6 + v8) : Int).toNat) < 20 → oe_rg (v8 + 1) ∧ oe_V (oe_cost 67) 67 (oe_M (d + 1)) none Q 84 [some (.inr (.inl v0)), some (.inl v1), some (.inl v2), some (.inl v3), some (.inl v4), some (.inl v5), some (.inl v6), some (.inl v7), some (.inl (v8 + 1)), none] [] (sh, g, h) 0 0) ∧ (20 ≤ (h q53 ((v6 + v8) : Int).toNat) → oe_M (d + 1) 65 [.inr (.inl v0), .inl v1, .inl v2, .inl v4, .inl v5, .inl v8] (sh, g, h) (fun r hp => ∃ (h62 : Nat → Nat → Int), r = none ∧ hp = (sh, g, h62) ∧ oe_rg (v8 + 1) ∧ oe_V (oe_cost 67) 67 (oe_M (d + 1)) none Q 84 [some (.inr (.inl v0)), some (.inl v1), some (.inl v2), some (.inl v3), some (.inl v4), some (.inl v5), some (.inl v6), some (.inl v7), some (.inl (v8 + 1)), none] [] (sh, g, h62) 0 0))) ∧ (v1 = v2 → (v4 ≠ v5 → sh[v0]? = some (12, 45) ∧ ∃ q66, g v0 13 = some q66 ∧ oe_rg (v6 + v8) ∧ ∃ n70, sh[q66]? = some (0, n70) ∧ 0 ≤ (v6 + v8) ∧ (v6 + v8) < (n70 : Nat) ∧ ((h q66 ((v6 + v8) : Int).toNat) < 20 → oe_rg (v8 + 1) ∧ oe_V (oe_cost 67) 67 (oe_M (d + 1)) none Q 84 [some (.inr (.inl v0)), some (.inl v1), some (.inl v2), some (.inl v3), some (.inl v4), some (.inl v5), some (.inl v6), some (.inl v7), some (.inl (v8 + 1)), none] [] (sh, g, h) 0 0) ∧ (20 ≤ (h q66 ((v6 + v8) : Int).toNat) → oe_M (d + 1) 65 [.inr (.inl v0), .inl v1, .inl v2, .inl v4, .inl v5, .inl v8] (sh, g, h) (fun r hp => ∃ (h75 : Nat → Nat → Int), r = none ∧ hp = (sh, g, h75) ∧ oe_rg (v8 + 1) ∧ oe_V (oe_cost 67) 67 (oe_M (d + 1)) none Q 84 [some (.inr (.inl v0)), some (.inl v1), some (.inl v2), some (.inl v3), some (.inl v4), some (.inl v5), some (.inl v6), some (.inl v7), some (.inl (v8 + 1)), none] [] (sh, g, h75) 0 0))) ∧ (v4 = v5 → (v8 ≠ 0 → sh[v0]? = some (12, 45) ∧ ∃ q79, g v0 13 = some q79 ∧ oe_rg (v6 + v8) ∧ ∃ n83, sh[q79]? = some (0, n83) ∧ 0 ≤ (v6 + v8) ∧ (v6 + v8) < (n83 : Nat) ∧ ((h q79 ((v6 + v8) : Int).toNat) < 20 → oe_rg (v8 + 1) ∧ oe_V (oe_cost 67) 67 (oe_M (d + 1)) none Q 84 [some (.inr (.inl v0)), some (.inl v1), some (.inl v2), some (.inl v3), some (.inl v4), some (.inl v5), some (.inl v6), some (.inl v7), some (.inl (v8 + 1)), none] [] (sh, g, h) 0 0) ∧ (20 ≤ (h q79 ((v6 + v8) : Int).toNat) → oe_M (d + 1) 65 [.inr (.inl v0), .inl v1, .inl v2, .inl v4, .inl v5, .inl v8] (sh, g, h) (fun r hp => ∃ (h88 : Nat → Nat → Int), r = none ∧ hp = (sh, g, h88) ∧ oe_rg (v8 + 1) ∧ oe_V (oe_cost 67) 67 (oe_M (d + 1)) none Q 84 [some (.inr (.inl v0)), some (.inl v1), some (.inl v2), some (.inl v3), some (.inl v4), some (.inl v5), some (.inl v6), some (.inl v7), some (.inl (v8 + 1)), none] [] (sh, g, h88) 0 0))) ∧ (v8 = 0 → sh[v0]? = some (12, 45) ∧ ∃ q91, g v0 13 = some q91 ∧ oe_rg (v6 + v8) ∧ ∃ n95, sh[q91]? = some (0, n95) ∧ 0 ≤ (v6 + v8) ∧ (v6 + v8) < (n95 : Nat) ∧ ((h q91 ((v6 + v8) : Int).toNat) < 20 → oe_rg (v8 + 1) ∧ oe_V (oe_cost 67) 67 (oe_M (d + 1)) none Q 84 [some (.inr (.inl v0)), some (.inl v1), some (.inl v2), some (.inl v3), some (.inl v4), some (.inl v5), some (.inl v6), some (.inl v7), some (.inl (v8 + 1)), none] [] (sh, g, h) 0 0) ∧ (20 ≤ (h q91 ((v6 + v8) : Int).toNat) → oe_rg (v8 + 1) ∧ oe_V (oe_cost 67) 67 (oe_M (d + 1)) none Q 84 [some (.inr (.inl v0)), some (.inl v1), some (.inl v2), some (.inl v3), some (.inl v4), some (.inl v5), some (.inl v6), some (.inl v7), some (.inl (v8 + 1)), none] [] (sh, g, h) 0 0)))))) :
    oe_V (oe_cost 67) 67 (oe_M (d + 1)) none Q 84 [some (.inr (.inl v0)), some (.inl v1), some (.inl v2), some (.inl v3), some (.inl v4), some (.inl v5), some (.inl v6), some (.inl v7), some (.inl v8), none] [] (sh, g, h) 0 0 := by
  refine s_iload (oe_t67 51 (q := (84, .iload 6, 2)) rfl) rfl ?_
  refine s_iload (oe_t67 52 (q := (86, .iload 8, 2)) rfl) rfl ?_
  obtain ⟨r48, vc⟩ := vc
  refine s_iadd (oe_t67 53 (q := (88, .iadd, 1)) rfl) r48 ?_
  refine s_iload (oe_t67 54 (q := (89, .iload 7, 2)) rfl) rfl ?_
  refine s_ic_ge (oe_t67 55 (q := (91, .if_icmp .ge 157, 3)) rfl) (fun c49 => ?_) (fun c49 => ?_)
  · replace vc := vc.1 c49
    obtain ⟨r50, vc⟩ := vc
    refine s_iinc (oe_t67 87 (q := (157, .iinc 3 1, 3)) rfl) rfl r50 ?_
    refine s_goto (oe_t67 88 (q := (160, .goto 2, 3)) rfl) ?_
    exact oe_V.fg (oe_M_mono _) (show oe_fg [some (.inr (.inl v0)), some (.inl v1), some (.inl v2), some (.inl (v3 + 1)), none, none, none, none, none, none] _ from ⟨rfl, ⟨rfl, ⟨rfl, ⟨rfl, trivial⟩⟩⟩⟩) vc
  · replace vc := vc.2 c49
    refine s_iload_n (oe_t67 56 (q := (94, .iload_n 1, 1)) rfl) rfl ?_
    refine s_iload_n (oe_t67 57 (q := (95, .iload_n 2, 1)) rfl) rfl ?_
    refine s_ic_ne (oe_t67 58 (q := (96, .if_icmp .ne 115, 3)) rfl) (fun c51 => ?_) (fun c51 => ?_)
    · replace vc := vc.1 c51
      refine s_iconst (oe_t67 66 (q := (115, .iconst 0, 1)) rfl) ?_
      refine s_istore (oe_t67 67 (q := (116, .istore 9, 2)) rfl) ?_
      refine s_aload_n (oe_t67 68 (q := (118, .aload_n 0, 1)) rfl) rfl ?_
      obtain ⟨s52, vc⟩ := vc
      obtain ⟨q53, p54, vc⟩ := vc
      refine s_getr (oe_t67 69 (q := (119, .getfield 7131, 3)) rfl) s52 rfl rfl p54 ?_
      refine s_iload (oe_t67 70 (q := (122, .iload 6, 2)) rfl) rfl ?_
      refine s_iload (oe_t67 71 (q := (124, .iload 8, 2)) rfl) rfl ?_
      obtain ⟨r55, vc⟩ := vc
      refine s_iadd (oe_t67 72 (q := (126, .iadd, 1)) rfl) r55 ?_
      obtain ⟨n57, s56, vc⟩ := vc
      obtain ⟨i58, i59, vc⟩ := vc
      refine s_iaload (oe_t67 73 (q := (127, .iaload, 1)) rfl) s56 i58 i59 ?_
      refine s_calls (oe_t67 74 (q := (128, .invokestatic 35071, 3)) rfl) (by decide) (Nat.le_of_ble_eq_true rfl) (Nat.le_of_ble_eq_true rfl) (Nat.le_of_ble_eq_true rfl) (Nat.le_of_ble_eq_true rfl) (sp_35 (fun c60 => ?_) (fun c60 => ?_))
      · replace vc := vc.1 c60
        show oe_V (oe_cost 67) 67 (oe_M (d + 1)) none Q 131 [some (.inr (.inl v0)), some (.inl v1), some (.inl v2), some (.inl v3), some (.inl v4), some (.inl v5), some (.inl v6), some (.inl v7), some (.inl v8), some (.inl 0)] [.inl 1] (sh, g, h) 0 0
        refine s_if_ne (oe_t67 75 (q := (131, .ifCond .ne 151, 3)) rfl) (fun _ => ?_) (fun q => absurd q (by decide))
        obtain ⟨r61, vc⟩ := vc
        refine s_iinc (oe_t67 85 (q := (151, .iinc 8 1, 3)) rfl) rfl r61 ?_
        refine s_goto (oe_t67 86 (q := (154, .goto 84, 3)) rfl) ?_
        exact oe_V.fg (oe_M_mono _) (show oe_fg [some (.inr (.inl v0)), some (.inl v1), some (.inl v2), some (.inl v3), some (.inl v4), some (.inl v5), some (.inl v6), some (.inl v7), some (.inl (v8 + 1)), none] _ from ⟨rfl, ⟨rfl, ⟨rfl, ⟨rfl, ⟨rfl, ⟨rfl, ⟨rfl, ⟨rfl, ⟨rfl, trivial⟩⟩⟩⟩⟩⟩⟩⟩⟩) vc
      · replace vc := vc.2 c60
        show oe_V (oe_cost 67) 67 (oe_M (d + 1)) none Q 131 [some (.inr (.inl v0)), some (.inl v1), some (.inl v2), some (.inl v3), some (.inl v4), some (.inl v5), some (.inl v6), some (.inl v7), some (.inl v8), some (.inl 0)] [.inl 0] (sh, g, h) 0 0
        refine s_if_ne (oe_t67 75 (q := (131, .ifCond .ne 151, 3)) rfl) (fun q => absurd q (by decide)) (fun _ => ?_)
        refine s_iload (oe_t67 76 (q := (134, .iload 9, 2)) rfl) rfl ?_
        refine s_if_ne (oe_t67 77 (q := (136, .ifCond .ne 151, 3)) rfl) (fun q => absurd q (by decide)) (fun _ => ?_)
        refine s_aload_n (oe_t67 78 (q := (139, .aload_n 0, 1)) rfl) rfl ?_
        refine s_iload_n (oe_t67 79 (q := (140, .iload_n 1, 1)) rfl) rfl ?_
        refine s_iload_n (oe_t67 80 (q := (141, .iload_n 2, 1)) rfl) rfl ?_
        refine s_iload (oe_t67 81 (q := (142, .iload 4, 2)) rfl) rfl ?_
        refine s_iload (oe_t67 82 (q := (144, .iload 5, 2)) rfl) rfl ?_
        refine s_iload (oe_t67 83 (q := (146, .iload 8, 2)) rfl) rfl ?_
        refine s_callv (oe_t67 84 (q := (148, .invokevirtual 65075, 3)) rfl) rfl s52 rfl (Nat.le_of_ble_eq_true rfl) (Nat.le_of_ble_eq_true rfl) (Nat.le_of_ble_eq_true rfl) (Nat.le_of_ble_eq_true rfl) ?_
        refine oe_M_mono _ _ _ _ _ _ (fun r hp vq => ?_) vc
        obtain ⟨h62, rfl, rfl, vc⟩ := vq
        show oe_V (oe_cost 67) 67 (oe_M (d + 1)) none Q 151 [some (.inr (.inl v0)), some (.inl v1), some (.inl v2), some (.inl v3), some (.inl v4), some (.inl v5), some (.inl v6), some (.inl v7), some (.inl v8), some (.inl 0)] [] (sh, g, h62) 0 0
        obtain ⟨r63, vc⟩ := vc
        refine s_iinc (oe_t67 85 (q := (151, .iinc 8 1, 3)) rfl) rfl r63 ?_
        refine s_goto (oe_t67 86 (q := (154, .goto 84, 3)) rfl) ?_
        exact oe_V.fg (oe_M_mono _) (show oe_fg [some (.inr (.inl v0)), some (.inl v1), some (.inl v2), some (.inl v3), some (.inl v4), some (.inl v5), some (.inl v6), some (.inl v7), some (.inl (v8 + 1)), none] _ from ⟨rfl, ⟨rfl, ⟨rfl, ⟨rfl, ⟨rfl, ⟨rfl, ⟨rfl, ⟨rfl, ⟨rfl, trivial⟩⟩⟩⟩⟩⟩⟩⟩⟩) vc
    · replace vc := vc.2 c51
      refine s_iload (oe_t67 59 (q := (99, .iload 4, 2)) rfl) rfl ?_
      refine s_iload (oe_t67 60 (q := (101, .iload 5, 2)) rfl) rfl ?_
      refine s_ic_ne (oe_t67 61 (q := (103, .if_icmp .ne 115, 3)) rfl) (fun c64 => ?_) (fun c64 => ?_)
      · replace vc := vc.1 c64
        refine s_iconst (oe_t67 66 (q := (115, .iconst 0, 1)) rfl) ?_
        refine s_istore (oe_t67 67 (q := (116, .istore 9, 2)) rfl) ?_
        refine s_aload_n (oe_t67 68 (q := (118, .aload_n 0, 1)) rfl) rfl ?_
        obtain ⟨s65, vc⟩ := vc
        obtain ⟨q66, p67, vc⟩ := vc
        refine s_getr (oe_t67 69 (q := (119, .getfield 7131, 3)) rfl) s65 rfl rfl p67 ?_
        refine s_iload (oe_t67 70 (q := (122, .iload 6, 2)) rfl) rfl ?_
        refine s_iload (oe_t67 71 (q := (124, .iload 8, 2)) rfl) rfl ?_
        obtain ⟨r68, vc⟩ := vc
        refine s_iadd (oe_t67 72 (q := (126, .iadd, 1)) rfl) r68 ?_
        obtain ⟨n70, s69, vc⟩ := vc
        obtain ⟨i71, i72, vc⟩ := vc
        refine s_iaload (oe_t67 73 (q := (127, .iaload, 1)) rfl) s69 i71 i72 ?_
        refine s_calls (oe_t67 74 (q := (128, .invokestatic 35071, 3)) rfl) (by decide) (Nat.le_of_ble_eq_true rfl) (Nat.le_of_ble_eq_true rfl) (Nat.le_of_ble_eq_true rfl) (Nat.le_of_ble_eq_true rfl) (sp_35 (fun c73 => ?_) (fun c73 => ?_))
        · replace vc := vc.1 c73
          show oe_V (oe_cost 67) 67 (oe_M (d + 1)) none Q 131 [some (.inr (.inl v0)), some (.inl v1), some (.inl v2), some (.inl v3), some (.inl v4), some (.inl v5), some (.inl v6), some (.inl v7), some (.inl v8), some (.inl 0)] [.inl 1] (sh, g, h) 0 0
          refine s_if_ne (oe_t67 75 (q := (131, .ifCond .ne 151, 3)) rfl) (fun _ => ?_) (fun q => absurd q (by decide))
          obtain ⟨r74, vc⟩ := vc
          refine s_iinc (oe_t67 85 (q := (151, .iinc 8 1, 3)) rfl) rfl r74 ?_
          refine s_goto (oe_t67 86 (q := (154, .goto 84, 3)) rfl) ?_
          exact oe_V.fg (oe_M_mono _) (show oe_fg [some (.inr (.inl v0)), some (.inl v1), some (.inl v2), some (.inl v3), some (.inl v4), some (.inl v5), some (.inl v6), some (.inl v7), some (.inl (v8 + 1)), none] _ from ⟨rfl, ⟨rfl, ⟨rfl, ⟨rfl, ⟨rfl, ⟨rfl, ⟨rfl, ⟨rfl, ⟨rfl, trivial⟩⟩⟩⟩⟩⟩⟩⟩⟩) vc
        · replace vc := vc.2 c73
          show oe_V (oe_cost 67) 67 (oe_M (d + 1)) none Q 131 [some (.inr (.inl v0)), some (.inl v1), some (.inl v2), some (.inl v3), some (.inl v4), some (.inl v5), some (.inl v6), some (.inl v7), some (.inl v8), some (.inl 0)] [.inl 0] (sh, g, h) 0 0
          refine s_if_ne (oe_t67 75 (q := (131, .ifCond .ne 151, 3)) rfl) (fun q => absurd q (by decide)) (fun _ => ?_)
          refine s_iload (oe_t67 76 (q := (134, .iload 9, 2)) rfl) rfl ?_
          refine s_if_ne (oe_t67 77 (q := (136, .ifCond .ne 151, 3)) rfl) (fun q => absurd q (by decide)) (fun _ => ?_)
          refine s_aload_n (oe_t67 78 (q := (139, .aload_n 0, 1)) rfl) rfl ?_
          refine s_iload_n (oe_t67 79 (q := (140, .iload_n 1, 1)) rfl) rfl ?_
          refine s_iload_n (oe_t67 80 (q := (141, .iload_n 2, 1)) rfl) rfl ?_
          refine s_iload (oe_t67 81 (q := (142, .iload 4, 2)) rfl) rfl ?_
          refine s_iload (oe_t67 82 (q := (144, .iload 5, 2)) rfl) rfl ?_
          refine s_iload (oe_t67 83 (q := (146, .iload 8, 2)) rfl) rfl ?_
          refine s_callv (oe_t67 84 (q := (148, .invokevirtual 65075, 3)) rfl) rfl s65 rfl (Nat.le_of_ble_eq_true rfl) (Nat.le_of_ble_eq_true rfl) (Nat.le_of_ble_eq_true rfl) (Nat.le_of_ble_eq_true rfl) ?_
          refine oe_M_mono _ _ _ _ _ _ (fun r hp vq => ?_) vc
          obtain ⟨h75, rfl, rfl, vc⟩ := vq
          show oe_V (oe_cost 67) 67 (oe_M (d + 1)) none Q 151 [some (.inr (.inl v0)), some (.inl v1), some (.inl v2), some (.inl v3), some (.inl v4), some (.inl v5), some (.inl v6), some (.inl v7), some (.inl v8), some (.inl 0)] [] (sh, g, h75) 0 0
          obtain ⟨r76, vc⟩ := vc
          refine s_iinc (oe_t67 85 (q := (151, .iinc 8 1, 3)) rfl) rfl r76 ?_
          refine s_goto (oe_t67 86 (q := (154, .goto 84, 3)) rfl) ?_
          exact oe_V.fg (oe_M_mono _) (show oe_fg [some (.inr (.inl v0)), some (.inl v1), some (.inl v2), some (.inl v3), some (.inl v4), some (.inl v5), some (.inl v6), some (.inl v7), some (.inl (v8 + 1)), none] _ from ⟨rfl, ⟨rfl, ⟨rfl, ⟨rfl, ⟨rfl, ⟨rfl, ⟨rfl, ⟨rfl, ⟨rfl, trivial⟩⟩⟩⟩⟩⟩⟩⟩⟩) vc
      · replace vc := vc.2 c64
        refine s_iload (oe_t67 62 (q := (106, .iload 8, 2)) rfl) rfl ?_
        refine s_if_ne (oe_t67 63 (q := (108, .ifCond .ne 115, 3)) rfl) (fun c77 => ?_) (fun c77 => ?_)
        · replace vc := vc.1 c77
          refine s_iconst (oe_t67 66 (q := (115, .iconst 0, 1)) rfl) ?_
          refine s_istore (oe_t67 67 (q := (116, .istore 9, 2)) rfl) ?_
          refine s_aload_n (oe_t67 68 (q := (118, .aload_n 0, 1)) rfl) rfl ?_
          obtain ⟨s78, vc⟩ := vc
          obtain ⟨q79, p80, vc⟩ := vc
          refine s_getr (oe_t67 69 (q := (119, .getfield 7131, 3)) rfl) s78 rfl rfl p80 ?_
          refine s_iload (oe_t67 70 (q := (122, .iload 6, 2)) rfl) rfl ?_
          refine s_iload (oe_t67 71 (q := (124, .iload 8, 2)) rfl) rfl ?_
          obtain ⟨r81, vc⟩ := vc
          refine s_iadd (oe_t67 72 (q := (126, .iadd, 1)) rfl) r81 ?_
          obtain ⟨n83, s82, vc⟩ := vc
          obtain ⟨i84, i85, vc⟩ := vc
          refine s_iaload (oe_t67 73 (q := (127, .iaload, 1)) rfl) s82 i84 i85 ?_
          refine s_calls (oe_t67 74 (q := (128, .invokestatic 35071, 3)) rfl) (by decide) (Nat.le_of_ble_eq_true rfl) (Nat.le_of_ble_eq_true rfl) (Nat.le_of_ble_eq_true rfl) (Nat.le_of_ble_eq_true rfl) (sp_35 (fun c86 => ?_) (fun c86 => ?_))
          · replace vc := vc.1 c86
            show oe_V (oe_cost 67) 67 (oe_M (d + 1)) none Q 131 [some (.inr (.inl v0)), some (.inl v1), some (.inl v2), some (.inl v3), some (.inl v4), some (.inl v5), some (.inl v6), some (.inl v7), some (.inl v8), some (.inl 0)] [.inl 1] (sh, g, h) 0 0
            refine s_if_ne (oe_t67 75 (q := (131, .ifCond .ne 151, 3)) rfl) (fun _ => ?_) (fun q => absurd q (by decide))
            obtain ⟨r87, vc⟩ := vc
            refine s_iinc (oe_t67 85 (q := (151, .iinc 8 1, 3)) rfl) rfl r87 ?_
            refine s_goto (oe_t67 86 (q := (154, .goto 84, 3)) rfl) ?_
            exact oe_V.fg (oe_M_mono _) (show oe_fg [some (.inr (.inl v0)), some (.inl v1), some (.inl v2), some (.inl v3), some (.inl v4), some (.inl v5), some (.inl v6), some (.inl v7), some (.inl (v8 + 1)), none] _ from ⟨rfl, ⟨rfl, ⟨rfl, ⟨rfl, ⟨rfl, ⟨rfl, ⟨rfl, ⟨rfl, ⟨rfl, trivial⟩⟩⟩⟩⟩⟩⟩⟩⟩) vc
          · replace vc := vc.2 c86
            show oe_V (oe_cost 67) 67 (oe_M (d + 1)) none Q 131 [some (.inr (.inl v0)), some (.inl v1), some (.inl v2), some (.inl v3), some (.inl v4), some (.inl v5), some (.inl v6), some (.inl v7), some (.inl v8), some (.inl 0)] [.inl 0] (sh, g, h) 0 0
            refine s_if_ne (oe_t67 75 (q := (131, .ifCond .ne 151, 3)) rfl) (fun q => absurd q (by decide)) (fun _ => ?_)
            refine s_iload (oe_t67 76 (q := (134, .iload 9, 2)) rfl) rfl ?_
            refine s_if_ne (oe_t67 77 (q := (136, .ifCond .ne 151, 3)) rfl) (fun q => absurd q (by decide)) (fun _ => ?_)
            refine s_aload_n (oe_t67 78 (q := (139, .aload_n 0, 1)) rfl) rfl ?_
            refine s_iload_n (oe_t67 79 (q := (140, .iload_n 1, 1)) rfl) rfl ?_
            refine s_iload_n (oe_t67 80 (q := (141, .iload_n 2, 1)) rfl) rfl ?_
            refine s_iload (oe_t67 81 (q := (142, .iload 4, 2)) rfl) rfl ?_
            refine s_iload (oe_t67 82 (q := (144, .iload 5, 2)) rfl) rfl ?_
            refine s_iload (oe_t67 83 (q := (146, .iload 8, 2)) rfl) rfl ?_
            refine s_callv (oe_t67 84 (q := (148, .invokevirtual 65075, 3)) rfl) rfl s78 rfl (Nat.le_of_ble_eq_true rfl) (Nat.le_of_ble_eq_true rfl) (Nat.le_of_ble_eq_true rfl) (Nat.le_of_ble_eq_true rfl) ?_
            refine oe_M_mono _ _ _ _ _ _ (fun r hp vq => ?_) vc
            obtain ⟨h88, rfl, rfl, vc⟩ := vq
            show oe_V (oe_cost 67) 67 (oe_M (d + 1)) none Q 151 [some (.inr (.inl v0)), some (.inl v1), some (.inl v2), some (.inl v3), some (.inl v4), some (.inl v5), some (.inl v6), some (.inl v7), some (.inl v8), some (.inl 0)] [] (sh, g, h88) 0 0
            obtain ⟨r89, vc⟩ := vc
            refine s_iinc (oe_t67 85 (q := (151, .iinc 8 1, 3)) rfl) rfl r89 ?_
            refine s_goto (oe_t67 86 (q := (154, .goto 84, 3)) rfl) ?_
            exact oe_V.fg (oe_M_mono _) (show oe_fg [some (.inr (.inl v0)), some (.inl v1), some (.inl v2), some (.inl v3), some (.inl v4), some (.inl v5), some (.inl v6), some (.inl v7), some (.inl (v8 + 1)), none] _ from ⟨rfl, ⟨rfl, ⟨rfl, ⟨rfl, ⟨rfl, ⟨rfl, ⟨rfl, ⟨rfl, ⟨rfl, trivial⟩⟩⟩⟩⟩⟩⟩⟩⟩) vc
        · replace vc := vc.2 c77
          refine s_iconst (oe_t67 64 (q := (111, .iconst 1, 1)) rfl) ?_
          refine s_goto (oe_t67 65 (q := (112, .goto 116, 3)) rfl) ?_
          refine s_istore (oe_t67 67 (q := (116, .istore 9, 2)) rfl) ?_
          refine s_aload_n (oe_t67 68 (q := (118, .aload_n 0, 1)) rfl) rfl ?_
          obtain ⟨s90, vc⟩ := vc
          obtain ⟨q91, p92, vc⟩ := vc
          refine s_getr (oe_t67 69 (q := (119, .getfield 7131, 3)) rfl) s90 rfl rfl p92 ?_
          refine s_iload (oe_t67 70 (q := (122, .iload 6, 2)) rfl) rfl ?_
          refine s_iload (oe_t67 71 (q := (124, .iload 8, 2)) rfl) rfl ?_
          obtain ⟨r93, vc⟩ := vc
          refine s_iadd (oe_t67 72 (q := (126, .iadd, 1)) rfl) r93 ?_
          obtain ⟨n95, s94, vc⟩ := vc
          obtain ⟨i96, i97, vc⟩ := vc
          refine s_iaload (oe_t67 73 (q := (127, .iaload, 1)) rfl) s94 i96 i97 ?_
          refine s_calls (oe_t67 74 (q := (128, .invokestatic 35071, 3)) rfl) (by decide) (Nat.le_of_ble_eq_true rfl) (Nat.le_of_ble_eq_true rfl) (Nat.le_of_ble_eq_true rfl) (Nat.le_of_ble_eq_true rfl) (sp_35 (fun c98 => ?_) (fun c98 => ?_))
          · replace vc := vc.1 c98
            show oe_V (oe_cost 67) 67 (oe_M (d + 1)) none Q 131 [some (.inr (.inl v0)), some (.inl v1), some (.inl v2), some (.inl v3), some (.inl v4), some (.inl v5), some (.inl v6), some (.inl v7), some (.inl v8), some (.inl 1)] [.inl 1] (sh, g, h) 0 0
            refine s_if_ne (oe_t67 75 (q := (131, .ifCond .ne 151, 3)) rfl) (fun _ => ?_) (fun q => absurd q (by decide))
            obtain ⟨r99, vc⟩ := vc
            refine s_iinc (oe_t67 85 (q := (151, .iinc 8 1, 3)) rfl) rfl r99 ?_
            refine s_goto (oe_t67 86 (q := (154, .goto 84, 3)) rfl) ?_
            exact oe_V.fg (oe_M_mono _) (show oe_fg [some (.inr (.inl v0)), some (.inl v1), some (.inl v2), some (.inl v3), some (.inl v4), some (.inl v5), some (.inl v6), some (.inl v7), some (.inl (v8 + 1)), none] _ from ⟨rfl, ⟨rfl, ⟨rfl, ⟨rfl, ⟨rfl, ⟨rfl, ⟨rfl, ⟨rfl, ⟨rfl, trivial⟩⟩⟩⟩⟩⟩⟩⟩⟩) vc
          · replace vc := vc.2 c98
            show oe_V (oe_cost 67) 67 (oe_M (d + 1)) none Q 131 [some (.inr (.inl v0)), some (.inl v1), some (.inl v2), some (.inl v3), some (.inl v4), some (.inl v5), some (.inl v6), some (.inl v7), some (.inl v8), some (.inl 1)] [.inl 0] (sh, g, h) 0 0
            refine s_if_ne (oe_t67 75 (q := (131, .ifCond .ne 151, 3)) rfl) (fun q => absurd q (by decide)) (fun _ => ?_)
            refine s_iload (oe_t67 76 (q := (134, .iload 9, 2)) rfl) rfl ?_
            refine s_if_ne (oe_t67 77 (q := (136, .ifCond .ne 151, 3)) rfl) (fun _ => ?_) (fun q => absurd q (by decide))
            obtain ⟨r100, vc⟩ := vc
            refine s_iinc (oe_t67 85 (q := (151, .iinc 8 1, 3)) rfl) rfl r100 ?_
            refine s_goto (oe_t67 86 (q := (154, .goto 84, 3)) rfl) ?_
            exact oe_V.fg (oe_M_mono _) (show oe_fg [some (.inr (.inl v0)), some (.inl v1), some (.inl v2), some (.inl v3), some (.inl v4), some (.inl v5), some (.inl v6), some (.inl v7), some (.inl (v8 + 1)), none] _ from ⟨rfl, ⟨rfl, ⟨rfl, ⟨rfl, ⟨rfl, ⟨rfl, ⟨rfl, ⟨rfl, ⟨rfl, trivial⟩⟩⟩⟩⟩⟩⟩⟩⟩) vc
theorem oe_u68 : oe_c68.all (fun q => decide (oe_find oe_c68 q.1 = some q.2)) = true := by decide +kernel
theorem oe_t68 (k : Nat) {q : Nat × Jvm.ClassFile.Instr × Nat} (h : oe_c68[k]? = some q) : oe_find (oe_code 68) q.1 = some q.2 := oe_ft oe_u68 h
theorem g68 {d : Nat} {sh : List (Nat × Nat)} {g : Nat → Nat → Option Nat} {h : Nat → Nat → Int} {Q : oeQ} {v0 : Nat}
    (vc : sh[v0]? = some (12, 45) ∧ ((h v0 17) = 0 → Q (some (.inl 0)) (sh, g, h)) ∧ ((h v0 17) ≠ 0 → oe_M (d + 1) 52 [.inr (.inl v0), .inl 0, .inl 1] (sh, g, h) (fun r hp => ∃ (x3 : Int), r = some (.inl x3) ∧ hp = (sh, g, h) ∧ (x3 = 0 → Q (some (.inl 0)) (sh, g, h)) ∧ (x3 ≠ 0 → Q (some (.inl 1)) (sh, g, h))))) :
    oe_M (d + 2) 68 [.inr (.inl v0)] (sh, g, h) Q := by
  refine oe_M.of (by simp [oe_c1]) (Nat.le_of_ble_eq_true rfl) ?_
  show oe_V (oe_cost 68) 68 (oe_M (d + 1)) none Q 0 [some (.inr (.inl v0))] [] (sh, g, h) 0 0
  refine s_aload_n (oe_t68 0 (q := (0, .aload_n 0, 1)) rfl) rfl ?_
  obtain ⟨s1, vc⟩ := vc
  refine s_geti (oe_t68 1 (q := (1, .getfield 7172, 3)) rfl) s1 rfl (by decide) ?_
  refine s_if_eq (oe_t68 2 (q := (4, .ifCond .eq 20, 3)) rfl) (fun c2 => ?_) (fun c2 => ?_)
  · replace vc := vc.1 c2
    refine s_iconst (oe_t68 10 (q := (20, .iconst 0, 1)) rfl) ?_
    exact s_iret (oe_t68 11 (q := (21, .ireturn, 1)) rfl) (Or.inr (Or.inl ⟨rfl, Or.inl rfl⟩)) vc
  · replace vc := vc.2 c2
    refine s_aload_n (oe_t68 3 (q := (7, .aload_n 0, 1)) rfl) rfl ?_
    refine s_iconst (oe_t68 4 (q := (8, .iconst 0, 1)) rfl) ?_
    refine s_iconst (oe_t68 5 (q := (9, .iconst 1, 1)) rfl) ?_
    refine s_callv (oe_t68 6 (q := (10, .invokevirtual 52072, 3)) rfl) rfl s1 rfl (Nat.le_of_ble_eq_true rfl) (Nat.le_of_ble_eq_true rfl) (Nat.le_of_ble_eq_true rfl) (Nat.le_of_ble_eq_true rfl) ?_
    refine oe_M_mono _ _ _ _ _ _ (fun r hp vq => ?_) vc
    obtain ⟨x3, rfl, rfl, vc⟩ := vq
    show oe_V (oe_cost 68) 68 (oe_M (d + 1)) none Q 13 [some (.inr (.inl v0))] [.inl x3] (sh, g, h) 0 0
    refine s_if_eq (oe_t68 7 (q := (13, .ifCond .eq 20, 3)) rfl) (fun c4 => ?_) (fun c4 => ?_)
    · replace vc := vc.1 c4
      refine s_iconst (oe_t68 10 (q := (20, .iconst 0, 1)) rfl) ?_
      exact s_iret (oe_t68 11 (q := (21, .ireturn, 1)) rfl) (Or.inr (Or.inl ⟨rfl, Or.inl rfl⟩)) vc
    · replace vc := vc.2 c4
      refine s_iconst (oe_t68 8 (q := (16, .iconst 1, 1)) rfl) ?_
      refine s_goto (oe_t68 9 (q := (17, .goto 21, 3)) rfl) ?_
      exact s_iret (oe_t68 11 (q := (21, .ireturn, 1)) rfl) (Or.inr (Or.inl ⟨rfl, Or.inr rfl⟩)) vc
theorem oe_u69 : oe_c69.all (fun q => decide (oe_find oe_c69 q.1 = some q.2)) = true := by decide +kernel
theorem oe_t69 (k : Nat) {q : Nat × Jvm.ClassFile.Instr × Nat} (h : oe_c69[k]? = some q) : oe_find (oe_code 69) q.1 = some q.2 := oe_ft oe_u69 h
theorem g69 {d : Nat} {sh : List (Nat × Nat)} {g : Nat → Nat → Option Nat} {h : Nat → Nat → Int} {Q : oeQ} {v0 : Nat}
    (vc : sh[v0]? = some (12, 45) ∧ ((h v0 17) = 0 → Q none (sh, g, h)) ∧ ((h v0 17) ≠ 0 → oe_M (d + 1) 51 [.inr (.inl v0), .inl 0] (sh, g, h) (fun r hp => ∃ (h3 : Nat → Nat → Int), r = none ∧ hp = (sh, g, h3) ∧ oe_M (d + 1) 51 [.inr (.inl v0), .inl 1] (sh, g, h3) (fun r hp => ∃ (h4 : Nat → Nat → Int), r = none ∧ hp = (sh, g, h4) ∧ Q none (sh, g, h4))))) :
    oe_M (d + 2) 69 [.inr (.inl v0)] (sh, g, h) Q := by
  refine oe_M.of (by simp [oe_c1]) (Nat.le_of_ble_eq_true rfl) ?_
  show oe_V (oe_cost 69) 69 (oe_M (d + 1)) none Q 0 [some (.inr (.inl v0))] [] (sh, g, h) 0 0
  refine s_aload_n (oe_t69 0 (q := (0, .aload_n 0, 1)) rfl) rfl ?_
  obtain ⟨s1, vc⟩ := vc
  refine s_geti (oe_t69 1 (q := (1, .getfield 7172, 3)) rfl) s1 rfl (by decide) ?_
  refine s_if_eq (oe_t69 2 (q := (4, .ifCond .eq 17, 3)) rfl) (fun c2 => ?_) (fun c2 => ?_)
  · replace vc := vc.1 c2
    exact s_ret (oe_t69 9 (q := (17, .return_, 1)) rfl) rfl vc
  · replace vc := vc.2 c2
    refine s_aload_n (oe_t69 3 (q := (7, .aload_n 0, 1)) rfl) rfl ?_
    refine s_iconst (oe_t69 4 (q := (8, .iconst 0, 1)) rfl) ?_
    refine s_callv (oe_t69 5 (q := (9, .invokevirtual 51071, 3)) rfl) rfl s1 rfl (Nat.le_of_ble_eq_true rfl) (Nat.le_of_ble_eq_true rfl) (Nat.le_of_ble_eq_true rfl) (Nat.le_of_ble_eq_true rfl) ?_
    refine oe_M_mono _ _ _ _ _ _ (fun r hp vq => ?_) vc
    obtain ⟨h3, rfl, rfl, vc⟩ := vq
    show oe_V (oe_cost 69) 69 (oe_M (d + 1)) none Q 12 [some (.inr (.inl v0))] [] (sh, g, h3) 0 0
    refine s_aload_n (oe_t69 6 (q := (12, .aload_n 0, 1)) rfl) rfl ?_
    refine s_iconst (oe_t69 7 (q := (13, .iconst 1, 1)) rfl) ?_
    refine s_callv (oe_t69 8 (q := (14, .invokevirtual 51071, 3)) rfl) rfl s1 rfl (Nat.le_of_ble_eq_true rfl) (Nat.le_of_ble_eq_true rfl) (Nat.le_of_ble_eq_true rfl) (Nat.le_of_ble_eq_true rfl) ?_
    refine oe_M_mono _ _ _ _ _ _ (fun r hp vq => ?_) vc
    obtain ⟨h4, rfl, rfl, vc⟩ := vq
    show oe_V (oe_cost 69) 69 (oe_M (d + 1)) none Q 17 [some (.inr (.inl v0))] [] (sh, g, h4) 0 0
    exact s_ret (oe_t69 9 (q := (17, .return_, 1)) rfl) rfl vc
theorem oe_u70 : oe_c70.all (fun q => decide (oe_find oe_c70 q.1 = some q.2)) = true := by decide +kernel
theorem oe_t70 (k : Nat) {q : Nat × Jvm.ClassFile.Instr × Nat} (h : oe_c70[k]? = some q) : oe_find (oe_code 70) q.1 = some q.2 := oe_ft oe_u70 h
theorem g70 {d : Nat} {sh : List (Nat × Nat)} {g : Nat → Nat → Option Nat} {h : Nat → Nat → Int} {Q : oeQ} {v0 : Nat}
    (vc : oe_V (oe_cost 70) 70 (oe_M (d + 1)) none Q 4 [some (.inr (.inl v0)), some (.inl 0), some (.inl 1), none] [] (sh, g, h) 0 0) :
    oe_M (d + 2) 70 [.inr (.inl v0)] (sh, g, h) Q := by
  refine oe_M.of (by simp [oe_c1]) (Nat.le_of_ble_eq_true rfl) ?_
  show oe_V (oe_cost 70) 70 (oe_M (d + 1)) none Q 0 [some (.inr (.inl v0)), none, none, none] [] (sh, g, h) 0 0
  refine s_iconst (oe_t70 0 (q := (0, .iconst 0, 1)) rfl) ?_
  refine s_istore_n (oe_t70 1 (q := (1, .istore_n 1, 1)) rfl) ?_
  refine s_iconst (oe_t70 2 (q := (2, .iconst 1, 1)) rfl) ?_
  refine s_istore_n (oe_t70 3 (q := (3, .istore_n 2, 1)) rfl) ?_
  exact oe_V.fg (oe_M_mono _) (show oe_fg [some (.inr (.inl v0)), some (.inl 0), some (.inl 1), none] _ from ⟨rfl, ⟨rfl, ⟨rfl, trivial⟩⟩⟩) vc
theorem g70_4 {d : Nat} {sh : List (Nat × Nat)} {g : Nat → Nat → Option Nat} {h : Nat → Nat → Int} {Q : oeQ} {v0 : Nat} {v1 : Int} {v2 : Int}
    (vc : sh[v0]? = some (12, 45) ∧ ((h v0 8) ≤ v2 → ∃ q3, g v0 19 = some q3 ∧ ∃ q5, g v0 10 = some q5 ∧ ∃ n8, sh[q5]? = some (0, n8) ∧ 0 ≤ v1 ∧ v1 < (n8 : Nat) ∧ ∃ n12, sh[q3]? = some (0, n12) ∧ 0 ≤ (2 : Int) ∧ (2 : Int) < (n12 : Nat) ∧ ∀ h15, h15 = oe_up h q3 2 (h q5 (v1 : Int).toNat) → ∃ q17, g v0 11 = some q17 ∧ ∃ n20, sh[q17]? = some (0, n20) ∧ 0 ≤ v1 ∧ v1 < (n20 : Nat) ∧ 0 ≤ v1 ∧ v1 < (n8 : Nat) ∧ oe_rg ((h15 q17 (v1 : Int).toNat) - (h15 q5 (v1 : Int).toNat)) ∧ 0 ≤ (3 : Int) ∧ (3 : Int) < (n12 : Nat) ∧ ∀ h28, h28 = oe_up h15 q3 3 ((h15 q17 (v1 : Int).toNat) - (h15 q5 (v1 : Int).toNat)) → oe_V (oe_cost 70) 70 (oe_M (d + 1)) none Q 72 [some (.inr (.inl v0)), some (.inl v1), some (.inl 0), none] [] (sh, g, h28) 0 0) ∧ (v2 < (h v0 8) → ∃ q30, g v0 11 = some q30 ∧ ∃ n33, sh[q30]? = some (0, n33) ∧ 0 ≤ v2 ∧ v2 < (n33 : Nat) ∧ 0 ≤ v1 ∧ v1 < (n33 : Nat) ∧ ((h q30 (v1 : Int).toNat) ≤ (h q30 (v2 : Int).toNat) → oe_rg (v2 + 1) ∧ oe_V (oe_cost 70) 70 (oe_M (d + 1)) none Q 4 [some (.inr (.inl v0)), some (.inl v1), some (.inl (v2 + 1)), none] [] (sh, g, h) 0 0) ∧ ((h q30 (v2 : Int).toNat) < (h q30 (v1 : Int).toNat) → oe_rg (v2 + 1) ∧ oe_V (oe_cost 70) 70 (oe_M (d + 1)) none Q 4 [some (.inr (.inl v0)), some (.inl v2), some (.inl (v2 + 1)), none] [] (sh, g, h) 0 0))) :
    oe_V (oe_cost 70) 70 (oe_M (d + 1)) none Q 4 [some (.inr (.inl v0)), some (.inl v1), some (.inl v2), none] [] (sh, g, h) 0 0 := by
  refine s_iload_n (oe_t70 4 (q := (4, .iload_n 2, 1)) rfl) rfl ?_
  refine s_aload_n (oe_t70 5 (q := (5, .aload_n 0, 1)) rfl) rfl ?_
  obtain ⟨s1, vc⟩ := vc
  refine s_geti (oe_t70 6 (q := (6, .getfield 7080, 3)) rfl) s1 rfl (by decide) ?_
  refine s_ic_ge (oe_t70 7 (q := (9, .if_icmp .ge 39, 3)) rfl) (fun c2 => ?_) (fun c2 => ?_)
  · replace vc := vc.1 c2
    refine s_aload_n (oe_t70 23 (q := (39, .aload_n 0, 1)) rfl) rfl ?_
    obtain ⟨q3, p4, vc⟩ := vc
    refine s_getr (oe_t70 24 (q := (40, .getfield 7191, 3)) rfl) s1 rfl rfl p4 ?_
    refine s_iconst (oe_t70 25 (q := (43, .iconst 2, 1)) rfl) ?_
    refine s_aload_n (oe_t70 26 (q := (44, .aload_n 0, 1)) rfl) rfl ?_
    obtain ⟨q5, p6, vc⟩ := vc
    refine s_getr (oe_t70 27 (q := (45, .getfield 7101, 3)) rfl) s1 rfl rfl p6 ?_
    refine s_iload_n (oe_t70 28 (q := (48, .iload_n 1, 1)) rfl) rfl ?_
    obtain ⟨n8, s7, vc⟩ := vc
    obtain ⟨i9, i10, vc⟩ := vc
    refine s_iaload (oe_t70 29 (q := (49, .iaload, 1)) rfl) s7 i9 i10 ?_
    obtain ⟨n12, s11, vc⟩ := vc
    obtain ⟨i13, i14, vc⟩ := vc
    refine t_iastore (oe_t70 30 (q := (50, .iastore, 1)) rfl) s11 i13 i14 (fun h15 e16 => ?_)
    replace vc := vc h15 e16
    refine s_aload_n (oe_t70 31 (q := (51, .aload_n 0, 1)) rfl) rfl ?_
    refine s_getr (oe_t70 32 (q := (52, .getfield 7191, 3)) rfl) s1 rfl rfl p4 ?_
    refine s_iconst (oe_t70 33 (q := (55, .iconst 3, 1)) rfl) ?_
    refine s_aload_n (oe_t70 34 (q := (56, .aload_n 0, 1)) rfl) rfl ?_
    obtain ⟨q17, p18, vc⟩ := vc
    refine s_getr (oe_t70 35 (q := (57, .getfield 7111, 3)) rfl) s1 rfl rfl p18 ?_
    refine s_iload_n (oe_t70 36 (q := (60, .iload_n 1, 1)) rfl) rfl ?_
    obtain ⟨n20, s19, vc⟩ := vc
    obtain ⟨i21, i22, vc⟩ := vc
    refine s_iaload (oe_t70 37 (q := (61, .iaload, 1)) rfl) s19 i21 i22 ?_
    refine s_aload_n (oe_t70 38 (q := (62, .aload_n 0, 1)) rfl) rfl ?_
    refine s_getr (oe_t70 39 (q := (63, .getfield 7101, 3)) rfl) s1 rfl rfl p6 ?_
    refine s_iload_n (oe_t70 40 (q := (66, .iload_n 1, 1)) rfl) rfl ?_
    obtain ⟨i23, i24, vc⟩ := vc
    refine s_iaload (oe_t70 41 (q := (67, .iaload, 1)) rfl) s7 i23 i24 ?_
    obtain ⟨r25, vc⟩ := vc
    refine s_isub (oe_t70 42 (q := (68, .isub, 1)) rfl) r25 ?_
    obtain ⟨i26, i27, vc⟩ := vc
    refine t_iastore (oe_t70 43 (q := (69, .iastore, 1)) rfl) s11 i26 i27 (fun h28 e29 => ?_)
    replace vc := vc h28 e29
    refine s_iconst (oe_t70 44 (q := (70, .iconst 0, 1)) rfl) ?_
    refine s_istore_n (oe_t70 45 (q := (71, .istore_n 2, 1)) rfl) ?_
    exact oe_V.fg (oe_M_mono _) (show oe_fg [some (.inr (.inl v0)), some (.inl v1), some (.inl 0), none] _ from ⟨rfl, ⟨rfl, ⟨rfl, trivial⟩⟩⟩) vc
  · replace vc := vc.2 c2
    refine s_aload_n (oe_t70 8 (q := (12, .aload_n 0, 1)) rfl) rfl ?_
    obtain ⟨q30, p31, vc⟩ := vc
    refine s_getr (oe_t70 9 (q := (13, .getfield 7111, 3)) rfl) s1 rfl rfl p31 ?_
    refine s_iload_n (oe_t70 10 (q := (16, .iload_n 2, 1)) rfl) rfl ?_
    obtain ⟨n33, s32, vc⟩ := vc
    obtain ⟨i34, i35, vc⟩ := vc
    refine s_iaload (oe_t70 11 (q := (17, .iaload, 1)) rfl) s32 i34 i35 ?_
    refine s_aload_n (oe_t70 12 (q := (18, .aload_n 0, 1)) rfl) rfl ?_
    refine s_getr (oe_t70 13 (q := (19, .getfield 7111, 3)) rfl) s1 rfl rfl p31 ?_
    refine s_iload_n (oe_t70 14 (q := (22, .iload_n 1, 1)) rfl) rfl ?_
    obtain ⟨i36, i37, vc⟩ := vc
    refine s_iaload (oe_t70 15 (q := (23, .iaload, 1)) rfl) s32 i36 i37 ?_
    refine s_ic_ge (oe_t70 16 (q := (24, .if_icmp .ge 31, 3)) rfl) (fun c38 => ?_) (fun c38 => ?_)
    · replace vc := vc.1 c38
      refine s_iload_n (oe_t70 19 (q := (31, .iload_n 1, 1)) rfl) rfl ?_
      refine s_istore_n (oe_t70 20 (q := (32, .istore_n 1, 1)) rfl) ?_
      obtain ⟨r39, vc⟩ := vc
      refine s_iinc (oe_t70 21 (q := (33, .iinc 2 1, 3)) rfl) rfl r39 ?_
      refine s_goto (oe_t70 22 (q := (36, .goto 4, 3)) rfl) ?_
      exact oe_V.fg (oe_M_mono _) (show oe_fg [some (.inr (.inl v0)), some (.inl v1), some (.inl (v2 + 1)), none] _ from ⟨rfl, ⟨rfl, ⟨rfl, trivial⟩⟩⟩) vc
    · replace vc := vc.2 c38
      refine s_iload_n (oe_t70 17 (q := (27, .iload_n 2, 1)) rfl) rfl ?_
      refine s_goto (oe_t70 18 (q := (28, .goto 32, 3)) rfl) ?_
      refine s_istore_n (oe_t70 20 (q := (32, .istore_n 1, 1)) rfl) ?_
      obtain ⟨r40, vc⟩ := vc
      refine s_iinc (oe_t70 21 (q := (33, .iinc 2 1, 3)) rfl) rfl r40 ?_
      refine s_goto (oe_t70 22 (q := (36, .goto 4, 3)) rfl) ?_
      exact oe_V.fg (oe_M_mono _) (show oe_fg [some (.inr (.inl v0)), some (.inl v2), some (.inl (v2 + 1)), none] _ from ⟨rfl, ⟨rfl, ⟨rfl, trivial⟩⟩⟩) vc
theorem g70_72 {d : Nat} {sh : List (Nat × Nat)} {g : Nat → Nat → Option Nat} {h : Nat → Nat → Int} {Q : oeQ} {v0 : Nat} {v1 : Int} {v2 : Int}
    (vc : sh[v0]? = some (12, 45) ∧ ∃ q42, g v0 11 = some q42 ∧ ∃ n45, sh[q42]? = some (0, n45) ∧ 0 ≤ v1 ∧ v1 < (n45 : Nat) ∧ ((h q42 (v1 : Int).toNat) ≤ v2 → oe_V (oe_cost 70) 70 (oe_M (d + 1)) none Q 150 [some (.inr (.inl v0)), none, some (.inl v1), none] [] (sh, g, h) 0 0) ∧ (v2 < (h q42 (v1 : Int).toNat) → ∃ q49, g v0 10 = some q49 ∧ ∃ n52, sh[q49]? = some (0, n52) ∧ 0 ≤ v1 ∧ v1 < (n52 : Nat) ∧ ((h q49 (v1 : Int).toNat) ≤ v2 → ∃ q56, g v0 18 = some q56 ∧ oe_rg (120 + v2) ∧ 0 ≤ v1 ∧ v1 < (n52 : Nat) ∧ oe_rg ((120 + v2) - (h q49 (v1 : Int).toNat)) ∧ ∃ q62, g v0 9 = some q62 ∧ oe_rg (20 * v1) ∧ oe_rg ((20 * v1) + v2) ∧ ∃ n67, sh[q62]? = some (0, n67) ∧ 0 ≤ ((20 * v1) + v2) ∧ ((20 * v1) + v2) < (n67 : Nat) ∧ ∃ n71, sh[q56]? = some (0, n71) ∧ 0 ≤ ((120 + v2) - (h q49 (v1 : Int).toNat)) ∧ ((120 + v2) - (h q49 (v1 : Int).toNat)) < (n71 : Nat) ∧ ∀ h74, h74 = oe_up h q56 (((120 + v2) - (h q49 (v1 : Int).toNat)) : Int).toNat (h q62 (((20 * v1) + v2) : Int).toNat) → oe_rg (v2 + 1) ∧ oe_V (oe_cost 70) 70 (oe_M (d + 1)) none Q 72 [some (.inr (.inl v0)), some (.inl v1), some (.inl (v2 + 1)), none] [] (sh, g, h74) 0 0) ∧ (v2 < (h q49 (v1 : Int).toNat) → ∃ q77, g v0 18 = some q77 ∧ oe_rg (80 + v2) ∧ ∃ q80, g v0 9 = some q80 ∧ oe_rg (20 * v1) ∧ oe_rg ((20 * v1) + v2) ∧ ∃ n85, sh[q80]? = some (0, n85) ∧ 0 ≤ ((20 * v1) + v2) ∧ ((20 * v1) + v2) < (n85 : Nat) ∧ ∃ n89, sh[q77]? = some (0, n89) ∧ 0 ≤ (80 + v2) ∧ (80 + v2) < (n89 : Nat) ∧ ∀ h92, h92 = oe_up h q77 ((80 + v2) : Int).toNat (h q80 (((20 * v1) + v2) : Int).toNat) → oe_rg (v2 + 1) ∧ oe_V (oe_cost 70) 70 (oe_M (d + 1)) none Q 72 [some (.inr (.inl v0)), some (.inl v1), some (.inl (v2 + 1)), none] [] (sh, g, h92) 0 0))) :
    oe_V (oe_cost 70) 70 (oe_M (d + 1)) none Q 72 [some (.inr (.inl v0)), some (.inl v1), some (.inl v2), none] [] (sh, g, h) 0 0 := by
  refine s_iload_n (oe_t70 46 (q := (72, .iload_n 2, 1)) rfl) rfl ?_
  refine s_aload_n (oe_t70 47 (q := (73, .aload_n 0, 1)) rfl) rfl ?_
  obtain ⟨s41, vc⟩ := vc
  obtain ⟨q42, p43, vc⟩ := vc
  refine s_getr (oe_t70 48 (q := (74, .getfield 7111, 3)) rfl) s41 rfl rfl p43 ?_
  refine s_iload_n (oe_t70 49 (q := (77, .iload_n 1, 1)) rfl) rfl ?_
  obtain ⟨n45, s44, vc⟩ := vc
  obtain ⟨i46, i47, vc⟩ := vc
  refine s_iaload (oe_t70 50 (q := (78, .iaload, 1)) rfl) s44 i46 i47 ?_
  refine s_ic_ge (oe_t70 51 (q := (79, .if_icmp .ge 148, 3)) rfl) (fun c48 => ?_) (fun c48 => ?_)
  · replace vc := vc.1 c48
    refine s_iload_n (oe_t70 94 (q := (148, .iload_n 1, 1)) rfl) rfl ?_
    refine s_istore_n (oe_t70 95 (q := (149, .istore_n 2, 1)) rfl) ?_
    exact oe_V.fg (oe_M_mono _) (show oe_fg [some (.inr (.inl v0)), none, some (.inl v1), none] _ from ⟨rfl, ⟨rfl, trivial⟩⟩) vc
  · replace vc := vc.2 c48
    refine s_iload_n (oe_t70 52 (q := (82, .iload_n 2, 1)) rfl) rfl ?_
    refine s_aload_n (oe_t70 53 (q := (83, .aload_n 0, 1)) rfl) rfl ?_
    obtain ⟨q49, p50, vc⟩ := vc
    refine s_getr (oe_t70 54 (q := (84, .getfield 7101, 3)) rfl) s41 rfl rfl p50 ?_
    refine s_iload_n (oe_t70 55 (q := (87, .iload_n 1, 1)) rfl) rfl ?_
    obtain ⟨n52, s51, vc⟩ := vc
    obtain ⟨i53, i54, vc⟩ := vc
    refine s_iaload (oe_t70 56 (q := (88, .iaload, 1)) rfl) s51 i53 i54 ?_
    refine s_ic_ge (oe_t70 57 (q := (89, .if_icmp .ge 115, 3)) rfl) (fun c55 => ?_) (fun c55 => ?_)
    · replace vc := vc.1 c55
      refine s_aload_n (oe_t70 73 (q := (115, .aload_n 0, 1)) rfl) rfl ?_
      obtain ⟨q56, p57, vc⟩ := vc
      refine s_getr (oe_t70 74 (q := (116, .getfield 7181, 3)) rfl) s41 rfl rfl p57 ?_
      refine s_bipush (oe_t70 75 (q := (119, .bipush 120, 2)) rfl) ?_
      refine s_iload_n (oe_t70 76 (q := (121, .iload_n 2, 1)) rfl) rfl ?_
      obtain ⟨r58, vc⟩ := vc
      refine s_iadd (oe_t70 77 (q := (122, .iadd, 1)) rfl) r58 ?_
      refine s_aload_n (oe_t70 78 (q := (123, .aload_n 0, 1)) rfl) rfl ?_
      refine s_getr (oe_t70 79 (q := (124, .getfield 7101, 3)) rfl) s41 rfl rfl p50 ?_
      refine s_iload_n (oe_t70 80 (q := (127, .iload_n 1, 1)) rfl) rfl ?_
      obtain ⟨i59, i60, vc⟩ := vc
      refine s_iaload (oe_t70 81 (q := (128, .iaload, 1)) rfl) s51 i59 i60 ?_
      obtain ⟨r61, vc⟩ := vc
      refine s_isub (oe_t70 82 (q := (129, .isub, 1)) rfl) r61 ?_
      refine s_aload_n (oe_t70 83 (q := (130, .aload_n 0, 1)) rfl) rfl ?_
      obtain ⟨q62, p63, vc⟩ := vc
      refine s_getr (oe_t70 84 (q := (131, .getfield 7091, 3)) rfl) s41 rfl rfl p63 ?_
      refine s_bipush (oe_t70 85 (q := (134, .bipush 20, 2)) rfl) ?_
      refine s_iload_n (oe_t70 86 (q := (136, .iload_n 1, 1)) rfl) rfl ?_
      obtain ⟨r64, vc⟩ := vc
      refine s_imul (oe_t70 87 (q := (137, .imul, 1)) rfl) r64 ?_
      refine s_iload_n (oe_t70 88 (q := (138, .iload_n 2, 1)) rfl) rfl ?_
      obtain ⟨r65, vc⟩ := vc
      refine s_iadd (oe_t70 89 (q := (139, .iadd, 1)) rfl) r65 ?_
      obtain ⟨n67, s66, vc⟩ := vc
      obtain ⟨i68, i69, vc⟩ := vc
      refine s_iaload (oe_t70 90 (q := (140, .iaload, 1)) rfl) s66 i68 i69 ?_
      obtain ⟨n71, s70, vc⟩ := vc
      obtain ⟨i72, i73, vc⟩ := vc
      refine t_iastore (oe_t70 91 (q := (141, .iastore, 1)) rfl) s70 i72 i73 (fun h74 e75 => ?_)
      replace vc := vc h74 e75
      obtain ⟨r76, vc⟩ := vc
      refine s_iinc (oe_t70 92 (q := (142, .iinc 2 1, 3)) rfl) rfl r76 ?_
      refine s_goto (oe_t70 93 (q := (145, .goto 72, 3)) rfl) ?_
      exact oe_V.fg (oe_M_mono _) (show oe_fg [some (.inr (.inl v0)), some (.inl v1), some (.inl (v2 + 1)), none] _ from ⟨rfl, ⟨rfl, ⟨rfl, trivial⟩⟩⟩) vc
    · replace vc := vc.2 c55
      refine s_aload_n (oe_t70 58 (q := (92, .aload_n 0, 1)) rfl) rfl ?_
      obtain ⟨q77, p78, vc⟩ := vc
      refine s_getr (oe_t70 59 (q := (93, .getfield 7181, 3)) rfl) s41 rfl rfl p78 ?_
      refine s_bipush (oe_t70 60 (q := (96, .bipush 80, 2)) rfl) ?_
      refine s_iload_n (oe_t70 61 (q := (98, .iload_n 2, 1)) rfl) rfl ?_
      obtain ⟨r79, vc⟩ := vc
      refine s_iadd (oe_t70 62 (q := (99, .iadd, 1)) rfl) r79 ?_
      refine s_aload_n (oe_t70 63 (q := (100, .aload_n 0, 1)) rfl) rfl ?_
      obtain ⟨q80, p81, vc⟩ := vc
      refine s_getr (oe_t70 64 (q := (101, .getfield 7091, 3)) rfl) s41 rfl rfl p81 ?_
      refine s_bipush (oe_t70 65 (q := (104, .bipush 20, 2)) rfl) ?_
      refine s_iload_n (oe_t70 66 (q := (106, .iload_n 1, 1)) rfl) rfl ?_
      obtain ⟨r82, vc⟩ := vc
      refine s_imul (oe_t70 67 (q := (107, .imul, 1)) rfl) r82 ?_
      refine s_iload_n (oe_t70 68 (q := (108, .iload_n 2, 1)) rfl) rfl ?_
      obtain ⟨r83, vc⟩ := vc
      refine s_iadd (oe_t70 69 (q := (109, .iadd, 1)) rfl) r83 ?_
      obtain ⟨n85, s84, vc⟩ := vc
      obtain ⟨i86, i87, vc⟩ := vc
      refine s_iaload (oe_t70 70 (q := (110, .iaload, 1)) rfl) s84 i86 i87 ?_
      obtain ⟨n89, s88, vc⟩ := vc
      obtain ⟨i90, i91, vc⟩ := vc
      refine t_iastore (oe_t70 71 (q := (111, .iastore, 1)) rfl) s88 i90 i91 (fun h92 e93 => ?_)
      replace vc := vc h92 e93
      refine s_goto (oe_t70 72 (q := (112, .goto 142, 3)) rfl) ?_
      obtain ⟨r94, vc⟩ := vc
      refine s_iinc (oe_t70 92 (q := (142, .iinc 2 1, 3)) rfl) rfl r94 ?_
      refine s_goto (oe_t70 93 (q := (145, .goto 72, 3)) rfl) ?_
      exact oe_V.fg (oe_M_mono _) (show oe_fg [some (.inr (.inl v0)), some (.inl v1), some (.inl (v2 + 1)), none] _ from ⟨rfl, ⟨rfl, ⟨rfl, trivial⟩⟩⟩) vc
theorem g70_150 {d : Nat} {sh : List (Nat × Nat)} {g : Nat → Nat → Option Nat} {h : Nat → Nat → Int} {Q : oeQ} {v0 : Nat} {v2 : Int}
    (vc : oe_rg (v2 + 1) ∧ sh[v0]? = some (12, 45) ∧ ((h v0 8) ≤ (v2 + 1) → oe_rg ((h v0 8) - 1) ∧ ∀ h99, h99 = oe_up h v0 8 ((h v0 8) - 1) → Q none (sh, g, h99)) ∧ ((v2 + 1) < (h v0 8) → ∃ q101, g v0 10 = some q101 ∧ oe_rg (v2 + 1) ∧ ∃ n105, sh[q101]? = some (0, n105) ∧ 0 ≤ (v2 + 1) ∧ (v2 + 1) < (n105 : Nat) ∧ 0 ≤ v2 ∧ v2 < (n105 : Nat) ∧ ∀ h110, h110 = oe_up h q101 (v2 : Int).toNat (h q101 ((v2 + 1) : Int).toNat) → ∃ q112, g v0 11 = some q112 ∧ oe_rg (v2 + 1) ∧ ∃ n116, sh[q112]? = some (0, n116) ∧ 0 ≤ (v2 + 1) ∧ (v2 + 1) < (n116 : Nat) ∧ 0 ≤ v2 ∧ v2 < (n116 : Nat) ∧ ∀ h121, h121 = oe_up h110 q112 (v2 : Int).toNat (h110 q112 ((v2 + 1) : Int).toNat) → oe_V (oe_cost 70) 70 (oe_M (d + 1)) none Q 190 [some (.inr (.inl v0)), none, some (.inl v2), some (.inl 0)] [] (sh, g, h121) 0 0)) :
    oe_V (oe_cost 70) 70 (oe_M (d + 1)) none Q 150 [some (.inr (.inl v0)), none, some (.inl v2), none] [] (sh, g, h) 0 0 := by
  refine s_iload_n (oe_t70 96 (q := (150, .iload_n 2, 1)) rfl) rfl ?_
  refine s_iconst (oe_t70 97 (q := (151, .iconst 1, 1)) rfl) ?_
  obtain ⟨r95, vc⟩ := vc
  refine s_iadd (oe_t70 98 (q := (152, .iadd, 1)) rfl) r95 ?_
  refine s_aload_n (oe_t70 99 (q := (153, .aload_n 0, 1)) rfl) rfl ?_
  obtain ⟨s96, vc⟩ := vc
  refine s_geti (oe_t70 100 (q := (154, .getfield 7080, 3)) rfl) s96 rfl (by decide) ?_
  refine s_ic_ge (oe_t70 101 (q := (157, .if_icmp .ge 233, 3)) rfl) (fun c97 => ?_) (fun c97 => ?_)
  · replace vc := vc.1 c97
    refine s_aload_n (oe_t70 149 (q := (233, .aload_n 0, 1)) rfl) rfl ?_
    refine s_dup (oe_t70 150 (q := (234, .dup, 1)) rfl) trivial ?_
    refine s_geti (oe_t70 151 (q := (235, .getfield 7080, 3)) rfl) s96 rfl (by decide) ?_
    refine s_iconst (oe_t70 152 (q := (238, .iconst 1, 1)) rfl) ?_
    obtain ⟨r98, vc⟩ := vc
    refine s_isub (oe_t70 153 (q := (239, .isub, 1)) rfl) r98 ?_
    refine t_puti (oe_t70 154 (q := (240, .putfield 7080, 3)) rfl) s96 rfl (Or.inl rfl) (fun h99 e100 => ?_)
    replace vc := vc h99 e100
    exact s_ret (oe_t70 155 (q := (243, .return_, 1)) rfl) rfl vc
  · replace vc := vc.2 c97
    refine s_aload_n (oe_t70 102 (q := (160, .aload_n 0, 1)) rfl) rfl ?_
    obtain ⟨q101, p102, vc⟩ := vc
    refine s_getr (oe_t70 103 (q := (161, .getfield 7101, 3)) rfl) s96 rfl rfl p102 ?_
    refine s_iload_n (oe_t70 104 (q := (164, .iload_n 2, 1)) rfl) rfl ?_
    refine s_aload_n (oe_t70 105 (q := (165, .aload_n 0, 1)) rfl) rfl ?_
    refine s_getr (oe_t70 106 (q := (166, .getfield 7101, 3)) rfl) s96 rfl rfl p102 ?_
    refine s_iload_n (oe_t70 107 (q := (169, .iload_n 2, 1)) rfl) rfl ?_
    refine s_iconst (oe_t70 108 (q := (170, .iconst 1, 1)) rfl) ?_
    obtain ⟨r103, vc⟩ := vc
    refine s_iadd (oe_t70 109 (q := (171, .iadd, 1)) rfl) r103 ?_
    obtain ⟨n105, s104, vc⟩ := vc
    obtain ⟨i106, i107, vc⟩ := vc
    refine s_iaload (oe_t70 110 (q := (172, .iaload, 1)) rfl) s104 i106 i107 ?_
    obtain ⟨i108, i109, vc⟩ := vc
    refine t_iastore (oe_t70 111 (q := (173, .iastore, 1)) rfl) s104 i108 i109 (fun h110 e111 => ?_)
    replace vc := vc h110 e111
    refine s_aload_n (oe_t70 112 (q := (174, .aload_n 0, 1)) rfl) rfl ?_
    obtain ⟨q112, p113, vc⟩ := vc
    refine s_getr (oe_t70 113 (q := (175, .getfield 7111, 3)) rfl) s96 rfl rfl p113 ?_
    refine s_iload_n (oe_t70 114 (q := (178, .iload_n 2, 1)) rfl) rfl ?_
    refine s_aload_n (oe_t70 115 (q := (179, .aload_n 0, 1)) rfl) rfl ?_
    refine s_getr (oe_t70 116 (q := (180, .getfield 7111, 3)) rfl) s96 rfl rfl p113 ?_
    refine s_iload_n (oe_t70 117 (q := (183, .iload_n 2, 1)) rfl) rfl ?_
    refine s_iconst (oe_t70 118 (q := (184, .iconst 1, 1)) rfl) ?_
    obtain ⟨r114, vc⟩ := vc
    refine s_iadd (oe_t70 119 (q := (185, .iadd, 1)) rfl) r114 ?_
    obtain ⟨n116, s115, vc⟩ := vc
    obtain ⟨i117, i118, vc⟩ := vc
    refine s_iaload (oe_t70 120 (q := (186, .iaload, 1)) rfl) s115 i117 i118 ?_
    obtain ⟨i119, i120, vc⟩ := vc
    refine t_iastore (oe_t70 121 (q := (187, .iastore, 1)) rfl) s115 i119 i120 (fun h121 e122 => ?_)
    replace vc := vc h121 e122
    refine s_iconst (oe_t70 122 (q := (188, .iconst 0, 1)) rfl) ?_
    refine s_istore_n (oe_t70 123 (q := (189, .istore_n 3, 1)) rfl) ?_
    exact oe_V.fg (oe_M_mono _) (show oe_fg [some (.inr (.inl v0)), none, some (.inl v2), some (.inl 0)] _ from ⟨rfl, ⟨rfl, ⟨rfl, trivial⟩⟩⟩) vc
theorem g70_190 {d : Nat} {sh : List (Nat × Nat)} {g : Nat → Nat → Option Nat} {h : Nat → Nat → Int} {Q : oeQ} {v0 : Nat} {v2 : Int} {v3 : Int}
    (vc : (20 ≤ v3 → oe_rg (v2 + 1) ∧ oe_V (oe_cost 70) 70 (oe_M (d + 1)) none Q 150 [some (.inr (.inl v0)), none, some (.inl (v2 + 1)), none] [] (sh, g, h) 0 0) ∧ (v3 < 20 → sh[v0]? = some (12, 45) ∧ ∃ q126, g v0 9 = some q126 ∧ oe_rg (20 * v2) ∧ oe_rg ((20 * v2) + v3) ∧ oe_rg (20 * v2) ∧ oe_rg ((20 * v2) + 20) ∧ oe_rg (((20 * v2) + 20) + v3) ∧ ∃ n134, sh[q126]? = some (0, n134) ∧ 0 ≤ (((20 * v2) + 20) + v3) ∧ (((20 * v2) + 20) + v3) < (n134 : Nat) ∧ 0 ≤ ((20 * v2) + v3) ∧ ((20 * v2) + v3) < (n134 : Nat) ∧ ∀ h139, h139 = oe_up h q126 (((20 * v2) + v3) : Int).toNat (h q126 ((((20 * v2) + 20) + v3) : Int).toNat) → oe_rg (v3 + 1) ∧ oe_V (oe_cost 70) 70 (oe_M (d + 1)) none Q 190 [some (.inr (.inl v0)), none, some (.inl v2), some (.inl (v3 + 1))] [] (sh, g, h139) 0 0)) :
    oe_V (oe_cost 70) 70 (oe_M (d + 1)) none Q 190 [some (.inr (.inl v0)), none, some (.inl v2), some (.inl v3)] [] (sh, g, h) 0 0 := by
  refine s_iload_n (oe_t70 124 (q := (190, .iload_n 3, 1)) rfl) rfl ?_
  refine s_bipush (oe_t70 125 (q := (191, .bipush 20, 2)) rfl) ?_
  refine s_ic_ge (oe_t70 126 (q := (193, .if_icmp .ge 227, 3)) rfl) (fun c123 => ?_) (fun c123 => ?_)
  · replace vc := vc.1 c123
    obtain ⟨r124, vc⟩ := vc
    refine s_iinc (oe_t70 147 (q := (227, .iinc 2 1, 3)) rfl) rfl r124 ?_
    refine s_goto (oe_t70 148 (q := (230, .goto 150, 3)) rfl) ?_
    exact oe_V.fg (oe_M_mono _) (show oe_fg [some (.inr (.inl v0)), none, some (.inl (v2 + 1)), none] _ from ⟨rfl, ⟨rfl, trivial⟩⟩) vc
  · replace vc := vc.2 c123
    refine s_aload_n (oe_t70 127 (q := (196, .aload_n 0, 1)) rfl) rfl ?_
    obtain ⟨s125, vc⟩ := vc
    obtain ⟨q126, p127, vc⟩ := vc
    refine s_getr (oe_t70 128 (q := (197, .getfield 7091, 3)) rfl) s125 rfl rfl p127 ?_
    refine s_bipush (oe_t70 129 (q := (200, .bipush 20, 2)) rfl) ?_
    refine s_iload_n (oe_t70 130 (q := (202, .iload_n 2, 1)) rfl) rfl ?_
    obtain ⟨r128, vc⟩ := vc
    refine s_imul (oe_t70 131 (q := (203, .imul, 1)) rfl) r128 ?_
    refine s_iload_n (oe_t70 132 (q := (204, .iload_n 3, 1)) rfl) rfl ?_
    obtain ⟨r129, vc⟩ := vc
    refine s_iadd (oe_t70 133 (q := (205, .iadd, 1)) rfl) r129 ?_
    refine s_aload_n (oe_t70 134 (q := (206, .aload_n 0, 1)) rfl) rfl ?_
    refine s_getr (oe_t70 135 (q := (207, .getfield 7091, 3)) rfl) s125 rfl rfl p127 ?_
    refine s_bipush (oe_t70 136 (q := (210, .bipush 20, 2)) rfl) ?_
    refine s_iload_n (oe_t70 137 (q := (212, .iload_n 2, 1)) rfl) rfl ?_
    obtain ⟨r130, vc⟩ := vc
    refine s_imul (oe_t70 138 (q := (213, .imul, 1)) rfl) r130 ?_
    refine s_bipush (oe_t70 139 (q := (214, .bipush 20, 2)) rfl) ?_
    obtain ⟨r131, vc⟩ := vc
    refine s_iadd (oe_t70 140 (q := (216, .iadd, 1)) rfl) r131 ?_
    refine s_iload_n (oe_t70 141 (q := (217, .iload_n 3, 1)) rfl) rfl ?_
    obtain ⟨r132, vc⟩ := vc
    refine s_iadd (oe_t70 142 (q := (218, .iadd, 1)) rfl) r132 ?_
    obtain ⟨n134, s133, vc⟩ := vc
    obtain ⟨i135, i136, vc⟩ := vc
    refine s_iaload (oe_t70 143 (q := (219, .iaload, 1)) rfl) s133 i135 i136 ?_
    obtain ⟨i137, i138, vc⟩ := vc
    refine t_iastore (oe_t70 144 (q := (220, .iastore, 1)) rfl) s133 i137 i138 (fun h139 e140 => ?_)
    replace vc := vc h139 e140
    obtain ⟨r141, vc⟩ := vc
    refine s_iinc (oe_t70 145 (q := (221, .iinc 3 1, 3)) rfl) rfl r141 ?_
    refine s_goto (oe_t70 146 (q := (224, .goto 190, 3)) rfl) ?_
    exact oe_V.fg (oe_M_mono _) (show oe_fg [some (.inr (.inl v0)), none, some (.inl v2), some (.inl (v3 + 1))] _ from ⟨rfl, ⟨rfl, ⟨rfl, trivial⟩⟩⟩) vc
theorem oe_u71 : oe_c71.all (fun q => decide (oe_find oe_c71 q.1 = some q.2)) = true := by decide +kernel
theorem oe_t71 (k : Nat) {q : Nat × Jvm.ClassFile.Instr × Nat} (h : oe_c71[k]? = some q) : oe_find (oe_code 71) q.1 = some q.2 := oe_ft oe_u71 h
theorem g71 {d : Nat} {sh : List (Nat × Nat)} {g : Nat → Nat → Option Nat} {h : Nat → Nat → Int} {Q : oeQ} {v0 : Nat}
    (vc : sh[v0]? = some (12, 45) ∧ oe_M (d + 1) 68 [.inr (.inl v0)] (sh, g, h) (fun r hp => ∃ (x1 : Int), r = some (.inl x1) ∧ hp = (sh, g, h) ∧ (x1 = 0 → ((h v0 8) ≠ 0 → oe_M (d + 1) 70 [.inr (.inl v0)] (sh, g, h) (fun r hp => ∃ (h5 : Nat → Nat → Int), r = none ∧ hp = (sh, g, h5) ∧ oe_M (d + 1) 51 [.inr (.inl v0), .inl 2] (sh, g, h5) (fun r hp => ∃ (h6 : Nat → Nat → Int), r = none ∧ hp = (sh, g, h6) ∧ oe_M (d + 1) 51 [.inr (.inl v0), .inl 3] (sh, g, h6) (fun r hp => ∃ (h7 : Nat → Nat → Int), r = none ∧ hp = (sh, g, h7) ∧ oe_M (d + 1) 52 [.inr (.inl v0), .inl 2, .inl 3] (sh, g, h7) (fun r hp => ∃ (x8 : Int), r = some (.inl x8) ∧ hp = (sh, g, h7) ∧ (x8 ≠ 0 → Q (some (.inl 3)) (sh, g, h7)) ∧ (x8 = 0 → ∃ q10, g v0 19 = some q10 ∧ ∃ n13, sh[q10]? = some (0, n13) ∧ 0 ≤ (2 : Int) ∧ (2 : Int) < (n13 : Nat) ∧ 0 ≤ (3 : Int) ∧ (3 : Int) < (n13 : Nat) ∧ oe_rg ((h7 q10 2) + (h7 q10 3)) ∧ (((h7 q10 2) + (h7 q10 3)) ≤ 20 → oe_M (d + 1) 54 [.inr (.inl v0)] (sh, g, h7) (fun r hp => ∃ (x21 : Int) (h20 : Nat → Nat → Int), r = some (.inl x21) ∧ hp = (sh, g, h20) ∧ oe_M (d + 1) 56 [.inr (.inl v0), .inl 0] (sh, g, h20) (fun r hp => ∃ (x23 : Int) (h22 : Nat → Nat → Int), r = some (.inl x23) ∧ hp = (sh, g, h22) ∧ (x23 = 0 → ((h22 v0 12) ≠ 10 → ∃ q26, g v0 14 = some q26 ∧ 0 ≤ (2 : Int) ∧ (2 : Int) < (n13 : Nat) ∧ ∃ n31, sh[q26]? = some (0, n31) ∧ 0 ≤ (h22 v0 12) ∧ (h22 v0 12) < (n31 : Nat) ∧ ∀ h34, h34 = oe_up h22 q26 ((h22 v0 12) : Int).toNat (h22 q10 2) → ∃ q36, g v0 15 = some q36 ∧ 0 ≤ (2 : Int) ∧ (2 : Int) < (n13 : Nat) ∧ 0 ≤ (3 : Int) ∧ (3 : Int) < (n13 : Nat) ∧ oe_rg ((h34 q10 2) + (h34 q10 3)) ∧ ∃ n44, sh[q36]? = some (0, n44) ∧ 0 ≤ (h34 v0 12) ∧ (h34 v0 12) < (n44 : Nat) ∧ ∀ h47, h47 = oe_up h34 q36 ((h34 v0 12) : Int).toNat ((h34 q10 2) + (h34 q10 3)) → oe_V (oe_cost 71) 71 (oe_M (d + 1)) none Q 126 [some (.inr (.inl v0)), some (.inl 0)] [] (sh, g, h47) 0 0) ∧ ((h22 v0 12) = 10 → Q (some (.inl 4)) (sh, g, h22))) ∧ (x23 ≠ 0 → Q (some (.inl 3)) (sh, g, h22))))) ∧ (20 < ((h7 q10 2) + (h7 q10 3)) → Q (some (.inl 3)) (sh, g, h7)))))))) ∧ ((h v0 8) = 0 → Q (some (.inl 0)) (sh, g, h))) ∧ (x1 ≠ 0 → Q (some (.inl 1)) (sh, g, h)))) :
    oe_M (d + 2) 71 [.inr (.inl v0)] (sh, g, h) Q := by
  refine oe_M.of (by simp [oe_c1]) (Nat.le_of_ble_eq_true rfl) ?_
  show oe_V (oe_cost 71) 71 (oe_M (d + 1)) none Q 0 [some (.inr (.inl v0)), none] [] (sh, g, h) 0 0
  refine s_aload_n (oe_t71 0 (q := (0, .aload_n 0, 1)) rfl) rfl ?_
  obtain ⟨s2, vc⟩ := vc
  refine s_callv (oe_t71 1 (q := (1, .invokevirtual 68070, 3)) rfl) rfl s2 rfl (Nat.le_of_ble_eq_true rfl) (Nat.le_of_ble_eq_true rfl) (Nat.le_of_ble_eq_true rfl) (Nat.le_of_ble_eq_true rfl) ?_
  refine oe_M_mono _ _ _ _ _ _ (fun r hp vq => ?_) vc
  obtain ⟨x1, rfl, rfl, vc⟩ := vq
  show oe_V (oe_cost 71) 71 (oe_M (d + 1)) none Q 4 [some (.inr (.inl v0)), none] [.inl x1] (sh, g, h) 0 0
  refine s_if_eq (oe_t71 2 (q := (4, .ifCond .eq 9, 3)) rfl) (fun c3 => ?_) (fun c3 => ?_)
  · replace vc := vc.1 c3
    refine s_aload_n (oe_t71 5 (q := (9, .aload_n 0, 1)) rfl) rfl ?_
    refine s_geti (oe_t71 6 (q := (10, .getfield 7080, 3)) rfl) s2 rfl (by decide) ?_
    refine s_if_ne (oe_t71 7 (q := (13, .ifCond .ne 18, 3)) rfl) (fun c4 => ?_) (fun c4 => ?_)
    · replace vc := vc.1 c4
      refine s_aload_n (oe_t71 10 (q := (18, .aload_n 0, 1)) rfl) rfl ?_
      refine s_callv (oe_t71 11 (q := (19, .invokevirtual 70070, 3)) rfl) rfl s2 rfl (Nat.le_of_ble_eq_true rfl) (Nat.le_of_ble_eq_true rfl) (Nat.le_of_ble_eq_true rfl) (Nat.le_of_ble_eq_true rfl) ?_
      refine oe_M_mono _ _ _ _ _ _ (fun r hp vq => ?_) vc
      obtain ⟨h5, rfl, rfl, vc⟩ := vq
      show oe_V (oe_cost 71) 71 (oe_M (d + 1)) none Q 22 [some (.inr (.inl v0)), none] [] (sh, g, h5) 0 0
      refine s_aload_n (oe_t71 12 (q := (22, .aload_n 0, 1)) rfl) rfl ?_
      refine s_iconst (oe_t71 13 (q := (23, .iconst 2, 1)) rfl) ?_
      refine s_callv (oe_t71 14 (q := (24, .invokevirtual 51071, 3)) rfl) rfl s2 rfl (Nat.le_of_ble_eq_true rfl) (Nat.le_of_ble_eq_true rfl) (Nat.le_of_ble_eq_true rfl) (Nat.le_of_ble_eq_true rfl) ?_
      refine oe_M_mono _ _ _ _ _ _ (fun r hp vq => ?_) vc
      obtain ⟨h6, rfl, rfl, vc⟩ := vq
      show oe_V (oe_cost 71) 71 (oe_M (d + 1)) none Q 27 [some (.inr (.inl v0)), none] [] (sh, g, h6) 0 0
      refine s_aload_n (oe_t71 15 (q := (27, .aload_n 0, 1)) rfl) rfl ?_
      refine s_iconst (oe_t71 16 (q := (28, .iconst 3, 1)) rfl) ?_
      refine s_callv (oe_t71 17 (q := (29, .invokevirtual 51071, 3)) rfl) rfl s2 rfl (Nat.le_of_ble_eq_true rfl) (Nat.le_of_ble_eq_true rfl) (Nat.le_of_ble_eq_true rfl) (Nat.le_of_ble_eq_true rfl) ?_
      refine oe_M_mono _ _ _ _ _ _ (fun r hp vq => ?_) vc
      obtain ⟨h7, rfl, rfl, vc⟩ := vq
      show oe_V (oe_cost 71) 71 (oe_M (d + 1)) none Q 32 [some (.inr (.inl v0)), none] [] (sh, g, h7) 0 0
      refine s_aload_n (oe_t71 18 (q := (32, .aload_n 0, 1)) rfl) rfl ?_
      refine s_iconst (oe_t71 19 (q := (33, .iconst 2, 1)) rfl) ?_
      refine s_iconst (oe_t71 20 (q := (34, .iconst 3, 1)) rfl) ?_
      refine s_callv (oe_t71 21 (q := (35, .invokevirtual 52072, 3)) rfl) rfl s2 rfl (Nat.le_of_ble_eq_true rfl) (Nat.le_of_ble_eq_true rfl) (Nat.le_of_ble_eq_true rfl) (Nat.le_of_ble_eq_true rfl) ?_
      refine oe_M_mono _ _ _ _ _ _ (fun r hp vq => ?_) vc
      obtain ⟨x8, rfl, rfl, vc⟩ := vq
      show oe_V (oe_cost 71) 71 (oe_M (d + 1)) none Q 38 [some (.inr (.inl v0)), none] [.inl x8] (sh, g, h7) 0 0
      refine s_if_ne (oe_t71 22 (q := (38, .ifCond .ne 59, 3)) rfl) (fun c9 => ?_) (fun c9 => ?_)
      · replace vc := vc.1 c9
        refine s_iconst (oe_t71 34 (q := (59, .iconst 3, 1)) rfl) ?_
        exact s_iret (oe_t71 35 (q := (60, .ireturn, 1)) rfl) (Or.inl rfl) vc
      · replace vc := vc.2 c9
        refine s_aload_n (oe_t71 23 (q := (41, .aload_n 0, 1)) rfl) rfl ?_
        obtain ⟨q10, p11, vc⟩ := vc
        refine s_getr (oe_t71 24 (q := (42, .getfield 7191, 3)) rfl) s2 rfl rfl p11 ?_
        refine s_iconst (oe_t71 25 (q := (45, .iconst 2, 1)) rfl) ?_
        obtain ⟨n13, s12, vc⟩ := vc
        obtain ⟨i14, i15, vc⟩ := vc
        refine s_iaload (oe_t71 26 (q := (46, .iaload, 1)) rfl) s12 i14 i15 ?_
        refine s_aload_n (oe_t71 27 (q := (47, .aload_n 0, 1)) rfl) rfl ?_
        refine s_getr (oe_t71 28 (q := (48, .getfield 7191, 3)) rfl) s2 rfl rfl p11 ?_
        refine s_iconst (oe_t71 29 (q := (51, .iconst 3, 1)) rfl) ?_
        obtain ⟨i16, i17, vc⟩ := vc
        refine s_iaload (oe_t71 30 (q := (52, .iaload, 1)) rfl) s12 i16 i17 ?_
        obtain ⟨r18, vc⟩ := vc
        refine s_iadd (oe_t71 31 (q := (53, .iadd, 1)) rfl) r18 ?_
        refine s_bipush (oe_t71 32 (q := (54, .bipush 20, 2)) rfl) ?_
        refine s_ic_le (oe_t71 33 (q := (56, .if_icmp .le 61, 3)) rfl) (fun c19 => ?_) (fun c19 => ?_)
        · replace vc := vc.1 c19
          refine s_aload_n (oe_t71 36 (q := (61, .aload_n 0, 1)) rfl) rfl ?_
          refine s_callv (oe_t71 37 (q := (62, .invokevirtual 54070, 3)) rfl) rfl s2 rfl (Nat.le_of_ble_eq_true rfl) (Nat.le_of_ble_eq_true rfl) (Nat.le_of_ble_eq_true rfl) (Nat.le_of_ble_eq_true rfl) ?_
          refine oe_M_mono _ _ _ _ _ _ (fun r hp vq => ?_) vc
          obtain ⟨x21, h20, rfl, rfl, vc⟩ := vq
          show oe_V (oe_cost 71) 71 (oe_M (d + 1)) none Q 65 [some (.inr (.inl v0)), none] [.inl x21] (sh, g, h20) 0 0
          refine s_pop (oe_t71 38 (q := (65, .pop, 1)) rfl) trivial ?_
          refine s_aload_n (oe_t71 39 (q := (66, .aload_n 0, 1)) rfl) rfl ?_
          refine s_iconst (oe_t71 40 (q := (67, .iconst 0, 1)) rfl) ?_
          refine s_callv (oe_t71 41 (q := (68, .invokevirtual 56071, 3)) rfl) rfl s2 rfl (Nat.le_of_ble_eq_true rfl) (Nat.le_of_ble_eq_true rfl) (Nat.le_of_ble_eq_true rfl) (Nat.le_of_ble_eq_true rfl) ?_
          refine oe_M_mono _ _ _ _ _ _ (fun r hp vq => ?_) vc
          obtain ⟨x23, h22, rfl, rfl, vc⟩ := vq
          show oe_V (oe_cost 71) 71 (oe_M (d + 1)) none Q 71 [some (.inr (.inl v0)), none] [.inl x23] (sh, g, h22) 0 0
          refine s_if_eq (oe_t71 42 (q := (71, .ifCond .eq 76, 3)) rfl) (fun c24 => ?_) (fun c24 => ?_)
          · replace vc := vc.1 c24
            refine s_aload_n (oe_t71 45 (q := (76, .aload_n 0, 1)) rfl) rfl ?_
            refine s_geti (oe_t71 46 (q := (77, .getfield 7120, 3)) rfl) s2 rfl (by decide) ?_
            refine s_bipush (oe_t71 47 (q := (80, .bipush 10, 2)) rfl) ?_
            refine s_ic_ne (oe_t71 48 (q := (82, .if_icmp .ne 87, 3)) rfl) (fun c25 => ?_) (fun c25 => ?_)
            · replace vc := vc.1 c25
              refine s_aload_n (oe_t71 51 (q := (87, .aload_n 0, 1)) rfl) rfl ?_
              obtain ⟨q26, p27, vc⟩ := vc
              refine s_getr (oe_t71 52 (q := (88, .getfield 7141, 3)) rfl) s2 rfl rfl p27 ?_
              refine s_aload_n (oe_t71 53 (q := (91, .aload_n 0, 1)) rfl) rfl ?_
              refine s_geti (oe_t71 54 (q := (92, .getfield 7120, 3)) rfl) s2 rfl (by decide) ?_
              refine s_aload_n (oe_t71 55 (q := (95, .aload_n 0, 1)) rfl) rfl ?_
              refine s_getr (oe_t71 56 (q := (96, .getfield 7191, 3)) rfl) s2 rfl rfl p11 ?_
              refine s_iconst (oe_t71 57 (q := (99, .iconst 2, 1)) rfl) ?_
              obtain ⟨i28, i29, vc⟩ := vc
              refine s_iaload (oe_t71 58 (q := (100, .iaload, 1)) rfl) s12 i28 i29 ?_
              obtain ⟨n31, s30, vc⟩ := vc
              obtain ⟨i32, i33, vc⟩ := vc
              refine t_iastore (oe_t71 59 (q := (101, .iastore, 1)) rfl) s30 i32 i33 (fun h34 e35 => ?_)
              replace vc := vc h34 e35
              refine s_aload_n (oe_t71 60 (q := (102, .aload_n 0, 1)) rfl) rfl ?_
              obtain ⟨q36, p37, vc⟩ := vc
              refine s_getr (oe_t71 61 (q := (103, .getfield 7151, 3)) rfl) s2 rfl rfl p37 ?_
              refine s_aload_n (oe_t71 62 (q := (106, .aload_n 0, 1)) rfl) rfl ?_
              refine s_geti (oe_t71 63 (q := (107, .getfield 7120, 3)) rfl) s2 rfl (by decide) ?_
              refine s_aload_n (oe_t71 64 (q := (110, .aload_n 0, 1)) rfl) rfl ?_
              refine s_getr (oe_t71 65 (q := (111, .getfield 7191, 3)) rfl) s2 rfl rfl p11 ?_
              refine s_iconst (oe_t71 66 (q := (114, .iconst 2, 1)) rfl) ?_
              obtain ⟨i38, i39, vc⟩ := vc
              refine s_iaload (oe_t71 67 (q := (115, .iaload, 1)) rfl) s12 i38 i39 ?_
              refine s_aload_n (oe_t71 68 (q := (116, .aload_n 0, 1)) rfl) rfl ?_
              refine s_getr (oe_t71 69 (q := (117, .getfield 7191, 3)) rfl) s2 rfl rfl p11 ?_
              refine s_iconst (oe_t71 70 (q := (120, .iconst 3, 1)) rfl) ?_
              obtain ⟨i40, i41, vc⟩ := vc
              refine s_iaload (oe_t71 71 (q := (121, .iaload, 1)) rfl) s12 i40 i41 ?_
              obtain ⟨r42, vc⟩ := vc
              refine s_iadd (oe_t71 72 (q := (122, .iadd, 1)) rfl) r42 ?_
              obtain ⟨n44, s43, vc⟩ := vc
              obtain ⟨i45, i46, vc⟩ := vc
              refine t_iastore (oe_t71 73 (q := (123, .iastore, 1)) rfl) s43 i45 i46 (fun h47 e48 => ?_)
              replace vc := vc h47 e48
              refine s_iconst (oe_t71 74 (q := (124, .iconst 0, 1)) rfl) ?_
              refine s_istore_n (oe_t71 75 (q := (125, .istore_n 1, 1)) rfl) ?_
              exact oe_V.fg (oe_M_mono _) (show oe_fg [some (.inr (.inl v0)), some (.inl 0)] _ from ⟨rfl, ⟨rfl, trivial⟩⟩) vc
            · replace vc := vc.2 c25
              refine s_iconst (oe_t71 49 (q := (85, .iconst 4, 1)) rfl) ?_
              exact s_iret (oe_t71 50 (q := (86, .ireturn, 1)) rfl) (Or.inl rfl) vc
          · replace vc := vc.2 c24
            refine s_iconst (oe_t71 43 (q := (74, .iconst 3, 1)) rfl) ?_
            exact s_iret (oe_t71 44 (q := (75, .ireturn, 1)) rfl) (Or.inl rfl) vc
        · replace vc := vc.2 c19
          refine s_iconst (oe_t71 34 (q := (59, .iconst 3, 1)) rfl) ?_
          exact s_iret (oe_t71 35 (q := (60, .ireturn, 1)) rfl) (Or.inl rfl) vc
    · replace vc := vc.2 c4
      refine s_iconst (oe_t71 8 (q := (16, .iconst 0, 1)) rfl) ?_
      exact s_iret (oe_t71 9 (q := (17, .ireturn, 1)) rfl) (Or.inl rfl) vc
  · replace vc := vc.2 c3
    refine s_iconst (oe_t71 3 (q := (7, .iconst 1, 1)) rfl) ?_
    exact s_iret (oe_t71 4 (q := (8, .ireturn, 1)) rfl) (Or.inl rfl) vc
theorem g71_126 {d : Nat} {sh : List (Nat × Nat)} {g : Nat → Nat → Option Nat} {h : Nat → Nat → Int} {Q : oeQ} {v0 : Nat} {v1 : Int}
    (vc : sh[v0]? = some (12, 45) ∧ ∃ q50, g v0 15 = some q50 ∧ ∃ n53, sh[q50]? = some (0, n53) ∧ 0 ≤ (h v0 12) ∧ (h v0 12) < (n53 : Nat) ∧ ((h q50 ((h v0 12) : Int).toNat) ≤ v1 → oe_rg ((h v0 12) + 1) ∧ ∀ h58, h58 = oe_up h v0 12 ((h v0 12) + 1) → oe_V (oe_cost 71) 71 (oe_M (d + 1)) none Q 209 [some (.inr (.inl v0)), some (.inl 0)] [] (sh, g, h58) 0 0) ∧ (v1 < (h q50 ((h v0 12) : Int).toNat) → ∃ q60, g v0 13 = some q60 ∧ oe_rg (20 * (h v0 12)) ∧ oe_rg ((20 * (h v0 12)) + v1) ∧ ∃ q64, g v0 19 = some q64 ∧ ∃ n67, sh[q64]? = some (0, n67) ∧ 0 ≤ (2 : Int) ∧ (2 : Int) < (n67 : Nat) ∧ ((h q64 2) ≤ v1 → ∃ q71, g v0 18 = some q71 ∧ oe_rg (120 + v1) ∧ 0 ≤ (2 : Int) ∧ (2 : Int) < (n67 : Nat) ∧ oe_rg ((120 + v1) - (h q64 2)) ∧ ∃ n78, sh[q71]? = some (0, n78) ∧ 0 ≤ ((120 + v1) - (h q64 2)) ∧ ((120 + v1) - (h q64 2)) < (n78 : Nat) ∧ ∃ n82, sh[q60]? = some (0, n82) ∧ 0 ≤ ((20 * (h v0 12)) + v1) ∧ ((20 * (h v0 12)) + v1) < (n82 : Nat) ∧ ∀ h85, h85 = oe_up h q60 (((20 * (h v0 12)) + v1) : Int).toNat (h q71 (((120 + v1) - (h q64 2)) : Int).toNat) → oe_rg (v1 + 1) ∧ oe_V (oe_cost 71) 71 (oe_M (d + 1)) none Q 126 [some (.inr (.inl v0)), some (.inl (v1 + 1))] [] (sh, g, h85) 0 0) ∧ (v1 < (h q64 2) → ∃ q88, g v0 18 = some q88 ∧ oe_rg (80 + v1) ∧ ∃ n92, sh[q88]? = some (0, n92) ∧ 0 ≤ (80 + v1) ∧ (80 + v1) < (n92 : Nat) ∧ ∃ n96, sh[q60]? = some (0, n96) ∧ 0 ≤ ((20 * (h v0 12)) + v1) ∧ ((20 * (h v0 12)) + v1) < (n96 : Nat) ∧ ∀ h99, h99 = oe_up h q60 (((20 * (h v0 12)) + v1) : Int).toNat (h q88 ((80 + v1) : Int).toNat) → oe_rg (v1 + 1) ∧ oe_V (oe_cost 71) 71 (oe_M (d + 1)) none Q 126 [some (.inr (.inl v0)), some (.inl (v1 + 1))] [] (sh, g, h99) 0 0))) :
    oe_V (oe_cost 71) 71 (oe_M (d + 1)) none Q 126 [some (.inr (.inl v0)), some (.inl v1)] [] (sh, g, h) 0 0 := by
  refine s_iload_n (oe_t71 76 (q := (126, .iload_n 1, 1)) rfl) rfl ?_
  refine s_aload_n (oe_t71 77 (q := (127, .aload_n 0, 1)) rfl) rfl ?_
  obtain ⟨s49, vc⟩ := vc
  obtain ⟨q50, p51, vc⟩ := vc
  refine s_getr (oe_t71 78 (q := (128, .getfield 7151, 3)) rfl) s49 rfl rfl p51 ?_
  refine s_aload_n (oe_t71 79 (q := (131, .aload_n 0, 1)) rfl) rfl ?_
  refine s_geti (oe_t71 80 (q := (132, .getfield 7120, 3)) rfl) s49 rfl (by decide) ?_
  obtain ⟨n53, s52, vc⟩ := vc
  obtain ⟨i54, i55, vc⟩ := vc
  refine s_iaload (oe_t71 81 (q := (135, .iaload, 1)) rfl) s52 i54 i55 ?_
  refine s_ic_ge (oe_t71 82 (q := (136, .if_icmp .ge 197, 3)) rfl) (fun c56 => ?_) (fun c56 => ?_)
  · replace vc := vc.1 c56
    refine s_aload_n (oe_t71 118 (q := (197, .aload_n 0, 1)) rfl) rfl ?_
    refine s_dup (oe_t71 119 (q := (198, .dup, 1)) rfl) trivial ?_
    refine s_geti (oe_t71 120 (q := (199, .getfield 7120, 3)) rfl) s49 rfl (by decide) ?_
    refine s_iconst (oe_t71 121 (q := (202, .iconst 1, 1)) rfl) ?_
    obtain ⟨r57, vc⟩ := vc
    refine s_iadd (oe_t71 122 (q := (203, .iadd, 1)) rfl) r57 ?_
    refine t_puti (oe_t71 123 (q := (204, .putfield 7120, 3)) rfl) s49 rfl (Or.inl rfl) (fun h58 e59 => ?_)
    replace vc := vc h58 e59
    refine s_iconst (oe_t71 124 (q := (207, .iconst 0, 1)) rfl) ?_
    refine s_istore_n (oe_t71 125 (q := (208, .istore_n 1, 1)) rfl) ?_
    exact oe_V.fg (oe_M_mono _) (show oe_fg [some (.inr (.inl v0)), some (.inl 0)] _ from ⟨rfl, ⟨rfl, trivial⟩⟩) vc
  · replace vc := vc.2 c56
    refine s_aload_n (oe_t71 83 (q := (139, .aload_n 0, 1)) rfl) rfl ?_
    obtain ⟨q60, p61, vc⟩ := vc
    refine s_getr (oe_t71 84 (q := (140, .getfield 7131, 3)) rfl) s49 rfl rfl p61 ?_
    refine s_bipush (oe_t71 85 (q := (143, .bipush 20, 2)) rfl) ?_
    refine s_aload_n (oe_t71 86 (q := (145, .aload_n 0, 1)) rfl) rfl ?_
    refine s_geti (oe_t71 87 (q := (146, .getfield 7120, 3)) rfl) s49 rfl (by decide) ?_
    obtain ⟨r62, vc⟩ := vc
    refine s_imul (oe_t71 88 (q := (149, .imul, 1)) rfl) r62 ?_
    refine s_iload_n (oe_t71 89 (q := (150, .iload_n 1, 1)) rfl) rfl ?_
    obtain ⟨r63, vc⟩ := vc
    refine s_iadd (oe_t71 90 (q := (151, .iadd, 1)) rfl) r63 ?_
    refine s_iload_n (oe_t71 91 (q := (152, .iload_n 1, 1)) rfl) rfl ?_
    refine s_aload_n (oe_t71 92 (q := (153, .aload_n 0, 1)) rfl) rfl ?_
    obtain ⟨q64, p65, vc⟩ := vc
    refine s_getr (oe_t71 93 (q := (154, .getfield 7191, 3)) rfl) s49 rfl rfl p65 ?_
    refine s_iconst (oe_t71 94 (q := (157, .iconst 2, 1)) rfl) ?_
    obtain ⟨n67, s66, vc⟩ := vc
    obtain ⟨i68, i69, vc⟩ := vc
    refine s_iaload (oe_t71 95 (q := (158, .iaload, 1)) rfl) s66 i68 i69 ?_
    refine s_ic_ge (oe_t71 96 (q := (159, .if_icmp .ge 174, 3)) rfl) (fun c70 => ?_) (fun c70 => ?_)
    · replace vc := vc.1 c70
      refine s_aload_n (oe_t71 104 (q := (174, .aload_n 0, 1)) rfl) rfl ?_
      obtain ⟨q71, p72, vc⟩ := vc
      refine s_getr (oe_t71 105 (q := (175, .getfield 7181, 3)) rfl) s49 rfl rfl p72 ?_
      refine s_bipush (oe_t71 106 (q := (178, .bipush 120, 2)) rfl) ?_
      refine s_iload_n (oe_t71 107 (q := (180, .iload_n 1, 1)) rfl) rfl ?_
      obtain ⟨r73, vc⟩ := vc
      refine s_iadd (oe_t71 108 (q := (181, .iadd, 1)) rfl) r73 ?_
      refine s_aload_n (oe_t71 109 (q := (182, .aload_n 0, 1)) rfl) rfl ?_
      refine s_getr (oe_t71 110 (q := (183, .getfield 7191, 3)) rfl) s49 rfl rfl p65 ?_
      refine s_iconst (oe_t71 111 (q := (186, .iconst 2, 1)) rfl) ?_
      obtain ⟨i74, i75, vc⟩ := vc
      refine s_iaload (oe_t71 112 (q := (187, .iaload, 1)) rfl) s66 i74 i75 ?_
      obtain ⟨r76, vc⟩ := vc
      refine s_isub (oe_t71 113 (q := (188, .isub, 1)) rfl) r76 ?_
      obtain ⟨n78, s77, vc⟩ := vc
      obtain ⟨i79, i80, vc⟩ := vc
      refine s_iaload (oe_t71 114 (q := (189, .iaload, 1)) rfl) s77 i79 i80 ?_
      obtain ⟨n82, s81, vc⟩ := vc
      obtain ⟨i83, i84, vc⟩ := vc
      refine t_iastore (oe_t71 115 (q := (190, .iastore, 1)) rfl) s81 i83 i84 (fun h85 e86 => ?_)
      replace vc := vc h85 e86
      obtain ⟨r87, vc⟩ := vc
      refine s_iinc (oe_t71 116 (q := (191, .iinc 1 1, 3)) rfl) rfl r87 ?_
      refine s_goto (oe_t71 117 (q := (194, .goto 126, 3)) rfl) ?_
      exact oe_V.fg (oe_M_mono _) (show oe_fg [some (.inr (.inl v0)), some (.inl (v1 + 1))] _ from ⟨rfl, ⟨rfl, trivial⟩⟩) vc
    · replace vc := vc.2 c70
      refine s_aload_n (oe_t71 97 (q := (162, .aload_n 0, 1)) rfl) rfl ?_
      obtain ⟨q88, p89, vc⟩ := vc
      refine s_getr (oe_t71 98 (q := (163, .getfield 7181, 3)) rfl) s49 rfl rfl p89 ?_
      refine s_bipush (oe_t71 99 (q := (166, .bipush 80, 2)) rfl) ?_
      refine s_iload_n (oe_t71 100 (q := (168, .iload_n 1, 1)) rfl) rfl ?_
      obtain ⟨r90, vc⟩ := vc
      refine s_iadd (oe_t71 101 (q := (169, .iadd, 1)) rfl) r90 ?_
      obtain ⟨n92, s91, vc⟩ := vc
      obtain ⟨i93, i94, vc⟩ := vc
      refine s_iaload (oe_t71 102 (q := (170, .iaload, 1)) rfl) s91 i93 i94 ?_
      refine s_goto (oe_t71 103 (q := (171, .goto 190, 3)) rfl) ?_
      obtain ⟨n96, s95, vc⟩ := vc
      obtain ⟨i97, i98, vc⟩ := vc
      refine t_iastore (oe_t71 115 (q := (190, .iastore, 1)) rfl) s95 i97 i98 (fun h99 e100 => ?_)
      replace vc := vc h99 e100
      obtain ⟨r101, vc⟩ := vc
      refine s_iinc (oe_t71 116 (q := (191, .iinc 1 1, 3)) rfl) rfl r101 ?_
      refine s_goto (oe_t71 117 (q := (194, .goto 126, 3)) rfl) ?_
      exact oe_V.fg (oe_M_mono _) (show oe_fg [some (.inr (.inl v0)), some (.inl (v1 + 1))] _ from ⟨rfl, ⟨rfl, trivial⟩⟩) vc
theorem g71_209 {d : Nat} {sh : List (Nat × Nat)} {g : Nat → Nat → Option Nat} {h : Nat → Nat → Int} {Q : oeQ} {v0 : Nat} {v1 : Int}
    (vc : sh[v0]? = some (12, 45) ∧ ((h v0 12) ≤ v1 → oe_M (d + 1) 69 [.inr (.inl v0)] (sh, g, h) (fun r hp => ∃ (h104 : Nat → Nat → Int), r = none ∧ hp = (sh, g, h104) ∧ oe_M (d + 1) 68 [.inr (.inl v0)] (sh, g, h104) (fun r hp => ∃ (x105 : Int), r = some (.inl x105) ∧ hp = (sh, g, h104) ∧ (x105 = 0 → Q (some (.inl 2)) (sh, g, h104)) ∧ (x105 ≠ 0 → Q (some (.inl 1)) (sh, g, h104))))) ∧ (v1 < (h v0 12) → oe_rg ((h v0 12) - 1) ∧ oe_M (d + 1) 67 [.inr (.inl v0), .inl ((h v0 12) - 1), .inl v1] (sh, g, h) (fun r hp => ∃ (h108 : Nat → Nat → Int), r = none ∧ hp = (sh, g, h108) ∧ oe_rg ((h108 v0 12) - 1) ∧ (((h108 v0 12) - 1) ≤ v1 → oe_rg (v1 + 1) ∧ oe_V (oe_cost 71) 71 (oe_M (d + 1)) none Q 209 [some (.inr (.inl v0)), some (.inl (v1 + 1))] [] (sh, g, h108) 0 0) ∧ (v1 < ((h108 v0 12) - 1) → oe_rg ((h108 v0 12) - 1) ∧ oe_M (d + 1) 67 [.inr (.inl v0), .inl v1, .inl ((h108 v0 12) - 1)] (sh, g, h108) (fun r hp => ∃ (h113 : Nat → Nat → Int), r = none ∧ hp = (sh, g, h113) ∧ oe_rg (v1 + 1) ∧ oe_V (oe_cost 71) 71 (oe_M (d + 1)) none Q 209 [some (.inr (.inl v0)), some (.inl (v1 + 1))] [] (sh, g, h113) 0 0))))) :
    oe_V (oe_cost 71) 71 (oe_M (d + 1)) none Q 209 [some (.inr (.inl v0)), some (.inl v1)] [] (sh, g, h) 0 0 := by
  refine s_iload_n (oe_t71 126 (q := (209, .iload_n 1, 1)) rfl) rfl ?_
  refine s_aload_n (oe_t71 127 (q := (210, .aload_n 0, 1)) rfl) rfl ?_
  obtain ⟨s102, vc⟩ := vc
  refine s_geti (oe_t71 128 (q := (211, .getfield 7120, 3)) rfl) s102 rfl (by decide) ?_
  refine s_ic_ge (oe_t71 129 (q := (214, .if_icmp .ge 255, 3)) rfl) (fun c103 => ?_) (fun c103 => ?_)
  · replace vc := vc.1 c103
    refine s_aload_n (oe_t71 152 (q := (255, .aload_n 0, 1)) rfl) rfl ?_
    refine s_callv (oe_t71 153 (q := (256, .invokevirtual 69070, 3)) rfl) rfl s102 rfl (Nat.le_of_ble_eq_true rfl) (Nat.le_of_ble_eq_true rfl) (Nat.le_of_ble_eq_true rfl) (Nat.le_of_ble_eq_true rfl) ?_
    refine oe_M_mono _ _ _ _ _ _ (fun r hp vq => ?_) vc
    obtain ⟨h104, rfl, rfl, vc⟩ := vq
    show oe_V (oe_cost 71) 71 (oe_M (d + 1)) none Q 259 [some (.inr (.inl v0)), some (.inl v1)] [] (sh, g, h104) 0 0
    refine s_aload_n (oe_t71 154 (q := (259, .aload_n 0, 1)) rfl) rfl ?_
    refine s_callv (oe_t71 155 (q := (260, .invokevirtual 68070, 3)) rfl) rfl s102 rfl (Nat.le_of_ble_eq_true rfl) (Nat.le_of_ble_eq_true rfl) (Nat.le_of_ble_eq_true rfl) (Nat.le_of_ble_eq_true rfl) ?_
    refine oe_M_mono _ _ _ _ _ _ (fun r hp vq => ?_) vc
    obtain ⟨x105, rfl, rfl, vc⟩ := vq
    show oe_V (oe_cost 71) 71 (oe_M (d + 1)) none Q 263 [some (.inr (.inl v0)), some (.inl v1)] [.inl x105] (sh, g, h104) 0 0
    refine s_if_eq (oe_t71 156 (q := (263, .ifCond .eq 270, 3)) rfl) (fun c106 => ?_) (fun c106 => ?_)
    · replace vc := vc.1 c106
      refine s_iconst (oe_t71 159 (q := (270, .iconst 2, 1)) rfl) ?_
      exact s_iret (oe_t71 160 (q := (271, .ireturn, 1)) rfl) (Or.inl rfl) vc
    · replace vc := vc.2 c106
      refine s_iconst (oe_t71 157 (q := (266, .iconst 1, 1)) rfl) ?_
      refine s_goto (oe_t71 158 (q := (267, .goto 271, 3)) rfl) ?_
      exact s_iret (oe_t71 160 (q := (271, .ireturn, 1)) rfl) (Or.inl rfl) vc
  · replace vc := vc.2 c103
    refine s_aload_n (oe_t71 130 (q := (217, .aload_n 0, 1)) rfl) rfl ?_
    refine s_aload_n (oe_t71 131 (q := (218, .aload_n 0, 1)) rfl) rfl ?_
    refine s_geti (oe_t71 132 (q := (219, .getfield 7120, 3)) rfl) s102 rfl (by decide) ?_
    refine s_iconst (oe_t71 133 (q := (222, .iconst 1, 1)) rfl) ?_
    obtain ⟨r107, vc⟩ := vc
    refine s_isub (oe_t71 134 (q := (223, .isub, 1)) rfl) r107 ?_
    refine s_iload_n (oe_t71 135 (q := (224, .iload_n 1, 1)) rfl) rfl ?_
    refine s_callv (oe_t71 136 (q := (225, .invokevirtual 67072, 3)) rfl) rfl s102 rfl (Nat.le_of_ble_eq_true rfl) (Nat.le_of_ble_eq_true rfl) (Nat.le_of_ble_eq_true rfl) (Nat.le_of_ble_eq_true rfl) ?_
    refine oe_M_mono _ _ _ _ _ _ (fun r hp vq => ?_) vc
    obtain ⟨h108, rfl, rfl, vc⟩ := vq
    show oe_V (oe_cost 71) 71 (oe_M (d + 1)) none Q 228 [some (.inr (.inl v0)), some (.inl v1)] [] (sh, g, h108) 0 0
    refine s_iload_n (oe_t71 137 (q := (228, .iload_n 1, 1)) rfl) rfl ?_
    refine s_aload_n (oe_t71 138 (q := (229, .aload_n 0, 1)) rfl) rfl ?_
    refine s_geti (oe_t71 139 (q := (230, .getfield 7120, 3)) rfl) s102 rfl (by decide) ?_
    refine s_iconst (oe_t71 140 (q := (233, .iconst 1, 1)) rfl) ?_
    obtain ⟨r109, vc⟩ := vc
    refine s_isub (oe_t71 141 (q := (234, .isub, 1)) rfl) r109 ?_
    refine s_ic_ge (oe_t71 142 (q := (235, .if_icmp .ge 249, 3)) rfl) (fun c110 => ?_) (fun c110 => ?_)
    · replace vc := vc.1 c110
      obtain ⟨r111, vc⟩ := vc
      refine s_iinc (oe_t71 150 (q := (249, .iinc 1 1, 3)) rfl) rfl r111 ?_
      refine s_goto (oe_t71 151 (q := (252, .goto 209, 3)) rfl) ?_
      exact oe_V.fg (oe_M_mono _) (show oe_fg [some (.inr (.inl v0)), some (.inl (v1 + 1))] _ from ⟨rfl, ⟨rfl, trivial⟩⟩) vc
    · replace vc := vc.2 c110
      refine s_aload_n (oe_t71 143 (q := (238, .aload_n 0, 1)) rfl) rfl ?_
      refine s_iload_n (oe_t71 144 (q := (239, .iload_n 1, 1)) rfl) rfl ?_
      refine s_aload_n (oe_t71 145 (q := (240, .aload_n 0, 1)) rfl) rfl ?_
      refine s_geti (oe_t71 146 (q := (241, .getfield 7120, 3)) rfl) s102 rfl (by decide) ?_
      refine s_iconst (oe_t71 147 (q := (244, .iconst 1, 1)) rfl) ?_
      obtain ⟨r112, vc⟩ := vc
      refine s_isub (oe_t71 148 (q := (245, .isub, 1)) rfl) r112 ?_
      refine s_callv (oe_t71 149 (q := (246, .invokevirtual 67072, 3)) rfl) rfl s102 rfl (Nat.le_of_ble_eq_true rfl) (Nat.le_of_ble_eq_true rfl) (Nat.le_of_ble_eq_true rfl) (Nat.le_of_ble_eq_true rfl) ?_
      refine oe_M_mono _ _ _ _ _ _ (fun r hp vq => ?_) vc
      obtain ⟨h113, rfl, rfl, vc⟩ := vq
      show oe_V (oe_cost 71) 71 (oe_M (d + 1)) none Q 249 [some (.inr (.inl v0)), some (.inl v1)] [] (sh, g, h113) 0 0
      obtain ⟨r114, vc⟩ := vc
      refine s_iinc (oe_t71 150 (q := (249, .iinc 1 1, 3)) rfl) rfl r114 ?_
      refine s_goto (oe_t71 151 (q := (252, .goto 209, 3)) rfl) ?_
      exact oe_V.fg (oe_M_mono _) (show oe_fg [some (.inr (.inl v0)), some (.inl (v1 + 1))] _ from ⟨rfl, ⟨rfl, trivial⟩⟩) vc
theorem oe_u72 : oe_c72.all (fun q => decide (oe_find oe_c72 q.1 = some q.2)) = true := by decide +kernel
theorem oe_t72 (k : Nat) {q : Nat × Jvm.ClassFile.Instr × Nat} (h : oe_c72[k]? = some q) : oe_find (oe_code 72) q.1 = some q.2 := oe_ft oe_u72 h
theorem g72 {d : Nat} {sh : List (Nat × Nat)} {g : Nat → Nat → Option Nat} {h : Nat → Nat → Int} {Q : oeQ} {v0 : Nat} {v1 : Int}
    (vc : sh[v0]? = some (12, 45) ∧ ∃ q2, g v0 19 = some q2 ∧ ∃ n5, sh[q2]? = some (0, n5) ∧ 0 ≤ v1 ∧ v1 < (n5 : Nat) ∧ ∀ h8, h8 = oe_up h q2 (v1 : Int).toNat (h v0 6) → oe_rg (v1 + 1) ∧ oe_rg ((h8 v0 7) - (h8 v0 6)) ∧ 0 ≤ (v1 + 1) ∧ (v1 + 1) < (n5 : Nat) ∧ ∀ h14, h14 = oe_up h8 q2 ((v1 + 1) : Int).toNat ((h8 v0 7) - (h8 v0 6)) → oe_V (oe_cost 72) 72 (oe_M (d + 1)) none Q 29 [some (.inr (.inl v0)), some (.inl v1), some (.inl 0)] [] (sh, g, h14) 0 0) :
    oe_M (d + 2) 72 [.inr (.inl v0), .inl v1] (sh, g, h) Q := by
  refine oe_M.of (by simp [oe_c1]) (Nat.le_of_ble_eq_true rfl) ?_
  show oe_V (oe_cost 72) 72 (oe_M (d + 1)) none Q 0 [some (.inr (.inl v0)), some (.inl v1), none] [] (sh, g, h) 0 0
  refine s_aload_n (oe_t72 0 (q := (0, .aload_n 0, 1)) rfl) rfl ?_
  obtain ⟨s1, vc⟩ := vc
  obtain ⟨q2, p3, vc⟩ := vc
  refine s_getr (oe_t72 1 (q := (1, .getfield 7191, 3)) rfl) s1 rfl rfl p3 ?_
  refine s_iload_n (oe_t72 2 (q := (4, .iload_n 1, 1)) rfl) rfl ?_
  refine s_aload_n (oe_t72 3 (q := (5, .aload_n 0, 1)) rfl) rfl ?_
  refine s_geti (oe_t72 4 (q := (6, .getfield 7060, 3)) rfl) s1 rfl (by decide) ?_
  obtain ⟨n5, s4, vc⟩ := vc
  obtain ⟨i6, i7, vc⟩ := vc
  refine t_iastore (oe_t72 5 (q := (9, .iastore, 1)) rfl) s4 i6 i7 (fun h8 e9 => ?_)
  replace vc := vc h8 e9
  refine s_aload_n (oe_t72 6 (q := (10, .aload_n 0, 1)) rfl) rfl ?_
  refine s_getr (oe_t72 7 (q := (11, .getfield 7191, 3)) rfl) s1 rfl rfl p3 ?_
  refine s_iload_n (oe_t72 8 (q := (14, .iload_n 1, 1)) rfl) rfl ?_
  refine s_iconst (oe_t72 9 (q := (15, .iconst 1, 1)) rfl) ?_
  obtain ⟨r10, vc⟩ := vc
  refine s_iadd (oe_t72 10 (q := (16, .iadd, 1)) rfl) r10 ?_
  refine s_aload_n (oe_t72 11 (q := (17, .aload_n 0, 1)) rfl) rfl ?_
  refine s_geti (oe_t72 12 (q := (18, .getfield 7070, 3)) rfl) s1 rfl (by decide) ?_
  refine s_aload_n (oe_t72 13 (q := (21, .aload_n 0, 1)) rfl) rfl ?_
  refine s_geti (oe_t72 14 (q := (22, .getfield 7060, 3)) rfl) s1 rfl (by decide) ?_
  obtain ⟨r11, vc⟩ := vc
  refine s_isub (oe_t72 15 (q := (25, .isub, 1)) rfl) r11 ?_
  obtain ⟨i12, i13, vc⟩ := vc
  refine t_iastore (oe_t72 16 (q := (26, .iastore, 1)) rfl) s4 i12 i13 (fun h14 e15 => ?_)
  replace vc := vc h14 e15
  refine s_iconst (oe_t72 17 (q := (27, .iconst 0, 1)) rfl) ?_
  refine s_istore_n (oe_t72 18 (q := (28, .istore_n 2, 1)) rfl) ?_
  exact oe_V.fg (oe_M_mono _) (show oe_fg [some (.inr (.inl v0)), some (.inl v1), some (.inl 0)] _ from ⟨rfl, ⟨rfl, ⟨rfl, trivial⟩⟩⟩) vc
theorem g72_29 {d : Nat} {sh : List (Nat × Nat)} {g : Nat → Nat → Option Nat} {h : Nat → Nat → Int} {Q : oeQ} {v0 : Nat} {v1 : Int} {v2 : Int}
    (vc : sh[v0]? = some (12, 45) ∧ ((h v0 7) ≤ v2 → Q none (sh, g, h)) ∧ (v2 < (h v0 7) → ((h v0 6) ≤ v2 → ∃ q19, g v0 18 = some q19 ∧ oe_rg (40 * v1) ∧ oe_rg ((40 * v1) + 40) ∧ oe_rg (((40 * v1) + 40) + v2) ∧ oe_rg ((((40 * v1) + 40) + v2) - (h v0 6)) ∧ ∃ q25, g v0 5 = some q25 ∧ ∃ n28, sh[q25]? = some (0, n28) ∧ 0 ≤ v2 ∧ v2 < (n28 : Nat) ∧ ∃ n32, sh[q19]? = some (0, n32) ∧ 0 ≤ ((((40 * v1) + 40) + v2) - (h v0 6)) ∧ ((((40 * v1) + 40) + v2) - (h v0 6)) < (n32 : Nat) ∧ ∀ h35, h35 = oe_up h q19 (((((40 * v1) + 40) + v2) - (h v0 6)) : Int).toNat (h q25 (v2 : Int).toNat) → oe_rg (v2 + 1) ∧ oe_V (oe_cost 72) 72 (oe_M (d + 1)) none Q 29 [some (.inr (.inl v0)), some (.inl v1), some (.inl (v2 + 1))] [] (sh, g, h35) 0 0) ∧ (v2 < (h v0 6) → ∃ q38, g v0 18 = some q38 ∧ oe_rg (40 * v1) ∧ oe_rg ((40 * v1) + v2) ∧ ∃ q42, g v0 5 = some q42 ∧ ∃ n45, sh[q42]? = some (0, n45) ∧ 0 ≤ v2 ∧ v2 < (n45 : Nat) ∧ ∃ n49, sh[q38]? = some (0, n49) ∧ 0 ≤ ((40 * v1) + v2) ∧ ((40 * v1) + v2) < (n49 : Nat) ∧ ∀ h52, h52 = oe_up h q38 (((40 * v1) + v2) : Int).toNat (h q42 (v2 : Int).toNat) → oe_rg (v2 + 1) ∧ oe_V (oe_cost 72) 72 (oe_M (d + 1)) none Q 29 [some (.inr (.inl v0)), some (.inl v1), some (.inl (v2 + 1))] [] (sh, g, h52) 0 0))) :
    oe_V (oe_cost 72) 72 (oe_M (d + 1)) none Q 29 [some (.inr (.inl v0)), some (.inl v1), some (.inl v2)] [] (sh, g, h) 0 0 := by
  refine s_iload_n (oe_t72 19 (q := (29, .iload_n 2, 1)) rfl) rfl ?_
  refine s_aload_n (oe_t72 20 (q := (30, .aload_n 0, 1)) rfl) rfl ?_
  obtain ⟨s16, vc⟩ := vc
  refine s_geti (oe_t72 21 (q := (31, .getfield 7070, 3)) rfl) s16 rfl (by decide) ?_
  refine s_ic_ge (oe_t72 22 (q := (34, .if_icmp .ge 96, 3)) rfl) (fun c17 => ?_) (fun c17 => ?_)
  · replace vc := vc.1 c17
    exact s_ret (oe_t72 59 (q := (96, .return_, 1)) rfl) rfl vc
  · replace vc := vc.2 c17
    refine s_iload_n (oe_t72 23 (q := (37, .iload_n 2, 1)) rfl) rfl ?_
    refine s_aload_n (oe_t72 24 (q := (38, .aload_n 0, 1)) rfl) rfl ?_
    refine s_geti (oe_t72 25 (q := (39, .getfield 7060, 3)) rfl) s16 rfl (by decide) ?_
    refine s_ic_ge (oe_t72 26 (q := (42, .if_icmp .ge 65, 3)) rfl) (fun c18 => ?_) (fun c18 => ?_)
    · replace vc := vc.1 c18
      refine s_aload_n (oe_t72 40 (q := (65, .aload_n 0, 1)) rfl) rfl ?_
      obtain ⟨q19, p20, vc⟩ := vc
      refine s_getr (oe_t72 41 (q := (66, .getfield 7181, 3)) rfl) s16 rfl rfl p20 ?_
      refine s_bipush (oe_t72 42 (q := (69, .bipush 40, 2)) rfl) ?_
      refine s_iload_n (oe_t72 43 (q := (71, .iload_n 1, 1)) rfl) rfl ?_
      obtain ⟨r21, vc⟩ := vc
      refine s_imul (oe_t72 44 (q := (72, .imul, 1)) rfl) r21 ?_
      refine s_bipush (oe_t72 45 (q := (73, .bipush 40, 2)) rfl) ?_
      obtain ⟨r22, vc⟩ := vc
      refine s_iadd (oe_t72 46 (q := (75, .iadd, 1)) rfl) r22 ?_
      refine s_iload_n (oe_t72 47 (q := (76, .iload_n 2, 1)) rfl) rfl ?_
      obtain ⟨r23, vc⟩ := vc
      refine s_iadd (oe_t72 48 (q := (77, .iadd, 1)) rfl) r23 ?_
      refine s_aload_n (oe_t72 49 (q := (78, .aload_n 0, 1)) rfl) rfl ?_
      refine s_geti (oe_t72 50 (q := (79, .getfield 7060, 3)) rfl) s16 rfl (by decide) ?_
      obtain ⟨r24, vc⟩ := vc
      refine s_isub (oe_t72 51 (q := (82, .isub, 1)) rfl) r24 ?_
      refine s_aload_n (oe_t72 52 (q := (83, .aload_n 0, 1)) rfl) rfl ?_
      obtain ⟨q25, p26, vc⟩ := vc
      refine s_getr (oe_t72 53 (q := (84, .getfield 7051, 3)) rfl) s16 rfl rfl p26 ?_
      refine s_iload_n (oe_t72 54 (q := (87, .iload_n 2, 1)) rfl) rfl ?_
      obtain ⟨n28, s27, vc⟩ := vc
      obtain ⟨i29, i30, vc⟩ := vc
      refine s_iaload (oe_t72 55 (q := (88, .iaload, 1)) rfl) s27 i29 i30 ?_
      obtain ⟨n32, s31, vc⟩ := vc
      obtain ⟨i33, i34, vc⟩ := vc
      refine t_iastore (oe_t72 56 (q := (89, .iastore, 1)) rfl) s31 i33 i34 (fun h35 e36 => ?_)
      replace vc := vc h35 e36
      obtain ⟨r37, vc⟩ := vc
      refine s_iinc (oe_t72 57 (q := (90, .iinc 2 1, 3)) rfl) rfl r37 ?_
      refine s_goto (oe_t72 58 (q := (93, .goto 29, 3)) rfl) ?_
      exact oe_V.fg (oe_M_mono _) (show oe_fg [some (.inr (.inl v0)), some (.inl v1), some (.inl (v2 + 1))] _ from ⟨rfl, ⟨rfl, ⟨rfl, trivial⟩⟩⟩) vc
    · replace vc := vc.2 c18
      refine s_aload_n (oe_t72 27 (q := (45, .aload_n 0, 1)) rfl) rfl ?_
      obtain ⟨q38, p39, vc⟩ := vc
      refine s_getr (oe_t72 28 (q := (46, .getfield 7181, 3)) rfl) s16 rfl rfl p39 ?_
      refine s_bipush (oe_t72 29 (q := (49, .bipush 40, 2)) rfl) ?_
      refine s_iload_n (oe_t72 30 (q := (51, .iload_n 1, 1)) rfl) rfl ?_
      obtain ⟨r40, vc⟩ := vc
      refine s_imul (oe_t72 31 (q := (52, .imul, 1)) rfl) r40 ?_
      refine s_iload_n (oe_t72 32 (q := (53, .iload_n 2, 1)) rfl) rfl ?_
      obtain ⟨r41, vc⟩ := vc
      refine s_iadd (oe_t72 33 (q := (54, .iadd, 1)) rfl) r41 ?_
      refine s_aload_n (oe_t72 34 (q := (55, .aload_n 0, 1)) rfl) rfl ?_
      obtain ⟨q42, p43, vc⟩ := vc
      refine s_getr (oe_t72 35 (q := (56, .getfield 7051, 3)) rfl) s16 rfl rfl p43 ?_
      refine s_iload_n (oe_t72 36 (q := (59, .iload_n 2, 1)) rfl) rfl ?_
      obtain ⟨n45, s44, vc⟩ := vc
      obtain ⟨i46, i47, vc⟩ := vc
      refine s_iaload (oe_t72 37 (q := (60, .iaload, 1)) rfl) s44 i46 i47 ?_
      obtain ⟨n49, s48, vc⟩ := vc
      obtain ⟨i50, i51, vc⟩ := vc
      refine t_iastore (oe_t72 38 (q := (61, .iastore, 1)) rfl) s48 i50 i51 (fun h52 e53 => ?_)
      replace vc := vc h52 e53
      refine s_goto (oe_t72 39 (q := (62, .goto 90, 3)) rfl) ?_
      obtain ⟨r54, vc⟩ := vc
      refine s_iinc (oe_t72 57 (q := (90, .iinc 2 1, 3)) rfl) rfl r54 ?_
      refine s_goto (oe_t72 58 (q := (93, .goto 29, 3)) rfl) ?_
      exact oe_V.fg (oe_M_mono _) (show oe_fg [some (.inr (.inl v0)), some (.inl v1), some (.inl (v2 + 1))] _ from ⟨rfl, ⟨rfl, ⟨rfl, trivial⟩⟩⟩) vc
theorem oe_u73 : oe_c73.all (fun q => decide (oe_find oe_c73 q.1 = some q.2)) = true := by decide +kernel
theorem oe_t73 (k : Nat) {q : Nat × Jvm.ClassFile.Instr × Nat} (h : oe_c73[k]? = some q) : oe_find (oe_code 73) q.1 = some q.2 := oe_ft oe_u73 h
theorem g73 {d : Nat} {sh : List (Nat × Nat)} {g : Nat → Nat → Option Nat} {h : Nat → Nat → Int} {Q : oeQ} {v0 : Nat}
    (vc : sh[v0]? = some (12, 45) ∧ ((h v0 8) ≠ 30 → oe_V (oe_cost 73) 73 (oe_M (d + 1)) none Q 15 [some (.inr (.inl v0)), none] [.inl 0, .inr (.inl v0)] (sh, g, h) 0 0) ∧ ((h v0 8) = 30 → oe_V (oe_cost 73) 73 (oe_M (d + 1)) none Q 15 [some (.inr (.inl v0)), none] [.inl 1, .inr (.inl v0)] (sh, g, h) 0 0)) :
    oe_M (d + 2) 73 [.inr (.inl v0)] (sh, g, h) Q := by
  refine oe_M.of (by simp [oe_c1]) (Nat.le_of_ble_eq_true rfl) ?_
  show oe_V (oe_cost 73) 73 (oe_M (d + 1)) none Q 0 [some (.inr (.inl v0)), none] [] (sh, g, h) 0 0
  refine s_aload_n (oe_t73 0 (q := (0, .aload_n 0, 1)) rfl) rfl ?_
  refine s_aload_n (oe_t73 1 (q := (1, .aload_n 0, 1)) rfl) rfl ?_
  obtain ⟨s1, vc⟩ := vc
  refine s_geti (oe_t73 2 (q := (2, .getfield 7080, 3)) rfl) s1 rfl (by decide) ?_
  refine s_bipush (oe_t73 3 (q := (5, .bipush 30, 2)) rfl) ?_
  refine s_ic_ne (oe_t73 4 (q := (7, .if_icmp .ne 14, 3)) rfl) (fun c2 => ?_) (fun c2 => ?_)
  · replace vc := vc.1 c2
    refine s_iconst (oe_t73 7 (q := (14, .iconst 0, 1)) rfl) ?_
    exact oe_V.fg (oe_M_mono _) (show oe_fg [some (.inr (.inl v0)), none] _ from ⟨rfl, trivial⟩) vc
  · replace vc := vc.2 c2
    refine s_iconst (oe_t73 5 (q := (10, .iconst 1, 1)) rfl) ?_
    refine s_goto (oe_t73 6 (q := (11, .goto 15, 3)) rfl) ?_
    exact oe_V.fg (oe_M_mono _) (show oe_fg [some (.inr (.inl v0)), none] _ from ⟨rfl, trivial⟩) vc
theorem g73_15 {d : Nat} {sh : List (Nat × Nat)} {g : Nat → Nat → Option Nat} {h : Nat → Nat → Int} {Q : oeQ} {v0 : Nat} {w0 : Int} {w1 : Nat}
    (vc : sh[w1]? = some (12, 45) ∧ ∀ h4, h4 = oe_up h w1 0 w0 → sh[v0]? = some (12, 45) ∧ ((h4 v0 0) ≤ 0 → oe_M (d + 1) 36 [.inr (.inl v0), .inl 0] (sh, g, h4) (fun r hp => ∃ (x9 : Int) (h8 : Nat → Nat → Int), r = some (.inl x9) ∧ hp = (sh, g, h8) ∧ (x9 < 0 → ((h8 v0 7) ≤ 20 → oe_M (d + 1) 72 [.inr (.inl v0), .inl 2] (sh, g, h8) (fun r hp => ∃ (h12 : Nat → Nat → Int), r = none ∧ hp = (sh, g, h12) ∧ oe_M (d + 1) 54 [.inr (.inl v0)] (sh, g, h12) (fun r hp => ∃ (x14 : Int) (h13 : Nat → Nat → Int), r = some (.inl x14) ∧ hp = (sh, g, h13) ∧ oe_M (d + 1) 57 [.inr (.inl v0)] (sh, g, h13) (fun r hp => ∃ (h15 : Nat → Nat → Int), r = none ∧ hp = (sh, g, h15) ∧ Q (some (.inl (h15 v0 8))) (sh, g, h15))))) ∧ (20 < (h8 v0 7) → Q (some (.inl (-200))) (sh, g, h8))) ∧ (0 ≤ x9 → oe_rg ((-1) - x9) ∧ Q (some (.inl ((-1) - x9))) (sh, g, h8)))) ∧ (0 < (h4 v0 0) → Q (some (.inl 0)) (sh, g, h4))) :
    oe_V (oe_cost 73) 73 (oe_M (d + 1)) none Q 15 [some (.inr (.inl v0)), none] [.inl w0, .inr (.inl w1)] (sh, g, h) 0 0 := by
  obtain ⟨s3, vc⟩ := vc
  refine t_puti (oe_t73 8 (q := (15, .putfield 7000, 3)) rfl) s3 rfl (Or.inl rfl) (fun h4 e5 => ?_)
  replace vc := vc h4 e5
  refine s_aload_n (oe_t73 9 (q := (18, .aload_n 0, 1)) rfl) rfl ?_
  obtain ⟨s6, vc⟩ := vc
  refine s_geti (oe_t73 10 (q := (19, .getfield 7000, 3)) rfl) s6 rfl (by decide) ?_
  refine s_if_le (oe_t73 11 (q := (22, .ifCond .le 27, 3)) rfl) (fun c7 => ?_) (fun c7 => ?_)
  · replace vc := vc.1 c7
    refine s_aload_n (oe_t73 14 (q := (27, .aload_n 0, 1)) rfl) rfl ?_
    refine s_iconst (oe_t73 15 (q := (28, .iconst 0, 1)) rfl) ?_
    refine s_callv (oe_t73 16 (q := (29, .invokevirtual 36071, 3)) rfl) rfl s6 rfl (Nat.le_of_ble_eq_true rfl) (Nat.le_of_ble_eq_true rfl) (Nat.le_of_ble_eq_true rfl) (Nat.le_of_ble_eq_true rfl) ?_
    refine oe_M_mono _ _ _ _ _ _ (fun r hp vq => ?_) vc
    obtain ⟨x9, h8, rfl, rfl, vc⟩ := vq
    show oe_V (oe_cost 73) 73 (oe_M (d + 1)) none Q 32 [some (.inr (.inl v0)), none] [.inl x9] (sh, g, h8) 0 0
    refine s_istore_n (oe_t73 17 (q := (32, .istore_n 1, 1)) rfl) ?_
    refine s_iload_n (oe_t73 18 (q := (33, .iload_n 1, 1)) rfl) rfl ?_
    refine s_if_lt (oe_t73 19 (q := (34, .ifCond .lt 41, 3)) rfl) (fun c10 => ?_) (fun c10 => ?_)
    · replace vc := vc.1 c10
      refine s_aload_n (oe_t73 24 (q := (41, .aload_n 0, 1)) rfl) rfl ?_
      refine s_geti (oe_t73 25 (q := (42, .getfield 7070, 3)) rfl) s6 rfl (by decide) ?_
      refine s_bipush (oe_t73 26 (q := (45, .bipush 20, 2)) rfl) ?_
      refine s_ic_le (oe_t73 27 (q := (47, .if_icmp .le 54, 3)) rfl) (fun c11 => ?_) (fun c11 => ?_)
      · replace vc := vc.1 c11
        refine s_aload_n (oe_t73 30 (q := (54, .aload_n 0, 1)) rfl) rfl ?_
        refine s_iconst (oe_t73 31 (q := (55, .iconst 2, 1)) rfl) ?_
        refine s_callv (oe_t73 32 (q := (56, .invokevirtual 72071, 3)) rfl) rfl s6 rfl (Nat.le_of_ble_eq_true rfl) (Nat.le_of_ble_eq_true rfl) (Nat.le_of_ble_eq_true rfl) (Nat.le_of_ble_eq_true rfl) ?_
        refine oe_M_mono _ _ _ _ _ _ (fun r hp vq => ?_) vc
        obtain ⟨h12, rfl, rfl, vc⟩ := vq
        show oe_V (oe_cost 73) 73 (oe_M (d + 1)) none Q 59 [some (.inr (.inl v0)), some (.inl x9)] [] (sh, g, h12) 0 0
        refine s_aload_n (oe_t73 33 (q := (59, .aload_n 0, 1)) rfl) rfl ?_
        refine s_callv (oe_t73 34 (q := (60, .invokevirtual 54070, 3)) rfl) rfl s6 rfl (Nat.le_of_ble_eq_true rfl) (Nat.le_of_ble_eq_true rfl) (Nat.le_of_ble_eq_true rfl) (Nat.le_of_ble_eq_true rfl) ?_
        refine oe_M_mono _ _ _ _ _ _ (fun r hp vq => ?_) vc
        obtain ⟨x14, h13, rfl, rfl, vc⟩ := vq
        show oe_V (oe_cost 73) 73 (oe_M (d + 1)) none Q 63 [some (.inr (.inl v0)), some (.inl x9)] [.inl x14] (sh, g, h13) 0 0
        refine s_pop (oe_t73 35 (q := (63, .pop, 1)) rfl) trivial ?_
        refine s_aload_n (oe_t73 36 (q := (64, .aload_n 0, 1)) rfl) rfl ?_
        refine s_callv (oe_t73 37 (q := (65, .invokevirtual 57070, 3)) rfl) rfl s6 rfl (Nat.le_of_ble_eq_true rfl) (Nat.le_of_ble_eq_true rfl) (Nat.le_of_ble_eq_true rfl) (Nat.le_of_ble_eq_true rfl) ?_
        refine oe_M_mono _ _ _ _ _ _ (fun r hp vq => ?_) vc
        obtain ⟨h15, rfl, rfl, vc⟩ := vq
        show oe_V (oe_cost 73) 73 (oe_M (d + 1)) none Q 68 [some (.inr (.inl v0)), some (.inl x9)] [] (sh, g, h15) 0 0
        refine s_aload_n (oe_t73 38 (q := (68, .aload_n 0, 1)) rfl) rfl ?_
        refine s_geti (oe_t73 39 (q := (69, .getfield 7080, 3)) rfl) s6 rfl (by decide) ?_
        exact s_iret (oe_t73 40 (q := (72, .ireturn, 1)) rfl) (Or.inl rfl) vc
      · replace vc := vc.2 c11
        refine s_sipush (oe_t73 28 (q := (50, .sipush (-200), 3)) rfl) ?_
        exact s_iret (oe_t73 29 (q := (53, .ireturn, 1)) rfl) (Or.inl rfl) vc
    · replace vc := vc.2 c10
      refine s_iconst (oe_t73 20 (q := (37, .iconst (-1), 1)) rfl) ?_
      refine s_iload_n (oe_t73 21 (q := (38, .iload_n 1, 1)) rfl) rfl ?_
      obtain ⟨r16, vc⟩ := vc
      refine s_isub (oe_t73 22 (q := (39, .isub, 1)) rfl) r16 ?_
      exact s_iret (oe_t73 23 (q := (40, .ireturn, 1)) rfl) (Or.inl rfl) vc
  · replace vc := vc.2 c7
    refine s_iconst (oe_t73 12 (q := (25, .iconst 0, 1)) rfl) ?_
    exact s_iret (oe_t73 13 (q := (26, .ireturn, 1)) rfl) (Or.inl rfl) vc
theorem oe_u74 : oe_c74.all (fun q => decide (oe_find oe_c74 q.1 = some q.2)) = true := by decide +kernel
theorem oe_t74 (k : Nat) {q : Nat × Jvm.ClassFile.Instr × Nat} (h : oe_c74[k]? = some q) : oe_find (oe_code 74) q.1 = some q.2 := oe_ft oe_u74 h
theorem g74 {d : Nat} {sh : List (Nat × Nat)} {g : Nat → Nat → Option Nat} {h : Nat → Nat → Int} {Q : oeQ} {v0 : Nat}
    (vc : sh[v0]? = some (12, 45) ∧ ∀ h2, h2 = oe_up h v0 0 0 → oe_M (d + 1) 36 [.inr (.inl v0), .inl 1] (sh, g, h2) (fun r hp => ∃ (x5 : Int) (h4 : Nat → Nat → Int), r = some (.inl x5) ∧ hp = (sh, g, h4) ∧ (x5 < 0 → (20 < (h4 v0 6) → Q (some (.inl (-200))) (sh, g, h4)) ∧ ((h4 v0 6) ≤ 20 → oe_rg ((h4 v0 7) - (h4 v0 6)) ∧ (((h4 v0 7) - (h4 v0 6)) ≤ 20 → oe_M (d + 1) 72 [.inr (.inl v0), .inl 0] (sh, g, h4) (fun r hp => ∃ (h10 : Nat → Nat → Int), r = none ∧ hp = (sh, g, h10) ∧ ∀ h11, h11 = oe_up h10 v0 17 1 → oe_M (d + 1) 69 [.inr (.inl v0)] (sh, g, h11) (fun r hp => ∃ (h13 : Nat → Nat → Int), r = none ∧ hp = (sh, g, h13) ∧ oe_M (d + 1) 68 [.inr (.inl v0)] (sh, g, h13) (fun r hp => ∃ (x14 : Int), r = some (.inl x14) ∧ hp = (sh, g, h13) ∧ (x14 = 0 → Q (some (.inl 0)) (sh, g, h13)) ∧ (x14 ≠ 0 → Q (some (.inl 1)) (sh, g, h13)))))) ∧ (20 < ((h4 v0 7) - (h4 v0 6)) → Q (some (.inl (-200))) (sh, g, h4)))) ∧ (0 ≤ x5 → oe_rg ((-1) - x5) ∧ Q (some (.inl ((-1) - x5))) (sh, g, h4)))) :
    oe_M (d + 2) 74 [.inr (.inl v0)] (sh, g, h) Q := by
  refine oe_M.of (by simp [oe_c1]) (Nat.le_of_ble_eq_true rfl) ?_
  show oe_V (oe_cost 74) 74 (oe_M (d + 1)) none Q 0 [some (.inr (.inl v0)), none] [] (sh, g, h) 0 0
  refine s_aload_n (oe_t74 0 (q := (0, .aload_n 0, 1)) rfl) rfl ?_
  refine s_iconst (oe_t74 1 (q := (1, .iconst 0, 1)) rfl) ?_
  obtain ⟨s1, vc⟩ := vc
  refine t_puti (oe_t74 2 (q := (2, .putfield 7000, 3)) rfl) s1 rfl (Or.inl rfl) (fun h2 e3 => ?_)
  replace vc := vc h2 e3
  refine s_aload_n (oe_t74 3 (q := (5, .aload_n 0, 1)) rfl) rfl ?_
  refine s_iconst (oe_t74 4 (q := (6, .iconst 1, 1)) rfl) ?_
  refine s_callv (oe_t74 5 (q := (7, .invokevirtual 36071, 3)) rfl) rfl s1 rfl (Nat.le_of_ble_eq_true rfl) (Nat.le_of_ble_eq_true rfl) (Nat.le_of_ble_eq_true rfl) (Nat.le_of_ble_eq_true rfl) ?_
  refine oe_M_mono _ _ _ _ _ _ (fun r hp vq => ?_) vc
  obtain ⟨x5, h4, rfl, rfl, vc⟩ := vq
  show oe_V (oe_cost 74) 74 (oe_M (d + 1)) none Q 10 [some (.inr (.inl v0)), none] [.inl x5] (sh, g, h4) 0 0
  refine s_istore_n (oe_t74 6 (q := (10, .istore_n 1, 1)) rfl) ?_
  refine s_iload_n (oe_t74 7 (q := (11, .iload_n 1, 1)) rfl) rfl ?_
  refine s_if_lt (oe_t74 8 (q := (12, .ifCond .lt 19, 3)) rfl) (fun c6 => ?_) (fun c6 => ?_)
  · replace vc := vc.1 c6
    refine s_aload_n (oe_t74 13 (q := (19, .aload_n 0, 1)) rfl) rfl ?_
    refine s_geti (oe_t74 14 (q := (20, .getfield 7060, 3)) rfl) s1 rfl (by decide) ?_
    refine s_bipush (oe_t74 15 (q := (23, .bipush 20, 2)) rfl) ?_
    refine s_ic_gt (oe_t74 16 (q := (25, .if_icmp .gt 42, 3)) rfl) (fun c7 => ?_) (fun c7 => ?_)
    · replace vc := vc.1 c7
      refine s_sipush (oe_t74 24 (q := (42, .sipush (-200), 3)) rfl) ?_
      exact s_iret (oe_t74 25 (q := (45, .ireturn, 1)) rfl) (Or.inl rfl) vc
    · replace vc := vc.2 c7
      refine s_aload_n (oe_t74 17 (q := (28, .aload_n 0, 1)) rfl) rfl ?_
      refine s_geti (oe_t74 18 (q := (29, .getfield 7070, 3)) rfl) s1 rfl (by decide) ?_
      refine s_aload_n (oe_t74 19 (q := (32, .aload_n 0, 1)) rfl) rfl ?_
      refine s_geti (oe_t74 20 (q := (33, .getfield 7060, 3)) rfl) s1 rfl (by decide) ?_
      obtain ⟨r8, vc⟩ := vc
      refine s_isub (oe_t74 21 (q := (36, .isub, 1)) rfl) r8 ?_
      refine s_bipush (oe_t74 22 (q := (37, .bipush 20, 2)) rfl) ?_
      refine s_ic_le (oe_t74 23 (q := (39, .if_icmp .le 46, 3)) rfl) (fun c9 => ?_) (fun c9 => ?_)
      · replace vc := vc.1 c9
        refine s_aload_n (oe_t74 26 (q := (46, .aload_n 0, 1)) rfl) rfl ?_
        refine s_iconst (oe_t74 27 (q := (47, .iconst 0, 1)) rfl) ?_
        refine s_callv (oe_t74 28 (q := (48, .invokevirtual 72071, 3)) rfl) rfl s1 rfl (Nat.le_of_ble_eq_true rfl) (Nat.le_of_ble_eq_true rfl) (Nat.le_of_ble_eq_true rfl) (Nat.le_of_ble_eq_true rfl) ?_
        refine oe_M_mono _ _ _ _ _ _ (fun r hp vq => ?_) vc
        obtain ⟨h10, rfl, rfl, vc⟩ := vq
        show oe_V (oe_cost 74) 74 (oe_M (d + 1)) none Q 51 [some (.inr (.inl v0)), some (.inl x5)] [] (sh, g, h10) 0 0
        refine s_aload_n (oe_t74 29 (q := (51, .aload_n 0, 1)) rfl) rfl ?_
        refine s_iconst (oe_t74 30 (q := (52, .iconst 1, 1)) rfl) ?_
        refine t_puti (oe_t74 31 (q := (53, .putfield 7172, 3)) rfl) s1 rfl (Or.inr ⟨rfl, Or.inr rfl⟩) (fun h11 e12 => ?_)
        replace vc := vc h11 e12
        refine s_aload_n (oe_t74 32 (q := (56, .aload_n 0, 1)) rfl) rfl ?_
        refine s_callv (oe_t74 33 (q := (57, .invokevirtual 69070, 3)) rfl) rfl s1 rfl (Nat.le_of_ble_eq_true rfl) (Nat.le_of_ble_eq_true rfl) (Nat.le_of_ble_eq_true rfl) (Nat.le_of_ble_eq_true rfl) ?_
        refine oe_M_mono _ _ _ _ _ _ (fun r hp vq => ?_) vc
        obtain ⟨h13, rfl, rfl, vc⟩ := vq
        show oe_V (oe_cost 74) 74 (oe_M (d + 1)) none Q 60 [some (.inr (.inl v0)), some (.inl x5)] [] (sh, g, h13) 0 0
        refine s_aload_n (oe_t74 34 (q := (60, .aload_n 0, 1)) rfl) rfl ?_
        refine s_callv (oe_t74 35 (q := (61, .invokevirtual 68070, 3)) rfl) rfl s1 rfl (Nat.le_of_ble_eq_true rfl) (Nat.le_of_ble_eq_true rfl) (Nat.le_of_ble_eq_true rfl) (Nat.le_of_ble_eq_true rfl) ?_
        refine oe_M_mono _ _ _ _ _ _ (fun r hp vq => ?_) vc
        obtain ⟨x14, rfl, rfl, vc⟩ := vq
        show oe_V (oe_cost 74) 74 (oe_M (d + 1)) none Q 64 [some (.inr (.inl v0)), some (.inl x5)] [.inl x14] (sh, g, h13) 0 0
        refine s_if_eq (oe_t74 36 (q := (64, .ifCond .eq 71, 3)) rfl) (fun c15 => ?_) (fun c15 => ?_)
        · replace vc := vc.1 c15
          refine s_iconst (oe_t74 39 (q := (71, .iconst 0, 1)) rfl) ?_
          exact s_iret (oe_t74 40 (q := (72, .ireturn, 1)) rfl) (Or.inl rfl) vc
        · replace vc := vc.2 c15
          refine s_iconst (oe_t74 37 (q := (67, .iconst 1, 1)) rfl) ?_
          refine s_goto (oe_t74 38 (q := (68, .goto 72, 3)) rfl) ?_
          exact s_iret (oe_t74 40 (q := (72, .ireturn, 1)) rfl) (Or.inl rfl) vc
      · replace vc := vc.2 c9
        refine s_sipush (oe_t74 24 (q := (42, .sipush (-200), 3)) rfl) ?_
        exact s_iret (oe_t74 25 (q := (45, .ireturn, 1)) rfl) (Or.inl rfl) vc
  · replace vc := vc.2 c6
    refine s_iconst (oe_t74 9 (q := (15, .iconst (-1), 1)) rfl) ?_
    refine s_iload_n (oe_t74 10 (q := (16, .iload_n 1, 1)) rfl) rfl ?_
    obtain ⟨r16, vc⟩ := vc
    refine s_isub (oe_t74 11 (q := (17, .isub, 1)) rfl) r16 ?_
    exact s_iret (oe_t74 12 (q := (18, .ireturn, 1)) rfl) (Or.inl rfl) vc
theorem oe_u75 : oe_c75.all (fun q => decide (oe_find oe_c75 q.1 = some q.2)) = true := by decide +kernel
theorem oe_t75 (k : Nat) {q : Nat × Jvm.ClassFile.Instr × Nat} (h : oe_c75[k]? = some q) : oe_find (oe_code 75) q.1 = some q.2 := oe_ft oe_u75 h
theorem g75 {d : Nat} {sh : List (Nat × Nat)} {g : Nat → Nat → Option Nat} {h : Nat → Nat → Int} {Q : oeQ} {v0 : Nat}
    (vc : sh[v0]? = some (12, 45) ∧ ∀ h2, h2 = oe_up h v0 0 0 → oe_M (d + 1) 71 [.inr (.inl v0)] (sh, g, h2) (fun r hp => ∃ (x5 : Int) (h4 : Nat → Nat → Int), r = some (.inl x5) ∧ hp = (sh, g, h4) ∧ Q (some (.inl x5)) (sh, g, h4))) :
    oe_M (d + 2) 75 [.inr (.inl v0)] (sh, g, h) Q := by
  refine oe_M.of (by simp [oe_c1]) (Nat.le_of_ble_eq_true rfl) ?_
  show oe_V (oe_cost 75) 75 (oe_M (d + 1)) none Q 0 [some (.inr (.inl v0))] [] (sh, g, h) 0 0
  refine s_aload_n (oe_t75 0 (q := (0, .aload_n 0, 1)) rfl) rfl ?_
  refine s_iconst (oe_t75 1 (q := (1, .iconst 0, 1)) rfl) ?_
  obtain ⟨s1, vc⟩ := vc
  refine t_puti (oe_t75 2 (q := (2, .putfield 7000, 3)) rfl) s1 rfl (Or.inl rfl) (fun h2 e3 => ?_)
  replace vc := vc h2 e3
  refine s_aload_n (oe_t75 3 (q := (5, .aload_n 0, 1)) rfl) rfl ?_
  refine s_callv (oe_t75 4 (q := (6, .invokevirtual 71070, 3)) rfl) rfl s1 rfl (Nat.le_of_ble_eq_true rfl) (Nat.le_of_ble_eq_true rfl) (Nat.le_of_ble_eq_true rfl) (Nat.le_of_ble_eq_true rfl) ?_
  refine oe_M_mono _ _ _ _ _ _ (fun r hp vq => ?_) vc
  obtain ⟨x5, h4, rfl, rfl, vc⟩ := vq
  show oe_V (oe_cost 75) 75 (oe_M (d + 1)) none Q 9 [some (.inr (.inl v0))] [.inl x5] (sh, g, h4) 0 0
  exact s_iret (oe_t75 5 (q := (9, .ireturn, 1)) rfl) (Or.inl rfl) vc
theorem oe_u76 : oe_c76.all (fun q => decide (oe_find oe_c76 q.1 = some q.2)) = true := by decide +kernel
theorem oe_t76 (k : Nat) {q : Nat × Jvm.ClassFile.Instr × Nat} (h : oe_c76[k]? = some q) : oe_find (oe_code 76) q.1 = some q.2 := oe_ft oe_u76 h
theorem g76 {d : Nat} {sh : List (Nat × Nat)} {g : Nat → Nat → Option Nat} {h : Nat → Nat → Int} {Q : oeQ} {v0 : Nat} {v1 : Int}
    (vc : (v1 < 1 → sh[v0]? = some (12, 45) ∧ ∀ h3, h3 = oe_up h v0 0 1 → ((h3 v0 0) ≤ 0 → oe_V (oe_cost 76) 76 (oe_M (d + 1)) none Q 33 [some (.inr (.inl v0)), some (.inl v1), some (.inl 2), some (.inl 0)] [] (sh, g, h3) 0 0) ∧ (0 < (h3 v0 0) → Q (some (.inl 0)) (sh, g, h3))) ∧ (1 ≤ v1 → (v1 ≤ 20 → sh[v0]? = some (12, 45) ∧ ∀ h8, h8 = oe_up h v0 0 0 → ((h8 v0 0) ≤ 0 → oe_V (oe_cost 76) 76 (oe_M (d + 1)) none Q 33 [some (.inr (.inl v0)), some (.inl v1), some (.inl 2), some (.inl 0)] [] (sh, g, h8) 0 0) ∧ (0 < (h8 v0 0) → Q (some (.inl 0)) (sh, g, h8))) ∧ (20 < v1 → sh[v0]? = some (12, 45) ∧ ∀ h12, h12 = oe_up h v0 0 1 → ((h12 v0 0) ≤ 0 → oe_V (oe_cost 76) 76 (oe_M (d + 1)) none Q 33 [some (.inr (.inl v0)), some (.inl v1), some (.inl 2), some (.inl 0)] [] (sh, g, h12) 0 0) ∧ (0 < (h12 v0 0) → Q (some (.inl 0)) (sh, g, h12))))) :
    oe_M (d + 2) 76 [.inr (.inl v0), .inl v1] (sh, g, h) Q := by
  refine oe_M.of (by simp [oe_c1]) (Nat.le_of_ble_eq_true rfl) ?_
  show oe_V (oe_cost 76) 76 (oe_M (d + 1)) none Q 0 [some (.inr (.inl v0)), some (.inl v1), none, none] [] (sh, g, h) 0 0
  refine s_aload_n (oe_t76 0 (q := (0, .aload_n 0, 1)) rfl) rfl ?_
  refine s_iload_n (oe_t76 1 (q := (1, .iload_n 1, 1)) rfl) rfl ?_
  refine s_iconst (oe_t76 2 (q := (2, .iconst 1, 1)) rfl) ?_
  refine s_ic_lt (oe_t76 3 (q := (3, .if_icmp .lt 12, 3)) rfl) (fun c1 => ?_) (fun c1 => ?_)
  · replace vc := vc.1 c1
    refine s_iconst (oe_t76 7 (q := (12, .iconst 1, 1)) rfl) ?_
    refine s_goto (oe_t76 8 (q := (13, .goto 17, 3)) rfl) ?_
    obtain ⟨s2, vc⟩ := vc
    refine t_puti (oe_t76 10 (q := (17, .putfield 7000, 3)) rfl) s2 rfl (Or.inl rfl) (fun h3 e4 => ?_)
    replace vc := vc h3 e4
    refine s_aload_n (oe_t76 11 (q := (20, .aload_n 0, 1)) rfl) rfl ?_
    refine s_geti (oe_t76 12 (q := (21, .getfield 7000, 3)) rfl) s2 rfl (by decide) ?_
    refine s_if_le (oe_t76 13 (q := (24, .ifCond .le 29, 3)) rfl) (fun c5 => ?_) (fun c5 => ?_)
    · replace vc := vc.1 c5
      refine s_iconst (oe_t76 16 (q := (29, .iconst 2, 1)) rfl) ?_
      refine s_istore_n (oe_t76 17 (q := (30, .istore_n 2, 1)) rfl) ?_
      refine s_iconst (oe_t76 18 (q := (31, .iconst 0, 1)) rfl) ?_
      refine s_istore_n (oe_t76 19 (q := (32, .istore_n 3, 1)) rfl) ?_
      exact oe_V.fg (oe_M_mono _) (show oe_fg [some (.inr (.inl v0)), some (.inl v1), some (.inl 2), some (.inl 0)] _ from ⟨rfl, ⟨rfl, ⟨rfl, ⟨rfl, trivial⟩⟩⟩⟩) vc
    · replace vc := vc.2 c5
      refine s_iconst (oe_t76 14 (q := (27, .iconst 0, 1)) rfl) ?_
      exact s_iret (oe_t76 15 (q := (28, .ireturn, 1)) rfl) (Or.inl rfl) vc
  · replace vc := vc.2 c1
    refine s_iload_n (oe_t76 4 (q := (6, .iload_n 1, 1)) rfl) rfl ?_
    refine s_bipush (oe_t76 5 (q := (7, .bipush 20, 2)) rfl) ?_
    refine s_ic_le (oe_t76 6 (q := (9, .if_icmp .le 16, 3)) rfl) (fun c6 => ?_) (fun c6 => ?_)
    · replace vc := vc.1 c6
      refine s_iconst (oe_t76 9 (q := (16, .iconst 0, 1)) rfl) ?_
      obtain ⟨s7, vc⟩ := vc
      refine t_puti (oe_t76 10 (q := (17, .putfield 7000, 3)) rfl) s7 rfl (Or.inl rfl) (fun h8 e9 => ?_)
      replace vc := vc h8 e9
      refine s_aload_n (oe_t76 11 (q := (20, .aload_n 0, 1)) rfl) rfl ?_
      refine s_geti (oe_t76 12 (q := (21, .getfield 7000, 3)) rfl) s7 rfl (by decide) ?_
      refine s_if_le (oe_t76 13 (q := (24, .ifCond .le 29, 3)) rfl) (fun c10 => ?_) (fun c10 => ?_)
      · replace vc := vc.1 c10
        refine s_iconst (oe_t76 16 (q := (29, .iconst 2, 1)) rfl) ?_
        refine s_istore_n (oe_t76 17 (q := (30, .istore_n 2, 1)) rfl) ?_
        refine s_iconst (oe_t76 18 (q := (31, .iconst 0, 1)) rfl) ?_
        refine s_istore_n (oe_t76 19 (q := (32, .istore_n 3, 1)) rfl) ?_
        exact oe_V.fg (oe_M_mono _) (show oe_fg [some (.inr (.inl v0)), some (.inl v1), some (.inl 2), some (.inl 0)] _ from ⟨rfl, ⟨rfl, ⟨rfl, ⟨rfl, trivial⟩⟩⟩⟩) vc
      · replace vc := vc.2 c10
        refine s_iconst (oe_t76 14 (q := (27, .iconst 0, 1)) rfl) ?_
        exact s_iret (oe_t76 15 (q := (28, .ireturn, 1)) rfl) (Or.inl rfl) vc
    · replace vc := vc.2 c6
      refine s_iconst (oe_t76 7 (q := (12, .iconst 1, 1)) rfl) ?_
      refine s_goto (oe_t76 8 (q := (13, .goto 17, 3)) rfl) ?_
      obtain ⟨s11, vc⟩ := vc
      refine t_puti (oe_t76 10 (q := (17, .putfield 7000, 3)) rfl) s11 rfl (Or.inl rfl) (fun h12 e13 => ?_)
      replace vc := vc h12 e13
      refine s_aload_n (oe_t76 11 (q := (20, .aload_n 0, 1)) rfl) rfl ?_
      refine s_geti (oe_t76 12 (q := (21, .getfield 7000, 3)) rfl) s11 rfl (by decide) ?_
      refine s_if_le (oe_t76 13 (q := (24, .ifCond .le 29, 3)) rfl) (fun c14 => ?_) (fun c14 => ?_)
      · replace vc := vc.1 c14
        refine s_iconst (oe_t76 16 (q := (29, .iconst 2, 1)) rfl) ?_
        refine s_istore_n (oe_t76 17 (q := (30, .istore_n 2, 1)) rfl) ?_
        refine s_iconst (oe_t76 18 (q := (31, .iconst 0, 1)) rfl) ?_
        refine s_istore_n (oe_t76 19 (q := (32, .istore_n 3, 1)) rfl) ?_
        exact oe_V.fg (oe_M_mono _) (show oe_fg [some (.inr (.inl v0)), some (.inl v1), some (.inl 2), some (.inl 0)] _ from ⟨rfl, ⟨rfl, ⟨rfl, ⟨rfl, trivial⟩⟩⟩⟩) vc
      · replace vc := vc.2 c14
        refine s_iconst (oe_t76 14 (q := (27, .iconst 0, 1)) rfl) ?_
        exact s_iret (oe_t76 15 (q := (28, .ireturn, 1)) rfl) (Or.inl rfl) vc
theorem g76_33 {d : Nat} {sh : List (Nat × Nat)} {g : Nat → Nat → Option Nat} {h : Nat → Nat → Int} {Q : oeQ} {v0 : Nat} {v1 : Int} {v2 : Int} {v3 : Int}
    (vc : (v1 ≤ v3 → Q (some (.inl v2)) (sh, g, h)) ∧ (v3 < v1 → (v2 = 0 → Q (some (.inl v2)) (sh, g, h)) ∧ (v2 ≠ 0 → (v2 = 1 → Q (some (.inl v2)) (sh, g, h)) ∧ (v2 ≠ 1 → sh[v0]? = some (12, 45) ∧ oe_M (d + 1) 71 [.inr (.inl v0)] (sh, g, h) (fun r hp => ∃ (x19 : Int) (h18 : Nat → Nat → Int), r = some (.inl x19) ∧ hp = (sh, g, h18) ∧ oe_rg (v3 + 1) ∧ oe_V (oe_cost 76) 76 (oe_M (d + 1)) none Q 33 [some (.inr (.inl v0)), some (.inl v1), some (.inl x19), some (.inl (v3 + 1))] [] (sh, g, h18) 0 0))))) :
    oe_V (oe_cost 76) 76 (oe_M (d + 1)) none Q 33 [some (.inr (.inl v0)), some (.inl v1), some (.inl v2), some (.inl v3)] [] (sh, g, h) 0 0 := by
  refine s_iload_n (oe_t76 20 (q := (33, .iload_n 3, 1)) rfl) rfl ?_
  refine s_iload_n (oe_t76 21 (q := (34, .iload_n 1, 1)) rfl) rfl ?_
  refine s_ic_ge (oe_t76 22 (q := (35, .if_icmp .ge 58, 3)) rfl) (fun c15 => ?_) (fun c15 => ?_)
  · replace vc := vc.1 c15
    refine s_iload_n (oe_t76 33 (q := (58, .iload_n 2, 1)) rfl) rfl ?_
    exact s_iret (oe_t76 34 (q := (59, .ireturn, 1)) rfl) (Or.inl rfl) vc
  · replace vc := vc.2 c15
    refine s_iload_n (oe_t76 23 (q := (38, .iload_n 2, 1)) rfl) rfl ?_
    refine s_if_eq (oe_t76 24 (q := (39, .ifCond .eq 58, 3)) rfl) (fun c16 => ?_) (fun c16 => ?_)
    · replace vc := vc.1 c16
      refine s_iload_n (oe_t76 33 (q := (58, .iload_n 2, 1)) rfl) rfl ?_
      exact s_iret (oe_t76 34 (q := (59, .ireturn, 1)) rfl) (Or.inl rfl) vc
    · replace vc := vc.2 c16
      refine s_iload_n (oe_t76 25 (q := (42, .iload_n 2, 1)) rfl) rfl ?_
      refine s_iconst (oe_t76 26 (q := (43, .iconst 1, 1)) rfl) ?_
      refine s_ic_eq (oe_t76 27 (q := (44, .if_icmp .eq 58, 3)) rfl) (fun c17 => ?_) (fun c17 => ?_)
      · replace vc := vc.1 c17
        refine s_iload_n (oe_t76 33 (q := (58, .iload_n 2, 1)) rfl) rfl ?_
        exact s_iret (oe_t76 34 (q := (59, .ireturn, 1)) rfl) (Or.inl rfl) vc
      · replace vc := vc.2 c17
        refine s_aload_n (oe_t76 28 (q := (47, .aload_n 0, 1)) rfl) rfl ?_
        obtain ⟨s20, vc⟩ := vc
        refine s_callv (oe_t76 29 (q := (48, .invokevirtual 71070, 3)) rfl) rfl s20 rfl (Nat.le_of_ble_eq_true rfl) (Nat.le_of_ble_eq_true rfl) (Nat.le_of_ble_eq_true rfl) (Nat.le_of_ble_eq_true rfl) ?_
        refine oe_M_mono _ _ _ _ _ _ (fun r hp vq => ?_) vc
        obtain ⟨x19, h18, rfl, rfl, vc⟩ := vq
        show oe_V (oe_cost 76) 76 (oe_M (d + 1)) none Q 51 [some (.inr (.inl v0)), some (.inl v1), some (.inl v2), some (.inl v3)] [.inl x19] (sh, g, h18) 0 0
        refine s_istore_n (oe_t76 30 (q := (51, .istore_n 2, 1)) rfl) ?_
        obtain ⟨r21, vc⟩ := vc
        refine s_iinc (oe_t76 31 (q := (52, .iinc 3 1, 3)) rfl) rfl r21 ?_
        refine s_goto (oe_t76 32 (q := (55, .goto 33, 3)) rfl) ?_
        exact oe_V.fg (oe_M_mono _) (show oe_fg [some (.inr (.inl v0)), some (.inl v1), some (.inl x19), some (.inl (v3 + 1))] _ from ⟨rfl, ⟨rfl, ⟨rfl, ⟨rfl, trivial⟩⟩⟩⟩) vc
theorem oe_u77 : oe_c77.all (fun q => decide (oe_find oe_c77 q.1 = some q.2)) = true := by decide +kernel
theorem oe_t77 (k : Nat) {q : Nat × Jvm.ClassFile.Instr × Nat} (h : oe_c77[k]? = some q) : oe_find (oe_code 77) q.1 = some q.2 := oe_ft oe_u77 h
theorem g77 {d : Nat} {sh : List (Nat × Nat)} {g : Nat → Nat → Option Nat} {h : Nat → Nat → Int} {Q : oeQ} {v0 : Nat} {v1 : Int}
    (vc : (v1 < 0 → sh[v0]? = some (12, 45) ∧ ∀ h3, h3 = oe_up h v0 0 1 → ((h3 v0 0) ≤ 0 → (v1 ≠ 0 → (v1 ≠ 1 → Q (some (.inl (h3 v0 16))) (sh, g, h3)) ∧ (v1 = 1 → Q (some (.inl (h3 v0 8))) (sh, g, h3))) ∧ (v1 = 0 → Q (some (.inl (h3 v0 12))) (sh, g, h3))) ∧ (0 < (h3 v0 0) → Q (some (.inl 0)) (sh, g, h3))) ∧ (0 ≤ v1 → (v1 ≤ 2 → sh[v0]? = some (12, 45) ∧ ∀ h10, h10 = oe_up h v0 0 0 → ((h10 v0 0) ≤ 0 → (v1 ≠ 0 → (v1 ≠ 1 → Q (some (.inl (h10 v0 16))) (sh, g, h10)) ∧ (v1 = 1 → Q (some (.inl (h10 v0 8))) (sh, g, h10))) ∧ (v1 = 0 → Q (some (.inl (h10 v0 12))) (sh, g, h10))) ∧ (0 < (h10 v0 0) → Q (some (.inl 0)) (sh, g, h10))) ∧ (2 < v1 → sh[v0]? = some (12, 45) ∧ ∀ h16, h16 = oe_up h v0 0 1 → ((h16 v0 0) ≤ 0 → (v1 ≠ 0 → (v1 ≠ 1 → Q (some (.inl (h16 v0 16))) (sh, g, h16)) ∧ (v1 = 1 → Q (some (.inl (h16 v0 8))) (sh, g, h16))) ∧ (v1 = 0 → Q (some (.inl (h16 v0 12))) (sh, g, h16))) ∧ (0 < (h16 v0 0) → Q (some (.inl 0)) (sh, g, h16))))) :
    oe_M (d + 2) 77 [.inr (.inl v0), .inl v1] (sh, g, h) Q := by
  refine oe_M.of (by simp [oe_c1]) (Nat.le_of_ble_eq_true rfl) ?_
  show oe_V (oe_cost 77) 77 (oe_M (d + 1)) none Q 0 [some (.inr (.inl v0)), some (.inl v1)] [] (sh, g, h) 0 0
  refine s_aload_n (oe_t77 0 (q := (0, .aload_n 0, 1)) rfl) rfl ?_
  refine s_iload_n (oe_t77 1 (q := (1, .iload_n 1, 1)) rfl) rfl ?_
  refine s_if_lt (oe_t77 2 (q := (2, .ifCond .lt 10, 3)) rfl) (fun c1 => ?_) (fun c1 => ?_)
  · replace vc := vc.1 c1
    refine s_iconst (oe_t77 6 (q := (10, .iconst 1, 1)) rfl) ?_
    refine s_goto (oe_t77 7 (q := (11, .goto 15, 3)) rfl) ?_
    obtain ⟨s2, vc⟩ := vc
    refine t_puti (oe_t77 9 (q := (15, .putfield 7000, 3)) rfl) s2 rfl (Or.inl rfl) (fun h3 e4 => ?_)
    replace vc := vc h3 e4
    refine s_aload_n (oe_t77 10 (q := (18, .aload_n 0, 1)) rfl) rfl ?_
    refine s_geti (oe_t77 11 (q := (19, .getfield 7000, 3)) rfl) s2 rfl (by decide) ?_
    refine s_if_le (oe_t77 12 (q := (22, .ifCond .le 29, 3)) rfl) (fun c5 => ?_) (fun c5 => ?_)
    · replace vc := vc.1 c5
      refine s_iload_n (oe_t77 15 (q := (29, .iload_n 1, 1)) rfl) rfl ?_
      refine s_if_ne (oe_t77 16 (q := (30, .ifCond .ne 40, 3)) rfl) (fun c6 => ?_) (fun c6 => ?_)
      · replace vc := vc.1 c6
        refine s_iload_n (oe_t77 20 (q := (40, .iload_n 1, 1)) rfl) rfl ?_
        refine s_iconst (oe_t77 21 (q := (41, .iconst 1, 1)) rfl) ?_
        refine s_ic_ne (oe_t77 22 (q := (42, .if_icmp .ne 52, 3)) rfl) (fun c7 => ?_) (fun c7 => ?_)
        · replace vc := vc.1 c7
          refine s_aload_n (oe_t77 26 (q := (52, .aload_n 0, 1)) rfl) rfl ?_
          refine s_geti (oe_t77 27 (q := (53, .getfield 7160, 3)) rfl) s2 rfl (by decide) ?_
          exact s_iret (oe_t77 28 (q := (56, .ireturn, 1)) rfl) (Or.inl rfl) vc
        · replace vc := vc.2 c7
          refine s_aload_n (oe_t77 23 (q := (45, .aload_n 0, 1)) rfl) rfl ?_
          refine s_geti (oe_t77 24 (q := (46, .getfield 7080, 3)) rfl) s2 rfl (by decide) ?_
          refine s_goto (oe_t77 25 (q := (49, .goto 56, 3)) rfl) ?_
          exact s_iret (oe_t77 28 (q := (56, .ireturn, 1)) rfl) (Or.inl rfl) vc
      · replace vc := vc.2 c6
        refine s_aload_n (oe_t77 17 (q := (33, .aload_n 0, 1)) rfl) rfl ?_
        refine s_geti (oe_t77 18 (q := (34, .getfield 7120, 3)) rfl) s2 rfl (by decide) ?_
        refine s_goto (oe_t77 19 (q := (37, .goto 56, 3)) rfl) ?_
        exact s_iret (oe_t77 28 (q := (56, .ireturn, 1)) rfl) (Or.inl rfl) vc
    · replace vc := vc.2 c5
      refine s_iconst (oe_t77 13 (q := (25, .iconst 0, 1)) rfl) ?_
      refine s_goto (oe_t77 14 (q := (26, .goto 56, 3)) rfl) ?_
      exact s_iret (oe_t77 28 (q := (56, .ireturn, 1)) rfl) (Or.inl rfl) vc
  · replace vc := vc.2 c1
    refine s_iload_n (oe_t77 3 (q := (5, .iload_n 1, 1)) rfl) rfl ?_
    refine s_iconst (oe_t77 4 (q := (6, .iconst 2, 1)) rfl) ?_
    refine s_ic_le (oe_t77 5 (q := (7, .if_icmp .le 14, 3)) rfl) (fun c8 => ?_) (fun c8 => ?_)
    · replace vc := vc.1 c8
      refine s_iconst (oe_t77 8 (q := (14, .iconst 0, 1)) rfl) ?_
      obtain ⟨s9, vc⟩ := vc
      refine t_puti (oe_t77 9 (q := (15, .putfield 7000, 3)) rfl) s9 rfl (Or.inl rfl) (fun h10 e11 => ?_)
      replace vc := vc h10 e11
      refine s_aload_n (oe_t77 10 (q := (18, .aload_n 0, 1)) rfl) rfl ?_
      refine s_geti (oe_t77 11 (q := (19, .getfield 7000, 3)) rfl) s9 rfl (by decide) ?_
      refine s_if_le (oe_t77 12 (q := (22, .ifCond .le 29, 3)) rfl) (fun c12 => ?_) (fun c12 => ?_)
      · replace vc := vc.1 c12
        refine s_iload_n (oe_t77 15 (q := (29, .iload_n 1, 1)) rfl) rfl ?_
        refine s_if_ne (oe_t77 16 (q := (30, .ifCond .ne 40, 3)) rfl) (fun c13 => ?_) (fun c13 => ?_)
        · replace vc := vc.1 c13
          refine s_iload_n (oe_t77 20 (q := (40, .iload_n 1, 1)) rfl) rfl ?_
          refine s_iconst (oe_t77 21 (q := (41, .iconst 1, 1)) rfl) ?_
          refine s_ic_ne (oe_t77 22 (q := (42, .if_icmp .ne 52, 3)) rfl) (fun c14 => ?_) (fun c14 => ?_)
          · replace vc := vc.1 c14
            refine s_aload_n (oe_t77 26 (q := (52, .aload_n 0, 1)) rfl) rfl ?_
            refine s_geti (oe_t77 27 (q := (53, .getfield 7160, 3)) rfl) s9 rfl (by decide) ?_
            exact s_iret (oe_t77 28 (q := (56, .ireturn, 1)) rfl) (Or.inl rfl) vc
          · replace vc := vc.2 c14
            refine s_aload_n (oe_t77 23 (q := (45, .aload_n 0, 1)) rfl) rfl ?_
            refine s_geti (oe_t77 24 (q := (46, .getfield 7080, 3)) rfl) s9 rfl (by decide) ?_
            refine s_goto (oe_t77 25 (q := (49, .goto 56, 3)) rfl) ?_
            exact s_iret (oe_t77 28 (q := (56, .ireturn, 1)) rfl) (Or.inl rfl) vc
        · replace vc := vc.2 c13
          refine s_aload_n (oe_t77 17 (q := (33, .aload_n 0, 1)) rfl) rfl ?_
          refine s_geti (oe_t77 18 (q := (34, .getfield 7120, 3)) rfl) s9 rfl (by decide) ?_
          refine s_goto (oe_t77 19 (q := (37, .goto 56, 3)) rfl) ?_
          exact s_iret (oe_t77 28 (q := (56, .ireturn, 1)) rfl) (Or.inl rfl) vc
      · replace vc := vc.2 c12
        refine s_iconst (oe_t77 13 (q := (25, .iconst 0, 1)) rfl) ?_
        refine s_goto (oe_t77 14 (q := (26, .goto 56, 3)) rfl) ?_
        exact s_iret (oe_t77 28 (q := (56, .ireturn, 1)) rfl) (Or.inl rfl) vc
    · replace vc := vc.2 c8
      refine s_iconst (oe_t77 6 (q := (10, .iconst 1, 1)) rfl) ?_
      refine s_goto (oe_t77 7 (q := (11, .goto 15, 3)) rfl) ?_
      obtain ⟨s15, vc⟩ := vc
      refine t_puti (oe_t77 9 (q := (15, .putfield 7000, 3)) rfl) s15 rfl (Or.inl rfl) (fun h16 e17 => ?_)
      replace vc := vc h16 e17
      refine s_aload_n (oe_t77 10 (q := (18, .aload_n 0, 1)) rfl) rfl ?_
      refine s_geti (oe_t77 11 (q := (19, .getfield 7000, 3)) rfl) s15 rfl (by decide) ?_
      refine s_if_le (oe_t77 12 (q := (22, .ifCond .le 29, 3)) rfl) (fun c18 => ?_) (fun c18 => ?_)
      · replace vc := vc.1 c18
        refine s_iload_n (oe_t77 15 (q := (29, .iload_n 1, 1)) rfl) rfl ?_
        refine s_if_ne (oe_t77 16 (q := (30, .ifCond .ne 40, 3)) rfl) (fun c19 => ?_) (fun c19 => ?_)
        · replace vc := vc.1 c19
          refine s_iload_n (oe_t77 20 (q := (40, .iload_n 1, 1)) rfl) rfl ?_
          refine s_iconst (oe_t77 21 (q := (41, .iconst 1, 1)) rfl) ?_
          refine s_ic_ne (oe_t77 22 (q := (42, .if_icmp .ne 52, 3)) rfl) (fun c20 => ?_) (fun c20 => ?_)
          · replace vc := vc.1 c20
            refine s_aload_n (oe_t77 26 (q := (52, .aload_n 0, 1)) rfl) rfl ?_
            refine s_geti (oe_t77 27 (q := (53, .getfield 7160, 3)) rfl) s15 rfl (by decide) ?_
            exact s_iret (oe_t77 28 (q := (56, .ireturn, 1)) rfl) (Or.inl rfl) vc
          · replace vc := vc.2 c20
            refine s_aload_n (oe_t77 23 (q := (45, .aload_n 0, 1)) rfl) rfl ?_
            refine s_geti (oe_t77 24 (q := (46, .getfield 7080, 3)) rfl) s15 rfl (by decide) ?_
            refine s_goto (oe_t77 25 (q := (49, .goto 56, 3)) rfl) ?_
            exact s_iret (oe_t77 28 (q := (56, .ireturn, 1)) rfl) (Or.inl rfl) vc
        · replace vc := vc.2 c19
          refine s_aload_n (oe_t77 17 (q := (33, .aload_n 0, 1)) rfl) rfl ?_
          refine s_geti (oe_t77 18 (q := (34, .getfield 7120, 3)) rfl) s15 rfl (by decide) ?_
          refine s_goto (oe_t77 19 (q := (37, .goto 56, 3)) rfl) ?_
          exact s_iret (oe_t77 28 (q := (56, .ireturn, 1)) rfl) (Or.inl rfl) vc
      · replace vc := vc.2 c18
        refine s_iconst (oe_t77 13 (q := (25, .iconst 0, 1)) rfl) ?_
        refine s_goto (oe_t77 14 (q := (26, .goto 56, 3)) rfl) ?_
        exact s_iret (oe_t77 28 (q := (56, .ireturn, 1)) rfl) (Or.inl rfl) vc
theorem oe_u78 : oe_c78.all (fun q => decide (oe_find oe_c78 q.1 = some q.2)) = true := by decide +kernel
theorem oe_t78 (k : Nat) {q : Nat × Jvm.ClassFile.Instr × Nat} (h : oe_c78[k]? = some q) : oe_find (oe_code 78) q.1 = some q.2 := oe_ft oe_u78 h
theorem g78 {d : Nat} {sh : List (Nat × Nat)} {g : Nat → Nat → Option Nat} {h : Nat → Nat → Int} {Q : oeQ} {v0 : Nat} {v1 : Int}
    (vc : sh[v0]? = some (12, 45) ∧ ∃ q2, g v0 4 = some q2 ∧ ∃ n5, sh[q2]? = some (0, n5) ∧ 0 ≤ (h v0 3) ∧ (h v0 3) < (n5 : Nat) ∧ ∀ h8, h8 = oe_up h q2 ((h v0 3) : Int).toNat v1 → oe_rg ((h8 v0 3) + 1) ∧ ∀ h11, h11 = oe_up h8 v0 3 ((h8 v0 3) + 1) → Q none (sh, g, h11)) :
    oe_M (d + 2) 78 [.inr (.inl v0), .inl v1] (sh, g, h) Q := by
  refine oe_M.of (by simp [oe_c1]) (Nat.le_of_ble_eq_true rfl) ?_
  show oe_V (oe_cost 78) 78 (oe_M (d + 1)) none Q 0 [some (.inr (.inl v0)), some (.inl v1)] [] (sh, g, h) 0 0
  refine s_aload_n (oe_t78 0 (q := (0, .aload_n 0, 1)) rfl) rfl ?_
  obtain ⟨s1, vc⟩ := vc
  obtain ⟨q2, p3, vc⟩ := vc
  refine s_getr (oe_t78 1 (q := (1, .getfield 7041, 3)) rfl) s1 rfl rfl p3 ?_
  refine s_aload_n (oe_t78 2 (q := (4, .aload_n 0, 1)) rfl) rfl ?_
  refine s_geti (oe_t78 3 (q := (5, .getfield 7030, 3)) rfl) s1 rfl (by decide) ?_
  refine s_iload_n (oe_t78 4 (q := (8, .iload_n 1, 1)) rfl) rfl ?_
  obtain ⟨n5, s4, vc⟩ := vc
  obtain ⟨i6, i7, vc⟩ := vc
  refine t_iastore (oe_t78 5 (q := (9, .iastore, 1)) rfl) s4 i6 i7 (fun h8 e9 => ?_)
  replace vc := vc h8 e9
  refine s_aload_n (oe_t78 6 (q := (10, .aload_n 0, 1)) rfl) rfl ?_
  refine s_dup (oe_t78 7 (q := (11, .dup, 1)) rfl) trivial ?_
  refine s_geti (oe_t78 8 (q := (12, .getfield 7030, 3)) rfl) s1 rfl (by decide) ?_
  refine s_iconst (oe_t78 9 (q := (15, .iconst 1, 1)) rfl) ?_
  obtain ⟨r10, vc⟩ := vc
  refine s_iadd (oe_t78 10 (q := (16, .iadd, 1)) rfl) r10 ?_
  refine t_puti (oe_t78 11 (q := (17, .putfield 7030, 3)) rfl) s1 rfl (Or.inl rfl) (fun h11 e12 => ?_)
  replace vc := vc h11 e12
  exact s_ret (oe_t78 12 (q := (20, .return_, 1)) rfl) rfl vc
theorem oe_u79 : oe_c79.all (fun q => decide (oe_find oe_c79 q.1 = some q.2)) = true := by decide +kernel
theorem oe_t79 (k : Nat) {q : Nat × Jvm.ClassFile.Instr × Nat} (h : oe_c79[k]? = some q) : oe_find (oe_code 79) q.1 = some q.2 := oe_ft oe_u79 h
theorem g79 {d : Nat} {sh : List (Nat × Nat)} {g : Nat → Nat → Option Nat} {h : Nat → Nat → Int} {Q : oeQ} {v0 : Nat} {v1 : Int} {v2 : Int}
    (vc : (v1 ≠ 0 → (v1 ≠ 1 → sh[v0]? = some (12, 45) ∧ (v1 < 0 → oe_V (oe_cost 79) 79 (oe_M (d + 1)) none Q 77 [some (.inr (.inl v0)), some (.inl v1), some (.inl v2), none, none, none, none] [.inl 1, .inr (.inl v0)] (sh, g, h) 0 0) ∧ (0 ≤ v1 → (v1 ≤ 2 → ((h v0 17) = 0 → oe_V (oe_cost 79) 79 (oe_M (d + 1)) none Q 77 [some (.inr (.inl v0)), some (.inl v1), some (.inl v2), none, none, none, none] [.inl 2, .inr (.inl v0)] (sh, g, h) 0 0) ∧ ((h v0 17) ≠ 0 → oe_V (oe_cost 79) 79 (oe_M (d + 1)) none Q 77 [some (.inr (.inl v0)), some (.inl v1), some (.inl v2), none, none, none, none] [.inl 0, .inr (.inl v0)] (sh, g, h) 0 0)) ∧ (2 < v1 → oe_V (oe_cost 79) 79 (oe_M (d + 1)) none Q 77 [some (.inr (.inl v0)), some (.inl v1), some (.inl v2), none, none, none, none] [.inl 1, .inr (.inl v0)] (sh, g, h) 0 0))) ∧ (v1 = 1 → (v2 < 0 → (v1 < 0 → oe_V (oe_cost 79) 79 (oe_M (d + 1)) none Q 77 [some (.inr (.inl v0)), some (.inl v1), some (.inl v2), none, none, none, none] [.inl 1, .inr (.inl v0)] (sh, g, h) 0 0) ∧ (0 ≤ v1 → (v1 ≤ 2 → oe_V (oe_cost 79) 79 (oe_M (d + 1)) none Q 77 [some (.inr (.inl v0)), some (.inl v1), some (.inl v2), none, none, none, none] [.inl 2, .inr (.inl v0)] (sh, g, h) 0 0) ∧ (2 < v1 → oe_V (oe_cost 79) 79 (oe_M (d + 1)) none Q 77 [some (.inr (.inl v0)), some (.inl v1), some (.inl v2), none, none, none, none] [.inl 1, .inr (.inl v0)] (sh, g, h) 0 0))) ∧ (0 ≤ v2 → sh[v0]? = some (12, 45) ∧ ((h v0 8) ≤ v2 → (v1 < 0 → oe_V (oe_cost 79) 79 (oe_M (d + 1)) none Q 77 [some (.inr (.inl v0)), some (.inl v1), some (.inl v2), none, none, none, none] [.inl 1, .inr (.inl v0)] (sh, g, h) 0 0) ∧ (0 ≤ v1 → (v1 ≤ 2 → oe_V (oe_cost 79) 79 (oe_M (d + 1)) none Q 77 [some (.inr (.inl v0)), some (.inl v1), some (.inl v2), none, none, none, none] [.inl 2, .inr (.inl v0)] (sh, g, h) 0 0) ∧ (2 < v1 → oe_V (oe_cost 79) 79 (oe_M (d + 1)) none Q 77 [some (.inr (.inl v0)), some (.inl v1), some (.inl v2), none, none, none, none] [.inl 1, .inr (.inl v0)] (sh, g, h) 0 0))) ∧ (v2 < (h v0 8) → (v1 < 0 → oe_V (oe_cost 79) 79 (oe_M (d + 1)) none Q 77 [some (.inr (.inl v0)), some (.inl v1), some (.inl v2), none, none, none, none] [.inl 1, .inr (.inl v0)] (sh, g, h) 0 0) ∧ (0 ≤ v1 → (v1 ≤ 2 → oe_V (oe_cost 79) 79 (oe_M (d + 1)) none Q 77 [some (.inr (.inl v0)), some (.inl v1), some (.inl v2), none, none, none, none] [.inl 0, .inr (.inl v0)] (sh, g, h) 0 0) ∧ (2 < v1 → oe_V (oe_cost 79) 79 (oe_M (d + 1)) none Q 77 [some (.inr (.inl v0)), some (.inl v1), some (.inl v2), none, none, none, none] [.inl 1, .inr (.inl v0)] (sh, g, h) 0 0)))))) ∧ (v1 = 0 → (v2 < 0 → (v1 < 0 → oe_V (oe_cost 79) 79 (oe_M (d + 1)) none Q 77 [some (.inr (.inl v0)), some (.inl v1), some (.inl v2), none, none, none, none] [.inl 1, .inr (.inl v0)] (sh, g, h) 0 0) ∧ (0 ≤ v1 → (v1 ≤ 2 → oe_V (oe_cost 79) 79 (oe_M (d + 1)) none Q 77 [some (.inr (.inl v0)), some (.inl v1), some (.inl v2), none, none, none, none] [.inl 2, .inr (.inl v0)] (sh, g, h) 0 0) ∧ (2 < v1 → oe_V (oe_cost 79) 79 (oe_M (d + 1)) none Q 77 [some (.inr (.inl v0)), some (.inl v1), some (.inl v2), none, none, none, none] [.inl 1, .inr (.inl v0)] (sh, g, h) 0 0))) ∧ (0 ≤ v2 → sh[v0]? = some (12, 45) ∧ ((h v0 12) ≤ v2 → (v1 < 0 → oe_V (oe_cost 79) 79 (oe_M (d + 1)) none Q 77 [some (.inr (.inl v0)), some (.inl v1), some (.inl v2), none, none, none, none] [.inl 1, .inr (.inl v0)] (sh, g, h) 0 0) ∧ (0 ≤ v1 → (v1 ≤ 2 → oe_V (oe_cost 79) 79 (oe_M (d + 1)) none Q 77 [some (.inr (.inl v0)), some (.inl v1), some (.inl v2), none, none, none, none] [.inl 2, .inr (.inl v0)] (sh, g, h) 0 0) ∧ (2 < v1 → oe_V (oe_cost 79) 79 (oe_M (d + 1)) none Q 77 [some (.inr (.inl v0)), some (.inl v1), some (.inl v2), none, none, none, none] [.inl 1, .inr (.inl v0)] (sh, g, h) 0 0))) ∧ (v2 < (h v0 12) → (v1 < 0 → oe_V (oe_cost 79) 79 (oe_M (d + 1)) none Q 77 [some (.inr (.inl v0)), some (.inl v1), some (.inl v2), none, none, none, none] [.inl 1, .inr (.inl v0)] (sh, g, h) 0 0) ∧ (0 ≤ v1 → (v1 ≤ 2 → oe_V (oe_cost 79) 79 (oe_M (d + 1)) none Q 77 [some (.inr (.inl v0)), some (.inl v1), some (.inl v2), none, none, none, none] [.inl 0, .inr (.inl v0)] (sh, g, h) 0 0) ∧ (2 < v1 → oe_V (oe_cost 79) 79 (oe_M (d + 1)) none Q 77 [some (.inr (.inl v0)), some (.inl v1), some (.inl v2), none, none, none, none] [.inl 1, .inr (.inl v0)] (sh, g, h) 0 0)))))) :
    oe_M (d + 2) 79 [.inr (.inl v0), .inl v1, .inl v2] (sh, g, h) Q := by
  refine oe_M.of (by simp [oe_c1]) (Nat.le_of_ble_eq_true rfl) ?_
  show oe_V (oe_cost 79) 79 (oe_M (d + 1)) none Q 0 [some (.inr (.inl v0)), some (.inl v1), some (.inl v2), none, none, none, none] [] (sh, g, h) 0 0
  refine s_iload_n (oe_t79 0 (q := (0, .iload_n 1, 1)) rfl) rfl ?_
  refine s_if_ne (oe_t79 1 (q := (1, .ifCond .ne 24, 3)) rfl) (fun c1 => ?_) (fun c1 => ?_)
  · replace vc := vc.1 c1
    refine s_iload_n (oe_t79 12 (q := (24, .iload_n 1, 1)) rfl) rfl ?_
    refine s_iconst (oe_t79 13 (q := (25, .iconst 1, 1)) rfl) ?_
    refine s_ic_ne (oe_t79 14 (q := (26, .if_icmp .ne 49, 3)) rfl) (fun c2 => ?_) (fun c2 => ?_)
    · replace vc := vc.1 c2
      refine s_aload_n (oe_t79 25 (q := (49, .aload_n 0, 1)) rfl) rfl ?_
      obtain ⟨s3, vc⟩ := vc
      refine s_geti (oe_t79 26 (q := (50, .getfield 7172, 3)) rfl) s3 rfl (by decide) ?_
      refine s_istore_n (oe_t79 27 (q := (53, .istore_n 3, 1)) rfl) ?_
      refine s_aload_n (oe_t79 28 (q := (54, .aload_n 0, 1)) rfl) rfl ?_
      refine s_iload_n (oe_t79 29 (q := (55, .iload_n 1, 1)) rfl) rfl ?_
      refine s_if_lt (oe_t79 30 (q := (56, .ifCond .lt 64, 3)) rfl) (fun c4 => ?_) (fun c4 => ?_)
      · replace vc := vc.1 c4
        refine s_iconst (oe_t79 34 (q := (64, .iconst 1, 1)) rfl) ?_
        refine s_goto (oe_t79 35 (q := (65, .goto 77, 3)) rfl) ?_
        exact oe_V.fg (oe_M_mono _) (show oe_fg [some (.inr (.inl v0)), some (.inl v1), some (.inl v2), none, none, none, none] _ from ⟨rfl, ⟨rfl, ⟨rfl, trivial⟩⟩⟩) vc
      · replace vc := vc.2 c4
        refine s_iload_n (oe_t79 31 (q := (59, .iload_n 1, 1)) rfl) rfl ?_
        refine s_iconst (oe_t79 32 (q := (60, .iconst 2, 1)) rfl) ?_
        refine s_ic_le (oe_t79 33 (q := (61, .if_icmp .le 68, 3)) rfl) (fun c5 => ?_) (fun c5 => ?_)
        · replace vc := vc.1 c5
          refine s_iload_n (oe_t79 36 (q := (68, .iload_n 3, 1)) rfl) rfl ?_
          refine s_if_eq (oe_t79 37 (q := (69, .ifCond .eq 76, 3)) rfl) (fun c6 => ?_) (fun c6 => ?_)
          · replace vc := vc.1 c6
            refine s_iconst (oe_t79 40 (q := (76, .iconst 2, 1)) rfl) ?_
            exact oe_V.fg (oe_M_mono _) (show oe_fg [some (.inr (.inl v0)), some (.inl v1), some (.inl v2), none, none, none, none] _ from ⟨rfl, ⟨rfl, ⟨rfl, trivial⟩⟩⟩) vc
          · replace vc := vc.2 c6
            refine s_iconst (oe_t79 38 (q := (72, .iconst 0, 1)) rfl) ?_
            refine s_goto (oe_t79 39 (q := (73, .goto 77, 3)) rfl) ?_
            exact oe_V.fg (oe_M_mono _) (show oe_fg [some (.inr (.inl v0)), some (.inl v1), some (.inl v2), none, none, none, none] _ from ⟨rfl, ⟨rfl, ⟨rfl, trivial⟩⟩⟩) vc
        · replace vc := vc.2 c5
          refine s_iconst (oe_t79 34 (q := (64, .iconst 1, 1)) rfl) ?_
          refine s_goto (oe_t79 35 (q := (65, .goto 77, 3)) rfl) ?_
          exact oe_V.fg (oe_M_mono _) (show oe_fg [some (.inr (.inl v0)), some (.inl v1), some (.inl v2), none, none, none, none] _ from ⟨rfl, ⟨rfl, ⟨rfl, trivial⟩⟩⟩) vc
    · replace vc := vc.2 c2
      refine s_iload_n (oe_t79 15 (q := (29, .iload_n 2, 1)) rfl) rfl ?_
      refine s_if_lt (oe_t79 16 (q := (30, .ifCond .lt 45, 3)) rfl) (fun c7 => ?_) (fun c7 => ?_)
      · replace vc := vc.1 c7
        refine s_iconst (oe_t79 23 (q := (45, .iconst 0, 1)) rfl) ?_
        refine s_goto (oe_t79 24 (q := (46, .goto 53, 3)) rfl) ?_
        refine s_istore_n (oe_t79 27 (q := (53, .istore_n 3, 1)) rfl) ?_
        refine s_aload_n (oe_t79 28 (q := (54, .aload_n 0, 1)) rfl) rfl ?_
        refine s_iload_n (oe_t79 29 (q := (55, .iload_n 1, 1)) rfl) rfl ?_
        refine s_if_lt (oe_t79 30 (q := (56, .ifCond .lt 64, 3)) rfl) (fun c8 => ?_) (fun c8 => ?_)
        · replace vc := vc.1 c8
          refine s_iconst (oe_t79 34 (q := (64, .iconst 1, 1)) rfl) ?_
          refine s_goto (oe_t79 35 (q := (65, .goto 77, 3)) rfl) ?_
          exact oe_V.fg (oe_M_mono _) (show oe_fg [some (.inr (.inl v0)), some (.inl v1), some (.inl v2), none, none, none, none] _ from ⟨rfl, ⟨rfl, ⟨rfl, trivial⟩⟩⟩) vc
        · replace vc := vc.2 c8
          refine s_iload_n (oe_t79 31 (q := (59, .iload_n 1, 1)) rfl) rfl ?_
          refine s_iconst (oe_t79 32 (q := (60, .iconst 2, 1)) rfl) ?_
          refine s_ic_le (oe_t79 33 (q := (61, .if_icmp .le 68, 3)) rfl) (fun c9 => ?_) (fun c9 => ?_)
          · replace vc := vc.1 c9
            refine s_iload_n (oe_t79 36 (q := (68, .iload_n 3, 1)) rfl) rfl ?_
            refine s_if_eq (oe_t79 37 (q := (69, .ifCond .eq 76, 3)) rfl) (fun _ => ?_) (fun q => absurd q (by decide))
            refine s_iconst (oe_t79 40 (q := (76, .iconst 2, 1)) rfl) ?_
            exact oe_V.fg (oe_M_mono _) (show oe_fg [some (.inr (.inl v0)), some (.inl v1), some (.inl v2), none, none, none, none] _ from ⟨rfl, ⟨rfl, ⟨rfl, trivial⟩⟩⟩) vc
          · replace vc := vc.2 c9
            refine s_iconst (oe_t79 34 (q := (64, .iconst 1, 1)) rfl) ?_
            refine s_goto (oe_t79 35 (q := (65, .goto 77, 3)) rfl) ?_
            exact oe_V.fg (oe_M_mono _) (show oe_fg [some (.inr (.inl v0)), some (.inl v1), some (.inl v2), none, none, none, none] _ from ⟨rfl, ⟨rfl, ⟨rfl, trivial⟩⟩⟩) vc
      · replace vc := vc.2 c7
        refine s_iload_n (oe_t79 17 (q := (33, .iload_n 2, 1)) rfl) rfl ?_
        refine s_aload_n (oe_t79 18 (q := (34, .aload_n 0, 1)) rfl) rfl ?_
        obtain ⟨s10, vc⟩ := vc
        refine s_geti (oe_t79 19 (q := (35, .getfield 7080, 3)) rfl) s10 rfl (by decide) ?_
        refine s_ic_ge (oe_t79 20 (q := (38, .if_icmp .ge 45, 3)) rfl) (fun c11 => ?_) (fun c11 => ?_)
        · replace vc := vc.1 c11
          refine s_iconst (oe_t79 23 (q := (45, .iconst 0, 1)) rfl) ?_
          refine s_goto (oe_t79 24 (q := (46, .goto 53, 3)) rfl) ?_
          refine s_istore_n (oe_t79 27 (q := (53, .istore_n 3, 1)) rfl) ?_
          refine s_aload_n (oe_t79 28 (q := (54, .aload_n 0, 1)) rfl) rfl ?_
          refine s_iload_n (oe_t79 29 (q := (55, .iload_n 1, 1)) rfl) rfl ?_
          refine s_if_lt (oe_t79 30 (q := (56, .ifCond .lt 64, 3)) rfl) (fun c12 => ?_) (fun c12 => ?_)
          · replace vc := vc.1 c12
            refine s_iconst (oe_t79 34 (q := (64, .iconst 1, 1)) rfl) ?_
            refine s_goto (oe_t79 35 (q := (65, .goto 77, 3)) rfl) ?_
            exact oe_V.fg (oe_M_mono _) (show oe_fg [some (.inr (.inl v0)), some (.inl v1), some (.inl v2), none, none, none, none] _ from ⟨rfl, ⟨rfl, ⟨rfl, trivial⟩⟩⟩) vc
          · replace vc := vc.2 c12
            refine s_iload_n (oe_t79 31 (q := (59, .iload_n 1, 1)) rfl) rfl ?_
            refine s_iconst (oe_t79 32 (q := (60, .iconst 2, 1)) rfl) ?_
            refine s_ic_le (oe_t79 33 (q := (61, .if_icmp .le 68, 3)) rfl) (fun c13 => ?_) (fun c13 => ?_)
            · replace vc := vc.1 c13
              refine s_iload_n (oe_t79 36 (q := (68, .iload_n 3, 1)) rfl) rfl ?_
              refine s_if_eq (oe_t79 37 (q := (69, .ifCond .eq 76, 3)) rfl) (fun _ => ?_) (fun q => absurd q (by decide))
              refine s_iconst (oe_t79 40 (q := (76, .iconst 2, 1)) rfl) ?_
              exact oe_V.fg (oe_M_mono _) (show oe_fg [some (.inr (.inl v0)), some (.inl v1), some (.inl v2), none, none, none, none] _ from ⟨rfl, ⟨rfl, ⟨rfl, trivial⟩⟩⟩) vc
            · replace vc := vc.2 c13
              refine s_iconst (oe_t79 34 (q := (64, .iconst 1, 1)) rfl) ?_
              refine s_goto (oe_t79 35 (q := (65, .goto 77, 3)) rfl) ?_
              exact oe_V.fg (oe_M_mono _) (show oe_fg [some (.inr (.inl v0)), some (.inl v1), some (.inl v2), none, none, none, none] _ from ⟨rfl, ⟨rfl, ⟨rfl, trivial⟩⟩⟩) vc
        · replace vc := vc.2 c11
          refine s_iconst (oe_t79 21 (q := (41, .iconst 1, 1)) rfl) ?_
          refine s_goto (oe_t79 22 (q := (42, .goto 53, 3)) rfl) ?_
          refine s_istore_n (oe_t79 27 (q := (53, .istore_n 3, 1)) rfl) ?_
          refine s_aload_n (oe_t79 28 (q := (54, .aload_n 0, 1)) rfl) rfl ?_
          refine s_iload_n (oe_t79 29 (q := (55, .iload_n 1, 1)) rfl) rfl ?_
          refine s_if_lt (oe_t79 30 (q := (56, .ifCond .lt 64, 3)) rfl) (fun c14 => ?_) (fun c14 => ?_)
          · replace vc := vc.1 c14
            refine s_iconst (oe_t79 34 (q := (64, .iconst 1, 1)) rfl) ?_
            refine s_goto (oe_t79 35 (q := (65, .goto 77, 3)) rfl) ?_
            exact oe_V.fg (oe_M_mono _) (show oe_fg [some (.inr (.inl v0)), some (.inl v1), some (.inl v2), none, none, none, none] _ from ⟨rfl, ⟨rfl, ⟨rfl, trivial⟩⟩⟩) vc
          · replace vc := vc.2 c14
            refine s_iload_n (oe_t79 31 (q := (59, .iload_n 1, 1)) rfl) rfl ?_
            refine s_iconst (oe_t79 32 (q := (60, .iconst 2, 1)) rfl) ?_
            refine s_ic_le (oe_t79 33 (q := (61, .if_icmp .le 68, 3)) rfl) (fun c15 => ?_) (fun c15 => ?_)
            · replace vc := vc.1 c15
              refine s_iload_n (oe_t79 36 (q := (68, .iload_n 3, 1)) rfl) rfl ?_
              refine s_if_eq (oe_t79 37 (q := (69, .ifCond .eq 76, 3)) rfl) (fun q => absurd q (by decide)) (fun _ => ?_)
              refine s_iconst (oe_t79 38 (q := (72, .iconst 0, 1)) rfl) ?_
              refine s_goto (oe_t79 39 (q := (73, .goto 77, 3)) rfl) ?_
              exact oe_V.fg (oe_M_mono _) (show oe_fg [some (.inr (.inl v0)), some (.inl v1), some (.inl v2), none, none, none, none] _ from ⟨rfl, ⟨rfl, ⟨rfl, trivial⟩⟩⟩) vc
            · replace vc := vc.2 c15
              refine s_iconst (oe_t79 34 (q := (64, .iconst 1, 1)) rfl) ?_
              refine s_goto (oe_t79 35 (q := (65, .goto 77, 3)) rfl) ?_
              exact oe_V.fg (oe_M_mono _) (show oe_fg [some (.inr (.inl v0)), some (.inl v1), some (.inl v2), none, none, none, none] _ from ⟨rfl, ⟨rfl, ⟨rfl, trivial⟩⟩⟩) vc
  · replace vc := vc.2 c1
    refine s_iload_n (oe_t79 2 (q := (4, .iload_n 2, 1)) rfl) rfl ?_
    refine s_if_lt (oe_t79 3 (q := (5, .ifCond .lt 20, 3)) rfl) (fun c16 => ?_) (fun c16 => ?_)
    · replace vc := vc.1 c16
      refine s_iconst (oe_t79 10 (q := (20, .iconst 0, 1)) rfl) ?_
      refine s_goto (oe_t79 11 (q := (21, .goto 53, 3)) rfl) ?_
      refine s_istore_n (oe_t79 27 (q := (53, .istore_n 3, 1)) rfl) ?_
      refine s_aload_n (oe_t79 28 (q := (54, .aload_n 0, 1)) rfl) rfl ?_
      refine s_iload_n (oe_t79 29 (q := (55, .iload_n 1, 1)) rfl) rfl ?_
      refine s_if_lt (oe_t79 30 (q := (56, .ifCond .lt 64, 3)) rfl) (fun c17 => ?_) (fun c17 => ?_)
      · replace vc := vc.1 c17
        refine s_iconst (oe_t79 34 (q := (64, .iconst 1, 1)) rfl) ?_
        refine s_goto (oe_t79 35 (q := (65, .goto 77, 3)) rfl) ?_
        exact oe_V.fg (oe_M_mono _) (show oe_fg [some (.inr (.inl v0)), some (.inl v1), some (.inl v2), none, none, none, none] _ from ⟨rfl, ⟨rfl, ⟨rfl, trivial⟩⟩⟩) vc
      · replace vc := vc.2 c17
        refine s_iload_n (oe_t79 31 (q := (59, .iload_n 1, 1)) rfl) rfl ?_
        refine s_iconst (oe_t79 32 (q := (60, .iconst 2, 1)) rfl) ?_
        refine s_ic_le (oe_t79 33 (q := (61, .if_icmp .le 68, 3)) rfl) (fun c18 => ?_) (fun c18 => ?_)
        · replace vc := vc.1 c18
          refine s_iload_n (oe_t79 36 (q := (68, .iload_n 3, 1)) rfl) rfl ?_
          refine s_if_eq (oe_t79 37 (q := (69, .ifCond .eq 76, 3)) rfl) (fun _ => ?_) (fun q => absurd q (by decide))
          refine s_iconst (oe_t79 40 (q := (76, .iconst 2, 1)) rfl) ?_
          exact oe_V.fg (oe_M_mono _) (show oe_fg [some (.inr (.inl v0)), some (.inl v1), some (.inl v2), none, none, none, none] _ from ⟨rfl, ⟨rfl, ⟨rfl, trivial⟩⟩⟩) vc
        · replace vc := vc.2 c18
          refine s_iconst (oe_t79 34 (q := (64, .iconst 1, 1)) rfl) ?_
          refine s_goto (oe_t79 35 (q := (65, .goto 77, 3)) rfl) ?_
          exact oe_V.fg (oe_M_mono _) (show oe_fg [some (.inr (.inl v0)), some (.inl v1), some (.inl v2), none, none, none, none] _ from ⟨rfl, ⟨rfl, ⟨rfl, trivial⟩⟩⟩) vc
    · replace vc := vc.2 c16
      refine s_iload_n (oe_t79 4 (q := (8, .iload_n 2, 1)) rfl) rfl ?_
      refine s_aload_n (oe_t79 5 (q := (9, .aload_n 0, 1)) rfl) rfl ?_
      obtain ⟨s19, vc⟩ := vc
      refine s_geti (oe_t79 6 (q := (10, .getfield 7120, 3)) rfl) s19 rfl (by decide) ?_
      refine s_ic_ge (oe_t79 7 (q := (13, .if_icmp .ge 20, 3)) rfl) (fun c20 => ?_) (fun c20 => ?_)
      · replace vc := vc.1 c20
        refine s_iconst (oe_t79 10 (q := (20, .iconst 0, 1)) rfl) ?_
        refine s_goto (oe_t79 11 (q := (21, .goto 53, 3)) rfl) ?_
        refine s_istore_n (oe_t79 27 (q := (53, .istore_n 3, 1)) rfl) ?_
        refine s_aload_n (oe_t79 28 (q := (54, .aload_n 0, 1)) rfl) rfl ?_
        refine s_iload_n (oe_t79 29 (q := (55, .iload_n 1, 1)) rfl) rfl ?_
        refine s_if_lt (oe_t79 30 (q := (56, .ifCond .lt 64, 3)) rfl) (fun c21 => ?_) (fun c21 => ?_)
        · replace vc := vc.1 c21
          refine s_iconst (oe_t79 34 (q := (64, .iconst 1, 1)) rfl) ?_
          refine s_goto (oe_t79 35 (q := (65, .goto 77, 3)) rfl) ?_
          exact oe_V.fg (oe_M_mono _) (show oe_fg [some (.inr (.inl v0)), some (.inl v1), some (.inl v2), none, none, none, none] _ from ⟨rfl, ⟨rfl, ⟨rfl, trivial⟩⟩⟩) vc
        · replace vc := vc.2 c21
          refine s_iload_n (oe_t79 31 (q := (59, .iload_n 1, 1)) rfl) rfl ?_
          refine s_iconst (oe_t79 32 (q := (60, .iconst 2, 1)) rfl) ?_
          refine s_ic_le (oe_t79 33 (q := (61, .if_icmp .le 68, 3)) rfl) (fun c22 => ?_) (fun c22 => ?_)
          · replace vc := vc.1 c22
            refine s_iload_n (oe_t79 36 (q := (68, .iload_n 3, 1)) rfl) rfl ?_
            refine s_if_eq (oe_t79 37 (q := (69, .ifCond .eq 76, 3)) rfl) (fun _ => ?_) (fun q => absurd q (by decide))
            refine s_iconst (oe_t79 40 (q := (76, .iconst 2, 1)) rfl) ?_
            exact oe_V.fg (oe_M_mono _) (show oe_fg [some (.inr (.inl v0)), some (.inl v1), some (.inl v2), none, none, none, none] _ from ⟨rfl, ⟨rfl, ⟨rfl, trivial⟩⟩⟩) vc
          · replace vc := vc.2 c22
            refine s_iconst (oe_t79 34 (q := (64, .iconst 1, 1)) rfl) ?_
            refine s_goto (oe_t79 35 (q := (65, .goto 77, 3)) rfl) ?_
            exact oe_V.fg (oe_M_mono _) (show oe_fg [some (.inr (.inl v0)), some (.inl v1), some (.inl v2), none, none, none, none] _ from ⟨rfl, ⟨rfl, ⟨rfl, trivial⟩⟩⟩) vc
      · replace vc := vc.2 c20
        refine s_iconst (oe_t79 8 (q := (16, .iconst 1, 1)) rfl) ?_
        refine s_goto (oe_t79 9 (q := (17, .goto 53, 3)) rfl) ?_
        refine s_istore_n (oe_t79 27 (q := (53, .istore_n 3, 1)) rfl) ?_
        refine s_aload_n (oe_t79 28 (q := (54, .aload_n 0, 1)) rfl) rfl ?_
        refine s_iload_n (oe_t79 29 (q := (55, .iload_n 1, 1)) rfl) rfl ?_
        refine s_if_lt (oe_t79 30 (q := (56, .ifCond .lt 64, 3)) rfl) (fun c23 => ?_) (fun c23 => ?_)
        · replace vc := vc.1 c23
          refine s_iconst (oe_t79 34 (q := (64, .iconst 1, 1)) rfl) ?_
          refine s_goto (oe_t79 35 (q := (65, .goto 77, 3)) rfl) ?_
          exact oe_V.fg (oe_M_mono _) (show oe_fg [some (.inr (.inl v0)), some (.inl v1), some (.inl v2), none, none, none, none] _ from ⟨rfl, ⟨rfl, ⟨rfl, trivial⟩⟩⟩) vc
        · replace vc := vc.2 c23
          refine s_iload_n (oe_t79 31 (q := (59, .iload_n 1, 1)) rfl) rfl ?_
          refine s_iconst (oe_t79 32 (q := (60, .iconst 2, 1)) rfl) ?_
          refine s_ic_le (oe_t79 33 (q := (61, .if_icmp .le 68, 3)) rfl) (fun c24 => ?_) (fun c24 => ?_)
          · replace vc := vc.1 c24
            refine s_iload_n (oe_t79 36 (q := (68, .iload_n 3, 1)) rfl) rfl ?_
            refine s_if_eq (oe_t79 37 (q := (69, .ifCond .eq 76, 3)) rfl) (fun q => absurd q (by decide)) (fun _ => ?_)
            refine s_iconst (oe_t79 38 (q := (72, .iconst 0, 1)) rfl) ?_
            refine s_goto (oe_t79 39 (q := (73, .goto 77, 3)) rfl) ?_
            exact oe_V.fg (oe_M_mono _) (show oe_fg [some (.inr (.inl v0)), some (.inl v1), some (.inl v2), none, none, none, none] _ from ⟨rfl, ⟨rfl, ⟨rfl, trivial⟩⟩⟩) vc
          · replace vc := vc.2 c24
            refine s_iconst (oe_t79 34 (q := (64, .iconst 1, 1)) rfl) ?_
            refine s_goto (oe_t79 35 (q := (65, .goto 77, 3)) rfl) ?_
            exact oe_V.fg (oe_M_mono _) (show oe_fg [some (.inr (.inl v0)), some (.inl v1), some (.inl v2), none, none, none, none] _ from ⟨rfl, ⟨rfl, ⟨rfl, trivial⟩⟩⟩) vc
theorem g79_77 {d : Nat} {sh : List (Nat × Nat)} {g : Nat → Nat → Option Nat} {h : Nat → Nat → Int} {Q : oeQ} {v0 : Nat} {v1 : Int} {v2 : Int} {w0 : Int} {w1 : Nat}
    (vc : sh[w1]? = some (12, 45) ∧ ∀ h26, h26 = oe_up h w1 0 w0 → sh[v0]? = some (12, 45) ∧ ((h26 v0 0) ≤ 0 → ∀ h30, h30 = oe_up h26 v0 3 0 → (v1 ≠ 0 → (v1 ≠ 1 → ∃ q34, g v0 19 = some q34 ∧ ∃ n37, sh[q34]? = some (0, n37) ∧ 0 ≤ (0 : Int) ∧ (0 : Int) < (n37 : Nat) ∧ oe_V (oe_cost 79) 79 (oe_M (d + 1)) none Q 127 [some (.inr (.inl v0)), some (.inl v1), some (.inl v2), none, none, none, none] [.inl (h30 q34 0)] (sh, g, h30) 0 0) ∧ (v1 = 1 → ∃ q40, g v0 10 = some q40 ∧ ∃ n43, sh[q40]? = some (0, n43) ∧ 0 ≤ v2 ∧ v2 < (n43 : Nat) ∧ oe_V (oe_cost 79) 79 (oe_M (d + 1)) none Q 127 [some (.inr (.inl v0)), some (.inl v1), some (.inl v2), none, none, none, none] [.inl (h30 q40 (v2 : Int).toNat)] (sh, g, h30) 0 0)) ∧ (v1 = 0 → ∃ q46, g v0 14 = some q46 ∧ ∃ n49, sh[q46]? = some (0, n49) ∧ 0 ≤ v2 ∧ v2 < (n49 : Nat) ∧ oe_V (oe_cost 79) 79 (oe_M (d + 1)) none Q 127 [some (.inr (.inl v0)), some (.inl v1), some (.inl v2), none, none, none, none] [.inl (h30 q46 (v2 : Int).toNat)] (sh, g, h30) 0 0)) ∧ (0 < (h26 v0 0) → Q (some (.inl 0)) (sh, g, h26))) :
    oe_V (oe_cost 79) 79 (oe_M (d + 1)) none Q 77 [some (.inr (.inl v0)), some (.inl v1), some (.inl v2), none, none, none, none] [.inl w0, .inr (.inl w1)] (sh, g, h) 0 0 := by
  obtain ⟨s25, vc⟩ := vc
  refine t_puti (oe_t79 41 (q := (77, .putfield 7000, 3)) rfl) s25 rfl (Or.inl rfl) (fun h26 e27 => ?_)
  replace vc := vc h26 e27
  refine s_aload_n (oe_t79 42 (q := (80, .aload_n 0, 1)) rfl) rfl ?_
  obtain ⟨s28, vc⟩ := vc
  refine s_geti (oe_t79 43 (q := (81, .getfield 7000, 3)) rfl) s28 rfl (by decide) ?_
  refine s_if_le (oe_t79 44 (q := (84, .ifCond .le 89, 3)) rfl) (fun c29 => ?_) (fun c29 => ?_)
  · replace vc := vc.1 c29
    refine s_aload_n (oe_t79 47 (q := (89, .aload_n 0, 1)) rfl) rfl ?_
    refine s_iconst (oe_t79 48 (q := (90, .iconst 0, 1)) rfl) ?_
    refine t_puti (oe_t79 49 (q := (91, .putfield 7030, 3)) rfl) s28 rfl (Or.inl rfl) (fun h30 e31 => ?_)
    replace vc := vc h30 e31
    refine s_iload_n (oe_t79 50 (q := (94, .iload_n 1, 1)) rfl) rfl ?_
    refine s_if_ne (oe_t79 51 (q := (95, .ifCond .ne 107, 3)) rfl) (fun c32 => ?_) (fun c32 => ?_)
    · replace vc := vc.1 c32
      refine s_iload_n (oe_t79 57 (q := (107, .iload_n 1, 1)) rfl) rfl ?_
      refine s_iconst (oe_t79 58 (q := (108, .iconst 1, 1)) rfl) ?_
      refine s_ic_ne (oe_t79 59 (q := (109, .if_icmp .ne 121, 3)) rfl) (fun c33 => ?_) (fun c33 => ?_)
      · replace vc := vc.1 c33
        refine s_aload_n (oe_t79 65 (q := (121, .aload_n 0, 1)) rfl) rfl ?_
        obtain ⟨q34, p35, vc⟩ := vc
        refine s_getr (oe_t79 66 (q := (122, .getfield 7191, 3)) rfl) s28 rfl rfl p35 ?_
        refine s_iconst (oe_t79 67 (q := (125, .iconst 0, 1)) rfl) ?_
        obtain ⟨n37, s36, vc⟩ := vc
        obtain ⟨i38, i39, vc⟩ := vc
        refine s_iaload (oe_t79 68 (q := (126, .iaload, 1)) rfl) s36 i38 i39 ?_
        exact oe_V.fg (oe_M_mono _) (show oe_fg [some (.inr (.inl v0)), some (.inl v1), some (.inl v2), none, none, none, none] _ from ⟨rfl, ⟨rfl, ⟨rfl, trivial⟩⟩⟩) vc
      · replace vc := vc.2 c33
        refine s_aload_n (oe_t79 60 (q := (112, .aload_n 0, 1)) rfl) rfl ?_
        obtain ⟨q40, p41, vc⟩ := vc
        refine s_getr (oe_t79 61 (q := (113, .getfield 7101, 3)) rfl) s28 rfl rfl p41 ?_
        refine s_iload_n (oe_t79 62 (q := (116, .iload_n 2, 1)) rfl) rfl ?_
        obtain ⟨n43, s42, vc⟩ := vc
        obtain ⟨i44, i45, vc⟩ := vc
        refine s_iaload (oe_t79 63 (q := (117, .iaload, 1)) rfl) s42 i44 i45 ?_
        refine s_goto (oe_t79 64 (q := (118, .goto 127, 3)) rfl) ?_
        exact oe_V.fg (oe_M_mono _) (show oe_fg [some (.inr (.inl v0)), some (.inl v1), some (.inl v2), none, none, none, none] _ from ⟨rfl, ⟨rfl, ⟨rfl, trivial⟩⟩⟩) vc
    · replace vc := vc.2 c32
      refine s_aload_n (oe_t79 52 (q := (98, .aload_n 0, 1)) rfl) rfl ?_
      obtain ⟨q46, p47, vc⟩ := vc
      refine s_getr (oe_t79 53 (q := (99, .getfield 7141, 3)) rfl) s28 rfl rfl p47 ?_
      refine s_iload_n (oe_t79 54 (q := (102, .iload_n 2, 1)) rfl) rfl ?_
      obtain ⟨n49, s48, vc⟩ := vc
      obtain ⟨i50, i51, vc⟩ := vc
      refine s_iaload (oe_t79 55 (q := (103, .iaload, 1)) rfl) s48 i50 i51 ?_
      refine s_goto (oe_t79 56 (q := (104, .goto 127, 3)) rfl) ?_
      exact oe_V.fg (oe_M_mono _) (show oe_fg [some (.inr (.inl v0)), some (.inl v1), some (.inl v2), none, none, none, none] _ from ⟨rfl, ⟨rfl, ⟨rfl, trivial⟩⟩⟩) vc
  · replace vc := vc.2 c29
    refine s_iconst (oe_t79 45 (q := (87, .iconst 0, 1)) rfl) ?_
    exact s_iret (oe_t79 46 (q := (88, .ireturn, 1)) rfl) (Or.inl rfl) vc
theorem g79_127 {d : Nat} {sh : List (Nat × Nat)} {g : Nat → Nat → Option Nat} {h : Nat → Nat → Int} {Q : oeQ} {v0 : Nat} {v1 : Int} {v2 : Int} {w0 : Int}
    (vc : (v1 ≠ 0 → (v1 ≠ 1 → sh[v0]? = some (12, 45) ∧ ∃ q55, g v0 19 = some q55 ∧ ∃ n58, sh[q55]? = some (0, n58) ∧ 0 ≤ (0 : Int) ∧ (0 : Int) < (n58 : Nat) ∧ 0 ≤ (1 : Int) ∧ (1 : Int) < (n58 : Nat) ∧ oe_rg ((h q55 0) + (h q55 1)) ∧ oe_V (oe_cost 79) 79 (oe_M (d + 1)) none Q 174 [some (.inr (.inl v0)), some (.inl v1), some (.inl v2), none, some (.inl w0), some (.inl ((h q55 0) + (h q55 1))), some (.inl 0)] [] (sh, g, h) 0 0) ∧ (v1 = 1 → sh[v0]? = some (12, 45) ∧ ∃ q65, g v0 11 = some q65 ∧ ∃ n68, sh[q65]? = some (0, n68) ∧ 0 ≤ v2 ∧ v2 < (n68 : Nat) ∧ oe_V (oe_cost 79) 79 (oe_M (d + 1)) none Q 174 [some (.inr (.inl v0)), some (.inl v1), some (.inl v2), none, some (.inl w0), some (.inl (h q65 (v2 : Int).toNat)), some (.inl 0)] [] (sh, g, h) 0 0)) ∧ (v1 = 0 → sh[v0]? = some (12, 45) ∧ ∃ q72, g v0 15 = some q72 ∧ ∃ n75, sh[q72]? = some (0, n75) ∧ 0 ≤ v2 ∧ v2 < (n75 : Nat) ∧ oe_V (oe_cost 79) 79 (oe_M (d + 1)) none Q 174 [some (.inr (.inl v0)), some (.inl v1), some (.inl v2), none, some (.inl w0), some (.inl (h q72 (v2 : Int).toNat)), some (.inl 0)] [] (sh, g, h) 0 0)) :
    oe_V (oe_cost 79) 79 (oe_M (d + 1)) none Q 127 [some (.inr (.inl v0)), some (.inl v1), some (.inl v2), none, none, none, none] [.inl w0] (sh, g, h) 0 0 := by
  refine s_istore (oe_t79 69 (q := (127, .istore 4, 2)) rfl) ?_
  refine s_iload_n (oe_t79 70 (q := (129, .iload_n 1, 1)) rfl) rfl ?_
  refine s_if_ne (oe_t79 71 (q := (130, .ifCond .ne 142, 3)) rfl) (fun c52 => ?_) (fun c52 => ?_)
  · replace vc := vc.1 c52
    refine s_iload_n (oe_t79 77 (q := (142, .iload_n 1, 1)) rfl) rfl ?_
    refine s_iconst (oe_t79 78 (q := (143, .iconst 1, 1)) rfl) ?_
    refine s_ic_ne (oe_t79 79 (q := (144, .if_icmp .ne 156, 3)) rfl) (fun c53 => ?_) (fun c53 => ?_)
    · replace vc := vc.1 c53
      refine s_aload_n (oe_t79 85 (q := (156, .aload_n 0, 1)) rfl) rfl ?_
      obtain ⟨s54, vc⟩ := vc
      obtain ⟨q55, p56, vc⟩ := vc
      refine s_getr (oe_t79 86 (q := (157, .getfield 7191, 3)) rfl) s54 rfl rfl p56 ?_
      refine s_iconst (oe_t79 87 (q := (160, .iconst 0, 1)) rfl) ?_
      obtain ⟨n58, s57, vc⟩ := vc
      obtain ⟨i59, i60, vc⟩ := vc
      refine s_iaload (oe_t79 88 (q := (161, .iaload, 1)) rfl) s57 i59 i60 ?_
      refine s_aload_n (oe_t79 89 (q := (162, .aload_n 0, 1)) rfl) rfl ?_
      refine s_getr (oe_t79 90 (q := (163, .getfield 7191, 3)) rfl) s54 rfl rfl p56 ?_
      refine s_iconst (oe_t79 91 (q := (166, .iconst 1, 1)) rfl) ?_
      obtain ⟨i61, i62, vc⟩ := vc
      refine s_iaload (oe_t79 92 (q := (167, .iaload, 1)) rfl) s57 i61 i62 ?_
      obtain ⟨r63, vc⟩ := vc
      refine s_iadd (oe_t79 93 (q := (168, .iadd, 1)) rfl) r63 ?_
      refine s_istore (oe_t79 94 (q := (169, .istore 5, 2)) rfl) ?_
      refine s_iconst (oe_t79 95 (q := (171, .iconst 0, 1)) rfl) ?_
      refine s_istore (oe_t79 96 (q := (172, .istore 6, 2)) rfl) ?_
      exact oe_V.fg (oe_M_mono _) (show oe_fg [some (.inr (.inl v0)), some (.inl v1), some (.inl v2), none, some (.inl w0), some (.inl ((h q55 0) + (h q55 1))), some (.inl 0)] _ from ⟨rfl, ⟨rfl, ⟨rfl, ⟨rfl, ⟨rfl, ⟨rfl, trivial⟩⟩⟩⟩⟩⟩) vc
    · replace vc := vc.2 c53
      refine s_aload_n (oe_t79 80 (q := (147, .aload_n 0, 1)) rfl) rfl ?_
      obtain ⟨s64, vc⟩ := vc
      obtain ⟨q65, p66, vc⟩ := vc
      refine s_getr (oe_t79 81 (q := (148, .getfield 7111, 3)) rfl) s64 rfl rfl p66 ?_
      refine s_iload_n (oe_t79 82 (q := (151, .iload_n 2, 1)) rfl) rfl ?_
      obtain ⟨n68, s67, vc⟩ := vc
      obtain ⟨i69, i70, vc⟩ := vc
      refine s_iaload (oe_t79 83 (q := (152, .iaload, 1)) rfl) s67 i69 i70 ?_
      refine s_goto (oe_t79 84 (q := (153, .goto 169, 3)) rfl) ?_
      refine s_istore (oe_t79 94 (q := (169, .istore 5, 2)) rfl) ?_
      refine s_iconst (oe_t79 95 (q := (171, .iconst 0, 1)) rfl) ?_
      refine s_istore (oe_t79 96 (q := (172, .istore 6, 2)) rfl) ?_
      exact oe_V.fg (oe_M_mono _) (show oe_fg [some (.inr (.inl v0)), some (.inl v1), some (.inl v2), none, some (.inl w0), some (.inl (h q65 (v2 : Int).toNat)), some (.inl 0)] _ from ⟨rfl, ⟨rfl, ⟨rfl, ⟨rfl, ⟨rfl, ⟨rfl, trivial⟩⟩⟩⟩⟩⟩) vc
  · replace vc := vc.2 c52
    refine s_aload_n (oe_t79 72 (q := (133, .aload_n 0, 1)) rfl) rfl ?_
    obtain ⟨s71, vc⟩ := vc
    obtain ⟨q72, p73, vc⟩ := vc
    refine s_getr (oe_t79 73 (q := (134, .getfield 7151, 3)) rfl) s71 rfl rfl p73 ?_
    refine s_iload_n (oe_t79 74 (q := (137, .iload_n 2, 1)) rfl) rfl ?_
    obtain ⟨n75, s74, vc⟩ := vc
    obtain ⟨i76, i77, vc⟩ := vc
    refine s_iaload (oe_t79 75 (q := (138, .iaload, 1)) rfl) s74 i76 i77 ?_
    refine s_goto (oe_t79 76 (q := (139, .goto 169, 3)) rfl) ?_
    refine s_istore (oe_t79 94 (q := (169, .istore 5, 2)) rfl) ?_
    refine s_iconst (oe_t79 95 (q := (171, .iconst 0, 1)) rfl) ?_
    refine s_istore (oe_t79 96 (q := (172, .istore 6, 2)) rfl) ?_
    exact oe_V.fg (oe_M_mono _) (show oe_fg [some (.inr (.inl v0)), some (.inl v1), some (.inl v2), none, some (.inl w0), some (.inl (h q72 (v2 : Int).toNat)), some (.inl 0)] _ from ⟨rfl, ⟨rfl, ⟨rfl, ⟨rfl, ⟨rfl, ⟨rfl, trivial⟩⟩⟩⟩⟩⟩) vc
theorem g79_174 {d : Nat} {sh : List (Nat × Nat)} {g : Nat → Nat → Option Nat} {h : Nat → Nat → Int} {Q : oeQ} {v0 : Nat} {v1 : Int} {v2 : Int} {v4 : Int} {v5 : Int} {v6 : Int}
    (vc : (v5 ≤ v6 → sh[v0]? = some (12, 45) ∧ Q (some (.inl (h v0 3))) (sh, g, h)) ∧ (v6 < v5 → (v6 ≠ v4 → oe_V (oe_cost 79) 79 (oe_M (d + 1)) none Q 194 [some (.inr (.inl v0)), some (.inl v1), some (.inl v2), none, some (.inl v4), some (.inl v5), some (.inl v6)] [] (sh, g, h) 0 0) ∧ (v6 = v4 → sh[v0]? = some (12, 45) ∧ oe_M (d + 1) 78 [.inr (.inl v0), .inl 61] (sh, g, h) (fun r hp => ∃ (h81 : Nat → Nat → Int), r = none ∧ hp = (sh, g, h81) ∧ oe_V (oe_cost 79) 79 (oe_M (d + 1)) none Q 194 [some (.inr (.inl v0)), some (.inl v1), some (.inl v2), none, some (.inl v4), some (.inl v5), some (.inl v6)] [] (sh, g, h81) 0 0)))) :
    oe_V (oe_cost 79) 79 (oe_M (d + 1)) none Q 174 [some (.inr (.inl v0)), some (.inl v1), some (.inl v2), none, some (.inl v4), some (.inl v5), some (.inl v6)] [] (sh, g, h) 0 0 := by
  refine s_iload (oe_t79 97 (q := (174, .iload 6, 2)) rfl) rfl ?_
  refine s_iload (oe_t79 98 (q := (176, .iload 5, 2)) rfl) rfl ?_
  refine s_ic_ge (oe_t79 99 (q := (178, .if_icmp .ge 276, 3)) rfl) (fun c78 => ?_) (fun c78 => ?_)
  · replace vc := vc.1 c78
    refine s_aload_n (oe_t79 150 (q := (276, .aload_n 0, 1)) rfl) rfl ?_
    obtain ⟨s79, vc⟩ := vc
    refine s_geti (oe_t79 151 (q := (277, .getfield 7030, 3)) rfl) s79 rfl (by decide) ?_
    exact s_iret (oe_t79 152 (q := (280, .ireturn, 1)) rfl) (Or.inl rfl) vc
  · replace vc := vc.2 c78
    refine s_iload (oe_t79 100 (q := (181, .iload 6, 2)) rfl) rfl ?_
    refine s_iload (oe_t79 101 (q := (183, .iload 4, 2)) rfl) rfl ?_
    refine s_ic_ne (oe_t79 102 (q := (185, .if_icmp .ne 194, 3)) rfl) (fun c80 => ?_) (fun c80 => ?_)
    · replace vc := vc.1 c80
      exact oe_V.fg (oe_M_mono _) (show oe_fg [some (.inr (.inl v0)), some (.inl v1), some (.inl v2), none, some (.inl v4), some (.inl v5), some (.inl v6)] _ from ⟨rfl, ⟨rfl, ⟨rfl, ⟨rfl, ⟨rfl, ⟨rfl, trivial⟩⟩⟩⟩⟩⟩) vc
    · replace vc := vc.2 c80
      refine s_aload_n (oe_t79 103 (q := (188, .aload_n 0, 1)) rfl) rfl ?_
      refine s_bipush (oe_t79 104 (q := (189, .bipush 61, 2)) rfl) ?_
      obtain ⟨s82, vc⟩ := vc
      refine s_callv (oe_t79 105 (q := (191, .invokevirtual 78071, 3)) rfl) rfl s82 rfl (Nat.le_of_ble_eq_true rfl) (Nat.le_of_ble_eq_true rfl) (Nat.le_of_ble_eq_true rfl) (Nat.le_of_ble_eq_true rfl) ?_
      refine oe_M_mono _ _ _ _ _ _ (fun r hp vq => ?_) vc
      obtain ⟨h81, rfl, rfl, vc⟩ := vq
      show oe_V (oe_cost 79) 79 (oe_M (d + 1)) none Q 194 [some (.inr (.inl v0)), some (.inl v1), some (.inl v2), none, some (.inl v4), some (.inl v5), some (.inl v6)] [] (sh, g, h81) 0 0
      exact oe_V.fg (oe_M_mono _) (show oe_fg [some (.inr (.inl v0)), some (.inl v1), some (.inl v2), none, some (.inl v4), some (.inl v5), some (.inl v6)] _ from ⟨rfl, ⟨rfl, ⟨rfl, ⟨rfl, ⟨rfl, ⟨rfl, trivial⟩⟩⟩⟩⟩⟩) vc
theorem g79_194 {d : Nat} {sh : List (Nat × Nat)} {g : Nat → Nat → Option Nat} {h : Nat → Nat → Int} {Q : oeQ} {v0 : Nat} {v1 : Int} {v2 : Int} {v4 : Int} {v5 : Int} {v6 : Int}
    (vc : (v1 ≠ 0 → (v1 ≠ 1 → (v4 ≤ v6 → sh[v0]? = some (12, 45) ∧ ∃ q87, g v0 18 = some q87 ∧ oe_rg (40 + v6) ∧ oe_rg ((40 + v6) - v4) ∧ ∃ n92, sh[q87]? = some (0, n92) ∧ 0 ≤ ((40 + v6) - v4) ∧ ((40 + v6) - v4) < (n92 : Nat) ∧ oe_M (d + 1) 33 [.inl (h q87 (((40 + v6) - v4) : Int).toNat)] (sh, g, h) (fun r hp => ∃ (x96 : Int) (h95 : Nat → Nat → Int), r = some (.inl x96) ∧ hp = (sh, g, h95) ∧ oe_M (d + 1) 78 [.inr (.inl v0), .inl x96] (sh, g, h95) (fun r hp => ∃ (h97 : Nat → Nat → Int), r = none ∧ hp = (sh, g, h97) ∧ oe_rg (v6 + 1) ∧ oe_V (oe_cost 79) 79 (oe_M (d + 1)) none Q 174 [some (.inr (.inl v0)), some (.inl v1), some (.inl v2), none, some (.inl v4), some (.inl v5), some (.inl (v6 + 1))] [] (sh, g, h97) 0 0))) ∧ (v6 < v4 → sh[v0]? = some (12, 45) ∧ ∃ q100, g v0 18 = some q100 ∧ ∃ n103, sh[q100]? = some (0, n103) ∧ 0 ≤ v6 ∧ v6 < (n103 : Nat) ∧ oe_M (d + 1) 33 [.inl (h q100 (v6 : Int).toNat)] (sh, g, h) (fun r hp => ∃ (x107 : Int) (h106 : Nat → Nat → Int), r = some (.inl x107) ∧ hp = (sh, g, h106) ∧ oe_M (d + 1) 78 [.inr (.inl v0), .inl x107] (sh, g, h106) (fun r hp => ∃ (h108 : Nat → Nat → Int), r = none ∧ hp = (sh, g, h108) ∧ oe_rg (v6 + 1) ∧ oe_V (oe_cost 79) 79 (oe_M (d + 1)) none Q 174 [some (.inr (.inl v0)), some (.inl v1), some (.inl v2), none, some (.inl v4), some (.inl v5), some (.inl (v6 + 1))] [] (sh, g, h108) 0 0)))) ∧ (v1 = 1 → sh[v0]? = some (12, 45) ∧ ∃ q111, g v0 9 = some q111 ∧ oe_rg (20 * v2) ∧ oe_rg ((20 * v2) + v6) ∧ ∃ n116, sh[q111]? = some (0, n116) ∧ 0 ≤ ((20 * v2) + v6) ∧ ((20 * v2) + v6) < (n116 : Nat) ∧ oe_M (d + 1) 33 [.inl (h q111 (((20 * v2) + v6) : Int).toNat)] (sh, g, h) (fun r hp => ∃ (x120 : Int) (h119 : Nat → Nat → Int), r = some (.inl x120) ∧ hp = (sh, g, h119) ∧ oe_M (d + 1) 78 [.inr (.inl v0), .inl x120] (sh, g, h119) (fun r hp => ∃ (h121 : Nat → Nat → Int), r = none ∧ hp = (sh, g, h121) ∧ oe_rg (v6 + 1) ∧ oe_V (oe_cost 79) 79 (oe_M (d + 1)) none Q 174 [some (.inr (.inl v0)), some (.inl v1), some (.inl v2), none, some (.inl v4), some (.inl v5), some (.inl (v6 + 1))] [] (sh, g, h121) 0 0)))) ∧ (v1 = 0 → sh[v0]? = some (12, 45) ∧ ∃ q124, g v0 13 = some q124 ∧ oe_rg (20 * v2) ∧ oe_rg ((20 * v2) + v6) ∧ ∃ n129, sh[q124]? = some (0, n129) ∧ 0 ≤ ((20 * v2) + v6) ∧ ((20 * v2) + v6) < (n129 : Nat) ∧ oe_M (d + 1) 33 [.inl (h q124 (((20 * v2) + v6) : Int).toNat)] (sh, g, h) (fun r hp => ∃ (x133 : Int) (h132 : Nat → Nat → Int), r = some (.inl x133) ∧ hp = (sh, g, h132) ∧ oe_M (d + 1) 78 [.inr (.inl v0), .inl x133] (sh, g, h132) (fun r hp => ∃ (h134 : Nat → Nat → Int), r = none ∧ hp = (sh, g, h134) ∧ oe_rg (v6 + 1) ∧ oe_V (oe_cost 79) 79 (oe_M (d + 1)) none Q 174 [some (.inr (.inl v0)), some (.inl v1), some (.inl v2), none, some (.inl v4), some (.inl v5), some (.inl (v6 + 1))] [] (sh, g, h134) 0 0)))) :
    oe_V (oe_cost 79) 79 (oe_M (d + 1)) none Q 194 [some (.inr (.inl v0)), some (.inl v1), some (.inl v2), none, some (.inl v4), some (.inl v5), some (.inl v6)] [] (sh, g, h) 0 0 := by
  refine s_aload_n (oe_t79 106 (q := (194, .aload_n 0, 1)) rfl) rfl ?_
  refine s_iload_n (oe_t79 107 (q := (195, .iload_n 1, 1)) rfl) rfl ?_
  refine s_if_ne (oe_t79 108 (q := (196, .ifCond .ne 214, 3)) rfl) (fun c83 => ?_) (fun c83 => ?_)
  · replace vc := vc.1 c83
    refine s_iload_n (oe_t79 118 (q := (214, .iload_n 1, 1)) rfl) rfl ?_
    refine s_iconst (oe_t79 119 (q := (215, .iconst 1, 1)) rfl) ?_
    refine s_ic_ne (oe_t79 120 (q := (216, .if_icmp .ne 234, 3)) rfl) (fun c84 => ?_) (fun c84 => ?_)
    · replace vc := vc.1 c84
      refine s_iload (oe_t79 130 (q := (234, .iload 6, 2)) rfl) rfl ?_
      refine s_iload (oe_t79 131 (q := (236, .iload 4, 2)) rfl) rfl ?_
      refine s_ic_ge (oe_t79 132 (q := (238, .if_icmp .ge 251, 3)) rfl) (fun c85 => ?_) (fun c85 => ?_)
      · replace vc := vc.1 c85
        refine s_aload_n (oe_t79 138 (q := (251, .aload_n 0, 1)) rfl) rfl ?_
        obtain ⟨s86, vc⟩ := vc
        obtain ⟨q87, p88, vc⟩ := vc
        refine s_getr (oe_t79 139 (q := (252, .getfield 7181, 3)) rfl) s86 rfl rfl p88 ?_
        refine s_bipush (oe_t79 140 (q := (255, .bipush 40, 2)) rfl) ?_
        refine s_iload (oe_t79 141 (q := (257, .iload 6, 2)) rfl) rfl ?_
        obtain ⟨r89, vc⟩ := vc
        refine s_iadd (oe_t79 142 (q := (259, .iadd, 1)) rfl) r89 ?_
        refine s_iload (oe_t79 143 (q := (260, .iload 4, 2)) rfl) rfl ?_
        obtain ⟨r90, vc⟩ := vc
        refine s_isub (oe_t79 144 (q := (262, .isub, 1)) rfl) r90 ?_
        obtain ⟨n92, s91, vc⟩ := vc
        obtain ⟨i93, i94, vc⟩ := vc
        refine s_iaload (oe_t79 145 (q := (263, .iaload, 1)) rfl) s91 i93 i94 ?_
        refine s_calls (oe_t79 146 (q := (264, .invokestatic 33071, 3)) rfl) (by decide) (Nat.le_of_ble_eq_true rfl) (Nat.le_of_ble_eq_true rfl) (Nat.le_of_ble_eq_true rfl) (Nat.le_of_ble_eq_true rfl) ?_
        refine oe_M_mono _ _ _ _ _ _ (fun r hp vq => ?_) vc
        obtain ⟨x96, h95, rfl, rfl, vc⟩ := vq
        show oe_V (oe_cost 79) 79 (oe_M (d + 1)) none Q 267 [some (.inr (.inl v0)), some (.inl v1), some (.inl v2), none, some (.inl v4), some (.inl v5), some (.inl v6)] [.inl x96, .inr (.inl v0)] (sh, g, h95) 0 0
        refine s_callv (oe_t79 147 (q := (267, .invokevirtual 78071, 3)) rfl) rfl s86 rfl (Nat.le_of_ble_eq_true rfl) (Nat.le_of_ble_eq_true rfl) (Nat.le_of_ble_eq_true rfl) (Nat.le_of_ble_eq_true rfl) ?_
        refine oe_M_mono _ _ _ _ _ _ (fun r hp vq => ?_) vc
        obtain ⟨h97, rfl, rfl, vc⟩ := vq
        show oe_V (oe_cost 79) 79 (oe_M (d + 1)) none Q 270 [some (.inr (.inl v0)), some (.inl v1), some (.inl v2), none, some (.inl v4), some (.inl v5), some (.inl v6)] [] (sh, g, h97) 0 0
        obtain ⟨r98, vc⟩ := vc
        refine s_iinc (oe_t79 148 (q := (270, .iinc 6 1, 3)) rfl) rfl r98 ?_
        refine s_goto (oe_t79 149 (q := (273, .goto 174, 3)) rfl) ?_
        exact oe_V.fg (oe_M_mono _) (show oe_fg [some (.inr (.inl v0)), some (.inl v1), some (.inl v2), none, some (.inl v4), some (.inl v5), some (.inl (v6 + 1))] _ from ⟨rfl, ⟨rfl, ⟨rfl, ⟨rfl, ⟨rfl, ⟨rfl, trivial⟩⟩⟩⟩⟩⟩) vc
      · replace vc := vc.2 c85
        refine s_aload_n (oe_t79 133 (q := (241, .aload_n 0, 1)) rfl) rfl ?_
        obtain ⟨s99, vc⟩ := vc
        obtain ⟨q100, p101, vc⟩ := vc
        refine s_getr (oe_t79 134 (q := (242, .getfield 7181, 3)) rfl) s99 rfl rfl p101 ?_
        refine s_iload (oe_t79 135 (q := (245, .iload 6, 2)) rfl) rfl ?_
        obtain ⟨n103, s102, vc⟩ := vc
        obtain ⟨i104, i105, vc⟩ := vc
        refine s_iaload (oe_t79 136 (q := (247, .iaload, 1)) rfl) s102 i104 i105 ?_
        refine s_goto (oe_t79 137 (q := (248, .goto 264, 3)) rfl) ?_
        refine s_calls (oe_t79 146 (q := (264, .invokestatic 33071, 3)) rfl) (by decide) (Nat.le_of_ble_eq_true rfl) (Nat.le_of_ble_eq_true rfl) (Nat.le_of_ble_eq_true rfl) (Nat.le_of_ble_eq_true rfl) ?_
        refine oe_M_mono _ _ _ _ _ _ (fun r hp vq => ?_) vc
        obtain ⟨x107, h106, rfl, rfl, vc⟩ := vq
        show oe_V (oe_cost 79) 79 (oe_M (d + 1)) none Q 267 [some (.inr (.inl v0)), some (.inl v1), some (.inl v2), none, some (.inl v4), some (.inl v5), some (.inl v6)] [.inl x107, .inr (.inl v0)] (sh, g, h106) 0 0
        refine s_callv (oe_t79 147 (q := (267, .invokevirtual 78071, 3)) rfl) rfl s99 rfl (Nat.le_of_ble_eq_true rfl) (Nat.le_of_ble_eq_true rfl) (Nat.le_of_ble_eq_true rfl) (Nat.le_of_ble_eq_true rfl) ?_
        refine oe_M_mono _ _ _ _ _ _ (fun r hp vq => ?_) vc
        obtain ⟨h108, rfl, rfl, vc⟩ := vq
        show oe_V (oe_cost 79) 79 (oe_M (d + 1)) none Q 270 [some (.inr (.inl v0)), some (.inl v1), some (.inl v2), none, some (.inl v4), some (.inl v5), some (.inl v6)] [] (sh, g, h108) 0 0
        obtain ⟨r109, vc⟩ := vc
        refine s_iinc (oe_t79 148 (q := (270, .iinc 6 1, 3)) rfl) rfl r109 ?_
        refine s_goto (oe_t79 149 (q := (273, .goto 174, 3)) rfl) ?_
        exact oe_V.fg (oe_M_mono _) (show oe_fg [some (.inr (.inl v0)), some (.inl v1), some (.inl v2), none, some (.inl v4), some (.inl v5), some (.inl (v6 + 1))] _ from ⟨rfl, ⟨rfl, ⟨rfl, ⟨rfl, ⟨rfl, ⟨rfl, trivial⟩⟩⟩⟩⟩⟩) vc
    · replace vc := vc.2 c84
      refine s_aload_n (oe_t79 121 (q := (219, .aload_n 0, 1)) rfl) rfl ?_
      obtain ⟨s110, vc⟩ := vc
      obtain ⟨q111, p112, vc⟩ := vc
      refine s_getr (oe_t79 122 (q := (220, .getfield 7091, 3)) rfl) s110 rfl rfl p112 ?_
      refine s_bipush (oe_t79 123 (q := (223, .bipush 20, 2)) rfl) ?_
      refine s_iload_n (oe_t79 124 (q := (225, .iload_n 2, 1)) rfl) rfl ?_
      obtain ⟨r113, vc⟩ := vc
      refine s_imul (oe_t79 125 (q := (226, .imul, 1)) rfl) r113 ?_
      refine s_iload (oe_t79 126 (q := (227, .iload 6, 2)) rfl) rfl ?_
      obtain ⟨r114, vc⟩ := vc
      refine s_iadd (oe_t79 127 (q := (229, .iadd, 1)) rfl) r114 ?_
      obtain ⟨n116, s115, vc⟩ := vc
      obtain ⟨i117, i118, vc⟩ := vc
      refine s_iaload (oe_t79 128 (q := (230, .iaload, 1)) rfl) s115 i117 i118 ?_
      refine s_goto (oe_t79 129 (q := (231, .goto 264, 3)) rfl) ?_
      refine s_calls (oe_t79 146 (q := (264, .invokestatic 33071, 3)) rfl) (by decide) (Nat.le_of_ble_eq_true rfl) (Nat.le_of_ble_eq_true rfl) (Nat.le_of_ble_eq_true rfl) (Nat.le_of_ble_eq_true rfl) ?_
      refine oe_M_mono _ _ _ _ _ _ (fun r hp vq => ?_) vc
      obtain ⟨x120, h119, rfl, rfl, vc⟩ := vq
      show oe_V (oe_cost 79) 79 (oe_M (d + 1)) none Q 267 [some (.inr (.inl v0)), some (.inl v1), some (.inl v2), none, some (.inl v4), some (.inl v5), some (.inl v6)] [.inl x120, .inr (.inl v0)] (sh, g, h119) 0 0
      refine s_callv (oe_t79 147 (q := (267, .invokevirtual 78071, 3)) rfl) rfl s110 rfl (Nat.le_of_ble_eq_true rfl) (Nat.le_of_ble_eq_true rfl) (Nat.le_of_ble_eq_true rfl) (Nat.le_of_ble_eq_true rfl) ?_
      refine oe_M_mono _ _ _ _ _ _ (fun r hp vq => ?_) vc
      obtain ⟨h121, rfl, rfl, vc⟩ := vq
      show oe_V (oe_cost 79) 79 (oe_M (d + 1)) none Q 270 [some (.inr (.inl v0)), some (.inl v1), some (.inl v2), none, some (.inl v4), some (.inl v5), some (.inl v6)] [] (sh, g, h121) 0 0
      obtain ⟨r122, vc⟩ := vc
      refine s_iinc (oe_t79 148 (q := (270, .iinc 6 1, 3)) rfl) rfl r122 ?_
      refine s_goto (oe_t79 149 (q := (273, .goto 174, 3)) rfl) ?_
      exact oe_V.fg (oe_M_mono _) (show oe_fg [some (.inr (.inl v0)), some (.inl v1), some (.inl v2), none, some (.inl v4), some (.inl v5), some (.inl (v6 + 1))] _ from ⟨rfl, ⟨rfl, ⟨rfl, ⟨rfl, ⟨rfl, ⟨rfl, trivial⟩⟩⟩⟩⟩⟩) vc
  · replace vc := vc.2 c83
    refine s_aload_n (oe_t79 109 (q := (199, .aload_n 0, 1)) rfl) rfl ?_
    obtain ⟨s123, vc⟩ := vc
    obtain ⟨q124, p125, vc⟩ := vc
    refine s_getr (oe_t79 110 (q := (200, .getfield 7131, 3)) rfl) s123 rfl rfl p125 ?_
    refine s_bipush (oe_t79 111 (q := (203, .bipush 20, 2)) rfl) ?_
    refine s_iload_n (oe_t79 112 (q := (205, .iload_n 2, 1)) rfl) rfl ?_
    obtain ⟨r126, vc⟩ := vc
    refine s_imul (oe_t79 113 (q := (206, .imul, 1)) rfl) r126 ?_
    refine s_iload (oe_t79 114 (q := (207, .iload 6, 2)) rfl) rfl ?_
    obtain ⟨r127, vc⟩ := vc
    refine s_iadd (oe_t79 115 (q := (209, .iadd, 1)) rfl) r127 ?_
    obtain ⟨n129, s128, vc⟩ := vc
    obtain ⟨i130, i131, vc⟩ := vc
    refine s_iaload (oe_t79 116 (q := (210, .iaload, 1)) rfl) s128 i130 i131 ?_
    refine s_goto (oe_t79 117 (q := (211, .goto 264, 3)) rfl) ?_
    refine s_calls (oe_t79 146 (q := (264, .invokestatic 33071, 3)) rfl) (by decide) (Nat.le_of_ble_eq_true rfl) (Nat.le_of_ble_eq_true rfl) (Nat.le_of_ble_eq_true rfl) (Nat.le_of_ble_eq_true rfl) ?_
    refine oe_M_mono _ _ _ _ _ _ (fun r hp vq => ?_) vc
    obtain ⟨x133, h132, rfl, rfl, vc⟩ := vq
    show oe_V (oe_cost 79) 79 (oe_M (d + 1)) none Q 267 [some (.inr (.inl v0)), some (.inl v1), some (.inl v2), none, some (.inl v4), some (.inl v5), some (.inl v6)] [.inl x133, .inr (.inl v0)] (sh, g, h132) 0 0
    refine s_callv (oe_t79 147 (q := (267, .invokevirtual 78071, 3)) rfl) rfl s123 rfl (Nat.le_of_ble_eq_true rfl) (Nat.le_of_ble_eq_true rfl) (Nat.le_of_ble_eq_true rfl) (Nat.le_of_ble_eq_true rfl) ?_
    refine oe_M_mono _ _ _ _ _ _ (fun r hp vq => ?_) vc
    obtain ⟨h134, rfl, rfl, vc⟩ := vq
    show oe_V (oe_cost 79) 79 (oe_M (d + 1)) none Q 270 [some (.inr (.inl v0)), some (.inl v1), some (.inl v2), none, some (.inl v4), some (.inl v5), some (.inl v6)] [] (sh, g, h134) 0 0
    obtain ⟨r135, vc⟩ := vc
    refine s_iinc (oe_t79 148 (q := (270, .iinc 6 1, 3)) rfl) rfl r135 ?_
    refine s_goto (oe_t79 149 (q := (273, .goto 174, 3)) rfl) ?_
    exact oe_V.fg (oe_M_mono _) (show oe_fg [some (.inr (.inl v0)), some (.inl v1), some (.inl v2), none, some (.inl v4), some (.inl v5), some (.inl (v6 + 1))] _ from ⟨rfl, ⟨rfl, ⟨rfl, ⟨rfl, ⟨rfl, ⟨rfl, trivial⟩⟩⟩⟩⟩⟩) vc
theorem oe_u80 : oe_c80.all (fun q => decide (oe_find oe_c80 q.1 = some q.2)) = true := by decide +kernel
theorem oe_t80 (k : Nat) {q : Nat × Jvm.ClassFile.Instr × Nat} (h : oe_c80[k]? = some q) : oe_find (oe_code 80) q.1 = some q.2 := oe_ft oe_u80 h
theorem g80 {d : Nat} {sh : List (Nat × Nat)} {g : Nat → Nat → Option Nat} {h : Nat → Nat → Int} {Q : oeQ} {v0 : Nat}
    (vc : sh[v0]? = some (12, 45) ∧ ∀ h2, h2 = oe_up h v0 0 0 → oe_M (d + 1) 36 [.inr (.inl v0), .inl 0] (sh, g, h2) (fun r hp => ∃ (x5 : Int) (h4 : Nat → Nat → Int), r = some (.inl x5) ∧ hp = (sh, g, h4) ∧ (x5 < 0 → oe_rg ((h4 v0 7) - (h4 v0 6)) ∧ ((h4 v0 6) ≠ ((h4 v0 7) - (h4 v0 6)) → oe_V (oe_cost 80) 80 (oe_M (d + 1)) none Q 49 [some (.inr (.inl v0)), none, some (.inl (h4 v0 6)), some (.inl ((h4 v0 7) - (h4 v0 6))), some (.inl 0), some (.inl 0), none] [] (sh, g, h4) 0 0) ∧ ((h4 v0 6) = ((h4 v0 7) - (h4 v0 6)) → oe_V (oe_cost 80) 80 (oe_M (d + 1)) none Q 49 [some (.inr (.inl v0)), none, some (.inl (h4 v0 6)), some (.inl ((h4 v0 7) - (h4 v0 6))), some (.inl 1), some (.inl 0), none] [] (sh, g, h4) 0 0)) ∧ (0 ≤ x5 → oe_rg ((-1) - x5) ∧ Q (some (.inl ((-1) - x5))) (sh, g, h4)))) :
    oe_M (d + 2) 80 [.inr (.inl v0)] (sh, g, h) Q := by
  refine oe_M.of (by simp [oe_c1]) (Nat.le_of_ble_eq_true rfl) ?_
  show oe_V (oe_cost 80) 80 (oe_M (d + 1)) none Q 0 [some (.inr (.inl v0)), none, none, none, none, none, none] [] (sh, g, h) 0 0
  refine s_aload_n (oe_t80 0 (q := (0, .aload_n 0, 1)) rfl) rfl ?_
  refine s_iconst (oe_t80 1 (q := (1, .iconst 0, 1)) rfl) ?_
  obtain ⟨s1, vc⟩ := vc
  refine t_puti (oe_t80 2 (q := (2, .putfield 7000, 3)) rfl) s1 rfl (Or.inl rfl) (fun h2 e3 => ?_)
  replace vc := vc h2 e3
  refine s_aload_n (oe_t80 3 (q := (5, .aload_n 0, 1)) rfl) rfl ?_
  refine s_iconst (oe_t80 4 (q := (6, .iconst 0, 1)) rfl) ?_
  refine s_callv (oe_t80 5 (q := (7, .invokevirtual 36071, 3)) rfl) rfl s1 rfl (Nat.le_of_ble_eq_true rfl) (Nat.le_of_ble_eq_true rfl) (Nat.le_of_ble_eq_true rfl) (Nat.le_of_ble_eq_true rfl) ?_
  refine oe_M_mono _ _ _ _ _ _ (fun r hp vq => ?_) vc
  obtain ⟨x5, h4, rfl, rfl, vc⟩ := vq
  show oe_V (oe_cost 80) 80 (oe_M (d + 1)) none Q 10 [some (.inr (.inl v0)), none, none, none, none, none, none] [.inl x5] (sh, g, h4) 0 0
  refine s_istore_n (oe_t80 6 (q := (10, .istore_n 1, 1)) rfl) ?_
  refine s_iload_n (oe_t80 7 (q := (11, .iload_n 1, 1)) rfl) rfl ?_
  refine s_if_lt (oe_t80 8 (q := (12, .ifCond .lt 19, 3)) rfl) (fun c6 => ?_) (fun c6 => ?_)
  · replace vc := vc.1 c6
    refine s_aload_n (oe_t80 13 (q := (19, .aload_n 0, 1)) rfl) rfl ?_
    refine s_geti (oe_t80 14 (q := (20, .getfield 7060, 3)) rfl) s1 rfl (by decide) ?_
    refine s_istore_n (oe_t80 15 (q := (23, .istore_n 2, 1)) rfl) ?_
    refine s_aload_n (oe_t80 16 (q := (24, .aload_n 0, 1)) rfl) rfl ?_
    refine s_geti (oe_t80 17 (q := (25, .getfield 7070, 3)) rfl) s1 rfl (by decide) ?_
    refine s_aload_n (oe_t80 18 (q := (28, .aload_n 0, 1)) rfl) rfl ?_
    refine s_geti (oe_t80 19 (q := (29, .getfield 7060, 3)) rfl) s1 rfl (by decide) ?_
    obtain ⟨r7, vc⟩ := vc
    refine s_isub (oe_t80 20 (q := (32, .isub, 1)) rfl) r7 ?_
    refine s_istore_n (oe_t80 21 (q := (33, .istore_n 3, 1)) rfl) ?_
    refine s_iload_n (oe_t80 22 (q := (34, .iload_n 2, 1)) rfl) rfl ?_
    refine s_iload_n (oe_t80 23 (q := (35, .iload_n 3, 1)) rfl) rfl ?_
    refine s_ic_ne (oe_t80 24 (q := (36, .if_icmp .ne 43, 3)) rfl) (fun c8 => ?_) (fun c8 => ?_)
    · replace vc := vc.1 c8
      refine s_iconst (oe_t80 27 (q := (43, .iconst 0, 1)) rfl) ?_
      refine s_istore (oe_t80 28 (q := (44, .istore 4, 2)) rfl) ?_
      refine s_iconst (oe_t80 29 (q := (46, .iconst 0, 1)) rfl) ?_
      refine s_istore (oe_t80 30 (q := (47, .istore 5, 2)) rfl) ?_
      exact oe_V.fg (oe_M_mono _) (show oe_fg [some (.inr (.inl v0)), none, some (.inl (h4 v0 6)), some (.inl ((h4 v0 7) - (h4 v0 6))), some (.inl 0), some (.inl 0), none] _ from ⟨rfl, ⟨rfl, ⟨rfl, ⟨rfl, ⟨rfl, trivial⟩⟩⟩⟩⟩) vc
    · replace vc := vc.2 c8
      refine s_iconst (oe_t80 25 (q := (39, .iconst 1, 1)) rfl) ?_
      refine s_goto (oe_t80 26 (q := (40, .goto 44, 3)) rfl) ?_
      refine s_istore (oe_t80 28 (q := (44, .istore 4, 2)) rfl) ?_
      refine s_iconst (oe_t80 29 (q := (46, .iconst 0, 1)) rfl) ?_
      refine s_istore (oe_t80 30 (q := (47, .istore 5, 2)) rfl) ?_
      exact oe_V.fg (oe_M_mono _) (show oe_fg [some (.inr (.inl v0)), none, some (.inl (h4 v0 6)), some (.inl ((h4 v0 7) - (h4 v0 6))), some (.inl 1), some (.inl 0), none] _ from ⟨rfl, ⟨rfl, ⟨rfl, ⟨rfl, ⟨rfl, trivial⟩⟩⟩⟩⟩) vc
  · replace vc := vc.2 c6
    refine s_iconst (oe_t80 9 (q := (15, .iconst (-1), 1)) rfl) ?_
    refine s_iload_n (oe_t80 10 (q := (16, .iload_n 1, 1)) rfl) rfl ?_
    obtain ⟨r9, vc⟩ := vc
    refine s_isub (oe_t80 11 (q := (17, .isub, 1)) rfl) r9 ?_
    exact s_iret (oe_t80 12 (q := (18, .ireturn, 1)) rfl) (Or.inl rfl) vc
theorem g80_49 {d : Nat} {sh : List (Nat × Nat)} {g : Nat → Nat → Option Nat} {h : Nat → Nat → Int} {Q : oeQ} {v0 : Nat} {v2 : Int} {v3 : Int} {v4 : Int} {v5 : Int}
    (vc : (v2 ≤ v5 → (v4 = 0 → oe_V (oe_cost 80) 80 (oe_M (d + 1)) none Q 102 [some (.inr (.inl v0)), none, some (.inl v2), some (.inl v3), none, some (.inl 1), none] [] (sh, g, h) 0 0) ∧ (v4 ≠ 0 → Q (some (.inl 3)) (sh, g, h))) ∧ (v5 < v2 → (v4 = 0 → (v4 = 0 → oe_V (oe_cost 80) 80 (oe_M (d + 1)) none Q 102 [some (.inr (.inl v0)), none, some (.inl v2), some (.inl v3), none, some (.inl 1), none] [] (sh, g, h) 0 0) ∧ (v4 ≠ 0 → Q (some (.inl 3)) (sh, g, h))) ∧ (v4 ≠ 0 → sh[v0]? = some (12, 45) ∧ ∃ q15, g v0 5 = some q15 ∧ ∃ n18, sh[q15]? = some (0, n18) ∧ 0 ≤ v5 ∧ v5 < (n18 : Nat) ∧ oe_rg (v2 + v5) ∧ 0 ≤ (v2 + v5) ∧ (v2 + v5) < (n18 : Nat) ∧ ((h q15 (v5 : Int).toNat) ≠ (h q15 ((v2 + v5) : Int).toNat) → oe_rg (v5 + 1) ∧ oe_V (oe_cost 80) 80 (oe_M (d + 1)) none Q 49 [some (.inr (.inl v0)), none, some (.inl v2), some (.inl v3), some (.inl 0), some (.inl (v5 + 1)), none] [] (sh, g, h) 0 0) ∧ ((h q15 (v5 : Int).toNat) = (h q15 ((v2 + v5) : Int).toNat) → oe_rg (v5 + 1) ∧ oe_V (oe_cost 80) 80 (oe_M (d + 1)) none Q 49 [some (.inr (.inl v0)), none, some (.inl v2), some (.inl v3), some (.inl 1), some (.inl (v5 + 1)), none] [] (sh, g, h) 0 0)))) :
    oe_V (oe_cost 80) 80 (oe_M (d + 1)) none Q 49 [some (.inr (.inl v0)), none, some (.inl v2), some (.inl v3), some (.inl v4), some (.inl v5), none] [] (sh, g, h) 0 0 := by
  refine s_iload (oe_t80 31 (q := (49, .iload 5, 2)) rfl) rfl ?_
  refine s_iload_n (oe_t80 32 (q := (51, .iload_n 2, 1)) rfl) rfl ?_
  refine s_ic_ge (oe_t80 33 (q := (52, .if_icmp .ge 92, 3)) rfl) (fun c10 => ?_) (fun c10 => ?_)
  · replace vc := vc.1 c10
    refine s_iload (oe_t80 53 (q := (92, .iload 4, 2)) rfl) rfl ?_
    refine s_if_eq (oe_t80 54 (q := (94, .ifCond .eq 99, 3)) rfl) (fun c11 => ?_) (fun c11 => ?_)
    · replace vc := vc.1 c11
      refine s_iconst (oe_t80 57 (q := (99, .iconst 1, 1)) rfl) ?_
      refine s_istore (oe_t80 58 (q := (100, .istore 5, 2)) rfl) ?_
      exact oe_V.fg (oe_M_mono _) (show oe_fg [some (.inr (.inl v0)), none, some (.inl v2), some (.inl v3), none, some (.inl 1), none] _ from ⟨rfl, ⟨rfl, ⟨rfl, ⟨rfl, trivial⟩⟩⟩⟩) vc
    · replace vc := vc.2 c11
      refine s_iconst (oe_t80 55 (q := (97, .iconst 3, 1)) rfl) ?_
      exact s_iret (oe_t80 56 (q := (98, .ireturn, 1)) rfl) (Or.inl rfl) vc
  · replace vc := vc.2 c10
    refine s_iload (oe_t80 34 (q := (55, .iload 4, 2)) rfl) rfl ?_
    refine s_if_eq (oe_t80 35 (q := (57, .ifCond .eq 92, 3)) rfl) (fun c12 => ?_) (fun c12 => ?_)
    · replace vc := vc.1 c12
      refine s_iload (oe_t80 53 (q := (92, .iload 4, 2)) rfl) rfl ?_
      refine s_if_eq (oe_t80 54 (q := (94, .ifCond .eq 99, 3)) rfl) (fun c13 => ?_) (fun c13 => ?_)
      · replace vc := vc.1 c13
        refine s_iconst (oe_t80 57 (q := (99, .iconst 1, 1)) rfl) ?_
        refine s_istore (oe_t80 58 (q := (100, .istore 5, 2)) rfl) ?_
        exact oe_V.fg (oe_M_mono _) (show oe_fg [some (.inr (.inl v0)), none, some (.inl v2), some (.inl v3), none, some (.inl 1), none] _ from ⟨rfl, ⟨rfl, ⟨rfl, ⟨rfl, trivial⟩⟩⟩⟩) vc
      · replace vc := vc.2 c13
        refine s_iconst (oe_t80 55 (q := (97, .iconst 3, 1)) rfl) ?_
        exact s_iret (oe_t80 56 (q := (98, .ireturn, 1)) rfl) (Or.inl rfl) vc
    · replace vc := vc.2 c12
      refine s_aload_n (oe_t80 36 (q := (60, .aload_n 0, 1)) rfl) rfl ?_
      obtain ⟨s14, vc⟩ := vc
      obtain ⟨q15, p16, vc⟩ := vc
      refine s_getr (oe_t80 37 (q := (61, .getfield 7051, 3)) rfl) s14 rfl rfl p16 ?_
      refine s_iload (oe_t80 38 (q := (64, .iload 5, 2)) rfl) rfl ?_
      obtain ⟨n18, s17, vc⟩ := vc
      obtain ⟨i19, i20, vc⟩ := vc
      refine s_iaload (oe_t80 39 (q := (66, .iaload, 1)) rfl) s17 i19 i20 ?_
      refine s_aload_n (oe_t80 40 (q := (67, .aload_n 0, 1)) rfl) rfl ?_
      refine s_getr (oe_t80 41 (q := (68, .getfield 7051, 3)) rfl) s14 rfl rfl p16 ?_
      refine s_iload_n (oe_t80 42 (q := (71, .iload_n 2, 1)) rfl) rfl ?_
      refine s_iload (oe_t80 43 (q := (72, .iload 5, 2)) rfl) rfl ?_
      obtain ⟨r21, vc⟩ := vc
      refine s_iadd (oe_t80 44 (q := (74, .iadd, 1)) rfl) r21 ?_
      obtain ⟨i22, i23, vc⟩ := vc
      refine s_iaload (oe_t80 45 (q := (75, .iaload, 1)) rfl) s17 i22 i23 ?_
      refine s_ic_ne (oe_t80 46 (q := (76, .if_icmp .ne 83, 3)) rfl) (fun c24 => ?_) (fun c24 => ?_)
      · replace vc := vc.1 c24
        refine s_iconst (oe_t80 49 (q := (83, .iconst 0, 1)) rfl) ?_
        refine s_istore (oe_t80 50 (q := (84, .istore 4, 2)) rfl) ?_
        obtain ⟨r25, vc⟩ := vc
        refine s_iinc (oe_t80 51 (q := (86, .iinc 5 1, 3)) rfl) rfl r25 ?_
        refine s_goto (oe_t80 52 (q := (89, .goto 49, 3)) rfl) ?_
        exact oe_V.fg (oe_M_mono _) (show oe_fg [some (.inr (.inl v0)), none, some (.inl v2), some (.inl v3), some (.inl 0), some (.inl (v5 + 1)), none] _ from ⟨rfl, ⟨rfl, ⟨rfl, ⟨rfl, ⟨rfl, trivial⟩⟩⟩⟩⟩) vc
      · replace vc := vc.2 c24
        refine s_iconst (oe_t80 47 (q := (79, .iconst 1, 1)) rfl) ?_
        refine s_goto (oe_t80 48 (q := (80, .goto 84, 3)) rfl) ?_
        refine s_istore (oe_t80 50 (q := (84, .istore 4, 2)) rfl) ?_
        obtain ⟨r26, vc⟩ := vc
        refine s_iinc (oe_t80 51 (q := (86, .iinc 5 1, 3)) rfl) rfl r26 ?_
        refine s_goto (oe_t80 52 (q := (89, .goto 49, 3)) rfl) ?_
        exact oe_V.fg (oe_M_mono _) (show oe_fg [some (.inr (.inl v0)), none, some (.inl v2), some (.inl v3), some (.inl 1), some (.inl (v5 + 1)), none] _ from ⟨rfl, ⟨rfl, ⟨rfl, ⟨rfl, ⟨rfl, trivial⟩⟩⟩⟩⟩) vc
theorem g80_102 {d : Nat} {sh : List (Nat × Nat)} {g : Nat → Nat → Option Nat} {h : Nat → Nat → Int} {Q : oeQ} {v0 : Nat} {v2 : Int} {v3 : Int} {v5 : Int}
    (vc : (3 ≤ v5 → Q (some (.inl 0)) (sh, g, h)) ∧ (v5 < 3 → (v5 ≠ 1 → sh[v0]? = some (12, 45) ∧ ∀ h30, h30 = oe_up h v0 22 v3 → (v5 ≠ 1 → ∀ h33, h33 = oe_up h30 v0 24 v2 → oe_V (oe_cost 80) 80 (oe_M (d + 1)) none Q 141 [some (.inr (.inl v0)), none, some (.inl v2), some (.inl v3), none, some (.inl v5), some (.inl 0)] [] (sh, g, h33) 0 0) ∧ (v5 = 1 → ∀ h35, h35 = oe_up h30 v0 24 v3 → oe_V (oe_cost 80) 80 (oe_M (d + 1)) none Q 141 [some (.inr (.inl v0)), none, some (.inl v2), some (.inl v3), none, some (.inl v5), some (.inl 0)] [] (sh, g, h35) 0 0)) ∧ (v5 = 1 → sh[v0]? = some (12, 45) ∧ ∀ h38, h38 = oe_up h v0 22 v2 → (v5 ≠ 1 → ∀ h41, h41 = oe_up h38 v0 24 v2 → oe_V (oe_cost 80) 80 (oe_M (d + 1)) none Q 141 [some (.inr (.inl v0)), none, some (.inl v2), some (.inl v3), none, some (.inl v5), some (.inl 0)] [] (sh, g, h41) 0 0) ∧ (v5 = 1 → ∀ h43, h43 = oe_up h38 v0 24 v3 → oe_V (oe_cost 80) 80 (oe_M (d + 1)) none Q 141 [some (.inr (.inl v0)), none, some (.inl v2), some (.inl v3), none, some (.inl v5), some (.inl 0)] [] (sh, g, h43) 0 0)))) :
    oe_V (oe_cost 80) 80 (oe_M (d + 1)) none Q 102 [some (.inr (.inl v0)), none, some (.inl v2), some (.inl v3), none, some (.inl v5), none] [] (sh, g, h) 0 0 := by
  refine s_iload (oe_t80 59 (q := (102, .iload 5, 2)) rfl) rfl ?_
  refine s_iconst (oe_t80 60 (q := (104, .iconst 3, 1)) rfl) ?_
  refine s_ic_ge (oe_t80 61 (q := (105, .if_icmp .ge 244, 3)) rfl) (fun c27 => ?_) (fun c27 => ?_)
  · replace vc := vc.1 c27
    refine s_iconst (oe_t80 131 (q := (244, .iconst 0, 1)) rfl) ?_
    exact s_iret (oe_t80 132 (q := (245, .ireturn, 1)) rfl) (Or.inl rfl) vc
  · replace vc := vc.2 c27
    refine s_aload_n (oe_t80 62 (q := (108, .aload_n 0, 1)) rfl) rfl ?_
    refine s_iload (oe_t80 63 (q := (109, .iload 5, 2)) rfl) rfl ?_
    refine s_iconst (oe_t80 64 (q := (111, .iconst 1, 1)) rfl) ?_
    refine s_ic_ne (oe_t80 65 (q := (112, .if_icmp .ne 119, 3)) rfl) (fun c28 => ?_) (fun c28 => ?_)
    · replace vc := vc.1 c28
      refine s_iload_n (oe_t80 68 (q := (119, .iload_n 3, 1)) rfl) rfl ?_
      obtain ⟨s29, vc⟩ := vc
      refine t_puti (oe_t80 69 (q := (120, .putfield 7220, 3)) rfl) s29 rfl (Or.inl rfl) (fun h30 e31 => ?_)
      replace vc := vc h30 e31
      refine s_aload_n (oe_t80 70 (q := (123, .aload_n 0, 1)) rfl) rfl ?_
      refine s_iload (oe_t80 71 (q := (124, .iload 5, 2)) rfl) rfl ?_
      refine s_iconst (oe_t80 72 (q := (126, .iconst 1, 1)) rfl) ?_
      refine s_ic_ne (oe_t80 73 (q := (127, .if_icmp .ne 134, 3)) rfl) (fun c32 => ?_) (fun c32 => ?_)
      · replace vc := vc.1 c32
        refine s_iload_n (oe_t80 76 (q := (134, .iload_n 2, 1)) rfl) rfl ?_
        refine t_puti (oe_t80 77 (q := (135, .putfield 7240, 3)) rfl) s29 rfl (Or.inl rfl) (fun h33 e34 => ?_)
        replace vc := vc h33 e34
        refine s_iconst (oe_t80 78 (q := (138, .iconst 0, 1)) rfl) ?_
        refine s_istore (oe_t80 79 (q := (139, .istore 6, 2)) rfl) ?_
        exact oe_V.fg (oe_M_mono _) (show oe_fg [some (.inr (.inl v0)), none, some (.inl v2), some (.inl v3), none, some (.inl v5), some (.inl 0)] _ from ⟨rfl, ⟨rfl, ⟨rfl, ⟨rfl, ⟨rfl, trivial⟩⟩⟩⟩⟩) vc
      · replace vc := vc.2 c32
        refine s_iload_n (oe_t80 74 (q := (130, .iload_n 3, 1)) rfl) rfl ?_
        refine s_goto (oe_t80 75 (q := (131, .goto 135, 3)) rfl) ?_
        refine t_puti (oe_t80 77 (q := (135, .putfield 7240, 3)) rfl) s29 rfl (Or.inl rfl) (fun h35 e36 => ?_)
        replace vc := vc h35 e36
        refine s_iconst (oe_t80 78 (q := (138, .iconst 0, 1)) rfl) ?_
        refine s_istore (oe_t80 79 (q := (139, .istore 6, 2)) rfl) ?_
        exact oe_V.fg (oe_M_mono _) (show oe_fg [some (.inr (.inl v0)), none, some (.inl v2), some (.inl v3), none, some (.inl v5), some (.inl 0)] _ from ⟨rfl, ⟨rfl, ⟨rfl, ⟨rfl, ⟨rfl, trivial⟩⟩⟩⟩⟩) vc
    · replace vc := vc.2 c28
      refine s_iload_n (oe_t80 66 (q := (115, .iload_n 2, 1)) rfl) rfl ?_
      refine s_goto (oe_t80 67 (q := (116, .goto 120, 3)) rfl) ?_
      obtain ⟨s37, vc⟩ := vc
      refine t_puti (oe_t80 69 (q := (120, .putfield 7220, 3)) rfl) s37 rfl (Or.inl rfl) (fun h38 e39 => ?_)
      replace vc := vc h38 e39
      refine s_aload_n (oe_t80 70 (q := (123, .aload_n 0, 1)) rfl) rfl ?_
      refine s_iload (oe_t80 71 (q := (124, .iload 5, 2)) rfl) rfl ?_
      refine s_iconst (oe_t80 72 (q := (126, .iconst 1, 1)) rfl) ?_
      refine s_ic_ne (oe_t80 73 (q := (127, .if_icmp .ne 134, 3)) rfl) (fun c40 => ?_) (fun c40 => ?_)
      · replace vc := vc.1 c40
        refine s_iload_n (oe_t80 76 (q := (134, .iload_n 2, 1)) rfl) rfl ?_
        refine t_puti (oe_t80 77 (q := (135, .putfield 7240, 3)) rfl) s37 rfl (Or.inl rfl) (fun h41 e42 => ?_)
        replace vc := vc h41 e42
        refine s_iconst (oe_t80 78 (q := (138, .iconst 0, 1)) rfl) ?_
        refine s_istore (oe_t80 79 (q := (139, .istore 6, 2)) rfl) ?_
        exact oe_V.fg (oe_M_mono _) (show oe_fg [some (.inr (.inl v0)), none, some (.inl v2), some (.inl v3), none, some (.inl v5), some (.inl 0)] _ from ⟨rfl, ⟨rfl, ⟨rfl, ⟨rfl, ⟨rfl, trivial⟩⟩⟩⟩⟩) vc
      · replace vc := vc.2 c40
        refine s_iload_n (oe_t80 74 (q := (130, .iload_n 3, 1)) rfl) rfl ?_
        refine s_goto (oe_t80 75 (q := (131, .goto 135, 3)) rfl) ?_
        refine t_puti (oe_t80 77 (q := (135, .putfield 7240, 3)) rfl) s37 rfl (Or.inl rfl) (fun h43 e44 => ?_)
        replace vc := vc h43 e44
        refine s_iconst (oe_t80 78 (q := (138, .iconst 0, 1)) rfl) ?_
        refine s_istore (oe_t80 79 (q := (139, .istore 6, 2)) rfl) ?_
        exact oe_V.fg (oe_M_mono _) (show oe_fg [some (.inr (.inl v0)), none, some (.inl v2), some (.inl v3), none, some (.inl v5), some (.inl 0)] _ from ⟨rfl, ⟨rfl, ⟨rfl, ⟨rfl, ⟨rfl, trivial⟩⟩⟩⟩⟩) vc
theorem g80_141 {d : Nat} {sh : List (Nat × Nat)} {g : Nat → Nat → Option Nat} {h : Nat → Nat → Int} {Q : oeQ} {v0 : Nat} {v2 : Int} {v3 : Int} {v5 : Int} {v6 : Int}
    (vc : sh[v0]? = some (12, 45) ∧ ((h v0 22) ≤ v6 → oe_V (oe_cost 80) 80 (oe_M (d + 1)) none Q 186 [some (.inr (.inl v0)), none, some (.inl v2), some (.inl v3), none, some (.inl v5), some (.inl 0)] [] (sh, g, h) 0 0) ∧ (v6 < (h v0 22) → ∃ q47, g v0 21 = some q47 ∧ ∃ q49, g v0 5 = some q49 ∧ (v5 ≠ 1 → oe_rg (v2 + v6) ∧ ∃ n54, sh[q49]? = some (0, n54) ∧ 0 ≤ (v2 + v6) ∧ (v2 + v6) < (n54 : Nat) ∧ ∃ n58, sh[q47]? = some (0, n58) ∧ 0 ≤ v6 ∧ v6 < (n58 : Nat) ∧ ∀ h61, h61 = oe_up h q47 (v6 : Int).toNat (h q49 ((v2 + v6) : Int).toNat) → oe_rg (v6 + 1) ∧ oe_V (oe_cost 80) 80 (oe_M (d + 1)) none Q 141 [some (.inr (.inl v0)), none, some (.inl v2), some (.inl v3), none, some (.inl v5), some (.inl (v6 + 1))] [] (sh, g, h61) 0 0) ∧ (v5 = 1 → ∃ n65, sh[q49]? = some (0, n65) ∧ 0 ≤ v6 ∧ v6 < (n65 : Nat) ∧ ∃ n69, sh[q47]? = some (0, n69) ∧ 0 ≤ v6 ∧ v6 < (n69 : Nat) ∧ ∀ h72, h72 = oe_up h q47 (v6 : Int).toNat (h q49 (v6 : Int).toNat) → oe_rg (v6 + 1) ∧ oe_V (oe_cost 80) 80 (oe_M (d + 1)) none Q 141 [some (.inr (.inl v0)), none, some (.inl v2), some (.inl v3), none, some (.inl v5), some (.inl (v6 + 1))] [] (sh, g, h72) 0 0))) :
    oe_V (oe_cost 80) 80 (oe_M (d + 1)) none Q 141 [some (.inr (.inl v0)), none, some (.inl v2), some (.inl v3), none, some (.inl v5), some (.inl v6)] [] (sh, g, h) 0 0 := by
  refine s_iload (oe_t80 80 (q := (141, .iload 6, 2)) rfl) rfl ?_
  refine s_aload_n (oe_t80 81 (q := (143, .aload_n 0, 1)) rfl) rfl ?_
  obtain ⟨s45, vc⟩ := vc
  refine s_geti (oe_t80 82 (q := (144, .getfield 7220, 3)) rfl) s45 rfl (by decide) ?_
  refine s_ic_ge (oe_t80 83 (q := (147, .if_icmp .ge 183, 3)) rfl) (fun c46 => ?_) (fun c46 => ?_)
  · replace vc := vc.1 c46
    refine s_iconst (oe_t80 101 (q := (183, .iconst 0, 1)) rfl) ?_
    refine s_istore (oe_t80 102 (q := (184, .istore 6, 2)) rfl) ?_
    exact oe_V.fg (oe_M_mono _) (show oe_fg [some (.inr (.inl v0)), none, some (.inl v2), some (.inl v3), none, some (.inl v5), some (.inl 0)] _ from ⟨rfl, ⟨rfl, ⟨rfl, ⟨rfl, ⟨rfl, trivial⟩⟩⟩⟩⟩) vc
  · replace vc := vc.2 c46
    refine s_aload_n (oe_t80 84 (q := (150, .aload_n 0, 1)) rfl) rfl ?_
    obtain ⟨q47, p48, vc⟩ := vc
    refine s_getr (oe_t80 85 (q := (151, .getfield 7211, 3)) rfl) s45 rfl rfl p48 ?_
    refine s_iload (oe_t80 86 (q := (154, .iload 6, 2)) rfl) rfl ?_
    refine s_aload_n (oe_t80 87 (q := (156, .aload_n 0, 1)) rfl) rfl ?_
    obtain ⟨q49, p50, vc⟩ := vc
    refine s_getr (oe_t80 88 (q := (157, .getfield 7051, 3)) rfl) s45 rfl rfl p50 ?_
    refine s_iload (oe_t80 89 (q := (160, .iload 5, 2)) rfl) rfl ?_
    refine s_iconst (oe_t80 90 (q := (162, .iconst 1, 1)) rfl) ?_
    refine s_ic_ne (oe_t80 91 (q := (163, .if_icmp .ne 171, 3)) rfl) (fun c51 => ?_) (fun c51 => ?_)
    · replace vc := vc.1 c51
      refine s_iload_n (oe_t80 94 (q := (171, .iload_n 2, 1)) rfl) rfl ?_
      refine s_iload (oe_t80 95 (q := (172, .iload 6, 2)) rfl) rfl ?_
      obtain ⟨r52, vc⟩ := vc
      refine s_iadd (oe_t80 96 (q := (174, .iadd, 1)) rfl) r52 ?_
      obtain ⟨n54, s53, vc⟩ := vc
      obtain ⟨i55, i56, vc⟩ := vc
      refine s_iaload (oe_t80 97 (q := (175, .iaload, 1)) rfl) s53 i55 i56 ?_
      obtain ⟨n58, s57, vc⟩ := vc
      obtain ⟨i59, i60, vc⟩ := vc
      refine t_iastore (oe_t80 98 (q := (176, .iastore, 1)) rfl) s57 i59 i60 (fun h61 e62 => ?_)
      replace vc := vc h61 e62
      obtain ⟨r63, vc⟩ := vc
      refine s_iinc (oe_t80 99 (q := (177, .iinc 6 1, 3)) rfl) rfl r63 ?_
      refine s_goto (oe_t80 100 (q := (180, .goto 141, 3)) rfl) ?_
      exact oe_V.fg (oe_M_mono _) (show oe_fg [some (.inr (.inl v0)), none, some (.inl v2), some (.inl v3), none, some (.inl v5), some (.inl (v6 + 1))] _ from ⟨rfl, ⟨rfl, ⟨rfl, ⟨rfl, ⟨rfl, trivial⟩⟩⟩⟩⟩) vc
    · replace vc := vc.2 c51
      refine s_iload (oe_t80 92 (q := (166, .iload 6, 2)) rfl) rfl ?_
      refine s_goto (oe_t80 93 (q := (168, .goto 175, 3)) rfl) ?_
      obtain ⟨n65, s64, vc⟩ := vc
      obtain ⟨i66, i67, vc⟩ := vc
      refine s_iaload (oe_t80 97 (q := (175, .iaload, 1)) rfl) s64 i66 i67 ?_
      obtain ⟨n69, s68, vc⟩ := vc
      obtain ⟨i70, i71, vc⟩ := vc
      refine t_iastore (oe_t80 98 (q := (176, .iastore, 1)) rfl) s68 i70 i71 (fun h72 e73 => ?_)
      replace vc := vc h72 e73
      obtain ⟨r74, vc⟩ := vc
      refine s_iinc (oe_t80 99 (q := (177, .iinc 6 1, 3)) rfl) rfl r74 ?_
      refine s_goto (oe_t80 100 (q := (180, .goto 141, 3)) rfl) ?_
      exact oe_V.fg (oe_M_mono _) (show oe_fg [some (.inr (.inl v0)), none, some (.inl v2), some (.inl v3), none, some (.inl v5), some (.inl (v6 + 1))] _ from ⟨rfl, ⟨rfl, ⟨rfl, ⟨rfl, ⟨rfl, trivial⟩⟩⟩⟩⟩) vc
theorem g80_186 {d : Nat} {sh : List (Nat × Nat)} {g : Nat → Nat → Option Nat} {h : Nat → Nat → Int} {Q : oeQ} {v0 : Nat} {v2 : Int} {v3 : Int} {v5 : Int} {v6 : Int}
    (vc : sh[v0]? = some (12, 45) ∧ ((h v0 24) ≤ v6 → oe_M (d + 1) 42 [.inr (.inl v0)] (sh, g, h) (fun r hp => ∃ (x78 : Int) (h77 : Nat → Nat → Int), r = some (.inl x78) ∧ hp = (sh, g, h77) ∧ (x78 = 0 → oe_rg (v5 + 1) ∧ oe_V (oe_cost 80) 80 (oe_M (d + 1)) none Q 102 [some (.inr (.inl v0)), none, some (.inl v2), some (.inl v3), none, some (.inl (v5 + 1)), none] [] (sh, g, h77) 0 0) ∧ (x78 ≠ 0 → Q (some (.inl v5)) (sh, g, h77)))) ∧ (v6 < (h v0 24) → ∃ q81, g v0 23 = some q81 ∧ ∃ q83, g v0 5 = some q83 ∧ (v5 ≠ 1 → ∃ n87, sh[q83]? = some (0, n87) ∧ 0 ≤ v6 ∧ v6 < (n87 : Nat) ∧ ∃ n91, sh[q81]? = some (0, n91) ∧ 0 ≤ v6 ∧ v6 < (n91 : Nat) ∧ ∀ h94, h94 = oe_up h q81 (v6 : Int).toNat (h q83 (v6 : Int).toNat) → oe_rg (v6 + 1) ∧ oe_V (oe_cost 80) 80 (oe_M (d + 1)) none Q 186 [some (.inr (.inl v0)), none, some (.inl v2), some (.inl v3), none, some (.inl v5), some (.inl (v6 + 1))] [] (sh, g, h94) 0 0) ∧ (v5 = 1 → oe_rg (v2 + v6) ∧ ∃ n99, sh[q83]? = some (0, n99) ∧ 0 ≤ (v2 + v6) ∧ (v2 + v6) < (n99 : Nat) ∧ ∃ n103, sh[q81]? = some (0, n103) ∧ 0 ≤ v6 ∧ v6 < (n103 : Nat) ∧ ∀ h106, h106 = oe_up h q81 (v6 : Int).toNat (h q83 ((v2 + v6) : Int).toNat) → oe_rg (v6 + 1) ∧ oe_V (oe_cost 80) 80 (oe_M (d + 1)) none Q 186 [some (.inr (.inl v0)), none, some (.inl v2), some (.inl v3), none, some (.inl v5), some (.inl (v6 + 1))] [] (sh, g, h106) 0 0))) :
    oe_V (oe_cost 80) 80 (oe_M (d + 1)) none Q 186 [some (.inr (.inl v0)), none, some (.inl v2), some (.inl v3), none, some (.inl v5), some (.inl v6)] [] (sh, g, h) 0 0 := by
  refine s_iload (oe_t80 103 (q := (186, .iload 6, 2)) rfl) rfl ?_
  refine s_aload_n (oe_t80 104 (q := (188, .aload_n 0, 1)) rfl) rfl ?_
  obtain ⟨s75, vc⟩ := vc
  refine s_geti (oe_t80 105 (q := (189, .getfield 7240, 3)) rfl) s75 rfl (by decide) ?_
  refine s_ic_ge (oe_t80 106 (q := (192, .if_icmp .ge 228, 3)) rfl) (fun c76 => ?_) (fun c76 => ?_)
  · replace vc := vc.1 c76
    refine s_aload_n (oe_t80 124 (q := (228, .aload_n 0, 1)) rfl) rfl ?_
    refine s_callv (oe_t80 125 (q := (229, .invokevirtual 42070, 3)) rfl) rfl s75 rfl (Nat.le_of_ble_eq_true rfl) (Nat.le_of_ble_eq_true rfl) (Nat.le_of_ble_eq_true rfl) (Nat.le_of_ble_eq_true rfl) ?_
    refine oe_M_mono _ _ _ _ _ _ (fun r hp vq => ?_) vc
    obtain ⟨x78, h77, rfl, rfl, vc⟩ := vq
    show oe_V (oe_cost 80) 80 (oe_M (d + 1)) none Q 232 [some (.inr (.inl v0)), none, some (.inl v2), some (.inl v3), none, some (.inl v5), some (.inl v6)] [.inl x78] (sh, g, h77) 0 0
    refine s_if_eq (oe_t80 126 (q := (232, .ifCond .eq 238, 3)) rfl) (fun c79 => ?_) (fun c79 => ?_)
    · replace vc := vc.1 c79
      obtain ⟨r80, vc⟩ := vc
      refine s_iinc (oe_t80 129 (q := (238, .iinc 5 1, 3)) rfl) rfl r80 ?_
      refine s_goto (oe_t80 130 (q := (241, .goto 102, 3)) rfl) ?_
      exact oe_V.fg (oe_M_mono _) (show oe_fg [some (.inr (.inl v0)), none, some (.inl v2), some (.inl v3), none, some (.inl (v5 + 1)), none] _ from ⟨rfl, ⟨rfl, ⟨rfl, ⟨rfl, trivial⟩⟩⟩⟩) vc
    · replace vc := vc.2 c79
      refine s_iload (oe_t80 127 (q := (235, .iload 5, 2)) rfl) rfl ?_
      exact s_iret (oe_t80 128 (q := (237, .ireturn, 1)) rfl) (Or.inl rfl) vc
  · replace vc := vc.2 c76
    refine s_aload_n (oe_t80 107 (q := (195, .aload_n 0, 1)) rfl) rfl ?_
    obtain ⟨q81, p82, vc⟩ := vc
    refine s_getr (oe_t80 108 (q := (196, .getfield 7231, 3)) rfl) s75 rfl rfl p82 ?_
    refine s_iload (oe_t80 109 (q := (199, .iload 6, 2)) rfl) rfl ?_
    refine s_aload_n (oe_t80 110 (q := (201, .aload_n 0, 1)) rfl) rfl ?_
    obtain ⟨q83, p84, vc⟩ := vc
    refine s_getr (oe_t80 111 (q := (202, .getfield 7051, 3)) rfl) s75 rfl rfl p84 ?_
    refine s_iload (oe_t80 112 (q := (205, .iload 5, 2)) rfl) rfl ?_
    refine s_iconst (oe_t80 113 (q := (207, .iconst 1, 1)) rfl) ?_
    refine s_ic_ne (oe_t80 114 (q := (208, .if_icmp .ne 218, 3)) rfl) (fun c85 => ?_) (fun c85 => ?_)
    · replace vc := vc.1 c85
      refine s_iload (oe_t80 119 (q := (218, .iload 6, 2)) rfl) rfl ?_
      obtain ⟨n87, s86, vc⟩ := vc
      obtain ⟨i88, i89, vc⟩ := vc
      refine s_iaload (oe_t80 120 (q := (220, .iaload, 1)) rfl) s86 i88 i89 ?_
      obtain ⟨n91, s90, vc⟩ := vc
      obtain ⟨i92, i93, vc⟩ := vc
      refine t_iastore (oe_t80 121 (q := (221, .iastore, 1)) rfl) s90 i92 i93 (fun h94 e95 => ?_)
      replace vc := vc h94 e95
      obtain ⟨r96, vc⟩ := vc
      refine s_iinc (oe_t80 122 (q := (222, .iinc 6 1, 3)) rfl) rfl r96 ?_
      refine s_goto (oe_t80 123 (q := (225, .goto 186, 3)) rfl) ?_
      exact oe_V.fg (oe_M_mono _) (show oe_fg [some (.inr (.inl v0)), none, some (.inl v2), some (.inl v3), none, some (.inl v5), some (.inl (v6 + 1))] _ from ⟨rfl, ⟨rfl, ⟨rfl, ⟨rfl, ⟨rfl, trivial⟩⟩⟩⟩⟩) vc
    · replace vc := vc.2 c85
      refine s_iload_n (oe_t80 115 (q := (211, .iload_n 2, 1)) rfl) rfl ?_
      refine s_iload (oe_t80 116 (q := (212, .iload 6, 2)) rfl) rfl ?_
      obtain ⟨r97, vc⟩ := vc
      refine s_iadd (oe_t80 117 (q := (214, .iadd, 1)) rfl) r97 ?_
      refine s_goto (oe_t80 118 (q := (215, .goto 220, 3)) rfl) ?_
      obtain ⟨n99, s98, vc⟩ := vc
      obtain ⟨i100, i101, vc⟩ := vc
      refine s_iaload (oe_t80 120 (q := (220, .iaload, 1)) rfl) s98 i100 i101 ?_
      obtain ⟨n103, s102, vc⟩ := vc
      obtain ⟨i104, i105, vc⟩ := vc
      refine t_iastore (oe_t80 121 (q := (221, .iastore, 1)) rfl) s102 i104 i105 (fun h106 e107 => ?_)
      replace vc := vc h106 e107
      obtain ⟨r108, vc⟩ := vc
      refine s_iinc (oe_t80 122 (q := (222, .iinc 6 1, 3)) rfl) rfl r108 ?_
      refine s_goto (oe_t80 123 (q := (225, .goto 186, 3)) rfl) ?_
      exact oe_V.fg (oe_M_mono _) (show oe_fg [some (.inr (.inl v0)), none, some (.inl v2), some (.inl v3), none, some (.inl v5), some (.inl (v6 + 1))] _ from ⟨rfl, ⟨rfl, ⟨rfl, ⟨rfl, ⟨rfl, trivial⟩⟩⟩⟩⟩) vc
theorem oe_u81 : oe_c81.all (fun q => decide (oe_find oe_c81 q.1 = some q.2)) = true := by decide +kernel
theorem oe_t81 (k : Nat) {q : Nat × Jvm.ClassFile.Instr × Nat} (h : oe_c81[k]? = some q) : oe_find (oe_code 81) q.1 = some q.2 := oe_ft oe_u81 h
theorem g81 {d : Nat} {sh : List (Nat × Nat)} {g : Nat → Nat → Option Nat} {h : Nat → Nat → Int} {Q : oeQ} {v0 : Nat}
    (vc : sh[v0]? = some (12, 45) ∧ ∀ h2, h2 = oe_up h v0 0 0 → oe_M (d + 1) 36 [.inr (.inl v0), .inl 0] (sh, g, h2) (fun r hp => ∃ (x5 : Int) (h4 : Nat → Nat → Int), r = some (.inl x5) ∧ hp = (sh, g, h4) ∧ (x5 < 0 → oe_V (oe_cost 81) 81 (oe_M (d + 1)) none Q 21 [some (.inr (.inl v0)), none, some (.inl 0)] [] (sh, g, h4) 0 0) ∧ (0 ≤ x5 → oe_rg ((-1) - x5) ∧ Q (some (.inl ((-1) - x5))) (sh, g, h4)))) :
    oe_M (d + 2) 81 [.inr (.inl v0)] (sh, g, h) Q := by
  refine oe_M.of (by simp [oe_c1]) (Nat.le_of_ble_eq_true rfl) ?_
  show oe_V (oe_cost 81) 81 (oe_M (d + 1)) none Q 0 [some (.inr (.inl v0)), none, none] [] (sh, g, h) 0 0
  refine s_aload_n (oe_t81 0 (q := (0, .aload_n 0, 1)) rfl) rfl ?_
  refine s_iconst (oe_t81 1 (q := (1, .iconst 0, 1)) rfl) ?_
  obtain ⟨s1, vc⟩ := vc
  refine t_puti (oe_t81 2 (q := (2, .putfield 7000, 3)) rfl) s1 rfl (Or.inl rfl) (fun h2 e3 => ?_)
  replace vc := vc h2 e3
  refine s_aload_n (oe_t81 3 (q := (5, .aload_n 0, 1)) rfl) rfl ?_
  refine s_iconst (oe_t81 4 (q := (6, .iconst 0, 1)) rfl) ?_
  refine s_callv (oe_t81 5 (q := (7, .invokevirtual 36071, 3)) rfl) rfl s1 rfl (Nat.le_of_ble_eq_true rfl) (Nat.le_of_ble_eq_true rfl) (Nat.le_of_ble_eq_true rfl) (Nat.le_of_ble_eq_true rfl) ?_
  refine oe_M_mono _ _ _ _ _ _ (fun r hp vq => ?_) vc
  obtain ⟨x5, h4, rfl, rfl, vc⟩ := vq
  show oe_V (oe_cost 81) 81 (oe_M (d + 1)) none Q 10 [some (.inr (.inl v0)), none, none] [.inl x5] (sh, g, h4) 0 0
  refine s_istore_n (oe_t81 6 (q := (10, .istore_n 1, 1)) rfl) ?_
  refine s_iload_n (oe_t81 7 (q := (11, .iload_n 1, 1)) rfl) rfl ?_
  refine s_if_lt (oe_t81 8 (q := (12, .ifCond .lt 19, 3)) rfl) (fun c6 => ?_) (fun c6 => ?_)
  · replace vc := vc.1 c6
    refine s_iconst (oe_t81 13 (q := (19, .iconst 0, 1)) rfl) ?_
    refine s_istore_n (oe_t81 14 (q := (20, .istore_n 2, 1)) rfl) ?_
    exact oe_V.fg (oe_M_mono _) (show oe_fg [some (.inr (.inl v0)), none, some (.inl 0)] _ from ⟨rfl, ⟨rfl, trivial⟩⟩) vc
  · replace vc := vc.2 c6
    refine s_iconst (oe_t81 9 (q := (15, .iconst (-1), 1)) rfl) ?_
    refine s_iload_n (oe_t81 10 (q := (16, .iload_n 1, 1)) rfl) rfl ?_
    obtain ⟨r7, vc⟩ := vc
    refine s_isub (oe_t81 11 (q := (17, .isub, 1)) rfl) r7 ?_
    exact s_iret (oe_t81 12 (q := (18, .ireturn, 1)) rfl) (Or.inl rfl) vc
theorem g81_21 {d : Nat} {sh : List (Nat × Nat)} {g : Nat → Nat → Option Nat} {h : Nat → Nat → Int} {Q : oeQ} {v0 : Nat} {v2 : Int}
    (vc : sh[v0]? = some (12, 45) ∧ ((h v0 7) ≤ v2 → oe_M (d + 1) 62 [.inr (.inl v0), .inl 0, .inl (h v0 6)] (sh, g, h) (fun r hp => ∃ (x11 : Int) (h10 : Nat → Nat → Int), r = some (.inl x11) ∧ hp = (sh, g, h10) ∧ (x11 ≠ 0 → ∀ h13, h13 = oe_up h10 v0 40 0 → oe_M (d + 1) 60 [.inr (.inl v0), .inl 0, .inl (h13 v0 6), .inl 60] (sh, g, h13) (fun r hp => ∃ (x16 : Int) (h15 : Nat → Nat → Int), r = some (.inl x16) ∧ hp = (sh, g, h15) ∧ (x16 ≠ 0 → ∀ h18, h18 = oe_up h15 v0 3 0 → oe_V (oe_cost 81) 81 (oe_M (d + 1)) none Q 91 [some (.inr (.inl v0)), none, some (.inl 0)] [] (sh, g, h18) 0 0) ∧ (x16 = 0 → Q (some (.inl (-100))) (sh, g, h15)))) ∧ (x11 = 0 → Q (some (.inl (-100))) (sh, g, h10)))) ∧ (v2 < (h v0 7) → ∃ q20, g v0 34 = some q20 ∧ ∃ q22, g v0 5 = some q22 ∧ ∃ n25, sh[q22]? = some (0, n25) ∧ 0 ≤ v2 ∧ v2 < (n25 : Nat) ∧ ∃ n29, sh[q20]? = some (0, n29) ∧ 0 ≤ v2 ∧ v2 < (n29 : Nat) ∧ ∀ h32, h32 = oe_up h q20 (v2 : Int).toNat (h q22 (v2 : Int).toNat) → oe_rg (v2 + 1) ∧ oe_V (oe_cost 81) 81 (oe_M (d + 1)) none Q 21 [some (.inr (.inl v0)), none, some (.inl (v2 + 1))] [] (sh, g, h32) 0 0)) :
    oe_V (oe_cost 81) 81 (oe_M (d + 1)) none Q 21 [some (.inr (.inl v0)), none, some (.inl v2)] [] (sh, g, h) 0 0 := by
  refine s_iload_n (oe_t81 15 (q := (21, .iload_n 2, 1)) rfl) rfl ?_
  refine s_aload_n (oe_t81 16 (q := (22, .aload_n 0, 1)) rfl) rfl ?_
  obtain ⟨s8, vc⟩ := vc
  refine s_geti (oe_t81 17 (q := (23, .getfield 7070, 3)) rfl) s8 rfl (by decide) ?_
  refine s_ic_ge (oe_t81 18 (q := (26, .if_icmp .ge 47, 3)) rfl) (fun c9 => ?_) (fun c9 => ?_)
  · replace vc := vc.1 c9
    refine s_aload_n (oe_t81 29 (q := (47, .aload_n 0, 1)) rfl) rfl ?_
    refine s_iconst (oe_t81 30 (q := (48, .iconst 0, 1)) rfl) ?_
    refine s_aload_n (oe_t81 31 (q := (49, .aload_n 0, 1)) rfl) rfl ?_
    refine s_geti (oe_t81 32 (q := (50, .getfield 7060, 3)) rfl) s8 rfl (by decide) ?_
    refine s_callv (oe_t81 33 (q := (53, .invokevirtual 62072, 3)) rfl) rfl s8 rfl (Nat.le_of_ble_eq_true rfl) (Nat.le_of_ble_eq_true rfl) (Nat.le_of_ble_eq_true rfl) (Nat.le_of_ble_eq_true rfl) ?_
    refine oe_M_mono _ _ _ _ _ _ (fun r hp vq => ?_) vc
    obtain ⟨x11, h10, rfl, rfl, vc⟩ := vq
    show oe_V (oe_cost 81) 81 (oe_M (d + 1)) none Q 56 [some (.inr (.inl v0)), none, some (.inl v2)] [.inl x11] (sh, g, h10) 0 0
    refine s_if_ne (oe_t81 34 (q := (56, .ifCond .ne 62, 3)) rfl) (fun c12 => ?_) (fun c12 => ?_)
    · replace vc := vc.1 c12
      refine s_aload_n (oe_t81 37 (q := (62, .aload_n 0, 1)) rfl) rfl ?_
      refine s_iconst (oe_t81 38 (q := (63, .iconst 0, 1)) rfl) ?_
      refine t_puti (oe_t81 39 (q := (64, .putfield 7400, 3)) rfl) s8 rfl (Or.inl rfl) (fun h13 e14 => ?_)
      replace vc := vc h13 e14
      refine s_aload_n (oe_t81 40 (q := (67, .aload_n 0, 1)) rfl) rfl ?_
      refine s_iconst (oe_t81 41 (q := (68, .iconst 0, 1)) rfl) ?_
      refine s_aload_n (oe_t81 42 (q := (69, .aload_n 0, 1)) rfl) rfl ?_
      refine s_geti (oe_t81 43 (q := (70, .getfield 7060, 3)) rfl) s8 rfl (by decide) ?_
      refine s_bipush (oe_t81 44 (q := (73, .bipush 60, 2)) rfl) ?_
      refine s_callv (oe_t81 45 (q := (75, .invokevirtual 60073, 3)) rfl) rfl s8 rfl (Nat.le_of_ble_eq_true rfl) (Nat.le_of_ble_eq_true rfl) (Nat.le_of_ble_eq_true rfl) (Nat.le_of_ble_eq_true rfl) ?_
      refine oe_M_mono _ _ _ _ _ _ (fun r hp vq => ?_) vc
      obtain ⟨x16, h15, rfl, rfl, vc⟩ := vq
      show oe_V (oe_cost 81) 81 (oe_M (d + 1)) none Q 78 [some (.inr (.inl v0)), none, some (.inl v2)] [.inl x16] (sh, g, h15) 0 0
      refine s_if_ne (oe_t81 46 (q := (78, .ifCond .ne 84, 3)) rfl) (fun c17 => ?_) (fun c17 => ?_)
      · replace vc := vc.1 c17
        refine s_aload_n (oe_t81 49 (q := (84, .aload_n 0, 1)) rfl) rfl ?_
        refine s_iconst (oe_t81 50 (q := (85, .iconst 0, 1)) rfl) ?_
        refine t_puti (oe_t81 51 (q := (86, .putfield 7030, 3)) rfl) s8 rfl (Or.inl rfl) (fun h18 e19 => ?_)
        replace vc := vc h18 e19
        refine s_iconst (oe_t81 52 (q := (89, .iconst 0, 1)) rfl) ?_
        refine s_istore_n (oe_t81 53 (q := (90, .istore_n 2, 1)) rfl) ?_
        exact oe_V.fg (oe_M_mono _) (show oe_fg [some (.inr (.inl v0)), none, some (.inl 0)] _ from ⟨rfl, ⟨rfl, trivial⟩⟩) vc
      · replace vc := vc.2 c17
        refine s_bipush (oe_t81 47 (q := (81, .bipush (-100), 2)) rfl) ?_
        exact s_iret (oe_t81 48 (q := (83, .ireturn, 1)) rfl) (Or.inl rfl) vc
    · replace vc := vc.2 c12
      refine s_bipush (oe_t81 35 (q := (59, .bipush (-100), 2)) rfl) ?_
      exact s_iret (oe_t81 36 (q := (61, .ireturn, 1)) rfl) (Or.inl rfl) vc
  · replace vc := vc.2 c9
    refine s_aload_n (oe_t81 19 (q := (29, .aload_n 0, 1)) rfl) rfl ?_
    obtain ⟨q20, p21, vc⟩ := vc
    refine s_getr (oe_t81 20 (q := (30, .getfield 7341, 3)) rfl) s8 rfl rfl p21 ?_
    refine s_iload_n (oe_t81 21 (q := (33, .iload_n 2, 1)) rfl) rfl ?_
    refine s_aload_n (oe_t81 22 (q := (34, .aload_n 0, 1)) rfl) rfl ?_
    obtain ⟨q22, p23, vc⟩ := vc
    refine s_getr (oe_t81 23 (q := (35, .getfield 7051, 3)) rfl) s8 rfl rfl p23 ?_
    refine s_iload_n (oe_t81 24 (q := (38, .iload_n 2, 1)) rfl) rfl ?_
    obtain ⟨n25, s24, vc⟩ := vc
    obtain ⟨i26, i27, vc⟩ := vc
    refine s_iaload (oe_t81 25 (q := (39, .iaload, 1)) rfl) s24 i26 i27 ?_
    obtain ⟨n29, s28, vc⟩ := vc
    obtain ⟨i30, i31, vc⟩ := vc
    refine t_iastore (oe_t81 26 (q := (40, .iastore, 1)) rfl) s28 i30 i31 (fun h32 e33 => ?_)
    replace vc := vc h32 e33
    obtain ⟨r34, vc⟩ := vc
    refine s_iinc (oe_t81 27 (q := (41, .iinc 2 1, 3)) rfl) rfl r34 ?_
    refine s_goto (oe_t81 28 (q := (44, .goto 21, 3)) rfl) ?_
    exact oe_V.fg (oe_M_mono _) (show oe_fg [some (.inr (.inl v0)), none, some (.inl (v2 + 1))] _ from ⟨rfl, ⟨rfl, trivial⟩⟩) vc
theorem g81_91 {d : Nat} {sh : List (Nat × Nat)} {g : Nat → Nat → Option Nat} {h : Nat → Nat → Int} {Q : oeQ} {v0 : Nat} {v2 : Int}
    (vc : sh[v0]? = some (12, 45) ∧ ((h v0 40) ≤ v2 → Q (some (.inl (h v0 3))) (sh, g, h)) ∧ (v2 < (h v0 40) → ∃ q37, g v0 39 = some q37 ∧ ∃ n40, sh[q37]? = some (0, n40) ∧ 0 ≤ v2 ∧ v2 < (n40 : Nat) ∧ oe_M (d + 1) 33 [.inl (h q37 (v2 : Int).toNat)] (sh, g, h) (fun r hp => ∃ (x44 : Int) (h43 : Nat → Nat → Int), r = some (.inl x44) ∧ hp = (sh, g, h43) ∧ oe_M (d + 1) 78 [.inr (.inl v0), .inl x44] (sh, g, h43) (fun r hp => ∃ (h45 : Nat → Nat → Int), r = none ∧ hp = (sh, g, h45) ∧ oe_rg (v2 + 1) ∧ oe_V (oe_cost 81) 81 (oe_M (d + 1)) none Q 91 [some (.inr (.inl v0)), none, some (.inl (v2 + 1))] [] (sh, g, h45) 0 0)))) :
    oe_V (oe_cost 81) 81 (oe_M (d + 1)) none Q 91 [some (.inr (.inl v0)), none, some (.inl v2)] [] (sh, g, h) 0 0 := by
  refine s_iload_n (oe_t81 54 (q := (91, .iload_n 2, 1)) rfl) rfl ?_
  refine s_aload_n (oe_t81 55 (q := (92, .aload_n 0, 1)) rfl) rfl ?_
  obtain ⟨s35, vc⟩ := vc
  refine s_geti (oe_t81 56 (q := (93, .getfield 7400, 3)) rfl) s35 rfl (by decide) ?_
  refine s_ic_ge (oe_t81 57 (q := (96, .if_icmp .ge 118, 3)) rfl) (fun c36 => ?_) (fun c36 => ?_)
  · replace vc := vc.1 c36
    refine s_aload_n (oe_t81 67 (q := (118, .aload_n 0, 1)) rfl) rfl ?_
    refine s_geti (oe_t81 68 (q := (119, .getfield 7030, 3)) rfl) s35 rfl (by decide) ?_
    exact s_iret (oe_t81 69 (q := (122, .ireturn, 1)) rfl) (Or.inl rfl) vc
  · replace vc := vc.2 c36
    refine s_aload_n (oe_t81 58 (q := (99, .aload_n 0, 1)) rfl) rfl ?_
    refine s_aload_n (oe_t81 59 (q := (100, .aload_n 0, 1)) rfl) rfl ?_
    obtain ⟨q37, p38, vc⟩ := vc
    refine s_getr (oe_t81 60 (q := (101, .getfield 7391, 3)) rfl) s35 rfl rfl p38 ?_
    refine s_iload_n (oe_t81 61 (q := (104, .iload_n 2, 1)) rfl) rfl ?_
    obtain ⟨n40, s39, vc⟩ := vc
    obtain ⟨i41, i42, vc⟩ := vc
    refine s_iaload (oe_t81 62 (q := (105, .iaload, 1)) rfl) s39 i41 i42 ?_
    refine s_calls (oe_t81 63 (q := (106, .invokestatic 33071, 3)) rfl) (by decide) (Nat.le_of_ble_eq_true rfl) (Nat.le_of_ble_eq_true rfl) (Nat.le_of_ble_eq_true rfl) (Nat.le_of_ble_eq_true rfl) ?_
    refine oe_M_mono _ _ _ _ _ _ (fun r hp vq => ?_) vc
    obtain ⟨x44, h43, rfl, rfl, vc⟩ := vq
    show oe_V (oe_cost 81) 81 (oe_M (d + 1)) none Q 109 [some (.inr (.inl v0)), none, some (.inl v2)] [.inl x44, .inr (.inl v0)] (sh, g, h43) 0 0
    refine s_callv (oe_t81 64 (q := (109, .invokevirtual 78071, 3)) rfl) rfl s35 rfl (Nat.le_of_ble_eq_true rfl) (Nat.le_of_ble_eq_true rfl) (Nat.le_of_ble_eq_true rfl) (Nat.le_of_ble_eq_true rfl) ?_
    refine oe_M_mono _ _ _ _ _ _ (fun r hp vq => ?_) vc
    obtain ⟨h45, rfl, rfl, vc⟩ := vq
    show oe_V (oe_cost 81) 81 (oe_M (d + 1)) none Q 112 [some (.inr (.inl v0)), none, some (.inl v2)] [] (sh, g, h45) 0 0
    obtain ⟨r46, vc⟩ := vc
    refine s_iinc (oe_t81 65 (q := (112, .iinc 2 1, 3)) rfl) rfl r46 ?_
    refine s_goto (oe_t81 66 (q := (115, .goto 91, 3)) rfl) ?_
    exact oe_V.fg (oe_M_mono _) (show oe_fg [some (.inr (.inl v0)), none, some (.inl (v2 + 1))] _ from ⟨rfl, ⟨rfl, trivial⟩⟩) vc
theorem oe_u82 : oe_c82.all (fun q => decide (oe_find oe_c82 q.1 = some q.2)) = true := by decide +kernel
theorem oe_t82 (k : Nat) {q : Nat × Jvm.ClassFile.Instr × Nat} (h : oe_c82[k]? = some q) : oe_find (oe_code 82) q.1 = some q.2 := oe_ft oe_u82 h
theorem g82 {d : Nat} {sh : List (Nat × Nat)} {g : Nat → Nat → Option Nat} {h : Nat → Nat → Int} {Q : oeQ} {v0 : Nat}
    (vc : sh[v0]? = some (12, 45) ∧ ∀ h2, h2 = oe_up h v0 0 0 → oe_M (d + 1) 36 [.inr (.inl v0), .inl 2] (sh, g, h2) (fun r hp => ∃ (x5 : Int) (h4 : Nat → Nat → Int), r = some (.inl x5) ∧ hp = (sh, g, h4) ∧ (x5 < 0 → ((h4 v0 7) ≤ 30 → ∀ h8, h8 = oe_up h4 v0 29 (h4 v0 7) → oe_V (oe_cost 82) 82 (oe_M (d + 1)) none Q 42 [some (.inr (.inl v0)), none, some (.inl 0), none] [] (sh, g, h8) 0 0) ∧ (30 < (h4 v0 7) → Q (some (.inl (-200))) (sh, g, h4))) ∧ (0 ≤ x5 → oe_rg ((-1) - x5) ∧ Q (some (.inl ((-1) - x5))) (sh, g, h4)))) :
    oe_M (d + 2) 82 [.inr (.inl v0)] (sh, g, h) Q := by
  refine oe_M.of (by simp [oe_c1]) (Nat.le_of_ble_eq_true rfl) ?_
  show oe_V (oe_cost 82) 82 (oe_M (d + 1)) none Q 0 [some (.inr (.inl v0)), none, none, none] [] (sh, g, h) 0 0
  refine s_aload_n (oe_t82 0 (q := (0, .aload_n 0, 1)) rfl) rfl ?_
  refine s_iconst (oe_t82 1 (q := (1, .iconst 0, 1)) rfl) ?_
  obtain ⟨s1, vc⟩ := vc
  refine t_puti (oe_t82 2 (q := (2, .putfield 7000, 3)) rfl) s1 rfl (Or.inl rfl) (fun h2 e3 => ?_)
  replace vc := vc h2 e3
  refine s_aload_n (oe_t82 3 (q := (5, .aload_n 0, 1)) rfl) rfl ?_
  refine s_iconst (oe_t82 4 (q := (6, .iconst 2, 1)) rfl) ?_
  refine s_callv (oe_t82 5 (q := (7, .invokevirtual 36071, 3)) rfl) rfl s1 rfl (Nat.le_of_ble_eq_true rfl) (Nat.le_of_ble_eq_true rfl) (Nat.le_of_ble_eq_true rfl) (Nat.le_of_ble_eq_true rfl) ?_
  refine oe_M_mono _ _ _ _ _ _ (fun r hp vq => ?_) vc
  obtain ⟨x5, h4, rfl, rfl, vc⟩ := vq
  show oe_V (oe_cost 82) 82 (oe_M (d + 1)) none Q 10 [some (.inr (.inl v0)), none, none, none] [.inl x5] (sh, g, h4) 0 0
  refine s_istore_n (oe_t82 6 (q := (10, .istore_n 1, 1)) rfl) ?_
  refine s_iload_n (oe_t82 7 (q := (11, .iload_n 1, 1)) rfl) rfl ?_
  refine s_if_lt (oe_t82 8 (q := (12, .ifCond .lt 19, 3)) rfl) (fun c6 => ?_) (fun c6 => ?_)
  · replace vc := vc.1 c6
    refine s_aload_n (oe_t82 13 (q := (19, .aload_n 0, 1)) rfl) rfl ?_
    refine s_geti (oe_t82 14 (q := (20, .getfield 7070, 3)) rfl) s1 rfl (by decide) ?_
    refine s_bipush (oe_t82 15 (q := (23, .bipush 30, 2)) rfl) ?_
    refine s_ic_le (oe_t82 16 (q := (25, .if_icmp .le 32, 3)) rfl) (fun c7 => ?_) (fun c7 => ?_)
    · replace vc := vc.1 c7
      refine s_aload_n (oe_t82 19 (q := (32, .aload_n 0, 1)) rfl) rfl ?_
      refine s_aload_n (oe_t82 20 (q := (33, .aload_n 0, 1)) rfl) rfl ?_
      refine s_geti (oe_t82 21 (q := (34, .getfield 7070, 3)) rfl) s1 rfl (by decide) ?_
      refine t_puti (oe_t82 22 (q := (37, .putfield 7290, 3)) rfl) s1 rfl (Or.inl rfl) (fun h8 e9 => ?_)
      replace vc := vc h8 e9
      refine s_iconst (oe_t82 23 (q := (40, .iconst 0, 1)) rfl) ?_
      refine s_istore_n (oe_t82 24 (q := (41, .istore_n 2, 1)) rfl) ?_
      exact oe_V.fg (oe_M_mono _) (show oe_fg [some (.inr (.inl v0)), none, some (.inl 0), none] _ from ⟨rfl, ⟨rfl, trivial⟩⟩) vc
    · replace vc := vc.2 c7
      refine s_sipush (oe_t82 17 (q := (28, .sipush (-200), 3)) rfl) ?_
      exact s_iret (oe_t82 18 (q := (31, .ireturn, 1)) rfl) (Or.inl rfl) vc
  · replace vc := vc.2 c6
    refine s_iconst (oe_t82 9 (q := (15, .iconst (-1), 1)) rfl) ?_
    refine s_iload_n (oe_t82 10 (q := (16, .iload_n 1, 1)) rfl) rfl ?_
    obtain ⟨r10, vc⟩ := vc
    refine s_isub (oe_t82 11 (q := (17, .isub, 1)) rfl) r10 ?_
    exact s_iret (oe_t82 12 (q := (18, .ireturn, 1)) rfl) (Or.inl rfl) vc
theorem g82_42 {d : Nat} {sh : List (Nat × Nat)} {g : Nat → Nat → Option Nat} {h : Nat → Nat → Int} {Q : oeQ} {v0 : Nat} {v2 : Int}
    (vc : sh[v0]? = some (12, 45) ∧ ((h v0 7) ≤ v2 → oe_M (d + 1) 50 [.inr (.inl v0)] (sh, g, h) (fun r hp => ∃ (x14 : Int) (h13 : Nat → Nat → Int), r = some (.inl x14) ∧ hp = (sh, g, h13) ∧ ∀ h15, h15 = oe_up h13 v0 3 0 → oe_V (oe_cost 82) 82 (oe_M (d + 1)) none Q 80 [some (.inr (.inl v0)), none, some (.inl x14), some (.inl 0)] [] (sh, g, h15) 0 0)) ∧ (v2 < (h v0 7) → ∃ q17, g v0 28 = some q17 ∧ ∃ q19, g v0 5 = some q19 ∧ ∃ n22, sh[q19]? = some (0, n22) ∧ 0 ≤ v2 ∧ v2 < (n22 : Nat) ∧ ∃ n26, sh[q17]? = some (0, n26) ∧ 0 ≤ v2 ∧ v2 < (n26 : Nat) ∧ ∀ h29, h29 = oe_up h q17 (v2 : Int).toNat (h q19 (v2 : Int).toNat) → oe_rg (v2 + 1) ∧ oe_V (oe_cost 82) 82 (oe_M (d + 1)) none Q 42 [some (.inr (.inl v0)), none, some (.inl (v2 + 1)), none] [] (sh, g, h29) 0 0)) :
    oe_V (oe_cost 82) 82 (oe_M (d + 1)) none Q 42 [some (.inr (.inl v0)), none, some (.inl v2), none] [] (sh, g, h) 0 0 := by
  refine s_iload_n (oe_t82 25 (q := (42, .iload_n 2, 1)) rfl) rfl ?_
  refine s_aload_n (oe_t82 26 (q := (43, .aload_n 0, 1)) rfl) rfl ?_
  obtain ⟨s11, vc⟩ := vc
  refine s_geti (oe_t82 27 (q := (44, .getfield 7070, 3)) rfl) s11 rfl (by decide) ?_
  refine s_ic_ge (oe_t82 28 (q := (47, .if_icmp .ge 68, 3)) rfl) (fun c12 => ?_) (fun c12 => ?_)
  · replace vc := vc.1 c12
    refine s_aload_n (oe_t82 39 (q := (68, .aload_n 0, 1)) rfl) rfl ?_
    refine s_callv (oe_t82 40 (q := (69, .invokevirtual 50070, 3)) rfl) rfl s11 rfl (Nat.le_of_ble_eq_true rfl) (Nat.le_of_ble_eq_true rfl) (Nat.le_of_ble_eq_true rfl) (Nat.le_of_ble_eq_true rfl) ?_
    refine oe_M_mono _ _ _ _ _ _ (fun r hp vq => ?_) vc
    obtain ⟨x14, h13, rfl, rfl, vc⟩ := vq
    show oe_V (oe_cost 82) 82 (oe_M (d + 1)) none Q 72 [some (.inr (.inl v0)), none, some (.inl v2), none] [.inl x14] (sh, g, h13) 0 0
    refine s_istore_n (oe_t82 41 (q := (72, .istore_n 2, 1)) rfl) ?_
    refine s_aload_n (oe_t82 42 (q := (73, .aload_n 0, 1)) rfl) rfl ?_
    refine s_iconst (oe_t82 43 (q := (74, .iconst 0, 1)) rfl) ?_
    refine t_puti (oe_t82 44 (q := (75, .putfield 7030, 3)) rfl) s11 rfl (Or.inl rfl) (fun h15 e16 => ?_)
    replace vc := vc h15 e16
    refine s_iconst (oe_t82 45 (q := (78, .iconst 0, 1)) rfl) ?_
    refine s_istore_n (oe_t82 46 (q := (79, .istore_n 3, 1)) rfl) ?_
    exact oe_V.fg (oe_M_mono _) (show oe_fg [some (.inr (.inl v0)), none, some (.inl x14), some (.inl 0)] _ from ⟨rfl, ⟨rfl, ⟨rfl, trivial⟩⟩⟩) vc
  · replace vc := vc.2 c12
    refine s_aload_n (oe_t82 29 (q := (50, .aload_n 0, 1)) rfl) rfl ?_
    obtain ⟨q17, p18, vc⟩ := vc
    refine s_getr (oe_t82 30 (q := (51, .getfield 7281, 3)) rfl) s11 rfl rfl p18 ?_
    refine s_iload_n (oe_t82 31 (q := (54, .iload_n 2, 1)) rfl) rfl ?_
    refine s_aload_n (oe_t82 32 (q := (55, .aload_n 0, 1)) rfl) rfl ?_
    obtain ⟨q19, p20, vc⟩ := vc
    refine s_getr (oe_t82 33 (q := (56, .getfield 7051, 3)) rfl) s11 rfl rfl p20 ?_
    refine s_iload_n (oe_t82 34 (q := (59, .iload_n 2, 1)) rfl) rfl ?_
    obtain ⟨n22, s21, vc⟩ := vc
    obtain ⟨i23, i24, vc⟩ := vc
    refine s_iaload (oe_t82 35 (q := (60, .iaload, 1)) rfl) s21 i23 i24 ?_
    obtain ⟨n26, s25, vc⟩ := vc
    obtain ⟨i27, i28, vc⟩ := vc
    refine t_iastore (oe_t82 36 (q := (61, .iastore, 1)) rfl) s25 i27 i28 (fun h29 e30 => ?_)
    replace vc := vc h29 e30
    obtain ⟨r31, vc⟩ := vc
    refine s_iinc (oe_t82 37 (q := (62, .iinc 2 1, 3)) rfl) rfl r31 ?_
    refine s_goto (oe_t82 38 (q := (65, .goto 42, 3)) rfl) ?_
    exact oe_V.fg (oe_M_mono _) (show oe_fg [some (.inr (.inl v0)), none, some (.inl (v2 + 1)), none] _ from ⟨rfl, ⟨rfl, trivial⟩⟩) vc
theorem g82_80 {d : Nat} {sh : List (Nat × Nat)} {g : Nat → Nat → Option Nat} {h : Nat → Nat → Int} {Q : oeQ} {v0 : Nat} {v2 : Int} {v3 : Int}
    (vc : sh[v0]? = some (12, 45) ∧ ((h v0 29) ≤ v3 → Q (some (.inl v2)) (sh, g, h)) ∧ (v3 < (h v0 29) → ∃ q34, g v0 28 = some q34 ∧ ∃ n37, sh[q34]? = some (0, n37) ∧ 0 ≤ v3 ∧ v3 < (n37 : Nat) ∧ oe_M (d + 1) 33 [.inl (h q34 (v3 : Int).toNat)] (sh, g, h) (fun r hp => ∃ (x41 : Int) (h40 : Nat → Nat → Int), r = some (.inl x41) ∧ hp = (sh, g, h40) ∧ oe_M (d + 1) 78 [.inr (.inl v0), .inl x41] (sh, g, h40) (fun r hp => ∃ (h42 : Nat → Nat → Int), r = none ∧ hp = (sh, g, h42) ∧ oe_rg (v3 + 1) ∧ oe_V (oe_cost 82) 82 (oe_M (d + 1)) none Q 80 [some (.inr (.inl v0)), none, some (.inl v2), some (.inl (v3 + 1))] [] (sh, g, h42) 0 0)))) :
    oe_V (oe_cost 82) 82 (oe_M (d + 1)) none Q 80 [some (.inr (.inl v0)), none, some (.inl v2), some (.inl v3)] [] (sh, g, h) 0 0 := by
  refine s_iload_n (oe_t82 47 (q := (80, .iload_n 3, 1)) rfl) rfl ?_
  refine s_aload_n (oe_t82 48 (q := (81, .aload_n 0, 1)) rfl) rfl ?_
  obtain ⟨s32, vc⟩ := vc
  refine s_geti (oe_t82 49 (q := (82, .getfield 7290, 3)) rfl) s32 rfl (by decide) ?_
  refine s_ic_ge (oe_t82 50 (q := (85, .if_icmp .ge 107, 3)) rfl) (fun c33 => ?_) (fun c33 => ?_)
  · replace vc := vc.1 c33
    refine s_iload_n (oe_t82 60 (q := (107, .iload_n 2, 1)) rfl) rfl ?_
    exact s_iret (oe_t82 61 (q := (108, .ireturn, 1)) rfl) (Or.inl rfl) vc
  · replace vc := vc.2 c33
    refine s_aload_n (oe_t82 51 (q := (88, .aload_n 0, 1)) rfl) rfl ?_
    refine s_aload_n (oe_t82 52 (q := (89, .aload_n 0, 1)) rfl) rfl ?_
    obtain ⟨q34, p35, vc⟩ := vc
    refine s_getr (oe_t82 53 (q := (90, .getfield 7281, 3)) rfl) s32 rfl rfl p35 ?_
    refine s_iload_n (oe_t82 54 (q := (93, .iload_n 3, 1)) rfl) rfl ?_
    obtain ⟨n37, s36, vc⟩ := vc
    obtain ⟨i38, i39, vc⟩ := vc
    refine s_iaload (oe_t82 55 (q := (94, .iaload, 1)) rfl) s36 i38 i39 ?_
    refine s_calls (oe_t82 56 (q := (95, .invokestatic 33071, 3)) rfl) (by decide) (Nat.le_of_ble_eq_true rfl) (Nat.le_of_ble_eq_true rfl) (Nat.le_of_ble_eq_true rfl) (Nat.le_of_ble_eq_true rfl) ?_
    refine oe_M_mono _ _ _ _ _ _ (fun r hp vq => ?_) vc
    obtain ⟨x41, h40, rfl, rfl, vc⟩ := vq
    show oe_V (oe_cost 82) 82 (oe_M (d + 1)) none Q 98 [some (.inr (.inl v0)), none, some (.inl v2), some (.inl v3)] [.inl x41, .inr (.inl v0)] (sh, g, h40) 0 0
    refine s_callv (oe_t82 57 (q := (98, .invokevirtual 78071, 3)) rfl) rfl s32 rfl (Nat.le_of_ble_eq_true rfl) (Nat.le_of_ble_eq_true rfl) (Nat.le_of_ble_eq_true rfl) (Nat.le_of_ble_eq_true rfl) ?_
    refine oe_M_mono _ _ _ _ _ _ (fun r hp vq => ?_) vc
    obtain ⟨h42, rfl, rfl, vc⟩ := vq
    show oe_V (oe_cost 82) 82 (oe_M (d + 1)) none Q 101 [some (.inr (.inl v0)), none, some (.inl v2), some (.inl v3)] [] (sh, g, h42) 0 0
    obtain ⟨r43, vc⟩ := vc
    refine s_iinc (oe_t82 58 (q := (101, .iinc 3 1, 3)) rfl) rfl r43 ?_
    refine s_goto (oe_t82 59 (q := (104, .goto 80, 3)) rfl) ?_
    exact oe_V.fg (oe_M_mono _) (show oe_fg [some (.inr (.inl v0)), none, some (.inl v2), some (.inl (v3 + 1))] _ from ⟨rfl, ⟨rfl, ⟨rfl, trivial⟩⟩⟩) vc
theorem oe_u83 : oe_c83.all (fun q => decide (oe_find oe_c83 q.1 = some q.2)) = true := by decide +kernel
theorem oe_t83 (k : Nat) {q : Nat × Jvm.ClassFile.Instr × Nat} (h : oe_c83[k]? = some q) : oe_find (oe_code 83) q.1 = some q.2 := oe_ft oe_u83 h
theorem g83 {d : Nat} {sh : List (Nat × Nat)} {g : Nat → Nat → Option Nat} {h : Nat → Nat → Int} {Q : oeQ} {v0 : Nat}
    (vc : sh[v0]? = some (12, 45) ∧ ∀ h2, h2 = oe_up h v0 0 0 → Q (some (.inl (h2 v0 3))) (sh, g, h2)) :
    oe_M (d + 2) 83 [.inr (.inl v0)] (sh, g, h) Q := by
  refine oe_M.of (by simp [oe_c1]) (Nat.le_of_ble_eq_true rfl) ?_
  show oe_V (oe_cost 83) 83 (oe_M (d + 1)) none Q 0 [some (.inr (.inl v0))] [] (sh, g, h) 0 0
  refine s_aload_n (oe_t83 0 (q := (0, .aload_n 0, 1)) rfl) rfl ?_
  refine s_iconst (oe_t83 1 (q := (1, .iconst 0, 1)) rfl) ?_
  obtain ⟨s1, vc⟩ := vc
  refine t_puti (oe_t83 2 (q := (2, .putfield 7000, 3)) rfl) s1 rfl (Or.inl rfl) (fun h2 e3 => ?_)
  replace vc := vc h2 e3
  refine s_aload_n (oe_t83 3 (q := (5, .aload_n 0, 1)) rfl) rfl ?_
  refine s_geti (oe_t83 4 (q := (6, .getfield 7030, 3)) rfl) s1 rfl (by decide) ?_
  exact s_iret (oe_t83 5 (q := (9, .ireturn, 1)) rfl) (Or.inl rfl) vc
theorem oe_u84 : oe_c84.all (fun q => decide (oe_find oe_c84 q.1 = some q.2)) = true := by decide +kernel
theorem oe_t84 (k : Nat) {q : Nat × Jvm.ClassFile.Instr × Nat} (h : oe_c84[k]? = some q) : oe_find (oe_code 84) q.1 = some q.2 := oe_ft oe_u84 h
theorem g84 {d : Nat} {sh : List (Nat × Nat)} {g : Nat → Nat → Option Nat} {h : Nat → Nat → Int} {Q : oeQ} {v0 : Nat} {v1 : Int}
    (vc : sh[v0]? = some (12, 45) ∧ ∀ h2, h2 = oe_up h v0 0 0 → (v1 < 0 → (0 ≤ (32 : Int) ∧ (32 : Int) < 65536) ∧ Q (some (.inl 32)) (sh, g, h2)) ∧ (0 ≤ v1 → (v1 < (h2 v0 3) → ∃ q7, g v0 4 = some q7 ∧ ∃ n10, sh[q7]? = some (0, n10) ∧ 0 ≤ v1 ∧ v1 < (n10 : Nat) ∧ (0 ≤ ((h2 q7 (v1 : Int).toNat) % 65536) ∧ ((h2 q7 (v1 : Int).toNat) % 65536) < 65536) ∧ Q (some (.inl ((h2 q7 (v1 : Int).toNat) % 65536))) (sh, g, h2)) ∧ ((h2 v0 3) ≤ v1 → (0 ≤ (32 : Int) ∧ (32 : Int) < 65536) ∧ Q (some (.inl 32)) (sh, g, h2)))) :
    oe_M (d + 2) 84 [.inr (.inl v0), .inl v1] (sh, g, h) Q := by
  refine oe_M.of (by simp [oe_c1]) (Nat.le_of_ble_eq_true rfl) ?_
  show oe_V (oe_cost 84) 84 (oe_M (d + 1)) none Q 0 [some (.inr (.inl v0)), some (.inl v1)] [] (sh, g, h) 0 0
  refine s_aload_n (oe_t84 0 (q := (0, .aload_n 0, 1)) rfl) rfl ?_
  refine s_iconst (oe_t84 1 (q := (1, .iconst 0, 1)) rfl) ?_
  obtain ⟨s1, vc⟩ := vc
  refine t_puti (oe_t84 2 (q := (2, .putfield 7000, 3)) rfl) s1 rfl (Or.inl rfl) (fun h2 e3 => ?_)
  replace vc := vc h2 e3
  refine s_iload_n (oe_t84 3 (q := (5, .iload_n 1, 1)) rfl) rfl ?_
  refine s_if_lt (oe_t84 4 (q := (6, .ifCond .lt 17, 3)) rfl) (fun c4 => ?_) (fun c4 => ?_)
  · replace vc := vc.1 c4
    refine s_bipush (oe_t84 9 (q := (17, .bipush 32, 2)) rfl) ?_
    refine s_goto (oe_t84 10 (q := (19, .goto 29, 3)) rfl) ?_
    obtain ⟨b5, vc⟩ := vc
    exact s_iret (oe_t84 16 (q := (29, .ireturn, 1)) rfl) (Or.inr (Or.inr ⟨rfl, b5⟩)) vc
  · replace vc := vc.2 c4
    refine s_iload_n (oe_t84 5 (q := (9, .iload_n 1, 1)) rfl) rfl ?_
    refine s_aload_n (oe_t84 6 (q := (10, .aload_n 0, 1)) rfl) rfl ?_
    refine s_geti (oe_t84 7 (q := (11, .getfield 7030, 3)) rfl) s1 rfl (by decide) ?_
    refine s_ic_lt (oe_t84 8 (q := (14, .if_icmp .lt 22, 3)) rfl) (fun c6 => ?_) (fun c6 => ?_)
    · replace vc := vc.1 c6
      refine s_aload_n (oe_t84 11 (q := (22, .aload_n 0, 1)) rfl) rfl ?_
      obtain ⟨q7, p8, vc⟩ := vc
      refine s_getr (oe_t84 12 (q := (23, .getfield 7041, 3)) rfl) s1 rfl rfl p8 ?_
      refine s_iload_n (oe_t84 13 (q := (26, .iload_n 1, 1)) rfl) rfl ?_
      obtain ⟨n10, s9, vc⟩ := vc
      obtain ⟨i11, i12, vc⟩ := vc
      refine s_iaload (oe_t84 14 (q := (27, .iaload, 1)) rfl) s9 i11 i12 ?_
      refine s_i2c (oe_t84 15 (q := (28, .i2c, 1)) rfl) ?_
      obtain ⟨b13, vc⟩ := vc
      exact s_iret (oe_t84 16 (q := (29, .ireturn, 1)) rfl) (Or.inr (Or.inr ⟨rfl, b13⟩)) vc
    · replace vc := vc.2 c6
      refine s_bipush (oe_t84 9 (q := (17, .bipush 32, 2)) rfl) ?_
      refine s_goto (oe_t84 10 (q := (19, .goto 29, 3)) rfl) ?_
      obtain ⟨b14, vc⟩ := vc
      exact s_iret (oe_t84 16 (q := (29, .ireturn, 1)) rfl) (Or.inr (Or.inr ⟨rfl, b14⟩)) vc
