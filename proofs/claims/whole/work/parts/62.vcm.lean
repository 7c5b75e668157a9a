/-! Walks laid by program. -/
theorem oe_u29 : oe_c29.all (fun q => decide (oe_find oe_c29 q.1 = some q.2)) = true := by decide +kernel
theorem oe_t29 (k : Nat) {q : Nat × Jvm.ClassFile.Instr × Nat} (h : oe_c29[k]? = some q) : oe_find (oe_code 29) q.1 = some q.2 := oe_ft oe_u29 h
theorem g29 {d : Nat} {sh : List (Nat × Nat)} {g : Nat → Nat → Option Nat} {h : Nat → Nat → Int} {Q : oeQ} {v0 : Nat}
    (vc : sh[v0]? = some (12, 45) ∧ Q (some (.inl (h v0 0))) (sh, g, h)) :
    oe_M (d + 2) 29 [.inr (.inl v0)] (sh, g, h) Q := by
  refine oe_M.of (by simp [oe_c1]) (Nat.le_of_ble_eq_true rfl) ?_
  show oe_V (oe_cost 29) 29 (oe_M (d + 1)) none Q 0 [some (.inr (.inl v0))] [] (sh, g, h) 0 0
  refine s_aload_n (oe_t29 0 (q := (0, .aload_n 0, 1)) rfl) rfl ?_
  obtain ⟨s1, vc⟩ := vc
  refine s_geti (oe_t29 1 (q := (1, .getfield 7000, 3)) rfl) s1 rfl (by decide) ?_
  exact s_iret (oe_t29 2 (q := (4, .ireturn, 1)) rfl) (Or.inl rfl) vc
theorem oe_u30 : oe_c30.all (fun q => decide (oe_find oe_c30 q.1 = some q.2)) = true := by decide +kernel
theorem oe_t30 (k : Nat) {q : Nat × Jvm.ClassFile.Instr × Nat} (h : oe_c30[k]? = some q) : oe_find (oe_code 30) q.1 = some q.2 := oe_ft oe_u30 h
theorem g30 {d : Nat} {sh : List (Nat × Nat)} {g : Nat → Nat → Option Nat} {h : Nat → Nat → Int} {Q : oeQ} {v0 : Nat} {v1 : Int}
    (vc : sh[v0]? = some (12, 45) ∧ ∀ h2, h2 = oe_up h v0 0 0 → (v1 < 32 → Q (some (.inl 0)) (sh, g, h2)) ∧ (32 ≤ v1 → (126 < v1 → Q (some (.inl 0)) (sh, g, h2)) ∧ (v1 ≤ 126 → ((h2 v0 1) ≠ 60 → ∃ q7, g v0 2 = some q7 ∧ ∃ n10, sh[q7]? = some (0, n10) ∧ 0 ≤ (h2 v0 1) ∧ (h2 v0 1) < (n10 : Nat) ∧ ∀ h13, h13 = oe_up h2 q7 ((h2 v0 1) : Int).toNat v1 → oe_rg ((h13 v0 1) + 1) ∧ ∀ h16, h16 = oe_up h13 v0 1 ((h13 v0 1) + 1) → Q (some (.inl 1)) (sh, g, h16)) ∧ ((h2 v0 1) = 60 → Q (some (.inl 0)) (sh, g, h2))))) :
    oe_M (d + 2) 30 [.inr (.inl v0), .inl v1] (sh, g, h) Q := by
  refine oe_M.of (by simp [oe_c1]) (Nat.le_of_ble_eq_true rfl) ?_
  show oe_V (oe_cost 30) 30 (oe_M (d + 1)) none Q 0 [some (.inr (.inl v0)), some (.inl v1)] [] (sh, g, h) 0 0
  refine s_aload_n (oe_t30 0 (q := (0, .aload_n 0, 1)) rfl) rfl ?_
  refine s_iconst (oe_t30 1 (q := (1, .iconst 0, 1)) rfl) ?_
  obtain ⟨s1, vc⟩ := vc
  refine t_puti (oe_t30 2 (q := (2, .putfield 7000, 3)) rfl) s1 rfl (Or.inl rfl) (fun h2 e3 => ?_)
  replace vc := vc h2 e3
  refine s_iload_n (oe_t30 3 (q := (5, .iload_n 1, 1)) rfl) rfl ?_
  refine s_bipush (oe_t30 4 (q := (6, .bipush 32, 2)) rfl) ?_
  refine s_ic_lt (oe_t30 5 (q := (8, .if_icmp .lt 26, 3)) rfl) (fun c4 => ?_) (fun c4 => ?_)
  · replace vc := vc.1 c4
    refine s_iconst (oe_t30 13 (q := (26, .iconst 0, 1)) rfl) ?_
    exact s_iret (oe_t30 14 (q := (27, .ireturn, 1)) rfl) (Or.inr (Or.inl ⟨rfl, Or.inl rfl⟩)) vc
  · replace vc := vc.2 c4
    refine s_iload_n (oe_t30 6 (q := (11, .iload_n 1, 1)) rfl) rfl ?_
    refine s_bipush (oe_t30 7 (q := (12, .bipush 126, 2)) rfl) ?_
    refine s_ic_gt (oe_t30 8 (q := (14, .if_icmp .gt 26, 3)) rfl) (fun c5 => ?_) (fun c5 => ?_)
    · replace vc := vc.1 c5
      refine s_iconst (oe_t30 13 (q := (26, .iconst 0, 1)) rfl) ?_
      exact s_iret (oe_t30 14 (q := (27, .ireturn, 1)) rfl) (Or.inr (Or.inl ⟨rfl, Or.inl rfl⟩)) vc
    · replace vc := vc.2 c5
      refine s_aload_n (oe_t30 9 (q := (17, .aload_n 0, 1)) rfl) rfl ?_
      refine s_geti (oe_t30 10 (q := (18, .getfield 7010, 3)) rfl) s1 rfl (by decide) ?_
      refine s_bipush (oe_t30 11 (q := (21, .bipush 60, 2)) rfl) ?_
      refine s_ic_ne (oe_t30 12 (q := (23, .if_icmp .ne 28, 3)) rfl) (fun c6 => ?_) (fun c6 => ?_)
      · replace vc := vc.1 c6
        refine s_aload_n (oe_t30 15 (q := (28, .aload_n 0, 1)) rfl) rfl ?_
        obtain ⟨q7, p8, vc⟩ := vc
        refine s_getr (oe_t30 16 (q := (29, .getfield 7021, 3)) rfl) s1 rfl rfl p8 ?_
        refine s_aload_n (oe_t30 17 (q := (32, .aload_n 0, 1)) rfl) rfl ?_
        refine s_geti (oe_t30 18 (q := (33, .getfield 7010, 3)) rfl) s1 rfl (by decide) ?_
        refine s_iload_n (oe_t30 19 (q := (36, .iload_n 1, 1)) rfl) rfl ?_
        obtain ⟨n10, s9, vc⟩ := vc
        obtain ⟨i11, i12, vc⟩ := vc
        refine t_iastore (oe_t30 20 (q := (37, .iastore, 1)) rfl) s9 i11 i12 (fun h13 e14 => ?_)
        replace vc := vc h13 e14
        refine s_aload_n (oe_t30 21 (q := (38, .aload_n 0, 1)) rfl) rfl ?_
        refine s_dup (oe_t30 22 (q := (39, .dup, 1)) rfl) trivial ?_
        refine s_geti (oe_t30 23 (q := (40, .getfield 7010, 3)) rfl) s1 rfl (by decide) ?_
        refine s_iconst (oe_t30 24 (q := (43, .iconst 1, 1)) rfl) ?_
        obtain ⟨r15, vc⟩ := vc
        refine s_iadd (oe_t30 25 (q := (44, .iadd, 1)) rfl) r15 ?_
        refine t_puti (oe_t30 26 (q := (45, .putfield 7010, 3)) rfl) s1 rfl (Or.inl rfl) (fun h16 e17 => ?_)
        replace vc := vc h16 e17
        refine s_iconst (oe_t30 27 (q := (48, .iconst 1, 1)) rfl) ?_
        exact s_iret (oe_t30 28 (q := (49, .ireturn, 1)) rfl) (Or.inr (Or.inl ⟨rfl, Or.inr rfl⟩)) vc
      · replace vc := vc.2 c6
        refine s_iconst (oe_t30 13 (q := (26, .iconst 0, 1)) rfl) ?_
        exact s_iret (oe_t30 14 (q := (27, .ireturn, 1)) rfl) (Or.inr (Or.inl ⟨rfl, Or.inl rfl⟩)) vc
theorem oe_u31 : oe_c31.all (fun q => decide (oe_find oe_c31 q.1 = some q.2)) = true := by decide +kernel
theorem oe_t31 (k : Nat) {q : Nat × Jvm.ClassFile.Instr × Nat} (h : oe_c31[k]? = some q) : oe_find (oe_code 31) q.1 = some q.2 := oe_ft oe_u31 h
theorem g31 {d : Nat} {sh : List (Nat × Nat)} {g : Nat → Nat → Option Nat} {h : Nat → Nat → Int} {Q : oeQ} {v0 : Nat}
    (vc : sh[v0]? = some (12, 45) ∧ ∀ h2, h2 = oe_up h v0 0 0 → ∀ h4, h4 = oe_up h2 v0 1 0 → Q (some (.inl (h2 v0 1))) (sh, g, h4)) :
    oe_M (d + 2) 31 [.inr (.inl v0)] (sh, g, h) Q := by
  refine oe_M.of (by simp [oe_c1]) (Nat.le_of_ble_eq_true rfl) ?_
  show oe_V (oe_cost 31) 31 (oe_M (d + 1)) none Q 0 [some (.inr (.inl v0)), none] [] (sh, g, h) 0 0
  refine s_aload_n (oe_t31 0 (q := (0, .aload_n 0, 1)) rfl) rfl ?_
  refine s_iconst (oe_t31 1 (q := (1, .iconst 0, 1)) rfl) ?_
  obtain ⟨s1, vc⟩ := vc
  refine t_puti (oe_t31 2 (q := (2, .putfield 7000, 3)) rfl) s1 rfl (Or.inl rfl) (fun h2 e3 => ?_)
  replace vc := vc h2 e3
  refine s_aload_n (oe_t31 3 (q := (5, .aload_n 0, 1)) rfl) rfl ?_
  refine s_geti (oe_t31 4 (q := (6, .getfield 7010, 3)) rfl) s1 rfl (by decide) ?_
  refine s_istore_n (oe_t31 5 (q := (9, .istore_n 1, 1)) rfl) ?_
  refine s_aload_n (oe_t31 6 (q := (10, .aload_n 0, 1)) rfl) rfl ?_
  refine s_iconst (oe_t31 7 (q := (11, .iconst 0, 1)) rfl) ?_
  refine t_puti (oe_t31 8 (q := (12, .putfield 7010, 3)) rfl) s1 rfl (Or.inl rfl) (fun h4 e5 => ?_)
  replace vc := vc h4 e5
  refine s_iload_n (oe_t31 9 (q := (15, .iload_n 1, 1)) rfl) rfl ?_
  exact s_iret (oe_t31 10 (q := (16, .ireturn, 1)) rfl) (Or.inl rfl) vc
theorem oe_u32 : oe_c32.all (fun q => decide (oe_find oe_c32 q.1 = some q.2)) = true := by decide +kernel
theorem oe_t32 (k : Nat) {q : Nat × Jvm.ClassFile.Instr × Nat} (h : oe_c32[k]? = some q) : oe_find (oe_code 32) q.1 = some q.2 := oe_ft oe_u32 h
theorem g32 {d : Nat} {sh : List (Nat × Nat)} {g : Nat → Nat → Option Nat} {h : Nat → Nat → Int} {Q : oeQ} {v0 : Int}
    (vc : ((v0 < 97 ∨ 113 < v0) → (v0 < 117 → Q (some (.inl (-1))) (sh, g, h)) ∧ (117 ≤ v0 → (122 < v0 → Q (some (.inl (-1))) (sh, g, h)) ∧ (v0 ≤ 122 → oe_rg (v0 - 117) ∧ Q (some (.inl (v0 - 117))) (sh, g, h)))) ∧ (v0 = 97 → Q (some (.inl 24)) (sh, g, h)) ∧ (v0 = 98 → Q (some (.inl 25)) (sh, g, h)) ∧ (v0 = 99 → Q (some (.inl 26)) (sh, g, h)) ∧ (v0 = 100 → Q (some (.inl 27)) (sh, g, h)) ∧ (v0 = 101 → (v0 < 117 → Q (some (.inl (-1))) (sh, g, h)) ∧ (117 ≤ v0 → (122 < v0 → Q (some (.inl (-1))) (sh, g, h)) ∧ (v0 ≤ 122 → oe_rg (v0 - 117) ∧ Q (some (.inl (v0 - 117))) (sh, g, h)))) ∧ (v0 = 102 → Q (some (.inl 22)) (sh, g, h)) ∧ (v0 = 103 → Q (some (.inl 23)) (sh, g, h)) ∧ (v0 = 104 → (v0 < 117 → Q (some (.inl (-1))) (sh, g, h)) ∧ (117 ≤ v0 → (122 < v0 → Q (some (.inl (-1))) (sh, g, h)) ∧ (v0 ≤ 122 → oe_rg (v0 - 117) ∧ Q (some (.inl (v0 - 117))) (sh, g, h)))) ∧ (v0 = 105 → (v0 < 117 → Q (some (.inl (-1))) (sh, g, h)) ∧ (117 ≤ v0 → (122 < v0 → Q (some (.inl (-1))) (sh, g, h)) ∧ (v0 ≤ 122 → oe_rg (v0 - 117) ∧ Q (some (.inl (v0 - 117))) (sh, g, h)))) ∧ (v0 = 106 → (v0 < 117 → Q (some (.inl (-1))) (sh, g, h)) ∧ (117 ≤ v0 → (122 < v0 → Q (some (.inl (-1))) (sh, g, h)) ∧ (v0 ≤ 122 → oe_rg (v0 - 117) ∧ Q (some (.inl (v0 - 117))) (sh, g, h)))) ∧ (v0 = 107 → (v0 < 117 → Q (some (.inl (-1))) (sh, g, h)) ∧ (117 ≤ v0 → (122 < v0 → Q (some (.inl (-1))) (sh, g, h)) ∧ (v0 ≤ 122 → oe_rg (v0 - 117) ∧ Q (some (.inl (v0 - 117))) (sh, g, h)))) ∧ (v0 = 108 → (v0 < 117 → Q (some (.inl (-1))) (sh, g, h)) ∧ (117 ≤ v0 → (122 < v0 → Q (some (.inl (-1))) (sh, g, h)) ∧ (v0 ≤ 122 → oe_rg (v0 - 117) ∧ Q (some (.inl (v0 - 117))) (sh, g, h)))) ∧ (v0 = 109 → (v0 < 117 → Q (some (.inl (-1))) (sh, g, h)) ∧ (117 ≤ v0 → (122 < v0 → Q (some (.inl (-1))) (sh, g, h)) ∧ (v0 ≤ 122 → oe_rg (v0 - 117) ∧ Q (some (.inl (v0 - 117))) (sh, g, h)))) ∧ (v0 = 110 → (v0 < 117 → Q (some (.inl (-1))) (sh, g, h)) ∧ (117 ≤ v0 → (122 < v0 → Q (some (.inl (-1))) (sh, g, h)) ∧ (v0 ≤ 122 → oe_rg (v0 - 117) ∧ Q (some (.inl (v0 - 117))) (sh, g, h)))) ∧ (v0 = 111 → (v0 < 117 → Q (some (.inl (-1))) (sh, g, h)) ∧ (117 ≤ v0 → (122 < v0 → Q (some (.inl (-1))) (sh, g, h)) ∧ (v0 ≤ 122 → oe_rg (v0 - 117) ∧ Q (some (.inl (v0 - 117))) (sh, g, h)))) ∧ (v0 = 112 → Q (some (.inl 20)) (sh, g, h)) ∧ (v0 = 113 → Q (some (.inl 21)) (sh, g, h))) :
    oe_M (d + 2) 32 [.inl v0] (sh, g, h) Q := by
  refine oe_M.of (by simp [oe_c1]) (Nat.le_of_ble_eq_true rfl) ?_
  show oe_V (oe_cost 32) 32 (oe_M (d + 1)) none Q 0 [some (.inl v0)] [] (sh, g, h) 0 0
  refine s_iload_n (oe_t32 0 (q := (0, .iload_n 0, 1)) rfl) rfl ?_
  refine s_tsw (oe_t32 1 (q := (1, .tableswitch 108 97 113 #[96, 99, 102, 105, 108, 90, 93, 108, 108, 108, 108, 108, 108, 108, 108, 84, 87], 83)) rfl) (fun c0 => ?_) (fun t0 c1 c2 c3 => ?_)
  · replace vc := vc.1 c0
    refine s_iload_n (oe_t32 18 (q := (108, .iload_n 0, 1)) rfl) rfl ?_
    refine s_bipush (oe_t32 19 (q := (109, .bipush 117, 2)) rfl) ?_
    refine s_ic_lt (oe_t32 20 (q := (111, .if_icmp .lt 127, 3)) rfl) (fun c1 => ?_) (fun c1 => ?_)
    · replace vc := vc.1 c1
      refine s_iconst (oe_t32 28 (q := (127, .iconst (-1), 1)) rfl) ?_
      exact s_iret (oe_t32 29 (q := (128, .ireturn, 1)) rfl) (Or.inl rfl) vc
    · replace vc := vc.2 c1
      refine s_iload_n (oe_t32 21 (q := (114, .iload_n 0, 1)) rfl) rfl ?_
      refine s_bipush (oe_t32 22 (q := (115, .bipush 122, 2)) rfl) ?_
      refine s_ic_gt (oe_t32 23 (q := (117, .if_icmp .gt 127, 3)) rfl) (fun c2 => ?_) (fun c2 => ?_)
      · replace vc := vc.1 c2
        refine s_iconst (oe_t32 28 (q := (127, .iconst (-1), 1)) rfl) ?_
        exact s_iret (oe_t32 29 (q := (128, .ireturn, 1)) rfl) (Or.inl rfl) vc
      · replace vc := vc.2 c2
        refine s_iload_n (oe_t32 24 (q := (120, .iload_n 0, 1)) rfl) rfl ?_
        refine s_bipush (oe_t32 25 (q := (121, .bipush 117, 2)) rfl) ?_
        obtain ⟨r3, vc⟩ := vc
        refine s_isub (oe_t32 26 (q := (123, .isub, 1)) rfl) r3 ?_
        refine s_goto (oe_t32 27 (q := (124, .goto 128, 3)) rfl) ?_
        exact s_iret (oe_t32 29 (q := (128, .ireturn, 1)) rfl) (Or.inl rfl) vc
  · replace vc := vc.2
    have c4 : v0 = 97 ∨ v0 = 98 ∨ v0 = 99 ∨ v0 = 100 ∨ v0 = 101 ∨ v0 = 102 ∨ v0 = 103 ∨ v0 = 104 ∨ v0 = 105 ∨ v0 = 106 ∨ v0 = 107 ∨ v0 = 108 ∨ v0 = 109 ∨ v0 = 110 ∨ v0 = 111 ∨ v0 = 112 ∨ v0 = 113 := by omega
    rcases c4 with c4 | c4
    · replace vc := vc.1 c4
      rw [c4] at c3
      have c5 : some (96 : Int) = some t0 := c3
      cases c5
      refine s_bipush (oe_t32 10 (q := (96, .bipush 24, 2)) rfl) ?_
      exact s_iret (oe_t32 11 (q := (98, .ireturn, 1)) rfl) (Or.inl rfl) vc
    · replace vc := vc.2
      rcases c4 with c4 | c4
      · replace vc := vc.1 c4
        rw [c4] at c3
        have c5 : some (99 : Int) = some t0 := c3
        cases c5
        refine s_bipush (oe_t32 12 (q := (99, .bipush 25, 2)) rfl) ?_
        exact s_iret (oe_t32 13 (q := (101, .ireturn, 1)) rfl) (Or.inl rfl) vc
      · replace vc := vc.2
        rcases c4 with c4 | c4
        · replace vc := vc.1 c4
          rw [c4] at c3
          have c5 : some (102 : Int) = some t0 := c3
          cases c5
          refine s_bipush (oe_t32 14 (q := (102, .bipush 26, 2)) rfl) ?_
          exact s_iret (oe_t32 15 (q := (104, .ireturn, 1)) rfl) (Or.inl rfl) vc
        · replace vc := vc.2
          rcases c4 with c4 | c4
          · replace vc := vc.1 c4
            rw [c4] at c3
            have c5 : some (105 : Int) = some t0 := c3
            cases c5
            refine s_bipush (oe_t32 16 (q := (105, .bipush 27, 2)) rfl) ?_
            exact s_iret (oe_t32 17 (q := (107, .ireturn, 1)) rfl) (Or.inl rfl) vc
          · replace vc := vc.2
            rcases c4 with c4 | c4
            · replace vc := vc.1 c4
              rw [c4] at c3
              have c5 : some (108 : Int) = some t0 := c3
              cases c5
              refine s_iload_n (oe_t32 18 (q := (108, .iload_n 0, 1)) rfl) rfl ?_
              refine s_bipush (oe_t32 19 (q := (109, .bipush 117, 2)) rfl) ?_
              refine s_ic_lt (oe_t32 20 (q := (111, .if_icmp .lt 127, 3)) rfl) (fun c4 => ?_) (fun c4 => ?_)
              · replace vc := vc.1 c4
                refine s_iconst (oe_t32 28 (q := (127, .iconst (-1), 1)) rfl) ?_
                exact s_iret (oe_t32 29 (q := (128, .ireturn, 1)) rfl) (Or.inl rfl) vc
              · replace vc := vc.2 c4
                refine s_iload_n (oe_t32 21 (q := (114, .iload_n 0, 1)) rfl) rfl ?_
                refine s_bipush (oe_t32 22 (q := (115, .bipush 122, 2)) rfl) ?_
                refine s_ic_gt (oe_t32 23 (q := (117, .if_icmp .gt 127, 3)) rfl) (fun c5 => ?_) (fun c5 => ?_)
                · replace vc := vc.1 c5
                  refine s_iconst (oe_t32 28 (q := (127, .iconst (-1), 1)) rfl) ?_
                  exact s_iret (oe_t32 29 (q := (128, .ireturn, 1)) rfl) (Or.inl rfl) vc
                · replace vc := vc.2 c5
                  refine s_iload_n (oe_t32 24 (q := (120, .iload_n 0, 1)) rfl) rfl ?_
                  refine s_bipush (oe_t32 25 (q := (121, .bipush 117, 2)) rfl) ?_
                  obtain ⟨r6, vc⟩ := vc
                  refine s_isub (oe_t32 26 (q := (123, .isub, 1)) rfl) r6 ?_
                  refine s_goto (oe_t32 27 (q := (124, .goto 128, 3)) rfl) ?_
                  exact s_iret (oe_t32 29 (q := (128, .ireturn, 1)) rfl) (Or.inl rfl) vc
            · replace vc := vc.2
              rcases c4 with c4 | c4
              · replace vc := vc.1 c4
                rw [c4] at c3
                have c5 : some (90 : Int) = some t0 := c3
                cases c5
                refine s_bipush (oe_t32 6 (q := (90, .bipush 22, 2)) rfl) ?_
                exact s_iret (oe_t32 7 (q := (92, .ireturn, 1)) rfl) (Or.inl rfl) vc
              · replace vc := vc.2
                rcases c4 with c4 | c4
                · replace vc := vc.1 c4
                  rw [c4] at c3
                  have c5 : some (93 : Int) = some t0 := c3
                  cases c5
                  refine s_bipush (oe_t32 8 (q := (93, .bipush 23, 2)) rfl) ?_
                  exact s_iret (oe_t32 9 (q := (95, .ireturn, 1)) rfl) (Or.inl rfl) vc
                · replace vc := vc.2
                  rcases c4 with c4 | c4
                  · replace vc := vc.1 c4
                    rw [c4] at c3
                    have c5 : some (108 : Int) = some t0 := c3
                    cases c5
                    refine s_iload_n (oe_t32 18 (q := (108, .iload_n 0, 1)) rfl) rfl ?_
                    refine s_bipush (oe_t32 19 (q := (109, .bipush 117, 2)) rfl) ?_
                    refine s_ic_lt (oe_t32 20 (q := (111, .if_icmp .lt 127, 3)) rfl) (fun c7 => ?_) (fun c7 => ?_)
                    · replace vc := vc.1 c7
                      refine s_iconst (oe_t32 28 (q := (127, .iconst (-1), 1)) rfl) ?_
                      exact s_iret (oe_t32 29 (q := (128, .ireturn, 1)) rfl) (Or.inl rfl) vc
                    · replace vc := vc.2 c7
                      refine s_iload_n (oe_t32 21 (q := (114, .iload_n 0, 1)) rfl) rfl ?_
                      refine s_bipush (oe_t32 22 (q := (115, .bipush 122, 2)) rfl) ?_
                      refine s_ic_gt (oe_t32 23 (q := (117, .if_icmp .gt 127, 3)) rfl) (fun c8 => ?_) (fun c8 => ?_)
                      · replace vc := vc.1 c8
                        refine s_iconst (oe_t32 28 (q := (127, .iconst (-1), 1)) rfl) ?_
                        exact s_iret (oe_t32 29 (q := (128, .ireturn, 1)) rfl) (Or.inl rfl) vc
                      · replace vc := vc.2 c8
                        refine s_iload_n (oe_t32 24 (q := (120, .iload_n 0, 1)) rfl) rfl ?_
                        refine s_bipush (oe_t32 25 (q := (121, .bipush 117, 2)) rfl) ?_
                        obtain ⟨r9, vc⟩ := vc
                        refine s_isub (oe_t32 26 (q := (123, .isub, 1)) rfl) r9 ?_
                        refine s_goto (oe_t32 27 (q := (124, .goto 128, 3)) rfl) ?_
                        exact s_iret (oe_t32 29 (q := (128, .ireturn, 1)) rfl) (Or.inl rfl) vc
                  · replace vc := vc.2
                    rcases c4 with c4 | c4
                    · replace vc := vc.1 c4
                      rw [c4] at c3
                      have c5 : some (108 : Int) = some t0 := c3
                      cases c5
                      refine s_iload_n (oe_t32 18 (q := (108, .iload_n 0, 1)) rfl) rfl ?_
                      refine s_bipush (oe_t32 19 (q := (109, .bipush 117, 2)) rfl) ?_
                      refine s_ic_lt (oe_t32 20 (q := (111, .if_icmp .lt 127, 3)) rfl) (fun c10 => ?_) (fun c10 => ?_)
                      · replace vc := vc.1 c10
                        refine s_iconst (oe_t32 28 (q := (127, .iconst (-1), 1)) rfl) ?_
                        exact s_iret (oe_t32 29 (q := (128, .ireturn, 1)) rfl) (Or.inl rfl) vc
                      · replace vc := vc.2 c10
                        refine s_iload_n (oe_t32 21 (q := (114, .iload_n 0, 1)) rfl) rfl ?_
                        refine s_bipush (oe_t32 22 (q := (115, .bipush 122, 2)) rfl) ?_
                        refine s_ic_gt (oe_t32 23 (q := (117, .if_icmp .gt 127, 3)) rfl) (fun c11 => ?_) (fun c11 => ?_)
                        · replace vc := vc.1 c11
                          refine s_iconst (oe_t32 28 (q := (127, .iconst (-1), 1)) rfl) ?_
                          exact s_iret (oe_t32 29 (q := (128, .ireturn, 1)) rfl) (Or.inl rfl) vc
                        · replace vc := vc.2 c11
                          refine s_iload_n (oe_t32 24 (q := (120, .iload_n 0, 1)) rfl) rfl ?_
                          refine s_bipush (oe_t32 25 (q := (121, .bipush 117, 2)) rfl) ?_
                          obtain ⟨r12, vc⟩ := vc
                          refine s_isub (oe_t32 26 (q := (123, .isub, 1)) rfl) r12 ?_
                          refine s_goto (oe_t32 27 (q := (124, .goto 128, 3)) rfl) ?_
                          exact s_iret (oe_t32 29 (q := (128, .ireturn, 1)) rfl) (Or.inl rfl) vc
                    · replace vc := vc.2
                      rcases c4 with c4 | c4
                      · replace vc := vc.1 c4
                        rw [c4] at c3
                        have c5 : some (108 : Int) = some t0 := c3
                        cases c5
                        refine s_iload_n (oe_t32 18 (q := (108, .iload_n 0, 1)) rfl) rfl ?_
                        refine s_bipush (oe_t32 19 (q := (109, .bipush 117, 2)) rfl) ?_
                        refine s_ic_lt (oe_t32 20 (q := (111, .if_icmp .lt 127, 3)) rfl) (fun c13 => ?_) (fun c13 => ?_)
                        · replace vc := vc.1 c13
                          refine s_iconst (oe_t32 28 (q := (127, .iconst (-1), 1)) rfl) ?_
                          exact s_iret (oe_t32 29 (q := (128, .ireturn, 1)) rfl) (Or.inl rfl) vc
                        · replace vc := vc.2 c13
                          refine s_iload_n (oe_t32 21 (q := (114, .iload_n 0, 1)) rfl) rfl ?_
                          refine s_bipush (oe_t32 22 (q := (115, .bipush 122, 2)) rfl) ?_
                          refine s_ic_gt (oe_t32 23 (q := (117, .if_icmp .gt 127, 3)) rfl) (fun c14 => ?_) (fun c14 => ?_)
                          · replace vc := vc.1 c14
                            refine s_iconst (oe_t32 28 (q := (127, .iconst (-1), 1)) rfl) ?_
                            exact s_iret (oe_t32 29 (q := (128, .ireturn, 1)) rfl) (Or.inl rfl) vc
                          · replace vc := vc.2 c14
                            refine s_iload_n (oe_t32 24 (q := (120, .iload_n 0, 1)) rfl) rfl ?_
                            refine s_bipush (oe_t32 25 (q := (121, .bipush 117, 2)) rfl) ?_
                            obtain ⟨r15, vc⟩ := vc
                            refine s_isub (oe_t32 26 (q := (123, .isub, 1)) rfl) r15 ?_
                            refine s_goto (oe_t32 27 (q := (124, .goto 128, 3)) rfl) ?_
                            exact s_iret (oe_t32 29 (q := (128, .ireturn, 1)) rfl) (Or.inl rfl) vc
                      · replace vc := vc.2
                        rcases c4 with c4 | c4
                        · replace vc := vc.1 c4
                          rw [c4] at c3
                          have c5 : some (108 : Int) = some t0 := c3
                          cases c5
                          refine s_iload_n (oe_t32 18 (q := (108, .iload_n 0, 1)) rfl) rfl ?_
                          refine s_bipush (oe_t32 19 (q := (109, .bipush 117, 2)) rfl) ?_
                          refine s_ic_lt (oe_t32 20 (q := (111, .if_icmp .lt 127, 3)) rfl) (fun c16 => ?_) (fun c16 => ?_)
                          · replace vc := vc.1 c16
                            refine s_iconst (oe_t32 28 (q := (127, .iconst (-1), 1)) rfl) ?_
                            exact s_iret (oe_t32 29 (q := (128, .ireturn, 1)) rfl) (Or.inl rfl) vc
                          · replace vc := vc.2 c16
                            refine s_iload_n (oe_t32 21 (q := (114, .iload_n 0, 1)) rfl) rfl ?_
                            refine s_bipush (oe_t32 22 (q := (115, .bipush 122, 2)) rfl) ?_
                            refine s_ic_gt (oe_t32 23 (q := (117, .if_icmp .gt 127, 3)) rfl) (fun c17 => ?_) (fun c17 => ?_)
                            · replace vc := vc.1 c17
                              refine s_iconst (oe_t32 28 (q := (127, .iconst (-1), 1)) rfl) ?_
                              exact s_iret (oe_t32 29 (q := (128, .ireturn, 1)) rfl) (Or.inl rfl) vc
                            · replace vc := vc.2 c17
                              refine s_iload_n (oe_t32 24 (q := (120, .iload_n 0, 1)) rfl) rfl ?_
                              refine s_bipush (oe_t32 25 (q := (121, .bipush 117, 2)) rfl) ?_
                              obtain ⟨r18, vc⟩ := vc
                              refine s_isub (oe_t32 26 (q := (123, .isub, 1)) rfl) r18 ?_
                              refine s_goto (oe_t32 27 (q := (124, .goto 128, 3)) rfl) ?_
                              exact s_iret (oe_t32 29 (q := (128, .ireturn, 1)) rfl) (Or.inl rfl) vc
                        · replace vc := vc.2
                          rcases c4 with c4 | c4
                          · replace vc := vc.1 c4
                            rw [c4] at c3
                            have c5 : some (108 : Int) = some t0 := c3
                            cases c5
                            refine s_iload_n (oe_t32 18 (q := (108, .iload_n 0, 1)) rfl) rfl ?_
                            refine s_bipush (oe_t32 19 (q := (109, .bipush 117, 2)) rfl) ?_
                            refine s_ic_lt (oe_t32 20 (q := (111, .if_icmp .lt 127, 3)) rfl) (fun c19 => ?_) (fun c19 => ?_)
                            · replace vc := vc.1 c19
                              refine s_iconst (oe_t32 28 (q := (127, .iconst (-1), 1)) rfl) ?_
                              exact s_iret (oe_t32 29 (q := (128, .ireturn, 1)) rfl) (Or.inl rfl) vc
                            · replace vc := vc.2 c19
                              refine s_iload_n (oe_t32 21 (q := (114, .iload_n 0, 1)) rfl) rfl ?_
                              refine s_bipush (oe_t32 22 (q := (115, .bipush 122, 2)) rfl) ?_
                              refine s_ic_gt (oe_t32 23 (q := (117, .if_icmp .gt 127, 3)) rfl) (fun c20 => ?_) (fun c20 => ?_)
                              · replace vc := vc.1 c20
                                refine s_iconst (oe_t32 28 (q := (127, .iconst (-1), 1)) rfl) ?_
                                exact s_iret (oe_t32 29 (q := (128, .ireturn, 1)) rfl) (Or.inl rfl) vc
                              · replace vc := vc.2 c20
                                refine s_iload_n (oe_t32 24 (q := (120, .iload_n 0, 1)) rfl) rfl ?_
                                refine s_bipush (oe_t32 25 (q := (121, .bipush 117, 2)) rfl) ?_
                                obtain ⟨r21, vc⟩ := vc
                                refine s_isub (oe_t32 26 (q := (123, .isub, 1)) rfl) r21 ?_
                                refine s_goto (oe_t32 27 (q := (124, .goto 128, 3)) rfl) ?_
                                exact s_iret (oe_t32 29 (q := (128, .ireturn, 1)) rfl) (Or.inl rfl) vc
                          · replace vc := vc.2
                            rcases c4 with c4 | c4
                            · replace vc := vc.1 c4
                              rw [c4] at c3
                              have c5 : some (108 : Int) = some t0 := c3
                              cases c5
                              refine s_iload_n (oe_t32 18 (q := (108, .iload_n 0, 1)) rfl) rfl ?_
                              refine s_bipush (oe_t32 19 (q := (109, .bipush 117, 2)) rfl) ?_
                              refine s_ic_lt (oe_t32 20 (q := (111, .if_icmp .lt 127, 3)) rfl) (fun c22 => ?_) (fun c22 => ?_)
                              · replace vc := vc.1 c22
                                refine s_iconst (oe_t32 28 (q := (127, .iconst (-1), 1)) rfl) ?_
                                exact s_iret (oe_t32 29 (q := (128, .ireturn, 1)) rfl) (Or.inl rfl) vc
                              · replace vc := vc.2 c22
                                refine s_iload_n (oe_t32 21 (q := (114, .iload_n 0, 1)) rfl) rfl ?_
                                refine s_bipush (oe_t32 22 (q := (115, .bipush 122, 2)) rfl) ?_
                                refine s_ic_gt (oe_t32 23 (q := (117, .if_icmp .gt 127, 3)) rfl) (fun c23 => ?_) (fun c23 => ?_)
                                · replace vc := vc.1 c23
                                  refine s_iconst (oe_t32 28 (q := (127, .iconst (-1), 1)) rfl) ?_
                                  exact s_iret (oe_t32 29 (q := (128, .ireturn, 1)) rfl) (Or.inl rfl) vc
                                · replace vc := vc.2 c23
                                  refine s_iload_n (oe_t32 24 (q := (120, .iload_n 0, 1)) rfl) rfl ?_
                                  refine s_bipush (oe_t32 25 (q := (121, .bipush 117, 2)) rfl) ?_
                                  obtain ⟨r24, vc⟩ := vc
                                  refine s_isub (oe_t32 26 (q := (123, .isub, 1)) rfl) r24 ?_
                                  refine s_goto (oe_t32 27 (q := (124, .goto 128, 3)) rfl) ?_
                                  exact s_iret (oe_t32 29 (q := (128, .ireturn, 1)) rfl) (Or.inl rfl) vc
                            · replace vc := vc.2
                              rcases c4 with c4 | c4
                              · replace vc := vc.1 c4
                                rw [c4] at c3
                                have c5 : some (108 : Int) = some t0 := c3
                                cases c5
                                refine s_iload_n (oe_t32 18 (q := (108, .iload_n 0, 1)) rfl) rfl ?_
                                refine s_bipush (oe_t32 19 (q := (109, .bipush 117, 2)) rfl) ?_
                                refine s_ic_lt (oe_t32 20 (q := (111, .if_icmp .lt 127, 3)) rfl) (fun c25 => ?_) (fun c25 => ?_)
                                · replace vc := vc.1 c25
                                  refine s_iconst (oe_t32 28 (q := (127, .iconst (-1), 1)) rfl) ?_
                                  exact s_iret (oe_t32 29 (q := (128, .ireturn, 1)) rfl) (Or.inl rfl) vc
                                · replace vc := vc.2 c25
                                  refine s_iload_n (oe_t32 21 (q := (114, .iload_n 0, 1)) rfl) rfl ?_
                                  refine s_bipush (oe_t32 22 (q := (115, .bipush 122, 2)) rfl) ?_
                                  refine s_ic_gt (oe_t32 23 (q := (117, .if_icmp .gt 127, 3)) rfl) (fun c26 => ?_) (fun c26 => ?_)
                                  · replace vc := vc.1 c26
                                    refine s_iconst (oe_t32 28 (q := (127, .iconst (-1), 1)) rfl) ?_
                                    exact s_iret (oe_t32 29 (q := (128, .ireturn, 1)) rfl) (Or.inl rfl) vc
                                  · replace vc := vc.2 c26
                                    refine s_iload_n (oe_t32 24 (q := (120, .iload_n 0, 1)) rfl) rfl ?_
                                    refine s_bipush (oe_t32 25 (q := (121, .bipush 117, 2)) rfl) ?_
                                    obtain ⟨r27, vc⟩ := vc
                                    refine s_isub (oe_t32 26 (q := (123, .isub, 1)) rfl) r27 ?_
                                    refine s_goto (oe_t32 27 (q := (124, .goto 128, 3)) rfl) ?_
                                    exact s_iret (oe_t32 29 (q := (128, .ireturn, 1)) rfl) (Or.inl rfl) vc
                              · replace vc := vc.2
                                rcases c4 with c4 | c4
                                · replace vc := vc.1 c4
                                  rw [c4] at c3
                                  have c5 : some (108 : Int) = some t0 := c3
                                  cases c5
                                  refine s_iload_n (oe_t32 18 (q := (108, .iload_n 0, 1)) rfl) rfl ?_
                                  refine s_bipush (oe_t32 19 (q := (109, .bipush 117, 2)) rfl) ?_
                                  refine s_ic_lt (oe_t32 20 (q := (111, .if_icmp .lt 127, 3)) rfl) (fun c28 => ?_) (fun c28 => ?_)
                                  · replace vc := vc.1 c28
                                    refine s_iconst (oe_t32 28 (q := (127, .iconst (-1), 1)) rfl) ?_
                                    exact s_iret (oe_t32 29 (q := (128, .ireturn, 1)) rfl) (Or.inl rfl) vc
                                  · replace vc := vc.2 c28
                                    refine s_iload_n (oe_t32 21 (q := (114, .iload_n 0, 1)) rfl) rfl ?_
                                    refine s_bipush (oe_t32 22 (q := (115, .bipush 122, 2)) rfl) ?_
                                    refine s_ic_gt (oe_t32 23 (q := (117, .if_icmp .gt 127, 3)) rfl) (fun c29 => ?_) (fun c29 => ?_)
                                    · replace vc := vc.1 c29
                                      refine s_iconst (oe_t32 28 (q := (127, .iconst (-1), 1)) rfl) ?_
                                      exact s_iret (oe_t32 29 (q := (128, .ireturn, 1)) rfl) (Or.inl rfl) vc
                                    · replace vc := vc.2 c29
                                      refine s_iload_n (oe_t32 24 (q := (120, .iload_n 0, 1)) rfl) rfl ?_
                                      refine s_bipush (oe_t32 25 (q := (121, .bipush 117, 2)) rfl) ?_
                                      obtain ⟨r30, vc⟩ := vc
                                      refine s_isub (oe_t32 26 (q := (123, .isub, 1)) rfl) r30 ?_
                                      refine s_goto (oe_t32 27 (q := (124, .goto 128, 3)) rfl) ?_
                                      exact s_iret (oe_t32 29 (q := (128, .ireturn, 1)) rfl) (Or.inl rfl) vc
                                · replace vc := vc.2
                                  rcases c4 with c4 | c4
                                  · replace vc := vc.1 c4
                                    rw [c4] at c3
                                    have c5 : some (84 : Int) = some t0 := c3
                                    cases c5
                                    refine s_bipush (oe_t32 2 (q := (84, .bipush 20, 2)) rfl) ?_
                                    exact s_iret (oe_t32 3 (q := (86, .ireturn, 1)) rfl) (Or.inl rfl) vc
                                  · replace vc := vc.2
                                    · replace vc := vc c4
                                      rw [c4] at c3
                                      have c5 : some (87 : Int) = some t0 := c3
                                      cases c5
                                      refine s_bipush (oe_t32 4 (q := (87, .bipush 21, 2)) rfl) ?_
                                      exact s_iret (oe_t32 5 (q := (89, .ireturn, 1)) rfl) (Or.inl rfl) vc
theorem oe_u33 : oe_c33.all (fun q => decide (oe_find oe_c33 q.1 = some q.2)) = true := by decide +kernel
theorem oe_t33 (k : Nat) {q : Nat × Jvm.ClassFile.Instr × Nat} (h : oe_c33[k]? = some q) : oe_find (oe_code 33) q.1 = some q.2 := oe_ft oe_u33 h
theorem g33 {d : Nat} {sh : List (Nat × Nat)} {g : Nat → Nat → Option Nat} {h : Nat → Nat → Int} {Q : oeQ} {v0 : Int}
    (vc : ((v0 < 20 ∨ 27 < v0) → oe_rg (117 + v0) ∧ Q (some (.inl (117 + v0))) (sh, g, h)) ∧ (v0 = 20 → Q (some (.inl 112)) (sh, g, h)) ∧ (v0 = 21 → Q (some (.inl 113)) (sh, g, h)) ∧ (v0 = 22 → Q (some (.inl 102)) (sh, g, h)) ∧ (v0 = 23 → Q (some (.inl 103)) (sh, g, h)) ∧ (v0 = 24 → Q (some (.inl 97)) (sh, g, h)) ∧ (v0 = 25 → Q (some (.inl 98)) (sh, g, h)) ∧ (v0 = 26 → Q (some (.inl 99)) (sh, g, h)) ∧ (v0 = 27 → Q (some (.inl 100)) (sh, g, h))) :
    oe_M (d + 2) 33 [.inl v0] (sh, g, h) Q := by
  refine oe_M.of (by simp [oe_c1]) (Nat.le_of_ble_eq_true rfl) ?_
  show oe_V (oe_cost 33) 33 (oe_M (d + 1)) none Q 0 [some (.inl v0)] [] (sh, g, h) 0 0
  refine s_iload_n (oe_t33 0 (q := (0, .iload_n 0, 1)) rfl) rfl ?_
  refine s_tsw (oe_t33 1 (q := (1, .tableswitch 72 20 27 #[48, 51, 54, 57, 60, 63, 66, 69], 47)) rfl) (fun c0 => ?_) (fun t0 c1 c2 c3 => ?_)
  · replace vc := vc.1 c0
    refine s_bipush (oe_t33 18 (q := (72, .bipush 117, 2)) rfl) ?_
    refine s_iload_n (oe_t33 19 (q := (74, .iload_n 0, 1)) rfl) rfl ?_
    obtain ⟨r1, vc⟩ := vc
    refine s_iadd (oe_t33 20 (q := (75, .iadd, 1)) rfl) r1 ?_
    exact s_iret (oe_t33 21 (q := (76, .ireturn, 1)) rfl) (Or.inl rfl) vc
  · replace vc := vc.2
    have c4 : v0 = 20 ∨ v0 = 21 ∨ v0 = 22 ∨ v0 = 23 ∨ v0 = 24 ∨ v0 = 25 ∨ v0 = 26 ∨ v0 = 27 := by omega
    rcases c4 with c4 | c4
    · replace vc := vc.1 c4
      rw [c4] at c3
      have c5 : some (48 : Int) = some t0 := c3
      cases c5
      refine s_bipush (oe_t33 2 (q := (48, .bipush 112, 2)) rfl) ?_
      exact s_iret (oe_t33 3 (q := (50, .ireturn, 1)) rfl) (Or.inl rfl) vc
    · replace vc := vc.2
      rcases c4 with c4 | c4
      · replace vc := vc.1 c4
        rw [c4] at c3
        have c5 : some (51 : Int) = some t0 := c3
        cases c5
        refine s_bipush (oe_t33 4 (q := (51, .bipush 113, 2)) rfl) ?_
        exact s_iret (oe_t33 5 (q := (53, .ireturn, 1)) rfl) (Or.inl rfl) vc
      · replace vc := vc.2
        rcases c4 with c4 | c4
        · replace vc := vc.1 c4
          rw [c4] at c3
          have c5 : some (54 : Int) = some t0 := c3
          cases c5
          refine s_bipush (oe_t33 6 (q := (54, .bipush 102, 2)) rfl) ?_
          exact s_iret (oe_t33 7 (q := (56, .ireturn, 1)) rfl) (Or.inl rfl) vc
        · replace vc := vc.2
          rcases c4 with c4 | c4
          · replace vc := vc.1 c4
            rw [c4] at c3
            have c5 : some (57 : Int) = some t0 := c3
            cases c5
            refine s_bipush (oe_t33 8 (q := (57, .bipush 103, 2)) rfl) ?_
            exact s_iret (oe_t33 9 (q := (59, .ireturn, 1)) rfl) (Or.inl rfl) vc
          · replace vc := vc.2
            rcases c4 with c4 | c4
            · replace vc := vc.1 c4
              rw [c4] at c3
              have c5 : some (60 : Int) = some t0 := c3
              cases c5
              refine s_bipush (oe_t33 10 (q := (60, .bipush 97, 2)) rfl) ?_
              exact s_iret (oe_t33 11 (q := (62, .ireturn, 1)) rfl) (Or.inl rfl) vc
            · replace vc := vc.2
              rcases c4 with c4 | c4
              · replace vc := vc.1 c4
                rw [c4] at c3
                have c5 : some (63 : Int) = some t0 := c3
                cases c5
                refine s_bipush (oe_t33 12 (q := (63, .bipush 98, 2)) rfl) ?_
                exact s_iret (oe_t33 13 (q := (65, .ireturn, 1)) rfl) (Or.inl rfl) vc
              · replace vc := vc.2
                rcases c4 with c4 | c4
                · replace vc := vc.1 c4
                  rw [c4] at c3
                  have c5 : some (66 : Int) = some t0 := c3
                  cases c5
                  refine s_bipush (oe_t33 14 (q := (66, .bipush 99, 2)) rfl) ?_
                  exact s_iret (oe_t33 15 (q := (68, .ireturn, 1)) rfl) (Or.inl rfl) vc
                · replace vc := vc.2
                  · replace vc := vc c4
                    rw [c4] at c3
                    have c5 : some (69 : Int) = some t0 := c3
                    cases c5
                    refine s_bipush (oe_t33 16 (q := (69, .bipush 100, 2)) rfl) ?_
                    exact s_iret (oe_t33 17 (q := (71, .ireturn, 1)) rfl) (Or.inl rfl) vc
theorem oe_u36 : oe_c36.all (fun q => decide (oe_find oe_c36 q.1 = some q.2)) = true := by decide +kernel
theorem oe_t36 (k : Nat) {q : Nat × Jvm.ClassFile.Instr × Nat} (h : oe_c36[k]? = some q) : oe_find (oe_code 36) q.1 = some q.2 := oe_ft oe_u36 h
theorem g36 {d : Nat} {sh : List (Nat × Nat)} {g : Nat → Nat → Option Nat} {h : Nat → Nat → Int} {Q : oeQ} {v0 : Nat} {v1 : Int}
    (vc : sh[v0]? = some (12, 45) ∧ ∀ h2, h2 = oe_up h v0 1 0 → ∀ h4, h4 = oe_up h2 v0 6 0 → ∀ h6, h6 = oe_up h4 v0 7 0 → (v1 ≠ 2 → oe_V (oe_cost 36) 36 (oe_M (d + 1)) none Q 37 [some (.inr (.inl v0)), some (.inl v1), some (.inl (h v0 1)), some (.inl 1), some (.inl 0), some (.inl 0), none] [] (sh, g, h6) 0 0) ∧ (v1 = 2 → oe_V (oe_cost 36) 36 (oe_M (d + 1)) none Q 37 [some (.inr (.inl v0)), some (.inl v1), some (.inl (h v0 1)), some (.inl 1), some (.inl 1), some (.inl 0), none] [] (sh, g, h6) 0 0)) :
    oe_M (d + 2) 36 [.inr (.inl v0), .inl v1] (sh, g, h) Q := by
  refine oe_M.of (by simp [oe_c1]) (Nat.le_of_ble_eq_true rfl) ?_
  show oe_V (oe_cost 36) 36 (oe_M (d + 1)) none Q 0 [some (.inr (.inl v0)), some (.inl v1), none, none, none, none, none] [] (sh, g, h) 0 0
  refine s_aload_n (oe_t36 0 (q := (0, .aload_n 0, 1)) rfl) rfl ?_
  obtain ⟨s1, vc⟩ := vc
  refine s_geti (oe_t36 1 (q := (1, .getfield 7010, 3)) rfl) s1 rfl (by decide) ?_
  refine s_istore_n (oe_t36 2 (q := (4, .istore_n 2, 1)) rfl) ?_
  refine s_aload_n (oe_t36 3 (q := (5, .aload_n 0, 1)) rfl) rfl ?_
  refine s_iconst (oe_t36 4 (q := (6, .iconst 0, 1)) rfl) ?_
  refine t_puti (oe_t36 5 (q := (7, .putfield 7010, 3)) rfl) s1 rfl (Or.inl rfl) (fun h2 e3 => ?_)
  replace vc := vc h2 e3
  refine s_aload_n (oe_t36 6 (q := (10, .aload_n 0, 1)) rfl) rfl ?_
  refine s_iconst (oe_t36 7 (q := (11, .iconst 0, 1)) rfl) ?_
  refine t_puti (oe_t36 8 (q := (12, .putfield 7060, 3)) rfl) s1 rfl (Or.inl rfl) (fun h4 e5 => ?_)
  replace vc := vc h4 e5
  refine s_aload_n (oe_t36 9 (q := (15, .aload_n 0, 1)) rfl) rfl ?_
  refine s_iconst (oe_t36 10 (q := (16, .iconst 0, 1)) rfl) ?_
  refine t_puti (oe_t36 11 (q := (17, .putfield 7070, 3)) rfl) s1 rfl (Or.inl rfl) (fun h6 e7 => ?_)
  replace vc := vc h6 e7
  refine s_iconst (oe_t36 12 (q := (20, .iconst 1, 1)) rfl) ?_
  refine s_istore_n (oe_t36 13 (q := (21, .istore_n 3, 1)) rfl) ?_
  refine s_iload_n (oe_t36 14 (q := (22, .iload_n 1, 1)) rfl) rfl ?_
  refine s_iconst (oe_t36 15 (q := (23, .iconst 2, 1)) rfl) ?_
  refine s_ic_ne (oe_t36 16 (q := (24, .if_icmp .ne 31, 3)) rfl) (fun c8 => ?_) (fun c8 => ?_)
  · replace vc := vc.1 c8
    refine s_iconst (oe_t36 19 (q := (31, .iconst 0, 1)) rfl) ?_
    refine s_istore (oe_t36 20 (q := (32, .istore 4, 2)) rfl) ?_
    refine s_iconst (oe_t36 21 (q := (34, .iconst 0, 1)) rfl) ?_
    refine s_istore (oe_t36 22 (q := (35, .istore 5, 2)) rfl) ?_
    exact oe_V.fg (oe_M_mono _) (show oe_fg [some (.inr (.inl v0)), some (.inl v1), some (.inl (h v0 1)), some (.inl 1), some (.inl 0), some (.inl 0), none] _ from ⟨rfl, ⟨rfl, ⟨rfl, ⟨rfl, ⟨rfl, ⟨rfl, trivial⟩⟩⟩⟩⟩⟩) vc
  · replace vc := vc.2 c8
    refine s_iconst (oe_t36 17 (q := (27, .iconst 1, 1)) rfl) ?_
    refine s_goto (oe_t36 18 (q := (28, .goto 32, 3)) rfl) ?_
    refine s_istore (oe_t36 20 (q := (32, .istore 4, 2)) rfl) ?_
    refine s_iconst (oe_t36 21 (q := (34, .iconst 0, 1)) rfl) ?_
    refine s_istore (oe_t36 22 (q := (35, .istore 5, 2)) rfl) ?_
    exact oe_V.fg (oe_M_mono _) (show oe_fg [some (.inr (.inl v0)), some (.inl v1), some (.inl (h v0 1)), some (.inl 1), some (.inl 1), some (.inl 0), none] _ from ⟨rfl, ⟨rfl, ⟨rfl, ⟨rfl, ⟨rfl, ⟨rfl, trivial⟩⟩⟩⟩⟩⟩) vc
theorem g36_37 {d : Nat} {sh : List (Nat × Nat)} {g : Nat → Nat → Option Nat} {h : Nat → Nat → Int} {Q : oeQ} {v0 : Nat} {v1 : Int} {v2 : Int} {v3 : Int} {v4 : Int} {v5 : Int}
    (vc : (v2 ≤ v5 → (0 < v3 → Q (some (.inl v2)) (sh, g, h)) ∧ (v3 ≤ 0 → (v4 ≠ 0 → Q (some (.inl (-1))) (sh, g, h)) ∧ (v4 = 0 → Q (some (.inl v2)) (sh, g, h)))) ∧ (v5 < v2 → (v3 ≤ 0 → (v4 ≠ 0 → Q (some (.inl v5)) (sh, g, h)) ∧ (v4 = 0 → sh[v0]? = some (12, 45) ∧ ∃ q15, g v0 2 = some q15 ∧ ∃ n18, sh[q15]? = some (0, n18) ∧ 0 ≤ v5 ∧ v5 < (n18 : Nat) ∧ ((h q15 (v5 : Int).toNat) ≠ 61 → Q (some (.inl v5)) (sh, g, h)) ∧ ((h q15 (v5 : Int).toNat) = 61 → ∀ h22, h22 = oe_up h v0 6 (h v0 7) → oe_rg (v5 + 1) ∧ oe_V (oe_cost 36) 36 (oe_M (d + 1)) none Q 37 [some (.inr (.inl v0)), some (.inl v1), some (.inl v2), some (.inl 1), some (.inl 1), some (.inl (v5 + 1)), none] [] (sh, g, h22) 0 0))) ∧ (0 < v3 → sh[v0]? = some (12, 45) ∧ ∃ q26, g v0 2 = some q26 ∧ ∃ n29, sh[q26]? = some (0, n29) ∧ 0 ≤ v5 ∧ v5 < (n29 : Nat) ∧ oe_M (d + 1) 32 [.inl (h q26 (v5 : Int).toNat)] (sh, g, h) (fun r hp => ∃ (x33 : Int) (h32 : Nat → Nat → Int), r = some (.inl x33) ∧ hp = (sh, g, h32) ∧ (x33 < 0 → Q (some (.inl v5)) (sh, g, h32)) ∧ (0 ≤ x33 → (v1 ≠ 1 → oe_rg (v3 - 1) ∧ oe_M (d + 1) 34 [.inl x33] (sh, g, h32) (fun r hp => ∃ (x37 : Int), r = some (.inl x37) ∧ hp = (sh, g, h32) ∧ oe_rg ((v3 - 1) + x37) ∧ ∃ q39, g v0 5 = some q39 ∧ ∃ n42, sh[q39]? = some (0, n42) ∧ 0 ≤ (h32 v0 7) ∧ (h32 v0 7) < (n42 : Nat) ∧ ∀ h45, h45 = oe_up h32 q39 ((h32 v0 7) : Int).toNat x33 → oe_rg ((h45 v0 7) + 1) ∧ ∀ h48, h48 = oe_up h45 v0 7 ((h45 v0 7) + 1) → oe_rg (v5 + 1) ∧ oe_V (oe_cost 36) 36 (oe_M (d + 1)) none Q 37 [some (.inr (.inl v0)), some (.inl v1), some (.inl v2), some (.inl ((v3 - 1) + x37)), some (.inl v4), some (.inl (v5 + 1)), none] [] (sh, g, h48) 0 0)) ∧ (v1 = 1 → (x33 < 20 → Q (some (.inl v5)) (sh, g, h32)) ∧ (20 ≤ x33 → oe_rg (v3 - 1) ∧ oe_M (d + 1) 34 [.inl x33] (sh, g, h32) (fun r hp => ∃ (x53 : Int), r = some (.inl x53) ∧ hp = (sh, g, h32) ∧ oe_rg ((v3 - 1) + x53) ∧ ∃ q55, g v0 5 = some q55 ∧ ∃ n58, sh[q55]? = some (0, n58) ∧ 0 ≤ (h32 v0 7) ∧ (h32 v0 7) < (n58 : Nat) ∧ ∀ h61, h61 = oe_up h32 q55 ((h32 v0 7) : Int).toNat x33 → oe_rg ((h61 v0 7) + 1) ∧ ∀ h64, h64 = oe_up h61 v0 7 ((h61 v0 7) + 1) → oe_rg (v5 + 1) ∧ oe_V (oe_cost 36) 36 (oe_M (d + 1)) none Q 37 [some (.inr (.inl v0)), some (.inl v1), some (.inl v2), some (.inl ((v3 - 1) + x53)), some (.inl v4), some (.inl (v5 + 1)), none] [] (sh, g, h64) 0 0)))))))) :
    oe_V (oe_cost 36) 36 (oe_M (d + 1)) none Q 37 [some (.inr (.inl v0)), some (.inl v1), some (.inl v2), some (.inl v3), some (.inl v4), some (.inl v5), none] [] (sh, g, h) 0 0 := by
  refine s_iload (oe_t36 23 (q := (37, .iload 5, 2)) rfl) rfl ?_
  refine s_iload_n (oe_t36 24 (q := (39, .iload_n 2, 1)) rfl) rfl ?_
  refine s_ic_ge (oe_t36 25 (q := (40, .if_icmp .ge 156, 3)) rfl) (fun c9 => ?_) (fun c9 => ?_)
  · replace vc := vc.1 c9
    refine s_iload_n (oe_t36 85 (q := (156, .iload_n 3, 1)) rfl) rfl ?_
    refine s_if_gt (oe_t36 86 (q := (157, .ifCond .gt 165, 3)) rfl) (fun c10 => ?_) (fun c10 => ?_)
    · replace vc := vc.1 c10
      refine s_iload_n (oe_t36 89 (q := (165, .iload_n 2, 1)) rfl) rfl ?_
      refine s_goto (oe_t36 90 (q := (166, .goto 170, 3)) rfl) ?_
      exact s_iret (oe_t36 92 (q := (170, .ireturn, 1)) rfl) (Or.inl rfl) vc
    · replace vc := vc.2 c10
      refine s_iload (oe_t36 87 (q := (160, .iload 4, 2)) rfl) rfl ?_
      refine s_if_ne (oe_t36 88 (q := (162, .ifCond .ne 169, 3)) rfl) (fun c11 => ?_) (fun c11 => ?_)
      · replace vc := vc.1 c11
        refine s_iconst (oe_t36 91 (q := (169, .iconst (-1), 1)) rfl) ?_
        exact s_iret (oe_t36 92 (q := (170, .ireturn, 1)) rfl) (Or.inl rfl) vc
      · replace vc := vc.2 c11
        refine s_iload_n (oe_t36 89 (q := (165, .iload_n 2, 1)) rfl) rfl ?_
        refine s_goto (oe_t36 90 (q := (166, .goto 170, 3)) rfl) ?_
        exact s_iret (oe_t36 92 (q := (170, .ireturn, 1)) rfl) (Or.inl rfl) vc
  · replace vc := vc.2 c9
    refine s_iload_n (oe_t36 26 (q := (43, .iload_n 3, 1)) rfl) rfl ?_
    refine s_if_le (oe_t36 27 (q := (44, .ifCond .le 114, 3)) rfl) (fun c12 => ?_) (fun c12 => ?_)
    · replace vc := vc.1 c12
      refine s_iload (oe_t36 64 (q := (114, .iload 4, 2)) rfl) rfl ?_
      refine s_if_ne (oe_t36 65 (q := (116, .ifCond .ne 147, 3)) rfl) (fun c13 => ?_) (fun c13 => ?_)
      · replace vc := vc.1 c13
        refine s_iload (oe_t36 81 (q := (147, .iload 5, 2)) rfl) rfl ?_
        exact s_iret (oe_t36 82 (q := (149, .ireturn, 1)) rfl) (Or.inl rfl) vc
      · replace vc := vc.2 c13
        refine s_aload_n (oe_t36 66 (q := (119, .aload_n 0, 1)) rfl) rfl ?_
        obtain ⟨s14, vc⟩ := vc
        obtain ⟨q15, p16, vc⟩ := vc
        refine s_getr (oe_t36 67 (q := (120, .getfield 7021, 3)) rfl) s14 rfl rfl p16 ?_
        refine s_iload (oe_t36 68 (q := (123, .iload 5, 2)) rfl) rfl ?_
        obtain ⟨n18, s17, vc⟩ := vc
        obtain ⟨i19, i20, vc⟩ := vc
        refine s_iaload (oe_t36 69 (q := (125, .iaload, 1)) rfl) s17 i19 i20 ?_
        refine s_bipush (oe_t36 70 (q := (126, .bipush 61, 2)) rfl) ?_
        refine s_ic_ne (oe_t36 71 (q := (128, .if_icmp .ne 147, 3)) rfl) (fun c21 => ?_) (fun c21 => ?_)
        · replace vc := vc.1 c21
          refine s_iload (oe_t36 81 (q := (147, .iload 5, 2)) rfl) rfl ?_
          exact s_iret (oe_t36 82 (q := (149, .ireturn, 1)) rfl) (Or.inl rfl) vc
        · replace vc := vc.2 c21
          refine s_iconst (oe_t36 72 (q := (131, .iconst 1, 1)) rfl) ?_
          refine s_istore (oe_t36 73 (q := (132, .istore 4, 2)) rfl) ?_
          refine s_aload_n (oe_t36 74 (q := (134, .aload_n 0, 1)) rfl) rfl ?_
          refine s_aload_n (oe_t36 75 (q := (135, .aload_n 0, 1)) rfl) rfl ?_
          refine s_geti (oe_t36 76 (q := (136, .getfield 7070, 3)) rfl) s14 rfl (by decide) ?_
          refine t_puti (oe_t36 77 (q := (139, .putfield 7060, 3)) rfl) s14 rfl (Or.inl rfl) (fun h22 e23 => ?_)
          replace vc := vc h22 e23
          refine s_iconst (oe_t36 78 (q := (142, .iconst 1, 1)) rfl) ?_
          refine s_istore_n (oe_t36 79 (q := (143, .istore_n 3, 1)) rfl) ?_
          refine s_goto (oe_t36 80 (q := (144, .goto 150, 3)) rfl) ?_
          obtain ⟨r24, vc⟩ := vc
          refine s_iinc (oe_t36 83 (q := (150, .iinc 5 1, 3)) rfl) rfl r24 ?_
          refine s_goto (oe_t36 84 (q := (153, .goto 37, 3)) rfl) ?_
          exact oe_V.fg (oe_M_mono _) (show oe_fg [some (.inr (.inl v0)), some (.inl v1), some (.inl v2), some (.inl 1), some (.inl 1), some (.inl (v5 + 1)), none] _ from ⟨rfl, ⟨rfl, ⟨rfl, ⟨rfl, ⟨rfl, ⟨rfl, trivial⟩⟩⟩⟩⟩⟩) vc
    · replace vc := vc.2 c12
      refine s_aload_n (oe_t36 28 (q := (47, .aload_n 0, 1)) rfl) rfl ?_
      obtain ⟨s25, vc⟩ := vc
      obtain ⟨q26, p27, vc⟩ := vc
      refine s_getr (oe_t36 29 (q := (48, .getfield 7021, 3)) rfl) s25 rfl rfl p27 ?_
      refine s_iload (oe_t36 30 (q := (51, .iload 5, 2)) rfl) rfl ?_
      obtain ⟨n29, s28, vc⟩ := vc
      obtain ⟨i30, i31, vc⟩ := vc
      refine s_iaload (oe_t36 31 (q := (53, .iaload, 1)) rfl) s28 i30 i31 ?_
      refine s_calls (oe_t36 32 (q := (54, .invokestatic 32071, 3)) rfl) (by decide) (Nat.le_of_ble_eq_true rfl) (Nat.le_of_ble_eq_true rfl) (Nat.le_of_ble_eq_true rfl) (Nat.le_of_ble_eq_true rfl) ?_
      refine oe_M_mono _ _ _ _ _ _ (fun r hp vq => ?_) vc
      obtain ⟨x33, h32, rfl, rfl, vc⟩ := vq
      show oe_V (oe_cost 36) 36 (oe_M (d + 1)) none Q 57 [some (.inr (.inl v0)), some (.inl v1), some (.inl v2), some (.inl v3), some (.inl v4), some (.inl v5), none] [.inl x33] (sh, g, h32) 0 0
      refine s_istore (oe_t36 33 (q := (57, .istore 6, 2)) rfl) ?_
      refine s_iload (oe_t36 34 (q := (59, .iload 6, 2)) rfl) rfl ?_
      refine s_if_lt (oe_t36 35 (q := (61, .ifCond .lt 77, 3)) rfl) (fun c34 => ?_) (fun c34 => ?_)
      · replace vc := vc.1 c34
        refine s_iload (oe_t36 42 (q := (77, .iload 5, 2)) rfl) rfl ?_
        exact s_iret (oe_t36 43 (q := (79, .ireturn, 1)) rfl) (Or.inl rfl) vc
      · replace vc := vc.2 c34
        refine s_iload_n (oe_t36 36 (q := (64, .iload_n 1, 1)) rfl) rfl ?_
        refine s_iconst (oe_t36 37 (q := (65, .iconst 1, 1)) rfl) ?_
        refine s_ic_ne (oe_t36 38 (q := (66, .if_icmp .ne 80, 3)) rfl) (fun c35 => ?_) (fun c35 => ?_)
        · replace vc := vc.1 c35
          refine s_iload_n (oe_t36 44 (q := (80, .iload_n 3, 1)) rfl) rfl ?_
          refine s_iconst (oe_t36 45 (q := (81, .iconst 1, 1)) rfl) ?_
          obtain ⟨r36, vc⟩ := vc
          refine s_isub (oe_t36 46 (q := (82, .isub, 1)) rfl) r36 ?_
          refine s_iload (oe_t36 47 (q := (83, .iload 6, 2)) rfl) rfl ?_
          refine s_calls (oe_t36 48 (q := (85, .invokestatic 34071, 3)) rfl) (by decide) (Nat.le_of_ble_eq_true rfl) (Nat.le_of_ble_eq_true rfl) (Nat.le_of_ble_eq_true rfl) (Nat.le_of_ble_eq_true rfl) ?_
          refine oe_M_mono _ _ _ _ _ _ (fun r hp vq => ?_) vc
          obtain ⟨x37, rfl, rfl, vc⟩ := vq
          show oe_V (oe_cost 36) 36 (oe_M (d + 1)) none Q 88 [some (.inr (.inl v0)), some (.inl v1), some (.inl v2), some (.inl v3), some (.inl v4), some (.inl v5), some (.inl x33)] [.inl x37, .inl (v3 - 1)] (sh, g, h32) 0 0
          obtain ⟨r38, vc⟩ := vc
          refine s_iadd (oe_t36 49 (q := (88, .iadd, 1)) rfl) r38 ?_
          refine s_istore_n (oe_t36 50 (q := (89, .istore_n 3, 1)) rfl) ?_
          refine s_aload_n (oe_t36 51 (q := (90, .aload_n 0, 1)) rfl) rfl ?_
          obtain ⟨q39, p40, vc⟩ := vc
          refine s_getr (oe_t36 52 (q := (91, .getfield 7051, 3)) rfl) s25 rfl rfl p40 ?_
          refine s_aload_n (oe_t36 53 (q := (94, .aload_n 0, 1)) rfl) rfl ?_
          refine s_geti (oe_t36 54 (q := (95, .getfield 7070, 3)) rfl) s25 rfl (by decide) ?_
          refine s_iload (oe_t36 55 (q := (98, .iload 6, 2)) rfl) rfl ?_
          obtain ⟨n42, s41, vc⟩ := vc
          obtain ⟨i43, i44, vc⟩ := vc
          refine t_iastore (oe_t36 56 (q := (100, .iastore, 1)) rfl) s41 i43 i44 (fun h45 e46 => ?_)
          replace vc := vc h45 e46
          refine s_aload_n (oe_t36 57 (q := (101, .aload_n 0, 1)) rfl) rfl ?_
          refine s_dup (oe_t36 58 (q := (102, .dup, 1)) rfl) trivial ?_
          refine s_geti (oe_t36 59 (q := (103, .getfield 7070, 3)) rfl) s25 rfl (by decide) ?_
          refine s_iconst (oe_t36 60 (q := (106, .iconst 1, 1)) rfl) ?_
          obtain ⟨r47, vc⟩ := vc
          refine s_iadd (oe_t36 61 (q := (107, .iadd, 1)) rfl) r47 ?_
          refine t_puti (oe_t36 62 (q := (108, .putfield 7070, 3)) rfl) s25 rfl (Or.inl rfl) (fun h48 e49 => ?_)
          replace vc := vc h48 e49
          refine s_goto (oe_t36 63 (q := (111, .goto 150, 3)) rfl) ?_
          obtain ⟨r50, vc⟩ := vc
          refine s_iinc (oe_t36 83 (q := (150, .iinc 5 1, 3)) rfl) rfl r50 ?_
          refine s_goto (oe_t36 84 (q := (153, .goto 37, 3)) rfl) ?_
          exact oe_V.fg (oe_M_mono _) (show oe_fg [some (.inr (.inl v0)), some (.inl v1), some (.inl v2), some (.inl ((v3 - 1) + x37)), some (.inl v4), some (.inl (v5 + 1)), none] _ from ⟨rfl, ⟨rfl, ⟨rfl, ⟨rfl, ⟨rfl, ⟨rfl, trivial⟩⟩⟩⟩⟩⟩) vc
        · replace vc := vc.2 c35
          refine s_iload (oe_t36 39 (q := (69, .iload 6, 2)) rfl) rfl ?_
          refine s_calls (oe_t36 40 (q := (71, .invokestatic 35071, 3)) rfl) (by decide) (Nat.le_of_ble_eq_true rfl) (Nat.le_of_ble_eq_true rfl) (Nat.le_of_ble_eq_true rfl) (Nat.le_of_ble_eq_true rfl) (sp_35 (fun c51 => ?_) (fun c51 => ?_))
          · replace vc := vc.1 c51
            show oe_V (oe_cost 36) 36 (oe_M (d + 1)) none Q 74 [some (.inr (.inl v0)), some (.inl v1), some (.inl v2), some (.inl v3), some (.inl v4), some (.inl v5), some (.inl x33)] [.inl 1] (sh, g, h32) 0 0
            refine s_if_eq (oe_t36 41 (q := (74, .ifCond .eq 80, 3)) rfl) (fun q => absurd q (by decide)) (fun _ => ?_)
            refine s_iload (oe_t36 42 (q := (77, .iload 5, 2)) rfl) rfl ?_
            exact s_iret (oe_t36 43 (q := (79, .ireturn, 1)) rfl) (Or.inl rfl) vc
          · replace vc := vc.2 c51
            show oe_V (oe_cost 36) 36 (oe_M (d + 1)) none Q 74 [some (.inr (.inl v0)), some (.inl v1), some (.inl v2), some (.inl v3), some (.inl v4), some (.inl v5), some (.inl x33)] [.inl 0] (sh, g, h32) 0 0
            refine s_if_eq (oe_t36 41 (q := (74, .ifCond .eq 80, 3)) rfl) (fun _ => ?_) (fun q => absurd q (by decide))
            refine s_iload_n (oe_t36 44 (q := (80, .iload_n 3, 1)) rfl) rfl ?_
            refine s_iconst (oe_t36 45 (q := (81, .iconst 1, 1)) rfl) ?_
            obtain ⟨r52, vc⟩ := vc
            refine s_isub (oe_t36 46 (q := (82, .isub, 1)) rfl) r52 ?_
            refine s_iload (oe_t36 47 (q := (83, .iload 6, 2)) rfl) rfl ?_
            refine s_calls (oe_t36 48 (q := (85, .invokestatic 34071, 3)) rfl) (by decide) (Nat.le_of_ble_eq_true rfl) (Nat.le_of_ble_eq_true rfl) (Nat.le_of_ble_eq_true rfl) (Nat.le_of_ble_eq_true rfl) ?_
            refine oe_M_mono _ _ _ _ _ _ (fun r hp vq => ?_) vc
            obtain ⟨x53, rfl, rfl, vc⟩ := vq
            show oe_V (oe_cost 36) 36 (oe_M (d + 1)) none Q 88 [some (.inr (.inl v0)), some (.inl v1), some (.inl v2), some (.inl v3), some (.inl v4), some (.inl v5), some (.inl x33)] [.inl x53, .inl (v3 - 1)] (sh, g, h32) 0 0
            obtain ⟨r54, vc⟩ := vc
            refine s_iadd (oe_t36 49 (q := (88, .iadd, 1)) rfl) r54 ?_
            refine s_istore_n (oe_t36 50 (q := (89, .istore_n 3, 1)) rfl) ?_
            refine s_aload_n (oe_t36 51 (q := (90, .aload_n 0, 1)) rfl) rfl ?_
            obtain ⟨q55, p56, vc⟩ := vc
            refine s_getr (oe_t36 52 (q := (91, .getfield 7051, 3)) rfl) s25 rfl rfl p56 ?_
            refine s_aload_n (oe_t36 53 (q := (94, .aload_n 0, 1)) rfl) rfl ?_
            refine s_geti (oe_t36 54 (q := (95, .getfield 7070, 3)) rfl) s25 rfl (by decide) ?_
            refine s_iload (oe_t36 55 (q := (98, .iload 6, 2)) rfl) rfl ?_
            obtain ⟨n58, s57, vc⟩ := vc
            obtain ⟨i59, i60, vc⟩ := vc
            refine t_iastore (oe_t36 56 (q := (100, .iastore, 1)) rfl) s57 i59 i60 (fun h61 e62 => ?_)
            replace vc := vc h61 e62
            refine s_aload_n (oe_t36 57 (q := (101, .aload_n 0, 1)) rfl) rfl ?_
            refine s_dup (oe_t36 58 (q := (102, .dup, 1)) rfl) trivial ?_
            refine s_geti (oe_t36 59 (q := (103, .getfield 7070, 3)) rfl) s25 rfl (by decide) ?_
            refine s_iconst (oe_t36 60 (q := (106, .iconst 1, 1)) rfl) ?_
            obtain ⟨r63, vc⟩ := vc
            refine s_iadd (oe_t36 61 (q := (107, .iadd, 1)) rfl) r63 ?_
            refine t_puti (oe_t36 62 (q := (108, .putfield 7070, 3)) rfl) s25 rfl (Or.inl rfl) (fun h64 e65 => ?_)
            replace vc := vc h64 e65
            refine s_goto (oe_t36 63 (q := (111, .goto 150, 3)) rfl) ?_
            obtain ⟨r66, vc⟩ := vc
            refine s_iinc (oe_t36 83 (q := (150, .iinc 5 1, 3)) rfl) rfl r66 ?_
            refine s_goto (oe_t36 84 (q := (153, .goto 37, 3)) rfl) ?_
            exact oe_V.fg (oe_M_mono _) (show oe_fg [some (.inr (.inl v0)), some (.inl v1), some (.inl v2), some (.inl ((v3 - 1) + x53)), some (.inl v4), some (.inl (v5 + 1)), none] _ from ⟨rfl, ⟨rfl, ⟨rfl, ⟨rfl, ⟨rfl, ⟨rfl, trivial⟩⟩⟩⟩⟩⟩) vc
theorem oe_u37 : oe_c37.all (fun q => decide (oe_find oe_c37 q.1 = some q.2)) = true := by decide +kernel
theorem oe_t37 (k : Nat) {q : Nat × Jvm.ClassFile.Instr × Nat} (h : oe_c37[k]? = some q) : oe_find (oe_code 37) q.1 = some q.2 := oe_ft oe_u37 h
theorem g37 {d : Nat} {sh : List (Nat × Nat)} {g : Nat → Nat → Option Nat} {h : Nat → Nat → Int} {Q : oeQ} {v0 : Nat} {v1 : Int} {v2 : Int}
    (vc : sh[v0]? = some (12, 45) ∧ ∃ q2, g v0 25 = some q2 ∧ ∃ n5, sh[q2]? = some (0, n5) ∧ 0 ≤ v1 ∧ v1 < (n5 : Nat) ∧ oe_rg ((h q2 (v1 : Int).toNat) - v1) ∧ ∃ q9, g v0 26 = some q9 ∧ ∃ n12, sh[q9]? = some (0, n12) ∧ 0 ≤ v2 ∧ v2 < (n12 : Nat) ∧ oe_rg ((h q9 (v2 : Int).toNat) - v2) ∧ (((h q2 (v1 : Int).toNat) - v1) ≠ ((h q9 (v2 : Int).toNat) - v2) → oe_V (oe_cost 37) 37 (oe_M (d + 1)) none Q 28 [some (.inr (.inl v0)), some (.inl v1), some (.inl v2), some (.inl 0), some (.inl 0)] [] (sh, g, h) 0 0) ∧ (((h q2 (v1 : Int).toNat) - v1) = ((h q9 (v2 : Int).toNat) - v2) → oe_V (oe_cost 37) 37 (oe_M (d + 1)) none Q 28 [some (.inr (.inl v0)), some (.inl v1), some (.inl v2), some (.inl 1), some (.inl 0)] [] (sh, g, h) 0 0)) :
    oe_M (d + 2) 37 [.inr (.inl v0), .inl v1, .inl v2] (sh, g, h) Q := by
  refine oe_M.of (by simp [oe_c1]) (Nat.le_of_ble_eq_true rfl) ?_
  show oe_V (oe_cost 37) 37 (oe_M (d + 1)) none Q 0 [some (.inr (.inl v0)), some (.inl v1), some (.inl v2), none, none] [] (sh, g, h) 0 0
  refine s_aload_n (oe_t37 0 (q := (0, .aload_n 0, 1)) rfl) rfl ?_
  obtain ⟨s1, vc⟩ := vc
  obtain ⟨q2, p3, vc⟩ := vc
  refine s_getr (oe_t37 1 (q := (1, .getfield 7251, 3)) rfl) s1 rfl rfl p3 ?_
  refine s_iload_n (oe_t37 2 (q := (4, .iload_n 1, 1)) rfl) rfl ?_
  obtain ⟨n5, s4, vc⟩ := vc
  obtain ⟨i6, i7, vc⟩ := vc
  refine s_iaload (oe_t37 3 (q := (5, .iaload, 1)) rfl) s4 i6 i7 ?_
  refine s_iload_n (oe_t37 4 (q := (6, .iload_n 1, 1)) rfl) rfl ?_
  obtain ⟨r8, vc⟩ := vc
  refine s_isub (oe_t37 5 (q := (7, .isub, 1)) rfl) r8 ?_
  refine s_aload_n (oe_t37 6 (q := (8, .aload_n 0, 1)) rfl) rfl ?_
  obtain ⟨q9, p10, vc⟩ := vc
  refine s_getr (oe_t37 7 (q := (9, .getfield 7261, 3)) rfl) s1 rfl rfl p10 ?_
  refine s_iload_n (oe_t37 8 (q := (12, .iload_n 2, 1)) rfl) rfl ?_
  obtain ⟨n12, s11, vc⟩ := vc
  obtain ⟨i13, i14, vc⟩ := vc
  refine s_iaload (oe_t37 9 (q := (13, .iaload, 1)) rfl) s11 i13 i14 ?_
  refine s_iload_n (oe_t37 10 (q := (14, .iload_n 2, 1)) rfl) rfl ?_
  obtain ⟨r15, vc⟩ := vc
  refine s_isub (oe_t37 11 (q := (15, .isub, 1)) rfl) r15 ?_
  refine s_ic_ne (oe_t37 12 (q := (16, .if_icmp .ne 23, 3)) rfl) (fun c16 => ?_) (fun c16 => ?_)
  · replace vc := vc.1 c16
    refine s_iconst (oe_t37 15 (q := (23, .iconst 0, 1)) rfl) ?_
    refine s_istore_n (oe_t37 16 (q := (24, .istore_n 3, 1)) rfl) ?_
    refine s_iconst (oe_t37 17 (q := (25, .iconst 0, 1)) rfl) ?_
    refine s_istore (oe_t37 18 (q := (26, .istore 4, 2)) rfl) ?_
    exact oe_V.fg (oe_M_mono _) (show oe_fg [some (.inr (.inl v0)), some (.inl v1), some (.inl v2), some (.inl 0), some (.inl 0)] _ from ⟨rfl, ⟨rfl, ⟨rfl, ⟨rfl, ⟨rfl, trivial⟩⟩⟩⟩⟩) vc
  · replace vc := vc.2 c16
    refine s_iconst (oe_t37 13 (q := (19, .iconst 1, 1)) rfl) ?_
    refine s_goto (oe_t37 14 (q := (20, .goto 24, 3)) rfl) ?_
    refine s_istore_n (oe_t37 16 (q := (24, .istore_n 3, 1)) rfl) ?_
    refine s_iconst (oe_t37 17 (q := (25, .iconst 0, 1)) rfl) ?_
    refine s_istore (oe_t37 18 (q := (26, .istore 4, 2)) rfl) ?_
    exact oe_V.fg (oe_M_mono _) (show oe_fg [some (.inr (.inl v0)), some (.inl v1), some (.inl v2), some (.inl 1), some (.inl 0)] _ from ⟨rfl, ⟨rfl, ⟨rfl, ⟨rfl, ⟨rfl, trivial⟩⟩⟩⟩⟩) vc
theorem g37_28 {d : Nat} {sh : List (Nat × Nat)} {g : Nat → Nat → Option Nat} {h : Nat → Nat → Int} {Q : oeQ} {v0 : Nat} {v1 : Int} {v2 : Int} {v3 : Int} {v4 : Int}
    (vc : (v3 = 0 → (v3 = 0 ∨ v3 = 1) ∧ Q (some (.inl v3)) (sh, g, h)) ∧ (v3 ≠ 0 → oe_rg (v1 + v4) ∧ sh[v0]? = some (12, 45) ∧ ∃ q21, g v0 25 = some q21 ∧ ∃ n24, sh[q21]? = some (0, n24) ∧ 0 ≤ v1 ∧ v1 < (n24 : Nat) ∧ ((h q21 (v1 : Int).toNat) ≤ (v1 + v4) → (v3 = 0 ∨ v3 = 1) ∧ Q (some (.inl v3)) (sh, g, h)) ∧ ((v1 + v4) < (h q21 (v1 : Int).toNat) → ∃ q29, g v0 21 = some q29 ∧ oe_rg (v1 + v4) ∧ ∃ n33, sh[q29]? = some (0, n33) ∧ 0 ≤ (v1 + v4) ∧ (v1 + v4) < (n33 : Nat) ∧ ∃ q36, g v0 23 = some q36 ∧ oe_rg (v2 + v4) ∧ ∃ n40, sh[q36]? = some (0, n40) ∧ 0 ≤ (v2 + v4) ∧ (v2 + v4) < (n40 : Nat) ∧ ((h q29 ((v1 + v4) : Int).toNat) ≠ (h q36 ((v2 + v4) : Int).toNat) → oe_rg (v4 + 1) ∧ oe_V (oe_cost 37) 37 (oe_M (d + 1)) none Q 28 [some (.inr (.inl v0)), some (.inl v1), some (.inl v2), some (.inl 0), some (.inl (v4 + 1))] [] (sh, g, h) 0 0) ∧ ((h q29 ((v1 + v4) : Int).toNat) = (h q36 ((v2 + v4) : Int).toNat) → oe_rg (v4 + 1) ∧ oe_V (oe_cost 37) 37 (oe_M (d + 1)) none Q 28 [some (.inr (.inl v0)), some (.inl v1), some (.inl v2), some (.inl 1), some (.inl (v4 + 1))] [] (sh, g, h) 0 0)))) :
    oe_V (oe_cost 37) 37 (oe_M (d + 1)) none Q 28 [some (.inr (.inl v0)), some (.inl v1), some (.inl v2), some (.inl v3), some (.inl v4)] [] (sh, g, h) 0 0 := by
  refine s_iload_n (oe_t37 19 (q := (28, .iload_n 3, 1)) rfl) rfl ?_
  refine s_if_eq (oe_t37 20 (q := (29, .ifCond .eq 78, 3)) rfl) (fun c17 => ?_) (fun c17 => ?_)
  · replace vc := vc.1 c17
    refine s_iload_n (oe_t37 48 (q := (78, .iload_n 3, 1)) rfl) rfl ?_
    obtain ⟨b18, vc⟩ := vc
    exact s_iret (oe_t37 49 (q := (79, .ireturn, 1)) rfl) (Or.inr (Or.inl ⟨rfl, b18⟩)) vc
  · replace vc := vc.2 c17
    refine s_iload_n (oe_t37 21 (q := (32, .iload_n 1, 1)) rfl) rfl ?_
    refine s_iload (oe_t37 22 (q := (33, .iload 4, 2)) rfl) rfl ?_
    obtain ⟨r19, vc⟩ := vc
    refine s_iadd (oe_t37 23 (q := (35, .iadd, 1)) rfl) r19 ?_
    refine s_aload_n (oe_t37 24 (q := (36, .aload_n 0, 1)) rfl) rfl ?_
    obtain ⟨s20, vc⟩ := vc
    obtain ⟨q21, p22, vc⟩ := vc
    refine s_getr (oe_t37 25 (q := (37, .getfield 7251, 3)) rfl) s20 rfl rfl p22 ?_
    refine s_iload_n (oe_t37 26 (q := (40, .iload_n 1, 1)) rfl) rfl ?_
    obtain ⟨n24, s23, vc⟩ := vc
    obtain ⟨i25, i26, vc⟩ := vc
    refine s_iaload (oe_t37 27 (q := (41, .iaload, 1)) rfl) s23 i25 i26 ?_
    refine s_ic_ge (oe_t37 28 (q := (42, .if_icmp .ge 78, 3)) rfl) (fun c27 => ?_) (fun c27 => ?_)
    · replace vc := vc.1 c27
      refine s_iload_n (oe_t37 48 (q := (78, .iload_n 3, 1)) rfl) rfl ?_
      obtain ⟨b28, vc⟩ := vc
      exact s_iret (oe_t37 49 (q := (79, .ireturn, 1)) rfl) (Or.inr (Or.inl ⟨rfl, b28⟩)) vc
    · replace vc := vc.2 c27
      refine s_aload_n (oe_t37 29 (q := (45, .aload_n 0, 1)) rfl) rfl ?_
      obtain ⟨q29, p30, vc⟩ := vc
      refine s_getr (oe_t37 30 (q := (46, .getfield 7211, 3)) rfl) s20 rfl rfl p30 ?_
      refine s_iload_n (oe_t37 31 (q := (49, .iload_n 1, 1)) rfl) rfl ?_
      refine s_iload (oe_t37 32 (q := (50, .iload 4, 2)) rfl) rfl ?_
      obtain ⟨r31, vc⟩ := vc
      refine s_iadd (oe_t37 33 (q := (52, .iadd, 1)) rfl) r31 ?_
      obtain ⟨n33, s32, vc⟩ := vc
      obtain ⟨i34, i35, vc⟩ := vc
      refine s_iaload (oe_t37 34 (q := (53, .iaload, 1)) rfl) s32 i34 i35 ?_
      refine s_aload_n (oe_t37 35 (q := (54, .aload_n 0, 1)) rfl) rfl ?_
      obtain ⟨q36, p37, vc⟩ := vc
      refine s_getr (oe_t37 36 (q := (55, .getfield 7231, 3)) rfl) s20 rfl rfl p37 ?_
      refine s_iload_n (oe_t37 37 (q := (58, .iload_n 2, 1)) rfl) rfl ?_
      refine s_iload (oe_t37 38 (q := (59, .iload 4, 2)) rfl) rfl ?_
      obtain ⟨r38, vc⟩ := vc
      refine s_iadd (oe_t37 39 (q := (61, .iadd, 1)) rfl) r38 ?_
      obtain ⟨n40, s39, vc⟩ := vc
      obtain ⟨i41, i42, vc⟩ := vc
      refine s_iaload (oe_t37 40 (q := (62, .iaload, 1)) rfl) s39 i41 i42 ?_
      refine s_ic_ne (oe_t37 41 (q := (63, .if_icmp .ne 70, 3)) rfl) (fun c43 => ?_) (fun c43 => ?_)
      · replace vc := vc.1 c43
        refine s_iconst (oe_t37 44 (q := (70, .iconst 0, 1)) rfl) ?_
        refine s_istore_n (oe_t37 45 (q := (71, .istore_n 3, 1)) rfl) ?_
        obtain ⟨r44, vc⟩ := vc
        refine s_iinc (oe_t37 46 (q := (72, .iinc 4 1, 3)) rfl) rfl r44 ?_
        refine s_goto (oe_t37 47 (q := (75, .goto 28, 3)) rfl) ?_
        exact oe_V.fg (oe_M_mono _) (show oe_fg [some (.inr (.inl v0)), some (.inl v1), some (.inl v2), some (.inl 0), some (.inl (v4 + 1))] _ from ⟨rfl, ⟨rfl, ⟨rfl, ⟨rfl, ⟨rfl, trivial⟩⟩⟩⟩⟩) vc
      · replace vc := vc.2 c43
        refine s_iconst (oe_t37 42 (q := (66, .iconst 1, 1)) rfl) ?_
        refine s_goto (oe_t37 43 (q := (67, .goto 71, 3)) rfl) ?_
        refine s_istore_n (oe_t37 45 (q := (71, .istore_n 3, 1)) rfl) ?_
        obtain ⟨r45, vc⟩ := vc
        refine s_iinc (oe_t37 46 (q := (72, .iinc 4 1, 3)) rfl) rfl r45 ?_
        refine s_goto (oe_t37 47 (q := (75, .goto 28, 3)) rfl) ?_
        exact oe_V.fg (oe_M_mono _) (show oe_fg [some (.inr (.inl v0)), some (.inl v1), some (.inl v2), some (.inl 1), some (.inl (v4 + 1))] _ from ⟨rfl, ⟨rfl, ⟨rfl, ⟨rfl, ⟨rfl, trivial⟩⟩⟩⟩⟩) vc
theorem oe_u38 : oe_c38.all (fun q => decide (oe_find oe_c38 q.1 = some q.2)) = true := by decide +kernel
theorem oe_t38 (k : Nat) {q : Nat × Jvm.ClassFile.Instr × Nat} (h : oe_c38[k]? = some q) : oe_find (oe_code 38) q.1 = some q.2 := oe_ft oe_u38 h
theorem g38 {d : Nat} {sh : List (Nat × Nat)} {g : Nat → Nat → Option Nat} {h : Nat → Nat → Int} {Q : oeQ} {v0 : Nat} {v1 : Int} {v2 : Int}
    (vc : oe_rg (v1 + 1) ∧ oe_V (oe_cost 38) 38 (oe_M (d + 1)) none Q 10 [some (.inr (.inl v0)), some (.inl v1), some (.inl v2), some (.inl 0), some (.inl (v1 + 1)), some (.inl 0)] [] (sh, g, h) 0 0) :
    oe_M (d + 2) 38 [.inr (.inl v0), .inl v1, .inl v2] (sh, g, h) Q := by
  refine oe_M.of (by simp [oe_c1]) (Nat.le_of_ble_eq_true rfl) ?_
  show oe_V (oe_cost 38) 38 (oe_M (d + 1)) none Q 0 [some (.inr (.inl v0)), some (.inl v1), some (.inl v2), none, none, none] [] (sh, g, h) 0 0
  refine s_iconst (oe_t38 0 (q := (0, .iconst 0, 1)) rfl) ?_
  refine s_istore_n (oe_t38 1 (q := (1, .istore_n 3, 1)) rfl) ?_
  refine s_iload_n (oe_t38 2 (q := (2, .iload_n 1, 1)) rfl) rfl ?_
  refine s_iconst (oe_t38 3 (q := (3, .iconst 1, 1)) rfl) ?_
  obtain ⟨r1, vc⟩ := vc
  refine s_iadd (oe_t38 4 (q := (4, .iadd, 1)) rfl) r1 ?_
  refine s_istore (oe_t38 5 (q := (5, .istore 4, 2)) rfl) ?_
  refine s_iconst (oe_t38 6 (q := (7, .iconst 0, 1)) rfl) ?_
  refine s_istore (oe_t38 7 (q := (8, .istore 5, 2)) rfl) ?_
  exact oe_V.fg (oe_M_mono _) (show oe_fg [some (.inr (.inl v0)), some (.inl v1), some (.inl v2), some (.inl 0), some (.inl (v1 + 1)), some (.inl 0)] _ from ⟨rfl, ⟨rfl, ⟨rfl, ⟨rfl, ⟨rfl, ⟨rfl, trivial⟩⟩⟩⟩⟩⟩) vc
theorem g38_10 {d : Nat} {sh : List (Nat × Nat)} {g : Nat → Nat → Option Nat} {h : Nat → Nat → Int} {Q : oeQ} {v0 : Nat} {v1 : Int} {v2 : Int} {v3 : Int} {v4 : Int} {v5 : Int}
    (vc : sh[v0]? = some (12, 45) ∧ ∃ q3, g v0 21 = some q3 ∧ ∃ n6, sh[q3]? = some (0, n6) ∧ 0 ≤ v1 ∧ v1 < (n6 : Nat) ∧ oe_M (d + 1) 34 [.inl (h q3 (v1 : Int).toNat)] (sh, g, h) (fun r hp => ∃ (x9 : Int), r = some (.inl x9) ∧ hp = (sh, g, h) ∧ (x9 ≤ v5 → (v3 = 0 ∨ v3 = 1) ∧ Q (some (.inl v3)) (sh, g, h)) ∧ (v5 < x9 → (v3 ≠ 0 → ∃ q13, g v0 25 = some q13 ∧ ∃ n16, sh[q13]? = some (0, n16) ∧ 0 ≤ v4 ∧ v4 < (n16 : Nat) ∧ oe_rg (v5 + 1) ∧ oe_V (oe_cost 38) 38 (oe_M (d + 1)) none Q 10 [some (.inr (.inl v0)), some (.inl v1), some (.inl v2), some (.inl 1), some (.inl (h q13 (v4 : Int).toNat)), some (.inl (v5 + 1))] [] (sh, g, h) 0 0) ∧ (v3 = 0 → ∃ q20, g v0 27 = some q20 ∧ oe_rg (60 * v4) ∧ oe_rg ((60 * v4) + v2) ∧ ∃ n25, sh[q20]? = some (2, n25) ∧ 0 ≤ ((60 * v4) + v2) ∧ ((60 * v4) + v2) < (n25 : Nat) ∧ ((h q20 (((60 * v4) + v2) : Int).toNat) ≠ 0 → ∃ q29, g v0 25 = some q29 ∧ ∃ n32, sh[q29]? = some (0, n32) ∧ 0 ≤ v4 ∧ v4 < (n32 : Nat) ∧ oe_rg (v5 + 1) ∧ oe_V (oe_cost 38) 38 (oe_M (d + 1)) none Q 10 [some (.inr (.inl v0)), some (.inl v1), some (.inl v2), some (.inl 1), some (.inl (h q29 (v4 : Int).toNat)), some (.inl (v5 + 1))] [] (sh, g, h) 0 0) ∧ ((h q20 (((60 * v4) + v2) : Int).toNat) = 0 → oe_M (d + 1) 37 [.inr (.inl v0), .inl v4, .inl v2] (sh, g, h) (fun r hp => ∃ (x36 : Int), r = some (.inl x36) ∧ hp = (sh, g, h) ∧ (x36 = 0 → ∃ q38, g v0 25 = some q38 ∧ ∃ n41, sh[q38]? = some (0, n41) ∧ 0 ≤ v4 ∧ v4 < (n41 : Nat) ∧ oe_rg (v5 + 1) ∧ oe_V (oe_cost 38) 38 (oe_M (d + 1)) none Q 10 [some (.inr (.inl v0)), some (.inl v1), some (.inl v2), some (.inl 0), some (.inl (h q38 (v4 : Int).toNat)), some (.inl (v5 + 1))] [] (sh, g, h) 0 0) ∧ (x36 ≠ 0 → ∃ q45, g v0 25 = some q45 ∧ ∃ n48, sh[q45]? = some (0, n48) ∧ 0 ≤ v4 ∧ v4 < (n48 : Nat) ∧ oe_rg (v5 + 1) ∧ oe_V (oe_cost 38) 38 (oe_M (d + 1)) none Q 10 [some (.inr (.inl v0)), some (.inl v1), some (.inl v2), some (.inl 1), some (.inl (h q45 (v4 : Int).toNat)), some (.inl (v5 + 1))] [] (sh, g, h) 0 0))))))) :
    oe_V (oe_cost 38) 38 (oe_M (d + 1)) none Q 10 [some (.inr (.inl v0)), some (.inl v1), some (.inl v2), some (.inl v3), some (.inl v4), some (.inl v5)] [] (sh, g, h) 0 0 := by
  refine s_iload (oe_t38 8 (q := (10, .iload 5, 2)) rfl) rfl ?_
  refine s_aload_n (oe_t38 9 (q := (12, .aload_n 0, 1)) rfl) rfl ?_
  obtain ⟨s2, vc⟩ := vc
  obtain ⟨q3, p4, vc⟩ := vc
  refine s_getr (oe_t38 10 (q := (13, .getfield 7211, 3)) rfl) s2 rfl rfl p4 ?_
  refine s_iload_n (oe_t38 11 (q := (16, .iload_n 1, 1)) rfl) rfl ?_
  obtain ⟨n6, s5, vc⟩ := vc
  obtain ⟨i7, i8, vc⟩ := vc
  refine s_iaload (oe_t38 12 (q := (17, .iaload, 1)) rfl) s5 i7 i8 ?_
  refine s_calls (oe_t38 13 (q := (18, .invokestatic 34071, 3)) rfl) (by decide) (Nat.le_of_ble_eq_true rfl) (Nat.le_of_ble_eq_true rfl) (Nat.le_of_ble_eq_true rfl) (Nat.le_of_ble_eq_true rfl) ?_
  refine oe_M_mono _ _ _ _ _ _ (fun r hp vq => ?_) vc
  obtain ⟨x9, rfl, rfl, vc⟩ := vq
  show oe_V (oe_cost 38) 38 (oe_M (d + 1)) none Q 21 [some (.inr (.inl v0)), some (.inl v1), some (.inl v2), some (.inl v3), some (.inl v4), some (.inl v5)] [.inl x9, .inl v5] (sh, g, h) 0 0
  refine s_ic_ge (oe_t38 14 (q := (21, .if_icmp .ge 74, 3)) rfl) (fun c10 => ?_) (fun c10 => ?_)
  · replace vc := vc.1 c10
    refine s_iload_n (oe_t38 42 (q := (74, .iload_n 3, 1)) rfl) rfl ?_
    obtain ⟨b11, vc⟩ := vc
    exact s_iret (oe_t38 43 (q := (75, .ireturn, 1)) rfl) (Or.inr (Or.inl ⟨rfl, b11⟩)) vc
  · replace vc := vc.2 c10
    refine s_iload_n (oe_t38 15 (q := (24, .iload_n 3, 1)) rfl) rfl ?_
    refine s_if_ne (oe_t38 16 (q := (25, .ifCond .ne 53, 3)) rfl) (fun c12 => ?_) (fun c12 => ?_)
    · replace vc := vc.1 c12
      refine s_iconst (oe_t38 31 (q := (53, .iconst 1, 1)) rfl) ?_
      refine s_goto (oe_t38 32 (q := (54, .goto 58, 3)) rfl) ?_
      refine s_istore_n (oe_t38 34 (q := (58, .istore_n 3, 1)) rfl) ?_
      refine s_aload_n (oe_t38 35 (q := (59, .aload_n 0, 1)) rfl) rfl ?_
      obtain ⟨q13, p14, vc⟩ := vc
      refine s_getr (oe_t38 36 (q := (60, .getfield 7251, 3)) rfl) s2 rfl rfl p14 ?_
      refine s_iload (oe_t38 37 (q := (63, .iload 4, 2)) rfl) rfl ?_
      obtain ⟨n16, s15, vc⟩ := vc
      obtain ⟨i17, i18, vc⟩ := vc
      refine s_iaload (oe_t38 38 (q := (65, .iaload, 1)) rfl) s15 i17 i18 ?_
      refine s_istore (oe_t38 39 (q := (66, .istore 4, 2)) rfl) ?_
      obtain ⟨r19, vc⟩ := vc
      refine s_iinc (oe_t38 40 (q := (68, .iinc 5 1, 3)) rfl) rfl r19 ?_
      refine s_goto (oe_t38 41 (q := (71, .goto 10, 3)) rfl) ?_
      exact oe_V.fg (oe_M_mono _) (show oe_fg [some (.inr (.inl v0)), some (.inl v1), some (.inl v2), some (.inl 1), some (.inl (h q13 (v4 : Int).toNat)), some (.inl (v5 + 1))] _ from ⟨rfl, ⟨rfl, ⟨rfl, ⟨rfl, ⟨rfl, ⟨rfl, trivial⟩⟩⟩⟩⟩⟩) vc
    · replace vc := vc.2 c12
      refine s_aload_n (oe_t38 17 (q := (28, .aload_n 0, 1)) rfl) rfl ?_
      obtain ⟨q20, p21, vc⟩ := vc
      refine s_getr (oe_t38 18 (q := (29, .getfield 7271, 3)) rfl) s2 rfl rfl p21 ?_
      refine s_bipush (oe_t38 19 (q := (32, .bipush 60, 2)) rfl) ?_
      refine s_iload (oe_t38 20 (q := (34, .iload 4, 2)) rfl) rfl ?_
      obtain ⟨r22, vc⟩ := vc
      refine s_imul (oe_t38 21 (q := (36, .imul, 1)) rfl) r22 ?_
      refine s_iload_n (oe_t38 22 (q := (37, .iload_n 2, 1)) rfl) rfl ?_
      obtain ⟨r23, vc⟩ := vc
      refine s_iadd (oe_t38 23 (q := (38, .iadd, 1)) rfl) r23 ?_
      obtain ⟨n25, s24, vc⟩ := vc
      obtain ⟨i26, i27, vc⟩ := vc
      refine s_baload (oe_t38 24 (q := (39, .baload, 1)) rfl) s24 i26 i27 ?_
      refine s_if_ne (oe_t38 25 (q := (40, .ifCond .ne 53, 3)) rfl) (fun c28 => ?_) (fun c28 => ?_)
      · replace vc := vc.1 c28
        refine s_iconst (oe_t38 31 (q := (53, .iconst 1, 1)) rfl) ?_
        refine s_goto (oe_t38 32 (q := (54, .goto 58, 3)) rfl) ?_
        refine s_istore_n (oe_t38 34 (q := (58, .istore_n 3, 1)) rfl) ?_
        refine s_aload_n (oe_t38 35 (q := (59, .aload_n 0, 1)) rfl) rfl ?_
        obtain ⟨q29, p30, vc⟩ := vc
        refine s_getr (oe_t38 36 (q := (60, .getfield 7251, 3)) rfl) s2 rfl rfl p30 ?_
        refine s_iload (oe_t38 37 (q := (63, .iload 4, 2)) rfl) rfl ?_
        obtain ⟨n32, s31, vc⟩ := vc
        obtain ⟨i33, i34, vc⟩ := vc
        refine s_iaload (oe_t38 38 (q := (65, .iaload, 1)) rfl) s31 i33 i34 ?_
        refine s_istore (oe_t38 39 (q := (66, .istore 4, 2)) rfl) ?_
        obtain ⟨r35, vc⟩ := vc
        refine s_iinc (oe_t38 40 (q := (68, .iinc 5 1, 3)) rfl) rfl r35 ?_
        refine s_goto (oe_t38 41 (q := (71, .goto 10, 3)) rfl) ?_
        exact oe_V.fg (oe_M_mono _) (show oe_fg [some (.inr (.inl v0)), some (.inl v1), some (.inl v2), some (.inl 1), some (.inl (h q29 (v4 : Int).toNat)), some (.inl (v5 + 1))] _ from ⟨rfl, ⟨rfl, ⟨rfl, ⟨rfl, ⟨rfl, ⟨rfl, trivial⟩⟩⟩⟩⟩⟩) vc
      · replace vc := vc.2 c28
        refine s_aload_n (oe_t38 26 (q := (43, .aload_n 0, 1)) rfl) rfl ?_
        refine s_iload (oe_t38 27 (q := (44, .iload 4, 2)) rfl) rfl ?_
        refine s_iload_n (oe_t38 28 (q := (46, .iload_n 2, 1)) rfl) rfl ?_
        refine s_callv (oe_t38 29 (q := (47, .invokevirtual 37072, 3)) rfl) rfl s2 rfl (Nat.le_of_ble_eq_true rfl) (Nat.le_of_ble_eq_true rfl) (Nat.le_of_ble_eq_true rfl) (Nat.le_of_ble_eq_true rfl) ?_
        refine oe_M_mono _ _ _ _ _ _ (fun r hp vq => ?_) vc
        obtain ⟨x36, rfl, rfl, vc⟩ := vq
        show oe_V (oe_cost 38) 38 (oe_M (d + 1)) none Q 50 [some (.inr (.inl v0)), some (.inl v1), some (.inl v2), some (.inl v3), some (.inl v4), some (.inl v5)] [.inl x36] (sh, g, h) 0 0
        refine s_if_eq (oe_t38 30 (q := (50, .ifCond .eq 57, 3)) rfl) (fun c37 => ?_) (fun c37 => ?_)
        · replace vc := vc.1 c37
          refine s_iconst (oe_t38 33 (q := (57, .iconst 0, 1)) rfl) ?_
          refine s_istore_n (oe_t38 34 (q := (58, .istore_n 3, 1)) rfl) ?_
          refine s_aload_n (oe_t38 35 (q := (59, .aload_n 0, 1)) rfl) rfl ?_
          obtain ⟨q38, p39, vc⟩ := vc
          refine s_getr (oe_t38 36 (q := (60, .getfield 7251, 3)) rfl) s2 rfl rfl p39 ?_
          refine s_iload (oe_t38 37 (q := (63, .iload 4, 2)) rfl) rfl ?_
          obtain ⟨n41, s40, vc⟩ := vc
          obtain ⟨i42, i43, vc⟩ := vc
          refine s_iaload (oe_t38 38 (q := (65, .iaload, 1)) rfl) s40 i42 i43 ?_
          refine s_istore (oe_t38 39 (q := (66, .istore 4, 2)) rfl) ?_
          obtain ⟨r44, vc⟩ := vc
          refine s_iinc (oe_t38 40 (q := (68, .iinc 5 1, 3)) rfl) rfl r44 ?_
          refine s_goto (oe_t38 41 (q := (71, .goto 10, 3)) rfl) ?_
          exact oe_V.fg (oe_M_mono _) (show oe_fg [some (.inr (.inl v0)), some (.inl v1), some (.inl v2), some (.inl 0), some (.inl (h q38 (v4 : Int).toNat)), some (.inl (v5 + 1))] _ from ⟨rfl, ⟨rfl, ⟨rfl, ⟨rfl, ⟨rfl, ⟨rfl, trivial⟩⟩⟩⟩⟩⟩) vc
        · replace vc := vc.2 c37
          refine s_iconst (oe_t38 31 (q := (53, .iconst 1, 1)) rfl) ?_
          refine s_goto (oe_t38 32 (q := (54, .goto 58, 3)) rfl) ?_
          refine s_istore_n (oe_t38 34 (q := (58, .istore_n 3, 1)) rfl) ?_
          refine s_aload_n (oe_t38 35 (q := (59, .aload_n 0, 1)) rfl) rfl ?_
          obtain ⟨q45, p46, vc⟩ := vc
          refine s_getr (oe_t38 36 (q := (60, .getfield 7251, 3)) rfl) s2 rfl rfl p46 ?_
          refine s_iload (oe_t38 37 (q := (63, .iload 4, 2)) rfl) rfl ?_
          obtain ⟨n48, s47, vc⟩ := vc
          obtain ⟨i49, i50, vc⟩ := vc
          refine s_iaload (oe_t38 38 (q := (65, .iaload, 1)) rfl) s47 i49 i50 ?_
          refine s_istore (oe_t38 39 (q := (66, .istore 4, 2)) rfl) ?_
          obtain ⟨r51, vc⟩ := vc
          refine s_iinc (oe_t38 40 (q := (68, .iinc 5 1, 3)) rfl) rfl r51 ?_
          refine s_goto (oe_t38 41 (q := (71, .goto 10, 3)) rfl) ?_
          exact oe_V.fg (oe_M_mono _) (show oe_fg [some (.inr (.inl v0)), some (.inl v1), some (.inl v2), some (.inl 1), some (.inl (h q45 (v4 : Int).toNat)), some (.inl (v5 + 1))] _ from ⟨rfl, ⟨rfl, ⟨rfl, ⟨rfl, ⟨rfl, ⟨rfl, trivial⟩⟩⟩⟩⟩⟩) vc
theorem oe_u39 : oe_c39.all (fun q => decide (oe_find oe_c39 q.1 = some q.2)) = true := by decide +kernel
theorem oe_t39 (k : Nat) {q : Nat × Jvm.ClassFile.Instr × Nat} (h : oe_c39[k]? = some q) : oe_find (oe_code 39) q.1 = some q.2 := oe_ft oe_u39 h
theorem g39 {d : Nat} {sh : List (Nat × Nat)} {g : Nat → Nat → Option Nat} {h : Nat → Nat → Int} {Q : oeQ} {v0 : Nat} {v1 : Int} {v2 : Int}
    (vc : oe_rg (v2 + 1) ∧ oe_V (oe_cost 39) 39 (oe_M (d + 1)) none Q 10 [some (.inr (.inl v0)), some (.inl v1), some (.inl v2), some (.inl 1), some (.inl (v2 + 1)), some (.inl 0)] [] (sh, g, h) 0 0) :
    oe_M (d + 2) 39 [.inr (.inl v0), .inl v1, .inl v2] (sh, g, h) Q := by
  refine oe_M.of (by simp [oe_c1]) (Nat.le_of_ble_eq_true rfl) ?_
  show oe_V (oe_cost 39) 39 (oe_M (d + 1)) none Q 0 [some (.inr (.inl v0)), some (.inl v1), some (.inl v2), none, none, none] [] (sh, g, h) 0 0
  refine s_iconst (oe_t39 0 (q := (0, .iconst 1, 1)) rfl) ?_
  refine s_istore_n (oe_t39 1 (q := (1, .istore_n 3, 1)) rfl) ?_
  refine s_iload_n (oe_t39 2 (q := (2, .iload_n 2, 1)) rfl) rfl ?_
  refine s_iconst (oe_t39 3 (q := (3, .iconst 1, 1)) rfl) ?_
  obtain ⟨r1, vc⟩ := vc
  refine s_iadd (oe_t39 4 (q := (4, .iadd, 1)) rfl) r1 ?_
  refine s_istore (oe_t39 5 (q := (5, .istore 4, 2)) rfl) ?_
  refine s_iconst (oe_t39 6 (q := (7, .iconst 0, 1)) rfl) ?_
  refine s_istore (oe_t39 7 (q := (8, .istore 5, 2)) rfl) ?_
  exact oe_V.fg (oe_M_mono _) (show oe_fg [some (.inr (.inl v0)), some (.inl v1), some (.inl v2), some (.inl 1), some (.inl (v2 + 1)), some (.inl 0)] _ from ⟨rfl, ⟨rfl, ⟨rfl, ⟨rfl, ⟨rfl, ⟨rfl, trivial⟩⟩⟩⟩⟩⟩) vc
theorem g39_10 {d : Nat} {sh : List (Nat × Nat)} {g : Nat → Nat → Option Nat} {h : Nat → Nat → Int} {Q : oeQ} {v0 : Nat} {v1 : Int} {v2 : Int} {v3 : Int} {v4 : Int} {v5 : Int}
    (vc : sh[v0]? = some (12, 45) ∧ ∃ q3, g v0 23 = some q3 ∧ ∃ n6, sh[q3]? = some (0, n6) ∧ 0 ≤ v2 ∧ v2 < (n6 : Nat) ∧ oe_M (d + 1) 34 [.inl (h q3 (v2 : Int).toNat)] (sh, g, h) (fun r hp => ∃ (x9 : Int), r = some (.inl x9) ∧ hp = (sh, g, h) ∧ (x9 ≤ v5 → (v3 = 0 ∨ v3 = 1) ∧ Q (some (.inl v3)) (sh, g, h)) ∧ (v5 < x9 → (v3 = 0 → ∃ q13, g v0 26 = some q13 ∧ ∃ n16, sh[q13]? = some (0, n16) ∧ 0 ≤ v4 ∧ v4 < (n16 : Nat) ∧ oe_rg (v5 + 1) ∧ oe_V (oe_cost 39) 39 (oe_M (d + 1)) none Q 10 [some (.inr (.inl v0)), some (.inl v1), some (.inl v2), some (.inl 0), some (.inl (h q13 (v4 : Int).toNat)), some (.inl (v5 + 1))] [] (sh, g, h) 0 0) ∧ (v3 ≠ 0 → ∃ q20, g v0 27 = some q20 ∧ oe_rg (60 * v1) ∧ oe_rg ((60 * v1) + v4) ∧ ∃ n25, sh[q20]? = some (2, n25) ∧ 0 ≤ ((60 * v1) + v4) ∧ ((60 * v1) + v4) < (n25 : Nat) ∧ ((h q20 (((60 * v1) + v4) : Int).toNat) = 0 → ∃ q29, g v0 26 = some q29 ∧ ∃ n32, sh[q29]? = some (0, n32) ∧ 0 ≤ v4 ∧ v4 < (n32 : Nat) ∧ oe_rg (v5 + 1) ∧ oe_V (oe_cost 39) 39 (oe_M (d + 1)) none Q 10 [some (.inr (.inl v0)), some (.inl v1), some (.inl v2), some (.inl 0), some (.inl (h q29 (v4 : Int).toNat)), some (.inl (v5 + 1))] [] (sh, g, h) 0 0) ∧ ((h q20 (((60 * v1) + v4) : Int).toNat) ≠ 0 → ∃ q36, g v0 26 = some q36 ∧ ∃ n39, sh[q36]? = some (0, n39) ∧ 0 ≤ v4 ∧ v4 < (n39 : Nat) ∧ oe_rg (v5 + 1) ∧ oe_V (oe_cost 39) 39 (oe_M (d + 1)) none Q 10 [some (.inr (.inl v0)), some (.inl v1), some (.inl v2), some (.inl 1), some (.inl (h q36 (v4 : Int).toNat)), some (.inl (v5 + 1))] [] (sh, g, h) 0 0))))) :
    oe_V (oe_cost 39) 39 (oe_M (d + 1)) none Q 10 [some (.inr (.inl v0)), some (.inl v1), some (.inl v2), some (.inl v3), some (.inl v4), some (.inl v5)] [] (sh, g, h) 0 0 := by
  refine s_iload (oe_t39 8 (q := (10, .iload 5, 2)) rfl) rfl ?_
  refine s_aload_n (oe_t39 9 (q := (12, .aload_n 0, 1)) rfl) rfl ?_
  obtain ⟨s2, vc⟩ := vc
  obtain ⟨q3, p4, vc⟩ := vc
  refine s_getr (oe_t39 10 (q := (13, .getfield 7231, 3)) rfl) s2 rfl rfl p4 ?_
  refine s_iload_n (oe_t39 11 (q := (16, .iload_n 2, 1)) rfl) rfl ?_
  obtain ⟨n6, s5, vc⟩ := vc
  obtain ⟨i7, i8, vc⟩ := vc
  refine s_iaload (oe_t39 12 (q := (17, .iaload, 1)) rfl) s5 i7 i8 ?_
  refine s_calls (oe_t39 13 (q := (18, .invokestatic 34071, 3)) rfl) (by decide) (Nat.le_of_ble_eq_true rfl) (Nat.le_of_ble_eq_true rfl) (Nat.le_of_ble_eq_true rfl) (Nat.le_of_ble_eq_true rfl) ?_
  refine oe_M_mono _ _ _ _ _ _ (fun r hp vq => ?_) vc
  obtain ⟨x9, rfl, rfl, vc⟩ := vq
  show oe_V (oe_cost 39) 39 (oe_M (d + 1)) none Q 21 [some (.inr (.inl v0)), some (.inl v1), some (.inl v2), some (.inl v3), some (.inl v4), some (.inl v5)] [.inl x9, .inl v5] (sh, g, h) 0 0
  refine s_ic_ge (oe_t39 14 (q := (21, .if_icmp .ge 64, 3)) rfl) (fun c10 => ?_) (fun c10 => ?_)
  · replace vc := vc.1 c10
    refine s_iload_n (oe_t39 37 (q := (64, .iload_n 3, 1)) rfl) rfl ?_
    obtain ⟨b11, vc⟩ := vc
    exact s_iret (oe_t39 38 (q := (65, .ireturn, 1)) rfl) (Or.inr (Or.inl ⟨rfl, b11⟩)) vc
  · replace vc := vc.2 c10
    refine s_iload_n (oe_t39 15 (q := (24, .iload_n 3, 1)) rfl) rfl ?_
    refine s_if_eq (oe_t39 16 (q := (25, .ifCond .eq 47, 3)) rfl) (fun c12 => ?_) (fun c12 => ?_)
    · replace vc := vc.1 c12
      refine s_iconst (oe_t39 28 (q := (47, .iconst 0, 1)) rfl) ?_
      refine s_istore_n (oe_t39 29 (q := (48, .istore_n 3, 1)) rfl) ?_
      refine s_aload_n (oe_t39 30 (q := (49, .aload_n 0, 1)) rfl) rfl ?_
      obtain ⟨q13, p14, vc⟩ := vc
      refine s_getr (oe_t39 31 (q := (50, .getfield 7261, 3)) rfl) s2 rfl rfl p14 ?_
      refine s_iload (oe_t39 32 (q := (53, .iload 4, 2)) rfl) rfl ?_
      obtain ⟨n16, s15, vc⟩ := vc
      obtain ⟨i17, i18, vc⟩ := vc
      refine s_iaload (oe_t39 33 (q := (55, .iaload, 1)) rfl) s15 i17 i18 ?_
      refine s_istore (oe_t39 34 (q := (56, .istore 4, 2)) rfl) ?_
      obtain ⟨r19, vc⟩ := vc
      refine s_iinc (oe_t39 35 (q := (58, .iinc 5 1, 3)) rfl) rfl r19 ?_
      refine s_goto (oe_t39 36 (q := (61, .goto 10, 3)) rfl) ?_
      exact oe_V.fg (oe_M_mono _) (show oe_fg [some (.inr (.inl v0)), some (.inl v1), some (.inl v2), some (.inl 0), some (.inl (h q13 (v4 : Int).toNat)), some (.inl (v5 + 1))] _ from ⟨rfl, ⟨rfl, ⟨rfl, ⟨rfl, ⟨rfl, ⟨rfl, trivial⟩⟩⟩⟩⟩⟩) vc
    · replace vc := vc.2 c12
      refine s_aload_n (oe_t39 17 (q := (28, .aload_n 0, 1)) rfl) rfl ?_
      obtain ⟨q20, p21, vc⟩ := vc
      refine s_getr (oe_t39 18 (q := (29, .getfield 7271, 3)) rfl) s2 rfl rfl p21 ?_
      refine s_bipush (oe_t39 19 (q := (32, .bipush 60, 2)) rfl) ?_
      refine s_iload_n (oe_t39 20 (q := (34, .iload_n 1, 1)) rfl) rfl ?_
      obtain ⟨r22, vc⟩ := vc
      refine s_imul (oe_t39 21 (q := (35, .imul, 1)) rfl) r22 ?_
      refine s_iload (oe_t39 22 (q := (36, .iload 4, 2)) rfl) rfl ?_
      obtain ⟨r23, vc⟩ := vc
      refine s_iadd (oe_t39 23 (q := (38, .iadd, 1)) rfl) r23 ?_
      obtain ⟨n25, s24, vc⟩ := vc
      obtain ⟨i26, i27, vc⟩ := vc
      refine s_baload (oe_t39 24 (q := (39, .baload, 1)) rfl) s24 i26 i27 ?_
      refine s_if_eq (oe_t39 25 (q := (40, .ifCond .eq 47, 3)) rfl) (fun c28 => ?_) (fun c28 => ?_)
      · replace vc := vc.1 c28
        refine s_iconst (oe_t39 28 (q := (47, .iconst 0, 1)) rfl) ?_
        refine s_istore_n (oe_t39 29 (q := (48, .istore_n 3, 1)) rfl) ?_
        refine s_aload_n (oe_t39 30 (q := (49, .aload_n 0, 1)) rfl) rfl ?_
        obtain ⟨q29, p30, vc⟩ := vc
        refine s_getr (oe_t39 31 (q := (50, .getfield 7261, 3)) rfl) s2 rfl rfl p30 ?_
        refine s_iload (oe_t39 32 (q := (53, .iload 4, 2)) rfl) rfl ?_
        obtain ⟨n32, s31, vc⟩ := vc
        obtain ⟨i33, i34, vc⟩ := vc
        refine s_iaload (oe_t39 33 (q := (55, .iaload, 1)) rfl) s31 i33 i34 ?_
        refine s_istore (oe_t39 34 (q := (56, .istore 4, 2)) rfl) ?_
        obtain ⟨r35, vc⟩ := vc
        refine s_iinc (oe_t39 35 (q := (58, .iinc 5 1, 3)) rfl) rfl r35 ?_
        refine s_goto (oe_t39 36 (q := (61, .goto 10, 3)) rfl) ?_
        exact oe_V.fg (oe_M_mono _) (show oe_fg [some (.inr (.inl v0)), some (.inl v1), some (.inl v2), some (.inl 0), some (.inl (h q29 (v4 : Int).toNat)), some (.inl (v5 + 1))] _ from ⟨rfl, ⟨rfl, ⟨rfl, ⟨rfl, ⟨rfl, ⟨rfl, trivial⟩⟩⟩⟩⟩⟩) vc
      · replace vc := vc.2 c28
        refine s_iconst (oe_t39 26 (q := (43, .iconst 1, 1)) rfl) ?_
        refine s_goto (oe_t39 27 (q := (44, .goto 48, 3)) rfl) ?_
        refine s_istore_n (oe_t39 29 (q := (48, .istore_n 3, 1)) rfl) ?_
        refine s_aload_n (oe_t39 30 (q := (49, .aload_n 0, 1)) rfl) rfl ?_
        obtain ⟨q36, p37, vc⟩ := vc
        refine s_getr (oe_t39 31 (q := (50, .getfield 7261, 3)) rfl) s2 rfl rfl p37 ?_
        refine s_iload (oe_t39 32 (q := (53, .iload 4, 2)) rfl) rfl ?_
        obtain ⟨n39, s38, vc⟩ := vc
        obtain ⟨i40, i41, vc⟩ := vc
        refine s_iaload (oe_t39 33 (q := (55, .iaload, 1)) rfl) s38 i40 i41 ?_
        refine s_istore (oe_t39 34 (q := (56, .istore 4, 2)) rfl) ?_
        obtain ⟨r42, vc⟩ := vc
        refine s_iinc (oe_t39 35 (q := (58, .iinc 5 1, 3)) rfl) rfl r42 ?_
        refine s_goto (oe_t39 36 (q := (61, .goto 10, 3)) rfl) ?_
        exact oe_V.fg (oe_M_mono _) (show oe_fg [some (.inr (.inl v0)), some (.inl v1), some (.inl v2), some (.inl 1), some (.inl (h q36 (v4 : Int).toNat)), some (.inl (v5 + 1))] _ from ⟨rfl, ⟨rfl, ⟨rfl, ⟨rfl, ⟨rfl, ⟨rfl, trivial⟩⟩⟩⟩⟩⟩) vc
theorem oe_u40 : oe_c40.all (fun q => decide (oe_find oe_c40 q.1 = some q.2)) = true := by decide +kernel
theorem oe_t40 (k : Nat) {q : Nat × Jvm.ClassFile.Instr × Nat} (h : oe_c40[k]? = some q) : oe_find (oe_code 40) q.1 = some q.2 := oe_ft oe_u40 h
theorem g40 {d : Nat} {sh : List (Nat × Nat)} {g : Nat → Nat → Option Nat} {h : Nat → Nat → Int} {Q : oeQ} {v0 : Nat} {v1 : Int} {v2 : Int}
    (vc : oe_rg (v1 + 1) ∧ oe_rg (v2 + 1) ∧ oe_V (oe_cost 40) 40 (oe_M (d + 1)) none Q 12 [some (.inr (.inl v0)), some (.inl v1), none, some (.inl (v1 + 1)), some (.inl (v2 + 1)), some (.inl 0)] [] (sh, g, h) 0 0) :
    oe_M (d + 2) 40 [.inr (.inl v0), .inl v1, .inl v2] (sh, g, h) Q := by
  refine oe_M.of (by simp [oe_c1]) (Nat.le_of_ble_eq_true rfl) ?_
  show oe_V (oe_cost 40) 40 (oe_M (d + 1)) none Q 0 [some (.inr (.inl v0)), some (.inl v1), some (.inl v2), none, none, none] [] (sh, g, h) 0 0
  refine s_iload_n (oe_t40 0 (q := (0, .iload_n 1, 1)) rfl) rfl ?_
  refine s_iconst (oe_t40 1 (q := (1, .iconst 1, 1)) rfl) ?_
  obtain ⟨r1, vc⟩ := vc
  refine s_iadd (oe_t40 2 (q := (2, .iadd, 1)) rfl) r1 ?_
  refine s_istore_n (oe_t40 3 (q := (3, .istore_n 3, 1)) rfl) ?_
  refine s_iload_n (oe_t40 4 (q := (4, .iload_n 2, 1)) rfl) rfl ?_
  refine s_iconst (oe_t40 5 (q := (5, .iconst 1, 1)) rfl) ?_
  obtain ⟨r2, vc⟩ := vc
  refine s_iadd (oe_t40 6 (q := (6, .iadd, 1)) rfl) r2 ?_
  refine s_istore (oe_t40 7 (q := (7, .istore 4, 2)) rfl) ?_
  refine s_iconst (oe_t40 8 (q := (9, .iconst 0, 1)) rfl) ?_
  refine s_istore (oe_t40 9 (q := (10, .istore 5, 2)) rfl) ?_
  exact oe_V.fg (oe_M_mono _) (show oe_fg [some (.inr (.inl v0)), some (.inl v1), none, some (.inl (v1 + 1)), some (.inl (v2 + 1)), some (.inl 0)] _ from ⟨rfl, ⟨rfl, ⟨rfl, ⟨rfl, ⟨rfl, trivial⟩⟩⟩⟩⟩) vc
theorem g40_12 {d : Nat} {sh : List (Nat × Nat)} {g : Nat → Nat → Option Nat} {h : Nat → Nat → Int} {Q : oeQ} {v0 : Nat} {v1 : Int} {v3 : Int} {v4 : Int} {v5 : Int}
    (vc : sh[v0]? = some (12, 45) ∧ ∃ q4, g v0 21 = some q4 ∧ ∃ n7, sh[q4]? = some (0, n7) ∧ 0 ≤ v1 ∧ v1 < (n7 : Nat) ∧ oe_M (d + 1) 34 [.inl (h q4 (v1 : Int).toNat)] (sh, g, h) (fun r hp => ∃ (x10 : Int), r = some (.inl x10) ∧ hp = (sh, g, h) ∧ (x10 ≤ v5 → Q (some (.inl 0)) (sh, g, h)) ∧ (v5 < x10 → oe_M (d + 1) 37 [.inr (.inl v0), .inl v3, .inl v4] (sh, g, h) (fun r hp => ∃ (x12 : Int), r = some (.inl x12) ∧ hp = (sh, g, h) ∧ (x12 ≠ 0 → ∃ q14, g v0 25 = some q14 ∧ ∃ n17, sh[q14]? = some (0, n17) ∧ 0 ≤ v3 ∧ v3 < (n17 : Nat) ∧ ∃ q20, g v0 26 = some q20 ∧ ∃ n23, sh[q20]? = some (0, n23) ∧ 0 ≤ v4 ∧ v4 < (n23 : Nat) ∧ oe_rg (v5 + 1) ∧ oe_V (oe_cost 40) 40 (oe_M (d + 1)) none Q 12 [some (.inr (.inl v0)), some (.inl v1), none, some (.inl (h q14 (v3 : Int).toNat)), some (.inl (h q20 (v4 : Int).toNat)), some (.inl (v5 + 1))] [] (sh, g, h) 0 0) ∧ (x12 = 0 → ∃ q27, g v0 27 = some q27 ∧ oe_rg (60 * v3) ∧ oe_rg ((60 * v3) + v4) ∧ ∃ n32, sh[q27]? = some (2, n32) ∧ 0 ≤ ((60 * v3) + v4) ∧ ((60 * v3) + v4) < (n32 : Nat) ∧ ((h q27 (((60 * v3) + v4) : Int).toNat) = 0 ∨ (h q27 (((60 * v3) + v4) : Int).toNat) = 1) ∧ Q (some (.inl (h q27 (((60 * v3) + v4) : Int).toNat))) (sh, g, h)))))) :
    oe_V (oe_cost 40) 40 (oe_M (d + 1)) none Q 12 [some (.inr (.inl v0)), some (.inl v1), none, some (.inl v3), some (.inl v4), some (.inl v5)] [] (sh, g, h) 0 0 := by
  refine s_iload (oe_t40 10 (q := (12, .iload 5, 2)) rfl) rfl ?_
  refine s_aload_n (oe_t40 11 (q := (14, .aload_n 0, 1)) rfl) rfl ?_
  obtain ⟨s3, vc⟩ := vc
  obtain ⟨q4, p5, vc⟩ := vc
  refine s_getr (oe_t40 12 (q := (15, .getfield 7211, 3)) rfl) s3 rfl rfl p5 ?_
  refine s_iload_n (oe_t40 13 (q := (18, .iload_n 1, 1)) rfl) rfl ?_
  obtain ⟨n7, s6, vc⟩ := vc
  obtain ⟨i8, i9, vc⟩ := vc
  refine s_iaload (oe_t40 14 (q := (19, .iaload, 1)) rfl) s6 i8 i9 ?_
  refine s_calls (oe_t40 15 (q := (20, .invokestatic 34071, 3)) rfl) (by decide) (Nat.le_of_ble_eq_true rfl) (Nat.le_of_ble_eq_true rfl) (Nat.le_of_ble_eq_true rfl) (Nat.le_of_ble_eq_true rfl) ?_
  refine oe_M_mono _ _ _ _ _ _ (fun r hp vq => ?_) vc
  obtain ⟨x10, rfl, rfl, vc⟩ := vq
  show oe_V (oe_cost 40) 40 (oe_M (d + 1)) none Q 23 [some (.inr (.inl v0)), some (.inl v1), none, some (.inl v3), some (.inl v4), some (.inl v5)] [.inl x10, .inl v5] (sh, g, h) 0 0
  refine s_ic_ge (oe_t40 16 (q := (23, .if_icmp .ge 71, 3)) rfl) (fun c11 => ?_) (fun c11 => ?_)
  · replace vc := vc.1 c11
    refine s_iconst (oe_t40 43 (q := (71, .iconst 0, 1)) rfl) ?_
    exact s_iret (oe_t40 44 (q := (72, .ireturn, 1)) rfl) (Or.inr (Or.inl ⟨rfl, Or.inl rfl⟩)) vc
  · replace vc := vc.2 c11
    refine s_aload_n (oe_t40 17 (q := (26, .aload_n 0, 1)) rfl) rfl ?_
    refine s_iload_n (oe_t40 18 (q := (27, .iload_n 3, 1)) rfl) rfl ?_
    refine s_iload (oe_t40 19 (q := (28, .iload 4, 2)) rfl) rfl ?_
    refine s_callv (oe_t40 20 (q := (30, .invokevirtual 37072, 3)) rfl) rfl s3 rfl (Nat.le_of_ble_eq_true rfl) (Nat.le_of_ble_eq_true rfl) (Nat.le_of_ble_eq_true rfl) (Nat.le_of_ble_eq_true rfl) ?_
    refine oe_M_mono _ _ _ _ _ _ (fun r hp vq => ?_) vc
    obtain ⟨x12, rfl, rfl, vc⟩ := vq
    show oe_V (oe_cost 40) 40 (oe_M (d + 1)) none Q 33 [some (.inr (.inl v0)), some (.inl v1), none, some (.inl v3), some (.inl v4), some (.inl v5)] [.inl x12] (sh, g, h) 0 0
    refine s_if_ne (oe_t40 21 (q := (33, .ifCond .ne 49, 3)) rfl) (fun c13 => ?_) (fun c13 => ?_)
    · replace vc := vc.1 c13
      refine s_aload_n (oe_t40 31 (q := (49, .aload_n 0, 1)) rfl) rfl ?_
      obtain ⟨q14, p15, vc⟩ := vc
      refine s_getr (oe_t40 32 (q := (50, .getfield 7251, 3)) rfl) s3 rfl rfl p15 ?_
      refine s_iload_n (oe_t40 33 (q := (53, .iload_n 3, 1)) rfl) rfl ?_
      obtain ⟨n17, s16, vc⟩ := vc
      obtain ⟨i18, i19, vc⟩ := vc
      refine s_iaload (oe_t40 34 (q := (54, .iaload, 1)) rfl) s16 i18 i19 ?_
      refine s_istore_n (oe_t40 35 (q := (55, .istore_n 3, 1)) rfl) ?_
      refine s_aload_n (oe_t40 36 (q := (56, .aload_n 0, 1)) rfl) rfl ?_
      obtain ⟨q20, p21, vc⟩ := vc
      refine s_getr (oe_t40 37 (q := (57, .getfield 7261, 3)) rfl) s3 rfl rfl p21 ?_
      refine s_iload (oe_t40 38 (q := (60, .iload 4, 2)) rfl) rfl ?_
      obtain ⟨n23, s22, vc⟩ := vc
      obtain ⟨i24, i25, vc⟩ := vc
      refine s_iaload (oe_t40 39 (q := (62, .iaload, 1)) rfl) s22 i24 i25 ?_
      refine s_istore (oe_t40 40 (q := (63, .istore 4, 2)) rfl) ?_
      obtain ⟨r26, vc⟩ := vc
      refine s_iinc (oe_t40 41 (q := (65, .iinc 5 1, 3)) rfl) rfl r26 ?_
      refine s_goto (oe_t40 42 (q := (68, .goto 12, 3)) rfl) ?_
      exact oe_V.fg (oe_M_mono _) (show oe_fg [some (.inr (.inl v0)), some (.inl v1), none, some (.inl (h q14 (v3 : Int).toNat)), some (.inl (h q20 (v4 : Int).toNat)), some (.inl (v5 + 1))] _ from ⟨rfl, ⟨rfl, ⟨rfl, ⟨rfl, ⟨rfl, trivial⟩⟩⟩⟩⟩) vc
    · replace vc := vc.2 c13
      refine s_aload_n (oe_t40 22 (q := (36, .aload_n 0, 1)) rfl) rfl ?_
      obtain ⟨q27, p28, vc⟩ := vc
      refine s_getr (oe_t40 23 (q := (37, .getfield 7271, 3)) rfl) s3 rfl rfl p28 ?_
      refine s_bipush (oe_t40 24 (q := (40, .bipush 60, 2)) rfl) ?_
      refine s_iload_n (oe_t40 25 (q := (42, .iload_n 3, 1)) rfl) rfl ?_
      obtain ⟨r29, vc⟩ := vc
      refine s_imul (oe_t40 26 (q := (43, .imul, 1)) rfl) r29 ?_
      refine s_iload (oe_t40 27 (q := (44, .iload 4, 2)) rfl) rfl ?_
      obtain ⟨r30, vc⟩ := vc
      refine s_iadd (oe_t40 28 (q := (46, .iadd, 1)) rfl) r30 ?_
      obtain ⟨n32, s31, vc⟩ := vc
      obtain ⟨i33, i34, vc⟩ := vc
      refine s_baload (oe_t40 29 (q := (47, .baload, 1)) rfl) s31 i33 i34 ?_
      obtain ⟨b35, vc⟩ := vc
      exact s_iret (oe_t40 30 (q := (48, .ireturn, 1)) rfl) (Or.inr (Or.inl ⟨rfl, b35⟩)) vc
theorem oe_u41 : oe_c41.all (fun q => decide (oe_find oe_c41 q.1 = some q.2)) = true := by decide +kernel
theorem oe_t41 (k : Nat) {q : Nat × Jvm.ClassFile.Instr × Nat} (h : oe_c41[k]? = some q) : oe_find (oe_code 41) q.1 = some q.2 := oe_ft oe_u41 h
theorem g41 {d : Nat} {sh : List (Nat × Nat)} {g : Nat → Nat → Option Nat} {h : Nat → Nat → Int} {Q : oeQ} {v0 : Nat} {v1 : Int} {v2 : Int}
    (vc : sh[v0]? = some (12, 45) ∧ ∃ q2, g v0 21 = some q2 ∧ ∃ n5, sh[q2]? = some (0, n5) ∧ 0 ≤ v1 ∧ v1 < (n5 : Nat) ∧ ∃ q8, g v0 23 = some q8 ∧ ∃ n11, sh[q8]? = some (0, n11) ∧ 0 ≤ v2 ∧ v2 < (n11 : Nat) ∧ ((h q8 (v2 : Int).toNat) < 20 → oe_V (oe_cost 41) 41 (oe_M (d + 1)) none Q 29 [some (.inr (.inl v0)), some (.inl v1), none, some (.inl (h q2 (v1 : Int).toNat)), some (.inl (h q8 (v2 : Int).toNat)), some (.inl 0), some (.inl v1)] [] (sh, g, h) 0 0) ∧ (20 ≤ (h q8 (v2 : Int).toNat) → ((h q2 (v1 : Int).toNat) < 20 → Q (some (.inl 0)) (sh, g, h)) ∧ (20 ≤ (h q2 (v1 : Int).toNat) → oe_M (d + 1) 38 [.inr (.inl v0), .inl v1, .inl v2] (sh, g, h) (fun r hp => ∃ (x16 : Int), r = some (.inl x16) ∧ hp = (sh, g, h) ∧ (x16 = 0 → oe_M (d + 1) 39 [.inr (.inl v0), .inl v1, .inl v2] (sh, g, h) (fun r hp => ∃ (x18 : Int), r = some (.inl x18) ∧ hp = (sh, g, h) ∧ (x18 = 0 → Q (some (.inl 0)) (sh, g, h)) ∧ (x18 ≠ 0 → ((h q2 (v1 : Int).toNat) < (h q8 (v2 : Int).toNat) → Q (some (.inl 1)) (sh, g, h)) ∧ ((h q8 (v2 : Int).toNat) ≤ (h q2 (v1 : Int).toNat) → ((h q2 (v1 : Int).toNat) ≠ (h q8 (v2 : Int).toNat) → Q (some (.inl 0)) (sh, g, h)) ∧ ((h q2 (v1 : Int).toNat) = (h q8 (v2 : Int).toNat) → oe_M (d + 1) 40 [.inr (.inl v0), .inl v1, .inl v2] (sh, g, h) (fun r hp => ∃ (x22 : Int), r = some (.inl x22) ∧ hp = (sh, g, h) ∧ (x22 = 0 → Q (some (.inl 0)) (sh, g, h)) ∧ (x22 ≠ 0 → Q (some (.inl 1)) (sh, g, h)))))))) ∧ (x16 ≠ 0 → Q (some (.inl 1)) (sh, g, h)))))) :
    oe_M (d + 2) 41 [.inr (.inl v0), .inl v1, .inl v2] (sh, g, h) Q := by
  refine oe_M.of (by simp [oe_c1]) (Nat.le_of_ble_eq_true rfl) ?_
  show oe_V (oe_cost 41) 41 (oe_M (d + 1)) none Q 0 [some (.inr (.inl v0)), some (.inl v1), some (.inl v2), none, none, none, none] [] (sh, g, h) 0 0
  refine s_aload_n (oe_t41 0 (q := (0, .aload_n 0, 1)) rfl) rfl ?_
  obtain ⟨s1, vc⟩ := vc
  obtain ⟨q2, p3, vc⟩ := vc
  refine s_getr (oe_t41 1 (q := (1, .getfield 7211, 3)) rfl) s1 rfl rfl p3 ?_
  refine s_iload_n (oe_t41 2 (q := (4, .iload_n 1, 1)) rfl) rfl ?_
  obtain ⟨n5, s4, vc⟩ := vc
  obtain ⟨i6, i7, vc⟩ := vc
  refine s_iaload (oe_t41 3 (q := (5, .iaload, 1)) rfl) s4 i6 i7 ?_
  refine s_istore_n (oe_t41 4 (q := (6, .istore_n 3, 1)) rfl) ?_
  refine s_aload_n (oe_t41 5 (q := (7, .aload_n 0, 1)) rfl) rfl ?_
  obtain ⟨q8, p9, vc⟩ := vc
  refine s_getr (oe_t41 6 (q := (8, .getfield 7231, 3)) rfl) s1 rfl rfl p9 ?_
  refine s_iload_n (oe_t41 7 (q := (11, .iload_n 2, 1)) rfl) rfl ?_
  obtain ⟨n11, s10, vc⟩ := vc
  obtain ⟨i12, i13, vc⟩ := vc
  refine s_iaload (oe_t41 8 (q := (12, .iaload, 1)) rfl) s10 i12 i13 ?_
  refine s_istore (oe_t41 9 (q := (13, .istore 4, 2)) rfl) ?_
  refine s_iload (oe_t41 10 (q := (15, .iload 4, 2)) rfl) rfl ?_
  refine s_calls (oe_t41 11 (q := (17, .invokestatic 35071, 3)) rfl) (by decide) (Nat.le_of_ble_eq_true rfl) (Nat.le_of_ble_eq_true rfl) (Nat.le_of_ble_eq_true rfl) (Nat.le_of_ble_eq_true rfl) (sp_35 (fun c14 => ?_) (fun c14 => ?_))
  · replace vc := vc.1 c14
    show oe_V (oe_cost 41) 41 (oe_M (d + 1)) none Q 20 [some (.inr (.inl v0)), some (.inl v1), some (.inl v2), some (.inl (h q2 (v1 : Int).toNat)), some (.inl (h q8 (v2 : Int).toNat)), none, none] [.inl 1] (sh, g, h) 0 0
    refine s_if_eq (oe_t41 12 (q := (20, .ifCond .eq 87, 3)) rfl) (fun q => absurd q (by decide)) (fun _ => ?_)
    refine s_iconst (oe_t41 13 (q := (23, .iconst 0, 1)) rfl) ?_
    refine s_istore (oe_t41 14 (q := (24, .istore 5, 2)) rfl) ?_
    refine s_iload_n (oe_t41 15 (q := (26, .iload_n 1, 1)) rfl) rfl ?_
    refine s_istore (oe_t41 16 (q := (27, .istore 6, 2)) rfl) ?_
    exact oe_V.fg (oe_M_mono _) (show oe_fg [some (.inr (.inl v0)), some (.inl v1), none, some (.inl (h q2 (v1 : Int).toNat)), some (.inl (h q8 (v2 : Int).toNat)), some (.inl 0), some (.inl v1)] _ from ⟨rfl, ⟨rfl, ⟨rfl, ⟨rfl, ⟨rfl, ⟨rfl, trivial⟩⟩⟩⟩⟩⟩) vc
  · replace vc := vc.2 c14
    show oe_V (oe_cost 41) 41 (oe_M (d + 1)) none Q 20 [some (.inr (.inl v0)), some (.inl v1), some (.inl v2), some (.inl (h q2 (v1 : Int).toNat)), some (.inl (h q8 (v2 : Int).toNat)), none, none] [.inl 0] (sh, g, h) 0 0
    refine s_if_eq (oe_t41 12 (q := (20, .ifCond .eq 87, 3)) rfl) (fun _ => ?_) (fun q => absurd q (by decide))
    refine s_iload_n (oe_t41 46 (q := (87, .iload_n 3, 1)) rfl) rfl ?_
    refine s_calls (oe_t41 47 (q := (88, .invokestatic 35071, 3)) rfl) (by decide) (Nat.le_of_ble_eq_true rfl) (Nat.le_of_ble_eq_true rfl) (Nat.le_of_ble_eq_true rfl) (Nat.le_of_ble_eq_true rfl) (sp_35 (fun c15 => ?_) (fun c15 => ?_))
    · replace vc := vc.1 c15
      show oe_V (oe_cost 41) 41 (oe_M (d + 1)) none Q 91 [some (.inr (.inl v0)), some (.inl v1), some (.inl v2), some (.inl (h q2 (v1 : Int).toNat)), some (.inl (h q8 (v2 : Int).toNat)), none, none] [.inl 1] (sh, g, h) 0 0
      refine s_if_eq (oe_t41 48 (q := (91, .ifCond .eq 96, 3)) rfl) (fun q => absurd q (by decide)) (fun _ => ?_)
      refine s_iconst (oe_t41 49 (q := (94, .iconst 0, 1)) rfl) ?_
      exact s_iret (oe_t41 50 (q := (95, .ireturn, 1)) rfl) (Or.inr (Or.inl ⟨rfl, Or.inl rfl⟩)) vc
    · replace vc := vc.2 c15
      show oe_V (oe_cost 41) 41 (oe_M (d + 1)) none Q 91 [some (.inr (.inl v0)), some (.inl v1), some (.inl v2), some (.inl (h q2 (v1 : Int).toNat)), some (.inl (h q8 (v2 : Int).toNat)), none, none] [.inl 0] (sh, g, h) 0 0
      refine s_if_eq (oe_t41 48 (q := (91, .ifCond .eq 96, 3)) rfl) (fun _ => ?_) (fun q => absurd q (by decide))
      refine s_aload_n (oe_t41 51 (q := (96, .aload_n 0, 1)) rfl) rfl ?_
      refine s_iload_n (oe_t41 52 (q := (97, .iload_n 1, 1)) rfl) rfl ?_
      refine s_iload_n (oe_t41 53 (q := (98, .iload_n 2, 1)) rfl) rfl ?_
      refine s_callv (oe_t41 54 (q := (99, .invokevirtual 38072, 3)) rfl) rfl s1 rfl (Nat.le_of_ble_eq_true rfl) (Nat.le_of_ble_eq_true rfl) (Nat.le_of_ble_eq_true rfl) (Nat.le_of_ble_eq_true rfl) ?_
      refine oe_M_mono _ _ _ _ _ _ (fun r hp vq => ?_) vc
      obtain ⟨x16, rfl, rfl, vc⟩ := vq
      show oe_V (oe_cost 41) 41 (oe_M (d + 1)) none Q 102 [some (.inr (.inl v0)), some (.inl v1), some (.inl v2), some (.inl (h q2 (v1 : Int).toNat)), some (.inl (h q8 (v2 : Int).toNat)), none, none] [.inl x16] (sh, g, h) 0 0
      refine s_if_eq (oe_t41 55 (q := (102, .ifCond .eq 107, 3)) rfl) (fun c17 => ?_) (fun c17 => ?_)
      · replace vc := vc.1 c17
        refine s_aload_n (oe_t41 58 (q := (107, .aload_n 0, 1)) rfl) rfl ?_
        refine s_iload_n (oe_t41 59 (q := (108, .iload_n 1, 1)) rfl) rfl ?_
        refine s_iload_n (oe_t41 60 (q := (109, .iload_n 2, 1)) rfl) rfl ?_
        refine s_callv (oe_t41 61 (q := (110, .invokevirtual 39072, 3)) rfl) rfl s1 rfl (Nat.le_of_ble_eq_true rfl) (Nat.le_of_ble_eq_true rfl) (Nat.le_of_ble_eq_true rfl) (Nat.le_of_ble_eq_true rfl) ?_
        refine oe_M_mono _ _ _ _ _ _ (fun r hp vq => ?_) vc
        obtain ⟨x18, rfl, rfl, vc⟩ := vq
        show oe_V (oe_cost 41) 41 (oe_M (d + 1)) none Q 113 [some (.inr (.inl v0)), some (.inl v1), some (.inl v2), some (.inl (h q2 (v1 : Int).toNat)), some (.inl (h q8 (v2 : Int).toNat)), none, none] [.inl x18] (sh, g, h) 0 0
        refine s_if_eq (oe_t41 62 (q := (113, .ifCond .eq 141, 3)) rfl) (fun c19 => ?_) (fun c19 => ?_)
        · replace vc := vc.1 c19
          refine s_iconst (oe_t41 76 (q := (141, .iconst 0, 1)) rfl) ?_
          exact s_iret (oe_t41 77 (q := (142, .ireturn, 1)) rfl) (Or.inr (Or.inl ⟨rfl, Or.inl rfl⟩)) vc
        · replace vc := vc.2 c19
          refine s_iload_n (oe_t41 63 (q := (116, .iload_n 3, 1)) rfl) rfl ?_
          refine s_iload (oe_t41 64 (q := (117, .iload 4, 2)) rfl) rfl ?_
          refine s_ic_lt (oe_t41 65 (q := (119, .if_icmp .lt 137, 3)) rfl) (fun c20 => ?_) (fun c20 => ?_)
          · replace vc := vc.1 c20
            refine s_iconst (oe_t41 74 (q := (137, .iconst 1, 1)) rfl) ?_
            refine s_goto (oe_t41 75 (q := (138, .goto 142, 3)) rfl) ?_
            exact s_iret (oe_t41 77 (q := (142, .ireturn, 1)) rfl) (Or.inr (Or.inl ⟨rfl, Or.inr rfl⟩)) vc
          · replace vc := vc.2 c20
            refine s_iload_n (oe_t41 66 (q := (122, .iload_n 3, 1)) rfl) rfl ?_
            refine s_iload (oe_t41 67 (q := (123, .iload 4, 2)) rfl) rfl ?_
            refine s_ic_ne (oe_t41 68 (q := (125, .if_icmp .ne 141, 3)) rfl) (fun c21 => ?_) (fun c21 => ?_)
            · replace vc := vc.1 c21
              refine s_iconst (oe_t41 76 (q := (141, .iconst 0, 1)) rfl) ?_
              exact s_iret (oe_t41 77 (q := (142, .ireturn, 1)) rfl) (Or.inr (Or.inl ⟨rfl, Or.inl rfl⟩)) vc
            · replace vc := vc.2 c21
              refine s_aload_n (oe_t41 69 (q := (128, .aload_n 0, 1)) rfl) rfl ?_
              refine s_iload_n (oe_t41 70 (q := (129, .iload_n 1, 1)) rfl) rfl ?_
              refine s_iload_n (oe_t41 71 (q := (130, .iload_n 2, 1)) rfl) rfl ?_
              refine s_callv (oe_t41 72 (q := (131, .invokevirtual 40072, 3)) rfl) rfl s1 rfl (Nat.le_of_ble_eq_true rfl) (Nat.le_of_ble_eq_true rfl) (Nat.le_of_ble_eq_true rfl) (Nat.le_of_ble_eq_true rfl) ?_
              refine oe_M_mono _ _ _ _ _ _ (fun r hp vq => ?_) vc
              obtain ⟨x22, rfl, rfl, vc⟩ := vq
              show oe_V (oe_cost 41) 41 (oe_M (d + 1)) none Q 134 [some (.inr (.inl v0)), some (.inl v1), some (.inl v2), some (.inl (h q2 (v1 : Int).toNat)), some (.inl (h q8 (v2 : Int).toNat)), none, none] [.inl x22] (sh, g, h) 0 0
              refine s_if_eq (oe_t41 73 (q := (134, .ifCond .eq 141, 3)) rfl) (fun c23 => ?_) (fun c23 => ?_)
              · replace vc := vc.1 c23
                refine s_iconst (oe_t41 76 (q := (141, .iconst 0, 1)) rfl) ?_
                exact s_iret (oe_t41 77 (q := (142, .ireturn, 1)) rfl) (Or.inr (Or.inl ⟨rfl, Or.inl rfl⟩)) vc
              · replace vc := vc.2 c23
                refine s_iconst (oe_t41 74 (q := (137, .iconst 1, 1)) rfl) ?_
                refine s_goto (oe_t41 75 (q := (138, .goto 142, 3)) rfl) ?_
                exact s_iret (oe_t41 77 (q := (142, .ireturn, 1)) rfl) (Or.inr (Or.inl ⟨rfl, Or.inr rfl⟩)) vc
      · replace vc := vc.2 c17
        refine s_iconst (oe_t41 56 (q := (105, .iconst 1, 1)) rfl) ?_
        exact s_iret (oe_t41 57 (q := (106, .ireturn, 1)) rfl) (Or.inr (Or.inl ⟨rfl, Or.inr rfl⟩)) vc
theorem g41_29 {d : Nat} {sh : List (Nat × Nat)} {g : Nat → Nat → Option Nat} {h : Nat → Nat → Int} {Q : oeQ} {v0 : Nat} {v1 : Int} {v3 : Int} {v4 : Int} {v5 : Int} {v6 : Int}
    (vc : sh[v0]? = some (12, 45) ∧ ∃ q25, g v0 25 = some q25 ∧ ∃ n28, sh[q25]? = some (0, n28) ∧ 0 ≤ v1 ∧ v1 < (n28 : Nat) ∧ ((h q25 (v1 : Int).toNat) ≤ v6 → (v5 = 0 → Q (some (.inl 0)) (sh, g, h)) ∧ (v5 ≠ 0 → (v3 = v4 → Q (some (.inl 0)) (sh, g, h)) ∧ (v3 ≠ v4 → Q (some (.inl 1)) (sh, g, h)))) ∧ (v6 < (h q25 (v1 : Int).toNat) → (v5 ≠ 0 → oe_rg (v6 + 1) ∧ oe_V (oe_cost 41) 41 (oe_M (d + 1)) none Q 29 [some (.inr (.inl v0)), some (.inl v1), none, some (.inl v3), some (.inl v4), some (.inl 1), some (.inl (v6 + 1))] [] (sh, g, h) 0 0) ∧ (v5 = 0 → ∃ q36, g v0 21 = some q36 ∧ ∃ n39, sh[q36]? = some (0, n39) ∧ 0 ≤ v6 ∧ v6 < (n39 : Nat) ∧ ((h q36 (v6 : Int).toNat) ≠ v4 → oe_rg (v6 + 1) ∧ oe_V (oe_cost 41) 41 (oe_M (d + 1)) none Q 29 [some (.inr (.inl v0)), some (.inl v1), none, some (.inl v3), some (.inl v4), some (.inl 0), some (.inl (v6 + 1))] [] (sh, g, h) 0 0) ∧ ((h q36 (v6 : Int).toNat) = v4 → oe_rg (v6 + 1) ∧ oe_V (oe_cost 41) 41 (oe_M (d + 1)) none Q 29 [some (.inr (.inl v0)), some (.inl v1), none, some (.inl v3), some (.inl v4), some (.inl 1), some (.inl (v6 + 1))] [] (sh, g, h) 0 0)))) :
    oe_V (oe_cost 41) 41 (oe_M (d + 1)) none Q 29 [some (.inr (.inl v0)), some (.inl v1), none, some (.inl v3), some (.inl v4), some (.inl v5), some (.inl v6)] [] (sh, g, h) 0 0 := by
  refine s_iload (oe_t41 17 (q := (29, .iload 6, 2)) rfl) rfl ?_
  refine s_aload_n (oe_t41 18 (q := (31, .aload_n 0, 1)) rfl) rfl ?_
  obtain ⟨s24, vc⟩ := vc
  obtain ⟨q25, p26, vc⟩ := vc
  refine s_getr (oe_t41 19 (q := (32, .getfield 7251, 3)) rfl) s24 rfl rfl p26 ?_
  refine s_iload_n (oe_t41 20 (q := (35, .iload_n 1, 1)) rfl) rfl ?_
  obtain ⟨n28, s27, vc⟩ := vc
  obtain ⟨i29, i30, vc⟩ := vc
  refine s_iaload (oe_t41 21 (q := (36, .iaload, 1)) rfl) s27 i29 i30 ?_
  refine s_ic_ge (oe_t41 22 (q := (37, .if_icmp .ge 70, 3)) rfl) (fun c31 => ?_) (fun c31 => ?_)
  · replace vc := vc.1 c31
    refine s_iload (oe_t41 37 (q := (70, .iload 5, 2)) rfl) rfl ?_
    refine s_if_eq (oe_t41 38 (q := (72, .ifCond .eq 85, 3)) rfl) (fun c32 => ?_) (fun c32 => ?_)
    · replace vc := vc.1 c32
      refine s_iconst (oe_t41 44 (q := (85, .iconst 0, 1)) rfl) ?_
      exact s_iret (oe_t41 45 (q := (86, .ireturn, 1)) rfl) (Or.inr (Or.inl ⟨rfl, Or.inl rfl⟩)) vc
    · replace vc := vc.2 c32
      refine s_iload_n (oe_t41 39 (q := (75, .iload_n 3, 1)) rfl) rfl ?_
      refine s_iload (oe_t41 40 (q := (76, .iload 4, 2)) rfl) rfl ?_
      refine s_ic_eq (oe_t41 41 (q := (78, .if_icmp .eq 85, 3)) rfl) (fun c33 => ?_) (fun c33 => ?_)
      · replace vc := vc.1 c33
        refine s_iconst (oe_t41 44 (q := (85, .iconst 0, 1)) rfl) ?_
        exact s_iret (oe_t41 45 (q := (86, .ireturn, 1)) rfl) (Or.inr (Or.inl ⟨rfl, Or.inl rfl⟩)) vc
      · replace vc := vc.2 c33
        refine s_iconst (oe_t41 42 (q := (81, .iconst 1, 1)) rfl) ?_
        refine s_goto (oe_t41 43 (q := (82, .goto 86, 3)) rfl) ?_
        exact s_iret (oe_t41 45 (q := (86, .ireturn, 1)) rfl) (Or.inr (Or.inl ⟨rfl, Or.inr rfl⟩)) vc
  · replace vc := vc.2 c31
    refine s_iload (oe_t41 23 (q := (40, .iload 5, 2)) rfl) rfl ?_
    refine s_if_ne (oe_t41 24 (q := (42, .ifCond .ne 57, 3)) rfl) (fun c34 => ?_) (fun c34 => ?_)
    · replace vc := vc.1 c34
      refine s_iconst (oe_t41 31 (q := (57, .iconst 1, 1)) rfl) ?_
      refine s_goto (oe_t41 32 (q := (58, .goto 62, 3)) rfl) ?_
      refine s_istore (oe_t41 34 (q := (62, .istore 5, 2)) rfl) ?_
      obtain ⟨r35, vc⟩ := vc
      refine s_iinc (oe_t41 35 (q := (64, .iinc 6 1, 3)) rfl) rfl r35 ?_
      refine s_goto (oe_t41 36 (q := (67, .goto 29, 3)) rfl) ?_
      exact oe_V.fg (oe_M_mono _) (show oe_fg [some (.inr (.inl v0)), some (.inl v1), none, some (.inl v3), some (.inl v4), some (.inl 1), some (.inl (v6 + 1))] _ from ⟨rfl, ⟨rfl, ⟨rfl, ⟨rfl, ⟨rfl, ⟨rfl, trivial⟩⟩⟩⟩⟩⟩) vc
    · replace vc := vc.2 c34
      refine s_aload_n (oe_t41 25 (q := (45, .aload_n 0, 1)) rfl) rfl ?_
      obtain ⟨q36, p37, vc⟩ := vc
      refine s_getr (oe_t41 26 (q := (46, .getfield 7211, 3)) rfl) s24 rfl rfl p37 ?_
      refine s_iload (oe_t41 27 (q := (49, .iload 6, 2)) rfl) rfl ?_
      obtain ⟨n39, s38, vc⟩ := vc
      obtain ⟨i40, i41, vc⟩ := vc
      refine s_iaload (oe_t41 28 (q := (51, .iaload, 1)) rfl) s38 i40 i41 ?_
      refine s_iload (oe_t41 29 (q := (52, .iload 4, 2)) rfl) rfl ?_
      refine s_ic_ne (oe_t41 30 (q := (54, .if_icmp .ne 61, 3)) rfl) (fun c42 => ?_) (fun c42 => ?_)
      · replace vc := vc.1 c42
        refine s_iconst (oe_t41 33 (q := (61, .iconst 0, 1)) rfl) ?_
        refine s_istore (oe_t41 34 (q := (62, .istore 5, 2)) rfl) ?_
        obtain ⟨r43, vc⟩ := vc
        refine s_iinc (oe_t41 35 (q := (64, .iinc 6 1, 3)) rfl) rfl r43 ?_
        refine s_goto (oe_t41 36 (q := (67, .goto 29, 3)) rfl) ?_
        exact oe_V.fg (oe_M_mono _) (show oe_fg [some (.inr (.inl v0)), some (.inl v1), none, some (.inl v3), some (.inl v4), some (.inl 0), some (.inl (v6 + 1))] _ from ⟨rfl, ⟨rfl, ⟨rfl, ⟨rfl, ⟨rfl, ⟨rfl, trivial⟩⟩⟩⟩⟩⟩) vc
      · replace vc := vc.2 c42
        refine s_iconst (oe_t41 31 (q := (57, .iconst 1, 1)) rfl) ?_
        refine s_goto (oe_t41 32 (q := (58, .goto 62, 3)) rfl) ?_
        refine s_istore (oe_t41 34 (q := (62, .istore 5, 2)) rfl) ?_
        obtain ⟨r44, vc⟩ := vc
        refine s_iinc (oe_t41 35 (q := (64, .iinc 6 1, 3)) rfl) rfl r44 ?_
        refine s_goto (oe_t41 36 (q := (67, .goto 29, 3)) rfl) ?_
        exact oe_V.fg (oe_M_mono _) (show oe_fg [some (.inr (.inl v0)), some (.inl v1), none, some (.inl v3), some (.inl v4), some (.inl 1), some (.inl (v6 + 1))] _ from ⟨rfl, ⟨rfl, ⟨rfl, ⟨rfl, ⟨rfl, ⟨rfl, trivial⟩⟩⟩⟩⟩⟩) vc
theorem oe_u42 : oe_c42.all (fun q => decide (oe_find oe_c42 q.1 = some q.2)) = true := by decide +kernel
theorem oe_t42 (k : Nat) {q : Nat × Jvm.ClassFile.Instr × Nat} (h : oe_c42[k]? = some q) : oe_find (oe_code 42) q.1 = some q.2 := oe_ft oe_u42 h
theorem g42 {d : Nat} {sh : List (Nat × Nat)} {g : Nat → Nat → Option Nat} {h : Nat → Nat → Int} {Q : oeQ} {v0 : Nat}
    (vc : sh[v0]? = some (12, 45) ∧ oe_rg ((h v0 22) - 1) ∧ oe_V (oe_cost 42) 42 (oe_M (d + 1)) none Q 7 [some (.inr (.inl v0)), some (.inl ((h v0 22) - 1)), none, none] [] (sh, g, h) 0 0) :
    oe_M (d + 2) 42 [.inr (.inl v0)] (sh, g, h) Q := by
  refine oe_M.of (by simp [oe_c1]) (Nat.le_of_ble_eq_true rfl) ?_
  show oe_V (oe_cost 42) 42 (oe_M (d + 1)) none Q 0 [some (.inr (.inl v0)), none, none, none] [] (sh, g, h) 0 0
  refine s_aload_n (oe_t42 0 (q := (0, .aload_n 0, 1)) rfl) rfl ?_
  obtain ⟨s1, vc⟩ := vc
  refine s_geti (oe_t42 1 (q := (1, .getfield 7220, 3)) rfl) s1 rfl (by decide) ?_
  refine s_iconst (oe_t42 2 (q := (4, .iconst 1, 1)) rfl) ?_
  obtain ⟨r2, vc⟩ := vc
  refine s_isub (oe_t42 3 (q := (5, .isub, 1)) rfl) r2 ?_
  refine s_istore_n (oe_t42 4 (q := (6, .istore_n 1, 1)) rfl) ?_
  exact oe_V.fg (oe_M_mono _) (show oe_fg [some (.inr (.inl v0)), some (.inl ((h v0 22) - 1)), none, none] _ from ⟨rfl, ⟨rfl, trivial⟩⟩) vc
theorem g42_7 {d : Nat} {sh : List (Nat × Nat)} {g : Nat → Nat → Option Nat} {h : Nat → Nat → Int} {Q : oeQ} {v0 : Nat} {v1 : Int}
    (vc : (v1 < 0 → sh[v0]? = some (12, 45) ∧ oe_rg ((h v0 24) - 1) ∧ oe_V (oe_cost 42) 42 (oe_M (d + 1)) none Q 63 [some (.inr (.inl v0)), some (.inl ((h v0 24) - 1)), none, none] [] (sh, g, h) 0 0) ∧ (0 ≤ v1 → oe_rg (v1 + 1) ∧ oe_V (oe_cost 42) 42 (oe_M (d + 1)) none Q 17 [some (.inr (.inl v0)), some (.inl v1), some (.inl (v1 + 1)), some (.inl 0)] [] (sh, g, h) 0 0)) :
    oe_V (oe_cost 42) 42 (oe_M (d + 1)) none Q 7 [some (.inr (.inl v0)), some (.inl v1), none, none] [] (sh, g, h) 0 0 := by
  refine s_iload_n (oe_t42 5 (q := (7, .iload_n 1, 1)) rfl) rfl ?_
  refine s_if_lt (oe_t42 6 (q := (8, .ifCond .lt 56, 3)) rfl) (fun c3 => ?_) (fun c3 => ?_)
  · replace vc := vc.1 c3
    refine s_aload_n (oe_t42 34 (q := (56, .aload_n 0, 1)) rfl) rfl ?_
    obtain ⟨s4, vc⟩ := vc
    refine s_geti (oe_t42 35 (q := (57, .getfield 7240, 3)) rfl) s4 rfl (by decide) ?_
    refine s_iconst (oe_t42 36 (q := (60, .iconst 1, 1)) rfl) ?_
    obtain ⟨r5, vc⟩ := vc
    refine s_isub (oe_t42 37 (q := (61, .isub, 1)) rfl) r5 ?_
    refine s_istore_n (oe_t42 38 (q := (62, .istore_n 1, 1)) rfl) ?_
    exact oe_V.fg (oe_M_mono _) (show oe_fg [some (.inr (.inl v0)), some (.inl ((h v0 24) - 1)), none, none] _ from ⟨rfl, ⟨rfl, trivial⟩⟩) vc
  · replace vc := vc.2 c3
    refine s_iload_n (oe_t42 7 (q := (11, .iload_n 1, 1)) rfl) rfl ?_
    refine s_iconst (oe_t42 8 (q := (12, .iconst 1, 1)) rfl) ?_
    obtain ⟨r6, vc⟩ := vc
    refine s_iadd (oe_t42 9 (q := (13, .iadd, 1)) rfl) r6 ?_
    refine s_istore_n (oe_t42 10 (q := (14, .istore_n 2, 1)) rfl) ?_
    refine s_iconst (oe_t42 11 (q := (15, .iconst 0, 1)) rfl) ?_
    refine s_istore_n (oe_t42 12 (q := (16, .istore_n 3, 1)) rfl) ?_
    exact oe_V.fg (oe_M_mono _) (show oe_fg [some (.inr (.inl v0)), some (.inl v1), some (.inl (v1 + 1)), some (.inl 0)] _ from ⟨rfl, ⟨rfl, ⟨rfl, ⟨rfl, trivial⟩⟩⟩⟩) vc
theorem g42_63 {d : Nat} {sh : List (Nat × Nat)} {g : Nat → Nat → Option Nat} {h : Nat → Nat → Int} {Q : oeQ} {v0 : Nat} {v1 : Int}
    (vc : (v1 < 0 → sh[v0]? = some (12, 45) ∧ oe_rg ((h v0 22) - 1) ∧ oe_V (oe_cost 42) 42 (oe_M (d + 1)) none Q 119 [some (.inr (.inl v0)), some (.inl ((h v0 22) - 1)), none, none] [] (sh, g, h) 0 0) ∧ (0 ≤ v1 → oe_rg (v1 + 1) ∧ oe_V (oe_cost 42) 42 (oe_M (d + 1)) none Q 73 [some (.inr (.inl v0)), some (.inl v1), some (.inl (v1 + 1)), some (.inl 0)] [] (sh, g, h) 0 0)) :
    oe_V (oe_cost 42) 42 (oe_M (d + 1)) none Q 63 [some (.inr (.inl v0)), some (.inl v1), none, none] [] (sh, g, h) 0 0 := by
  refine s_iload_n (oe_t42 39 (q := (63, .iload_n 1, 1)) rfl) rfl ?_
  refine s_if_lt (oe_t42 40 (q := (64, .ifCond .lt 112, 3)) rfl) (fun c7 => ?_) (fun c7 => ?_)
  · replace vc := vc.1 c7
    refine s_aload_n (oe_t42 68 (q := (112, .aload_n 0, 1)) rfl) rfl ?_
    obtain ⟨s8, vc⟩ := vc
    refine s_geti (oe_t42 69 (q := (113, .getfield 7220, 3)) rfl) s8 rfl (by decide) ?_
    refine s_iconst (oe_t42 70 (q := (116, .iconst 1, 1)) rfl) ?_
    obtain ⟨r9, vc⟩ := vc
    refine s_isub (oe_t42 71 (q := (117, .isub, 1)) rfl) r9 ?_
    refine s_istore_n (oe_t42 72 (q := (118, .istore_n 1, 1)) rfl) ?_
    exact oe_V.fg (oe_M_mono _) (show oe_fg [some (.inr (.inl v0)), some (.inl ((h v0 22) - 1)), none, none] _ from ⟨rfl, ⟨rfl, trivial⟩⟩) vc
  · replace vc := vc.2 c7
    refine s_iload_n (oe_t42 41 (q := (67, .iload_n 1, 1)) rfl) rfl ?_
    refine s_iconst (oe_t42 42 (q := (68, .iconst 1, 1)) rfl) ?_
    obtain ⟨r10, vc⟩ := vc
    refine s_iadd (oe_t42 43 (q := (69, .iadd, 1)) rfl) r10 ?_
    refine s_istore_n (oe_t42 44 (q := (70, .istore_n 2, 1)) rfl) ?_
    refine s_iconst (oe_t42 45 (q := (71, .iconst 0, 1)) rfl) ?_
    refine s_istore_n (oe_t42 46 (q := (72, .istore_n 3, 1)) rfl) ?_
    exact oe_V.fg (oe_M_mono _) (show oe_fg [some (.inr (.inl v0)), some (.inl v1), some (.inl (v1 + 1)), some (.inl 0)] _ from ⟨rfl, ⟨rfl, ⟨rfl, ⟨rfl, trivial⟩⟩⟩⟩) vc
theorem g42_17 {d : Nat} {sh : List (Nat × Nat)} {g : Nat → Nat → Option Nat} {h : Nat → Nat → Int} {Q : oeQ} {v0 : Nat} {v1 : Int} {v2 : Int} {v3 : Int}
    (vc : sh[v0]? = some (12, 45) ∧ ∃ q12, g v0 21 = some q12 ∧ ∃ n15, sh[q12]? = some (0, n15) ∧ 0 ≤ v1 ∧ v1 < (n15 : Nat) ∧ oe_M (d + 1) 34 [.inl (h q12 (v1 : Int).toNat)] (sh, g, h) (fun r hp => ∃ (x18 : Int), r = some (.inl x18) ∧ hp = (sh, g, h) ∧ (x18 ≤ v3 → ∃ q20, g v0 25 = some q20 ∧ ∃ n23, sh[q20]? = some (0, n23) ∧ 0 ≤ v1 ∧ v1 < (n23 : Nat) ∧ ∀ h26, h26 = oe_up h q20 (v1 : Int).toNat v2 → oe_rg (v1 + (-1)) ∧ oe_V (oe_cost 42) 42 (oe_M (d + 1)) none Q 7 [some (.inr (.inl v0)), some (.inl (v1 + (-1))), none, none] [] (sh, g, h26) 0 0) ∧ (v3 < x18 → ∃ q29, g v0 25 = some q29 ∧ ∃ n32, sh[q29]? = some (0, n32) ∧ 0 ≤ v2 ∧ v2 < (n32 : Nat) ∧ oe_rg (v3 + 1) ∧ oe_V (oe_cost 42) 42 (oe_M (d + 1)) none Q 17 [some (.inr (.inl v0)), some (.inl v1), some (.inl (h q29 (v2 : Int).toNat)), some (.inl (v3 + 1))] [] (sh, g, h) 0 0))) :
    oe_V (oe_cost 42) 42 (oe_M (d + 1)) none Q 17 [some (.inr (.inl v0)), some (.inl v1), some (.inl v2), some (.inl v3)] [] (sh, g, h) 0 0 := by
  refine s_iload_n (oe_t42 13 (q := (17, .iload_n 3, 1)) rfl) rfl ?_
  refine s_aload_n (oe_t42 14 (q := (18, .aload_n 0, 1)) rfl) rfl ?_
  obtain ⟨s11, vc⟩ := vc
  obtain ⟨q12, p13, vc⟩ := vc
  refine s_getr (oe_t42 15 (q := (19, .getfield 7211, 3)) rfl) s11 rfl rfl p13 ?_
  refine s_iload_n (oe_t42 16 (q := (22, .iload_n 1, 1)) rfl) rfl ?_
  obtain ⟨n15, s14, vc⟩ := vc
  obtain ⟨i16, i17, vc⟩ := vc
  refine s_iaload (oe_t42 17 (q := (23, .iaload, 1)) rfl) s14 i16 i17 ?_
  refine s_calls (oe_t42 18 (q := (24, .invokestatic 34071, 3)) rfl) (by decide) (Nat.le_of_ble_eq_true rfl) (Nat.le_of_ble_eq_true rfl) (Nat.le_of_ble_eq_true rfl) (Nat.le_of_ble_eq_true rfl) ?_
  refine oe_M_mono _ _ _ _ _ _ (fun r hp vq => ?_) vc
  obtain ⟨x18, rfl, rfl, vc⟩ := vq
  show oe_V (oe_cost 42) 42 (oe_M (d + 1)) none Q 27 [some (.inr (.inl v0)), some (.inl v1), some (.inl v2), some (.inl v3)] [.inl x18, .inl v3] (sh, g, h) 0 0
  refine s_ic_ge (oe_t42 19 (q := (27, .if_icmp .ge 43, 3)) rfl) (fun c19 => ?_) (fun c19 => ?_)
  · replace vc := vc.1 c19
    refine s_aload_n (oe_t42 27 (q := (43, .aload_n 0, 1)) rfl) rfl ?_
    obtain ⟨q20, p21, vc⟩ := vc
    refine s_getr (oe_t42 28 (q := (44, .getfield 7251, 3)) rfl) s11 rfl rfl p21 ?_
    refine s_iload_n (oe_t42 29 (q := (47, .iload_n 1, 1)) rfl) rfl ?_
    refine s_iload_n (oe_t42 30 (q := (48, .iload_n 2, 1)) rfl) rfl ?_
    obtain ⟨n23, s22, vc⟩ := vc
    obtain ⟨i24, i25, vc⟩ := vc
    refine t_iastore (oe_t42 31 (q := (49, .iastore, 1)) rfl) s22 i24 i25 (fun h26 e27 => ?_)
    replace vc := vc h26 e27
    obtain ⟨r28, vc⟩ := vc
    refine s_iinc (oe_t42 32 (q := (50, .iinc 1 (-1), 3)) rfl) rfl r28 ?_
    refine s_goto (oe_t42 33 (q := (53, .goto 7, 3)) rfl) ?_
    exact oe_V.fg (oe_M_mono _) (show oe_fg [some (.inr (.inl v0)), some (.inl (v1 + (-1))), none, none] _ from ⟨rfl, ⟨rfl, trivial⟩⟩) vc
  · replace vc := vc.2 c19
    refine s_aload_n (oe_t42 20 (q := (30, .aload_n 0, 1)) rfl) rfl ?_
    obtain ⟨q29, p30, vc⟩ := vc
    refine s_getr (oe_t42 21 (q := (31, .getfield 7251, 3)) rfl) s11 rfl rfl p30 ?_
    refine s_iload_n (oe_t42 22 (q := (34, .iload_n 2, 1)) rfl) rfl ?_
    obtain ⟨n32, s31, vc⟩ := vc
    obtain ⟨i33, i34, vc⟩ := vc
    refine s_iaload (oe_t42 23 (q := (35, .iaload, 1)) rfl) s31 i33 i34 ?_
    refine s_istore_n (oe_t42 24 (q := (36, .istore_n 2, 1)) rfl) ?_
    obtain ⟨r35, vc⟩ := vc
    refine s_iinc (oe_t42 25 (q := (37, .iinc 3 1, 3)) rfl) rfl r35 ?_
    refine s_goto (oe_t42 26 (q := (40, .goto 17, 3)) rfl) ?_
    exact oe_V.fg (oe_M_mono _) (show oe_fg [some (.inr (.inl v0)), some (.inl v1), some (.inl (h q29 (v2 : Int).toNat)), some (.inl (v3 + 1))] _ from ⟨rfl, ⟨rfl, ⟨rfl, ⟨rfl, trivial⟩⟩⟩⟩) vc
theorem g42_119 {d : Nat} {sh : List (Nat × Nat)} {g : Nat → Nat → Option Nat} {h : Nat → Nat → Int} {Q : oeQ} {v0 : Nat} {v1 : Int}
    (vc : (v1 < 0 → sh[v0]? = some (12, 45) ∧ ∃ q38, g v0 27 = some q38 ∧ ∃ n41, sh[q38]? = some (2, n41) ∧ 0 ≤ (0 : Int) ∧ (0 : Int) < (n41 : Nat) ∧ ((h q38 0) = 0 ∨ (h q38 0) = 1) ∧ Q (some (.inl (h q38 0))) (sh, g, h)) ∧ (0 ≤ v1 → sh[v0]? = some (12, 45) ∧ oe_rg ((h v0 24) - 1) ∧ oe_V (oe_cost 42) 42 (oe_M (d + 1)) none Q 130 [some (.inr (.inl v0)), some (.inl v1), some (.inl ((h v0 24) - 1)), none] [] (sh, g, h) 0 0)) :
    oe_V (oe_cost 42) 42 (oe_M (d + 1)) none Q 119 [some (.inr (.inl v0)), some (.inl v1), none, none] [] (sh, g, h) 0 0 := by
  refine s_iload_n (oe_t42 73 (q := (119, .iload_n 1, 1)) rfl) rfl ?_
  refine s_if_lt (oe_t42 74 (q := (120, .ifCond .lt 163, 3)) rfl) (fun c36 => ?_) (fun c36 => ?_)
  · replace vc := vc.1 c36
    refine s_aload_n (oe_t42 98 (q := (163, .aload_n 0, 1)) rfl) rfl ?_
    obtain ⟨s37, vc⟩ := vc
    obtain ⟨q38, p39, vc⟩ := vc
    refine s_getr (oe_t42 99 (q := (164, .getfield 7271, 3)) rfl) s37 rfl rfl p39 ?_
    refine s_iconst (oe_t42 100 (q := (167, .iconst 0, 1)) rfl) ?_
    obtain ⟨n41, s40, vc⟩ := vc
    obtain ⟨i42, i43, vc⟩ := vc
    refine s_baload (oe_t42 101 (q := (168, .baload, 1)) rfl) s40 i42 i43 ?_
    obtain ⟨b44, vc⟩ := vc
    exact s_iret (oe_t42 102 (q := (169, .ireturn, 1)) rfl) (Or.inr (Or.inl ⟨rfl, b44⟩)) vc
  · replace vc := vc.2 c36
    refine s_aload_n (oe_t42 75 (q := (123, .aload_n 0, 1)) rfl) rfl ?_
    obtain ⟨s45, vc⟩ := vc
    refine s_geti (oe_t42 76 (q := (124, .getfield 7240, 3)) rfl) s45 rfl (by decide) ?_
    refine s_iconst (oe_t42 77 (q := (127, .iconst 1, 1)) rfl) ?_
    obtain ⟨r46, vc⟩ := vc
    refine s_isub (oe_t42 78 (q := (128, .isub, 1)) rfl) r46 ?_
    refine s_istore_n (oe_t42 79 (q := (129, .istore_n 2, 1)) rfl) ?_
    exact oe_V.fg (oe_M_mono _) (show oe_fg [some (.inr (.inl v0)), some (.inl v1), some (.inl ((h v0 24) - 1)), none] _ from ⟨rfl, ⟨rfl, ⟨rfl, trivial⟩⟩⟩) vc
theorem g42_73 {d : Nat} {sh : List (Nat × Nat)} {g : Nat → Nat → Option Nat} {h : Nat → Nat → Int} {Q : oeQ} {v0 : Nat} {v1 : Int} {v2 : Int} {v3 : Int}
    (vc : sh[v0]? = some (12, 45) ∧ ∃ q48, g v0 23 = some q48 ∧ ∃ n51, sh[q48]? = some (0, n51) ∧ 0 ≤ v1 ∧ v1 < (n51 : Nat) ∧ oe_M (d + 1) 34 [.inl (h q48 (v1 : Int).toNat)] (sh, g, h) (fun r hp => ∃ (x54 : Int), r = some (.inl x54) ∧ hp = (sh, g, h) ∧ (x54 ≤ v3 → ∃ q56, g v0 26 = some q56 ∧ ∃ n59, sh[q56]? = some (0, n59) ∧ 0 ≤ v1 ∧ v1 < (n59 : Nat) ∧ ∀ h62, h62 = oe_up h q56 (v1 : Int).toNat v2 → oe_rg (v1 + (-1)) ∧ oe_V (oe_cost 42) 42 (oe_M (d + 1)) none Q 63 [some (.inr (.inl v0)), some (.inl (v1 + (-1))), none, none] [] (sh, g, h62) 0 0) ∧ (v3 < x54 → ∃ q65, g v0 26 = some q65 ∧ ∃ n68, sh[q65]? = some (0, n68) ∧ 0 ≤ v2 ∧ v2 < (n68 : Nat) ∧ oe_rg (v3 + 1) ∧ oe_V (oe_cost 42) 42 (oe_M (d + 1)) none Q 73 [some (.inr (.inl v0)), some (.inl v1), some (.inl (h q65 (v2 : Int).toNat)), some (.inl (v3 + 1))] [] (sh, g, h) 0 0))) :
    oe_V (oe_cost 42) 42 (oe_M (d + 1)) none Q 73 [some (.inr (.inl v0)), some (.inl v1), some (.inl v2), some (.inl v3)] [] (sh, g, h) 0 0 := by
  refine s_iload_n (oe_t42 47 (q := (73, .iload_n 3, 1)) rfl) rfl ?_
  refine s_aload_n (oe_t42 48 (q := (74, .aload_n 0, 1)) rfl) rfl ?_
  obtain ⟨s47, vc⟩ := vc
  obtain ⟨q48, p49, vc⟩ := vc
  refine s_getr (oe_t42 49 (q := (75, .getfield 7231, 3)) rfl) s47 rfl rfl p49 ?_
  refine s_iload_n (oe_t42 50 (q := (78, .iload_n 1, 1)) rfl) rfl ?_
  obtain ⟨n51, s50, vc⟩ := vc
  obtain ⟨i52, i53, vc⟩ := vc
  refine s_iaload (oe_t42 51 (q := (79, .iaload, 1)) rfl) s50 i52 i53 ?_
  refine s_calls (oe_t42 52 (q := (80, .invokestatic 34071, 3)) rfl) (by decide) (Nat.le_of_ble_eq_true rfl) (Nat.le_of_ble_eq_true rfl) (Nat.le_of_ble_eq_true rfl) (Nat.le_of_ble_eq_true rfl) ?_
  refine oe_M_mono _ _ _ _ _ _ (fun r hp vq => ?_) vc
  obtain ⟨x54, rfl, rfl, vc⟩ := vq
  show oe_V (oe_cost 42) 42 (oe_M (d + 1)) none Q 83 [some (.inr (.inl v0)), some (.inl v1), some (.inl v2), some (.inl v3)] [.inl x54, .inl v3] (sh, g, h) 0 0
  refine s_ic_ge (oe_t42 53 (q := (83, .if_icmp .ge 99, 3)) rfl) (fun c55 => ?_) (fun c55 => ?_)
  · replace vc := vc.1 c55
    refine s_aload_n (oe_t42 61 (q := (99, .aload_n 0, 1)) rfl) rfl ?_
    obtain ⟨q56, p57, vc⟩ := vc
    refine s_getr (oe_t42 62 (q := (100, .getfield 7261, 3)) rfl) s47 rfl rfl p57 ?_
    refine s_iload_n (oe_t42 63 (q := (103, .iload_n 1, 1)) rfl) rfl ?_
    refine s_iload_n (oe_t42 64 (q := (104, .iload_n 2, 1)) rfl) rfl ?_
    obtain ⟨n59, s58, vc⟩ := vc
    obtain ⟨i60, i61, vc⟩ := vc
    refine t_iastore (oe_t42 65 (q := (105, .iastore, 1)) rfl) s58 i60 i61 (fun h62 e63 => ?_)
    replace vc := vc h62 e63
    obtain ⟨r64, vc⟩ := vc
    refine s_iinc (oe_t42 66 (q := (106, .iinc 1 (-1), 3)) rfl) rfl r64 ?_
    refine s_goto (oe_t42 67 (q := (109, .goto 63, 3)) rfl) ?_
    exact oe_V.fg (oe_M_mono _) (show oe_fg [some (.inr (.inl v0)), some (.inl (v1 + (-1))), none, none] _ from ⟨rfl, ⟨rfl, trivial⟩⟩) vc
  · replace vc := vc.2 c55
    refine s_aload_n (oe_t42 54 (q := (86, .aload_n 0, 1)) rfl) rfl ?_
    obtain ⟨q65, p66, vc⟩ := vc
    refine s_getr (oe_t42 55 (q := (87, .getfield 7261, 3)) rfl) s47 rfl rfl p66 ?_
    refine s_iload_n (oe_t42 56 (q := (90, .iload_n 2, 1)) rfl) rfl ?_
    obtain ⟨n68, s67, vc⟩ := vc
    obtain ⟨i69, i70, vc⟩ := vc
    refine s_iaload (oe_t42 57 (q := (91, .iaload, 1)) rfl) s67 i69 i70 ?_
    refine s_istore_n (oe_t42 58 (q := (92, .istore_n 2, 1)) rfl) ?_
    obtain ⟨r71, vc⟩ := vc
    refine s_iinc (oe_t42 59 (q := (93, .iinc 3 1, 3)) rfl) rfl r71 ?_
    refine s_goto (oe_t42 60 (q := (96, .goto 73, 3)) rfl) ?_
    exact oe_V.fg (oe_M_mono _) (show oe_fg [some (.inr (.inl v0)), some (.inl v1), some (.inl (h q65 (v2 : Int).toNat)), some (.inl (v3 + 1))] _ from ⟨rfl, ⟨rfl, ⟨rfl, ⟨rfl, trivial⟩⟩⟩⟩) vc
theorem g42_130 {d : Nat} {sh : List (Nat × Nat)} {g : Nat → Nat → Option Nat} {h : Nat → Nat → Int} {Q : oeQ} {v0 : Nat} {v1 : Int} {v2 : Int}
    (vc : (v2 < 0 → oe_rg (v1 + (-1)) ∧ oe_V (oe_cost 42) 42 (oe_M (d + 1)) none Q 119 [some (.inr (.inl v0)), some (.inl (v1 + (-1))), none, none] [] (sh, g, h) 0 0) ∧ (0 ≤ v2 → sh[v0]? = some (12, 45) ∧ ∃ q75, g v0 27 = some q75 ∧ oe_rg (60 * v1) ∧ oe_rg ((60 * v1) + v2) ∧ oe_M (d + 1) 41 [.inr (.inl v0), .inl v1, .inl v2] (sh, g, h) (fun r hp => ∃ (x79 : Int), r = some (.inl x79) ∧ hp = (sh, g, h) ∧ ∃ n81, sh[q75]? = some (2, n81) ∧ 0 ≤ ((60 * v1) + v2) ∧ ((60 * v1) + v2) < (n81 : Nat) ∧ (x79 = 0 ∨ x79 = 1) ∧ ∀ h84, h84 = oe_up h q75 (((60 * v1) + v2) : Int).toNat x79 → oe_rg (v2 + (-1)) ∧ oe_V (oe_cost 42) 42 (oe_M (d + 1)) none Q 130 [some (.inr (.inl v0)), some (.inl v1), some (.inl (v2 + (-1))), none] [] (sh, g, h84) 0 0))) :
    oe_V (oe_cost 42) 42 (oe_M (d + 1)) none Q 130 [some (.inr (.inl v0)), some (.inl v1), some (.inl v2), none] [] (sh, g, h) 0 0 := by
  refine s_iload_n (oe_t42 80 (q := (130, .iload_n 2, 1)) rfl) rfl ?_
  refine s_if_lt (oe_t42 81 (q := (131, .ifCond .lt 157, 3)) rfl) (fun c72 => ?_) (fun c72 => ?_)
  · replace vc := vc.1 c72
    obtain ⟨r73, vc⟩ := vc
    refine s_iinc (oe_t42 96 (q := (157, .iinc 1 (-1), 3)) rfl) rfl r73 ?_
    refine s_goto (oe_t42 97 (q := (160, .goto 119, 3)) rfl) ?_
    exact oe_V.fg (oe_M_mono _) (show oe_fg [some (.inr (.inl v0)), some (.inl (v1 + (-1))), none, none] _ from ⟨rfl, ⟨rfl, trivial⟩⟩) vc
  · replace vc := vc.2 c72
    refine s_aload_n (oe_t42 82 (q := (134, .aload_n 0, 1)) rfl) rfl ?_
    obtain ⟨s74, vc⟩ := vc
    obtain ⟨q75, p76, vc⟩ := vc
    refine s_getr (oe_t42 83 (q := (135, .getfield 7271, 3)) rfl) s74 rfl rfl p76 ?_
    refine s_bipush (oe_t42 84 (q := (138, .bipush 60, 2)) rfl) ?_
    refine s_iload_n (oe_t42 85 (q := (140, .iload_n 1, 1)) rfl) rfl ?_
    obtain ⟨r77, vc⟩ := vc
    refine s_imul (oe_t42 86 (q := (141, .imul, 1)) rfl) r77 ?_
    refine s_iload_n (oe_t42 87 (q := (142, .iload_n 2, 1)) rfl) rfl ?_
    obtain ⟨r78, vc⟩ := vc
    refine s_iadd (oe_t42 88 (q := (143, .iadd, 1)) rfl) r78 ?_
    refine s_aload_n (oe_t42 89 (q := (144, .aload_n 0, 1)) rfl) rfl ?_
    refine s_iload_n (oe_t42 90 (q := (145, .iload_n 1, 1)) rfl) rfl ?_
    refine s_iload_n (oe_t42 91 (q := (146, .iload_n 2, 1)) rfl) rfl ?_
    refine s_callv (oe_t42 92 (q := (147, .invokevirtual 41072, 3)) rfl) rfl s74 rfl (Nat.le_of_ble_eq_true rfl) (Nat.le_of_ble_eq_true rfl) (Nat.le_of_ble_eq_true rfl) (Nat.le_of_ble_eq_true rfl) ?_
    refine oe_M_mono _ _ _ _ _ _ (fun r hp vq => ?_) vc
    obtain ⟨x79, rfl, rfl, vc⟩ := vq
    show oe_V (oe_cost 42) 42 (oe_M (d + 1)) none Q 150 [some (.inr (.inl v0)), some (.inl v1), some (.inl v2), none] [.inl x79, .inl ((60 * v1) + v2), .inr (.inl q75)] (sh, g, h) 0 0
    obtain ⟨n81, s80, vc⟩ := vc
    obtain ⟨i82, i83, vc⟩ := vc
    obtain ⟨c86, vc⟩ := vc
    refine t_bastore (oe_t42 93 (q := (150, .bastore, 1)) rfl) s80 i82 i83 c86 (fun h84 e85 => ?_)
    replace vc := vc h84 e85
    obtain ⟨r87, vc⟩ := vc
    refine s_iinc (oe_t42 94 (q := (151, .iinc 2 (-1), 3)) rfl) rfl r87 ?_
    refine s_goto (oe_t42 95 (q := (154, .goto 130, 3)) rfl) ?_
    exact oe_V.fg (oe_M_mono _) (show oe_fg [some (.inr (.inl v0)), some (.inl v1), some (.inl (v2 + (-1))), none] _ from ⟨rfl, ⟨rfl, ⟨rfl, trivial⟩⟩⟩) vc
theorem oe_u43 : oe_c43.all (fun q => decide (oe_find oe_c43 q.1 = some q.2)) = true := by decide +kernel
theorem oe_t43 (k : Nat) {q : Nat × Jvm.ClassFile.Instr × Nat} (h : oe_c43[k]? = some q) : oe_find (oe_code 43) q.1 = some q.2 := oe_ft oe_u43 h
theorem g43 {d : Nat} {sh : List (Nat × Nat)} {g : Nat → Nat → Option Nat} {h : Nat → Nat → Int} {Q : oeQ} {v0 : Nat} {v1 : Int}
    (vc : oe_V (oe_cost 43) 43 (oe_M (d + 1)) none Q 4 [some (.inr (.inl v0)), none, some (.inl 1), some (.inl v1)] [] (sh, g, h) 0 0) :
    oe_M (d + 2) 43 [.inr (.inl v0), .inl v1] (sh, g, h) Q := by
  refine oe_M.of (by simp [oe_c1]) (Nat.le_of_ble_eq_true rfl) ?_
  show oe_V (oe_cost 43) 43 (oe_M (d + 1)) none Q 0 [some (.inr (.inl v0)), some (.inl v1), none, none] [] (sh, g, h) 0 0
  refine s_iconst (oe_t43 0 (q := (0, .iconst 1, 1)) rfl) ?_
  refine s_istore_n (oe_t43 1 (q := (1, .istore_n 2, 1)) rfl) ?_
  refine s_iload_n (oe_t43 2 (q := (2, .iload_n 1, 1)) rfl) rfl ?_
  refine s_istore_n (oe_t43 3 (q := (3, .istore_n 3, 1)) rfl) ?_
  exact oe_V.fg (oe_M_mono _) (show oe_fg [some (.inr (.inl v0)), none, some (.inl 1), some (.inl v1)] _ from ⟨rfl, ⟨rfl, ⟨rfl, trivial⟩⟩⟩) vc
theorem g43_4 {d : Nat} {sh : List (Nat × Nat)} {g : Nat → Nat → Option Nat} {h : Nat → Nat → Int} {Q : oeQ} {v0 : Nat} {v2 : Int} {v3 : Int}
    (vc : (v2 ≤ 0 → Q (some (.inl v3)) (sh, g, h)) ∧ (0 < v2 → oe_rg (v2 - 1) ∧ sh[v0]? = some (12, 45) ∧ ∃ q4, g v0 28 = some q4 ∧ ∃ n7, sh[q4]? = some (0, n7) ∧ 0 ≤ v3 ∧ v3 < (n7 : Nat) ∧ oe_M (d + 1) 34 [.inl (h q4 (v3 : Int).toNat)] (sh, g, h) (fun r hp => ∃ (x10 : Int), r = some (.inl x10) ∧ hp = (sh, g, h) ∧ oe_rg ((v2 - 1) + x10) ∧ oe_rg (v3 + 1) ∧ oe_V (oe_cost 43) 43 (oe_M (d + 1)) none Q 4 [some (.inr (.inl v0)), none, some (.inl ((v2 - 1) + x10)), some (.inl (v3 + 1))] [] (sh, g, h) 0 0))) :
    oe_V (oe_cost 43) 43 (oe_M (d + 1)) none Q 4 [some (.inr (.inl v0)), none, some (.inl v2), some (.inl v3)] [] (sh, g, h) 0 0 := by
  refine s_iload_n (oe_t43 4 (q := (4, .iload_n 2, 1)) rfl) rfl ?_
  refine s_if_le (oe_t43 5 (q := (5, .ifCond .le 28, 3)) rfl) (fun c1 => ?_) (fun c1 => ?_)
  · replace vc := vc.1 c1
    refine s_iload_n (oe_t43 18 (q := (28, .iload_n 3, 1)) rfl) rfl ?_
    exact s_iret (oe_t43 19 (q := (29, .ireturn, 1)) rfl) (Or.inl rfl) vc
  · replace vc := vc.2 c1
    refine s_iload_n (oe_t43 6 (q := (8, .iload_n 2, 1)) rfl) rfl ?_
    refine s_iconst (oe_t43 7 (q := (9, .iconst 1, 1)) rfl) ?_
    obtain ⟨r2, vc⟩ := vc
    refine s_isub (oe_t43 8 (q := (10, .isub, 1)) rfl) r2 ?_
    refine s_aload_n (oe_t43 9 (q := (11, .aload_n 0, 1)) rfl) rfl ?_
    obtain ⟨s3, vc⟩ := vc
    obtain ⟨q4, p5, vc⟩ := vc
    refine s_getr (oe_t43 10 (q := (12, .getfield 7281, 3)) rfl) s3 rfl rfl p5 ?_
    refine s_iload_n (oe_t43 11 (q := (15, .iload_n 3, 1)) rfl) rfl ?_
    obtain ⟨n7, s6, vc⟩ := vc
    obtain ⟨i8, i9, vc⟩ := vc
    refine s_iaload (oe_t43 12 (q := (16, .iaload, 1)) rfl) s6 i8 i9 ?_
    refine s_calls (oe_t43 13 (q := (17, .invokestatic 34071, 3)) rfl) (by decide) (Nat.le_of_ble_eq_true rfl) (Nat.le_of_ble_eq_true rfl) (Nat.le_of_ble_eq_true rfl) (Nat.le_of_ble_eq_true rfl) ?_
    refine oe_M_mono _ _ _ _ _ _ (fun r hp vq => ?_) vc
    obtain ⟨x10, rfl, rfl, vc⟩ := vq
    show oe_V (oe_cost 43) 43 (oe_M (d + 1)) none Q 20 [some (.inr (.inl v0)), none, some (.inl v2), some (.inl v3)] [.inl x10, .inl (v2 - 1)] (sh, g, h) 0 0
    obtain ⟨r11, vc⟩ := vc
    refine s_iadd (oe_t43 14 (q := (20, .iadd, 1)) rfl) r11 ?_
    refine s_istore_n (oe_t43 15 (q := (21, .istore_n 2, 1)) rfl) ?_
    obtain ⟨r12, vc⟩ := vc
    refine s_iinc (oe_t43 16 (q := (22, .iinc 3 1, 3)) rfl) rfl r12 ?_
    refine s_goto (oe_t43 17 (q := (25, .goto 4, 3)) rfl) ?_
    exact oe_V.fg (oe_M_mono _) (show oe_fg [some (.inr (.inl v0)), none, some (.inl ((v2 - 1) + x10)), some (.inl (v3 + 1))] _ from ⟨rfl, ⟨rfl, ⟨rfl, trivial⟩⟩⟩) vc
theorem oe_u44 : oe_c44.all (fun q => decide (oe_find oe_c44 q.1 = some q.2)) = true := by decide +kernel
theorem oe_t44 (k : Nat) {q : Nat × Jvm.ClassFile.Instr × Nat} (h : oe_c44[k]? = some q) : oe_find (oe_code 44) q.1 = some q.2 := oe_ft oe_u44 h
theorem g44 {d : Nat} {sh : List (Nat × Nat)} {g : Nat → Nat → Option Nat} {h : Nat → Nat → Int} {Q : oeQ} {v0 : Nat} {v1 : Int} {v2 : Int} {v3 : Int}
    (vc : oe_V (oe_cost 44) 44 (oe_M (d + 1)) none Q 3 [some (.inr (.inl v0)), some (.inl v1), some (.inl v2), some (.inl v3), some (.inl 0), none, none, none] [] (sh, g, h) 0 0) :
    oe_M (d + 2) 44 [.inr (.inl v0), .inl v1, .inl v2, .inl v3] (sh, g, h) Q := by
  refine oe_M.of (by simp [oe_c1]) (Nat.le_of_ble_eq_true rfl) ?_
  show oe_V (oe_cost 44) 44 (oe_M (d + 1)) none Q 0 [some (.inr (.inl v0)), some (.inl v1), some (.inl v2), some (.inl v3), none, none, none, none] [] (sh, g, h) 0 0
  refine s_iconst (oe_t44 0 (q := (0, .iconst 0, 1)) rfl) ?_
  refine s_istore (oe_t44 1 (q := (1, .istore 4, 2)) rfl) ?_
  exact oe_V.fg (oe_M_mono _) (show oe_fg [some (.inr (.inl v0)), some (.inl v1), some (.inl v2), some (.inl v3), some (.inl 0), none, none, none] _ from ⟨rfl, ⟨rfl, ⟨rfl, ⟨rfl, ⟨rfl, trivial⟩⟩⟩⟩⟩) vc
theorem g44_3 {d : Nat} {sh : List (Nat × Nat)} {g : Nat → Nat → Option Nat} {h : Nat → Nat → Int} {Q : oeQ} {v0 : Nat} {v1 : Int} {v2 : Int} {v3 : Int} {v4 : Int}
    (vc : (6 ≤ v4 → oe_V (oe_cost 44) 44 (oe_M (d + 1)) none Q 30 [some (.inr (.inl v0)), none, some (.inl v2), none, some (.inl v3), some (.inl v1), none, none] [] (sh, g, h) 0 0) ∧ (v4 < 6 → sh[v0]? = some (12, 45) ∧ ∃ q3, g v0 30 = some q3 ∧ ∃ n6, sh[q3]? = some (0, n6) ∧ 0 ≤ v4 ∧ v4 < (n6 : Nat) ∧ ∀ h9, h9 = oe_up h q3 (v4 : Int).toNat (-1) → oe_rg (v4 + 1) ∧ oe_V (oe_cost 44) 44 (oe_M (d + 1)) none Q 3 [some (.inr (.inl v0)), some (.inl v1), some (.inl v2), some (.inl v3), some (.inl (v4 + 1)), none, none, none] [] (sh, g, h9) 0 0)) :
    oe_V (oe_cost 44) 44 (oe_M (d + 1)) none Q 3 [some (.inr (.inl v0)), some (.inl v1), some (.inl v2), some (.inl v3), some (.inl v4), none, none, none] [] (sh, g, h) 0 0 := by
  refine s_iload (oe_t44 2 (q := (3, .iload 4, 2)) rfl) rfl ?_
  refine s_bipush (oe_t44 3 (q := (5, .bipush 6, 2)) rfl) ?_
  refine s_ic_ge (oe_t44 4 (q := (7, .if_icmp .ge 24, 3)) rfl) (fun c1 => ?_) (fun c1 => ?_)
  · replace vc := vc.1 c1
    refine s_iload_n (oe_t44 12 (q := (24, .iload_n 3, 1)) rfl) rfl ?_
    refine s_istore (oe_t44 13 (q := (25, .istore 4, 2)) rfl) ?_
    refine s_iload_n (oe_t44 14 (q := (27, .iload_n 1, 1)) rfl) rfl ?_
    refine s_istore (oe_t44 15 (q := (28, .istore 5, 2)) rfl) ?_
    exact oe_V.fg (oe_M_mono _) (show oe_fg [some (.inr (.inl v0)), none, some (.inl v2), none, some (.inl v3), some (.inl v1), none, none] _ from ⟨rfl, ⟨rfl, ⟨rfl, ⟨rfl, trivial⟩⟩⟩⟩) vc
  · replace vc := vc.2 c1
    refine s_aload_n (oe_t44 5 (q := (10, .aload_n 0, 1)) rfl) rfl ?_
    obtain ⟨s2, vc⟩ := vc
    obtain ⟨q3, p4, vc⟩ := vc
    refine s_getr (oe_t44 6 (q := (11, .getfield 7301, 3)) rfl) s2 rfl rfl p4 ?_
    refine s_iload (oe_t44 7 (q := (14, .iload 4, 2)) rfl) rfl ?_
    refine s_iconst (oe_t44 8 (q := (16, .iconst (-1), 1)) rfl) ?_
    obtain ⟨n6, s5, vc⟩ := vc
    obtain ⟨i7, i8, vc⟩ := vc
    refine t_iastore (oe_t44 9 (q := (17, .iastore, 1)) rfl) s5 i7 i8 (fun h9 e10 => ?_)
    replace vc := vc h9 e10
    obtain ⟨r11, vc⟩ := vc
    refine s_iinc (oe_t44 10 (q := (18, .iinc 4 1, 3)) rfl) rfl r11 ?_
    refine s_goto (oe_t44 11 (q := (21, .goto 3, 3)) rfl) ?_
    exact oe_V.fg (oe_M_mono _) (show oe_fg [some (.inr (.inl v0)), some (.inl v1), some (.inl v2), some (.inl v3), some (.inl (v4 + 1)), none, none, none] _ from ⟨rfl, ⟨rfl, ⟨rfl, ⟨rfl, ⟨rfl, trivial⟩⟩⟩⟩⟩) vc
theorem g44_30 {d : Nat} {sh : List (Nat × Nat)} {g : Nat → Nat → Option Nat} {h : Nat → Nat → Int} {Q : oeQ} {v0 : Nat} {v2 : Int} {v4 : Int} {v5 : Int}
    (vc : (v2 ≤ v5 → Q (some (.inl 1)) (sh, g, h)) ∧ (v5 < v2 → sh[v0]? = some (12, 45) ∧ ∃ q14, g v0 13 = some q14 ∧ ∃ n17, sh[q14]? = some (0, n17) ∧ 0 ≤ v5 ∧ v5 < (n17 : Nat) ∧ (v4 < (h v0 29) → ((h q14 (v5 : Int).toNat) < 20 → oe_M (d + 1) 43 [.inr (.inl v0), .inl v4] (sh, g, h) (fun r hp => ∃ (x22 : Int), r = some (.inl x22) ∧ hp = (sh, g, h) ∧ oe_rg (x22 - v4) ∧ ∃ q24, g v0 30 = some q24 ∧ ∃ n27, sh[q24]? = some (0, n27) ∧ 0 ≤ (h q14 (v5 : Int).toNat) ∧ (h q14 (v5 : Int).toNat) < (n27 : Nat) ∧ ((h q24 ((h q14 (v5 : Int).toNat) : Int).toNat) < 0 → 0 ≤ (h q14 (v5 : Int).toNat) ∧ (h q14 (v5 : Int).toNat) < (n27 : Nat) ∧ ∀ h33, h33 = oe_up h q24 ((h q14 (v5 : Int).toNat) : Int).toNat v4 → ∃ q35, g v0 31 = some q35 ∧ ∃ n38, sh[q35]? = some (0, n38) ∧ 0 ≤ (h q14 (v5 : Int).toNat) ∧ (h q14 (v5 : Int).toNat) < (n38 : Nat) ∧ ∀ h41, h41 = oe_up h33 q35 ((h q14 (v5 : Int).toNat) : Int).toNat (x22 - v4) → oe_rg (v4 + (x22 - v4)) ∧ oe_rg (v5 + 1) ∧ oe_V (oe_cost 44) 44 (oe_M (d + 1)) none Q 30 [some (.inr (.inl v0)), none, some (.inl v2), none, some (.inl (v4 + (x22 - v4))), some (.inl (v5 + 1)), none, none] [] (sh, g, h41) 0 0) ∧ (0 ≤ (h q24 ((h q14 (v5 : Int).toNat) : Int).toNat) → 0 ≤ (h q14 (v5 : Int).toNat) ∧ (h q14 (v5 : Int).toNat) < (n27 : Nat) ∧ ∃ q47, g v0 31 = some q47 ∧ ∃ n50, sh[q47]? = some (0, n50) ∧ 0 ≤ (h q14 (v5 : Int).toNat) ∧ (h q14 (v5 : Int).toNat) < (n50 : Nat) ∧ oe_M (d + 1) 45 [.inr (.inl v0), .inl (h q24 ((h q14 (v5 : Int).toNat) : Int).toNat), .inl (h q47 ((h q14 (v5 : Int).toNat) : Int).toNat), .inl v4, .inl (x22 - v4)] (sh, g, h) (fun r hp => ∃ (x53 : Int), r = some (.inl x53) ∧ hp = (sh, g, h) ∧ (x53 ≠ 0 → oe_rg (v4 + (x22 - v4)) ∧ oe_rg (v5 + 1) ∧ oe_V (oe_cost 44) 44 (oe_M (d + 1)) none Q 30 [some (.inr (.inl v0)), none, some (.inl v2), none, some (.inl (v4 + (x22 - v4))), some (.inl (v5 + 1)), none, none] [] (sh, g, h) 0 0) ∧ (x53 = 0 → Q (some (.inl 0)) (sh, g, h)))))) ∧ (20 ≤ (h q14 (v5 : Int).toNat) → ∃ q57, g v0 28 = some q57 ∧ ∃ n60, sh[q57]? = some (0, n60) ∧ 0 ≤ v4 ∧ v4 < (n60 : Nat) ∧ ((h q57 (v4 : Int).toNat) = (h q14 (v5 : Int).toNat) → oe_rg (v4 + 1) ∧ oe_rg (v5 + 1) ∧ oe_V (oe_cost 44) 44 (oe_M (d + 1)) none Q 30 [some (.inr (.inl v0)), none, some (.inl v2), none, some (.inl (v4 + 1)), some (.inl (v5 + 1)), none, none] [] (sh, g, h) 0 0) ∧ ((h q57 (v4 : Int).toNat) ≠ (h q14 (v5 : Int).toNat) → Q (some (.inl 0)) (sh, g, h)))) ∧ ((h v0 29) ≤ v4 → Q (some (.inl 0)) (sh, g, h)))) :
    oe_V (oe_cost 44) 44 (oe_M (d + 1)) none Q 30 [some (.inr (.inl v0)), none, some (.inl v2), none, some (.inl v4), some (.inl v5), none, none] [] (sh, g, h) 0 0 := by
  refine s_iload (oe_t44 16 (q := (30, .iload 5, 2)) rfl) rfl ?_
  refine s_iload_n (oe_t44 17 (q := (32, .iload_n 2, 1)) rfl) rfl ?_
  refine s_ic_ge (oe_t44 18 (q := (33, .if_icmp .ge 163, 3)) rfl) (fun c12 => ?_) (fun c12 => ?_)
  · replace vc := vc.1 c12
    refine s_iconst (oe_t44 85 (q := (163, .iconst 1, 1)) rfl) ?_
    exact s_iret (oe_t44 86 (q := (164, .ireturn, 1)) rfl) (Or.inr (Or.inl ⟨rfl, Or.inr rfl⟩)) vc
  · replace vc := vc.2 c12
    refine s_aload_n (oe_t44 19 (q := (36, .aload_n 0, 1)) rfl) rfl ?_
    obtain ⟨s13, vc⟩ := vc
    obtain ⟨q14, p15, vc⟩ := vc
    refine s_getr (oe_t44 20 (q := (37, .getfield 7131, 3)) rfl) s13 rfl rfl p15 ?_
    refine s_iload (oe_t44 21 (q := (40, .iload 5, 2)) rfl) rfl ?_
    obtain ⟨n17, s16, vc⟩ := vc
    obtain ⟨i18, i19, vc⟩ := vc
    refine s_iaload (oe_t44 22 (q := (42, .iaload, 1)) rfl) s16 i18 i19 ?_
    refine s_istore (oe_t44 23 (q := (43, .istore 6, 2)) rfl) ?_
    refine s_iload (oe_t44 24 (q := (45, .iload 4, 2)) rfl) rfl ?_
    refine s_aload_n (oe_t44 25 (q := (47, .aload_n 0, 1)) rfl) rfl ?_
    refine s_geti (oe_t44 26 (q := (48, .getfield 7290, 3)) rfl) s13 rfl (by decide) ?_
    refine s_ic_lt (oe_t44 27 (q := (51, .if_icmp .lt 56, 3)) rfl) (fun c20 => ?_) (fun c20 => ?_)
    · replace vc := vc.1 c20
      refine s_iload (oe_t44 30 (q := (56, .iload 6, 2)) rfl) rfl ?_
      refine s_calls (oe_t44 31 (q := (58, .invokestatic 35071, 3)) rfl) (by decide) (Nat.le_of_ble_eq_true rfl) (Nat.le_of_ble_eq_true rfl) (Nat.le_of_ble_eq_true rfl) (Nat.le_of_ble_eq_true rfl) (sp_35 (fun c21 => ?_) (fun c21 => ?_))
      · replace vc := vc.1 c21
        show oe_V (oe_cost 44) 44 (oe_M (d + 1)) none Q 61 [some (.inr (.inl v0)), none, some (.inl v2), none, some (.inl v4), some (.inl v5), some (.inl (h q14 (v5 : Int).toNat)), none] [.inl 1] (sh, g, h) 0 0
        refine s_if_ne (oe_t44 32 (q := (61, .ifCond .ne 84, 3)) rfl) (fun _ => ?_) (fun q => absurd q (by decide))
        refine s_aload_n (oe_t44 43 (q := (84, .aload_n 0, 1)) rfl) rfl ?_
        refine s_iload (oe_t44 44 (q := (85, .iload 4, 2)) rfl) rfl ?_
        refine s_callv (oe_t44 45 (q := (87, .invokevirtual 43071, 3)) rfl) rfl s13 rfl (Nat.le_of_ble_eq_true rfl) (Nat.le_of_ble_eq_true rfl) (Nat.le_of_ble_eq_true rfl) (Nat.le_of_ble_eq_true rfl) ?_
        refine oe_M_mono _ _ _ _ _ _ (fun r hp vq => ?_) vc
        obtain ⟨x22, rfl, rfl, vc⟩ := vq
        show oe_V (oe_cost 44) 44 (oe_M (d + 1)) none Q 90 [some (.inr (.inl v0)), none, some (.inl v2), none, some (.inl v4), some (.inl v5), some (.inl (h q14 (v5 : Int).toNat)), none] [.inl x22] (sh, g, h) 0 0
        refine s_iload (oe_t44 46 (q := (90, .iload 4, 2)) rfl) rfl ?_
        obtain ⟨r23, vc⟩ := vc
        refine s_isub (oe_t44 47 (q := (92, .isub, 1)) rfl) r23 ?_
        refine s_istore (oe_t44 48 (q := (93, .istore 7, 2)) rfl) ?_
        refine s_aload_n (oe_t44 49 (q := (95, .aload_n 0, 1)) rfl) rfl ?_
        obtain ⟨q24, p25, vc⟩ := vc
        refine s_getr (oe_t44 50 (q := (96, .getfield 7301, 3)) rfl) s13 rfl rfl p25 ?_
        refine s_iload (oe_t44 51 (q := (99, .iload 6, 2)) rfl) rfl ?_
        obtain ⟨n27, s26, vc⟩ := vc
        obtain ⟨i28, i29, vc⟩ := vc
        refine s_iaload (oe_t44 52 (q := (101, .iaload, 1)) rfl) s26 i28 i29 ?_
        refine s_if_lt (oe_t44 53 (q := (102, .ifCond .lt 132, 3)) rfl) (fun c30 => ?_) (fun c30 => ?_)
        · replace vc := vc.1 c30
          refine s_aload_n (oe_t44 69 (q := (132, .aload_n 0, 1)) rfl) rfl ?_
          refine s_getr (oe_t44 70 (q := (133, .getfield 7301, 3)) rfl) s13 rfl rfl p25 ?_
          refine s_iload (oe_t44 71 (q := (136, .iload 6, 2)) rfl) rfl ?_
          refine s_iload (oe_t44 72 (q := (138, .iload 4, 2)) rfl) rfl ?_
          obtain ⟨i31, i32, vc⟩ := vc
          refine t_iastore (oe_t44 73 (q := (140, .iastore, 1)) rfl) s26 i31 i32 (fun h33 e34 => ?_)
          replace vc := vc h33 e34
          refine s_aload_n (oe_t44 74 (q := (141, .aload_n 0, 1)) rfl) rfl ?_
          obtain ⟨q35, p36, vc⟩ := vc
          refine s_getr (oe_t44 75 (q := (142, .getfield 7311, 3)) rfl) s13 rfl rfl p36 ?_
          refine s_iload (oe_t44 76 (q := (145, .iload 6, 2)) rfl) rfl ?_
          refine s_iload (oe_t44 77 (q := (147, .iload 7, 2)) rfl) rfl ?_
          obtain ⟨n38, s37, vc⟩ := vc
          obtain ⟨i39, i40, vc⟩ := vc
          refine t_iastore (oe_t44 78 (q := (149, .iastore, 1)) rfl) s37 i39 i40 (fun h41 e42 => ?_)
          replace vc := vc h41 e42
          refine s_iload (oe_t44 79 (q := (150, .iload 4, 2)) rfl) rfl ?_
          refine s_iload (oe_t44 80 (q := (152, .iload 7, 2)) rfl) rfl ?_
          obtain ⟨r43, vc⟩ := vc
          refine s_iadd (oe_t44 81 (q := (154, .iadd, 1)) rfl) r43 ?_
          refine s_istore (oe_t44 82 (q := (155, .istore 4, 2)) rfl) ?_
          obtain ⟨r44, vc⟩ := vc
          refine s_iinc (oe_t44 83 (q := (157, .iinc 5 1, 3)) rfl) rfl r44 ?_
          refine s_goto (oe_t44 84 (q := (160, .goto 30, 3)) rfl) ?_
          exact oe_V.fg (oe_M_mono _) (show oe_fg [some (.inr (.inl v0)), none, some (.inl v2), none, some (.inl (v4 + (x22 - v4))), some (.inl (v5 + 1)), none, none] _ from ⟨rfl, ⟨rfl, ⟨rfl, ⟨rfl, trivial⟩⟩⟩⟩) vc
        · replace vc := vc.2 c30
          refine s_aload_n (oe_t44 54 (q := (105, .aload_n 0, 1)) rfl) rfl ?_
          refine s_aload_n (oe_t44 55 (q := (106, .aload_n 0, 1)) rfl) rfl ?_
          refine s_getr (oe_t44 56 (q := (107, .getfield 7301, 3)) rfl) s13 rfl rfl p25 ?_
          refine s_iload (oe_t44 57 (q := (110, .iload 6, 2)) rfl) rfl ?_
          obtain ⟨i45, i46, vc⟩ := vc
          refine s_iaload (oe_t44 58 (q := (112, .iaload, 1)) rfl) s26 i45 i46 ?_
          refine s_aload_n (oe_t44 59 (q := (113, .aload_n 0, 1)) rfl) rfl ?_
          obtain ⟨q47, p48, vc⟩ := vc
          refine s_getr (oe_t44 60 (q := (114, .getfield 7311, 3)) rfl) s13 rfl rfl p48 ?_
          refine s_iload (oe_t44 61 (q := (117, .iload 6, 2)) rfl) rfl ?_
          obtain ⟨n50, s49, vc⟩ := vc
          obtain ⟨i51, i52, vc⟩ := vc
          refine s_iaload (oe_t44 62 (q := (119, .iaload, 1)) rfl) s49 i51 i52 ?_
          refine s_iload (oe_t44 63 (q := (120, .iload 4, 2)) rfl) rfl ?_
          refine s_iload (oe_t44 64 (q := (122, .iload 7, 2)) rfl) rfl ?_
          refine s_callv (oe_t44 65 (q := (124, .invokevirtual 45074, 3)) rfl) rfl s13 rfl (Nat.le_of_ble_eq_true rfl) (Nat.le_of_ble_eq_true rfl) (Nat.le_of_ble_eq_true rfl) (Nat.le_of_ble_eq_true rfl) ?_
          refine oe_M_mono _ _ _ _ _ _ (fun r hp vq => ?_) vc
          obtain ⟨x53, rfl, rfl, vc⟩ := vq
          show oe_V (oe_cost 44) 44 (oe_M (d + 1)) none Q 127 [some (.inr (.inl v0)), none, some (.inl v2), none, some (.inl v4), some (.inl v5), some (.inl (h q14 (v5 : Int).toNat)), some (.inl (x22 - v4))] [.inl x53] (sh, g, h) 0 0
          refine s_if_ne (oe_t44 66 (q := (127, .ifCond .ne 150, 3)) rfl) (fun c54 => ?_) (fun c54 => ?_)
          · replace vc := vc.1 c54
            refine s_iload (oe_t44 79 (q := (150, .iload 4, 2)) rfl) rfl ?_
            refine s_iload (oe_t44 80 (q := (152, .iload 7, 2)) rfl) rfl ?_
            obtain ⟨r55, vc⟩ := vc
            refine s_iadd (oe_t44 81 (q := (154, .iadd, 1)) rfl) r55 ?_
            refine s_istore (oe_t44 82 (q := (155, .istore 4, 2)) rfl) ?_
            obtain ⟨r56, vc⟩ := vc
            refine s_iinc (oe_t44 83 (q := (157, .iinc 5 1, 3)) rfl) rfl r56 ?_
            refine s_goto (oe_t44 84 (q := (160, .goto 30, 3)) rfl) ?_
            exact oe_V.fg (oe_M_mono _) (show oe_fg [some (.inr (.inl v0)), none, some (.inl v2), none, some (.inl (v4 + (x22 - v4))), some (.inl (v5 + 1)), none, none] _ from ⟨rfl, ⟨rfl, ⟨rfl, ⟨rfl, trivial⟩⟩⟩⟩) vc
          · replace vc := vc.2 c54
            refine s_iconst (oe_t44 67 (q := (130, .iconst 0, 1)) rfl) ?_
            exact s_iret (oe_t44 68 (q := (131, .ireturn, 1)) rfl) (Or.inr (Or.inl ⟨rfl, Or.inl rfl⟩)) vc
      · replace vc := vc.2 c21
        show oe_V (oe_cost 44) 44 (oe_M (d + 1)) none Q 61 [some (.inr (.inl v0)), none, some (.inl v2), none, some (.inl v4), some (.inl v5), some (.inl (h q14 (v5 : Int).toNat)), none] [.inl 0] (sh, g, h) 0 0
        refine s_if_ne (oe_t44 32 (q := (61, .ifCond .ne 84, 3)) rfl) (fun q => absurd q (by decide)) (fun _ => ?_)
        refine s_aload_n (oe_t44 33 (q := (64, .aload_n 0, 1)) rfl) rfl ?_
        obtain ⟨q57, p58, vc⟩ := vc
        refine s_getr (oe_t44 34 (q := (65, .getfield 7281, 3)) rfl) s13 rfl rfl p58 ?_
        refine s_iload (oe_t44 35 (q := (68, .iload 4, 2)) rfl) rfl ?_
        obtain ⟨n60, s59, vc⟩ := vc
        obtain ⟨i61, i62, vc⟩ := vc
        refine s_iaload (oe_t44 36 (q := (70, .iaload, 1)) rfl) s59 i61 i62 ?_
        refine s_iload (oe_t44 37 (q := (71, .iload 6, 2)) rfl) rfl ?_
        refine s_ic_eq (oe_t44 38 (q := (73, .if_icmp .eq 78, 3)) rfl) (fun c63 => ?_) (fun c63 => ?_)
        · replace vc := vc.1 c63
          obtain ⟨r64, vc⟩ := vc
          refine s_iinc (oe_t44 41 (q := (78, .iinc 4 1, 3)) rfl) rfl r64 ?_
          refine s_goto (oe_t44 42 (q := (81, .goto 157, 3)) rfl) ?_
          obtain ⟨r65, vc⟩ := vc
          refine s_iinc (oe_t44 83 (q := (157, .iinc 5 1, 3)) rfl) rfl r65 ?_
          refine s_goto (oe_t44 84 (q := (160, .goto 30, 3)) rfl) ?_
          exact oe_V.fg (oe_M_mono _) (show oe_fg [some (.inr (.inl v0)), none, some (.inl v2), none, some (.inl (v4 + 1)), some (.inl (v5 + 1)), none, none] _ from ⟨rfl, ⟨rfl, ⟨rfl, ⟨rfl, trivial⟩⟩⟩⟩) vc
        · replace vc := vc.2 c63
          refine s_iconst (oe_t44 39 (q := (76, .iconst 0, 1)) rfl) ?_
          exact s_iret (oe_t44 40 (q := (77, .ireturn, 1)) rfl) (Or.inr (Or.inl ⟨rfl, Or.inl rfl⟩)) vc
    · replace vc := vc.2 c20
      refine s_iconst (oe_t44 28 (q := (54, .iconst 0, 1)) rfl) ?_
      exact s_iret (oe_t44 29 (q := (55, .ireturn, 1)) rfl) (Or.inr (Or.inl ⟨rfl, Or.inl rfl⟩)) vc
theorem oe_u45 : oe_c45.all (fun q => decide (oe_find oe_c45 q.1 = some q.2)) = true := by decide +kernel
theorem oe_t45 (k : Nat) {q : Nat × Jvm.ClassFile.Instr × Nat} (h : oe_c45[k]? = some q) : oe_find (oe_code 45) q.1 = some q.2 := oe_ft oe_u45 h
theorem g45 {d : Nat} {sh : List (Nat × Nat)} {g : Nat → Nat → Option Nat} {h : Nat → Nat → Int} {Q : oeQ} {v0 : Nat} {v1 : Int} {v2 : Int} {v3 : Int} {v4 : Int}
    (vc : (v2 ≠ v4 → oe_V (oe_cost 45) 45 (oe_M (d + 1)) none Q 16 [some (.inr (.inl v0)), some (.inl v1), some (.inl v2), some (.inl v3), none, some (.inl 0), some (.inl 0)] [] (sh, g, h) 0 0) ∧ (v2 = v4 → oe_V (oe_cost 45) 45 (oe_M (d + 1)) none Q 16 [some (.inr (.inl v0)), some (.inl v1), some (.inl v2), some (.inl v3), none, some (.inl 1), some (.inl 0)] [] (sh, g, h) 0 0)) :
    oe_M (d + 2) 45 [.inr (.inl v0), .inl v1, .inl v2, .inl v3, .inl v4] (sh, g, h) Q := by
  refine oe_M.of (by simp [oe_c1]) (Nat.le_of_ble_eq_true rfl) ?_
  show oe_V (oe_cost 45) 45 (oe_M (d + 1)) none Q 0 [some (.inr (.inl v0)), some (.inl v1), some (.inl v2), some (.inl v3), some (.inl v4), none, none] [] (sh, g, h) 0 0
  refine s_iload_n (oe_t45 0 (q := (0, .iload_n 2, 1)) rfl) rfl ?_
  refine s_iload (oe_t45 1 (q := (1, .iload 4, 2)) rfl) rfl ?_
  refine s_ic_ne (oe_t45 2 (q := (3, .if_icmp .ne 10, 3)) rfl) (fun c1 => ?_) (fun c1 => ?_)
  · replace vc := vc.1 c1
    refine s_iconst (oe_t45 5 (q := (10, .iconst 0, 1)) rfl) ?_
    refine s_istore (oe_t45 6 (q := (11, .istore 5, 2)) rfl) ?_
    refine s_iconst (oe_t45 7 (q := (13, .iconst 0, 1)) rfl) ?_
    refine s_istore (oe_t45 8 (q := (14, .istore 6, 2)) rfl) ?_
    exact oe_V.fg (oe_M_mono _) (show oe_fg [some (.inr (.inl v0)), some (.inl v1), some (.inl v2), some (.inl v3), none, some (.inl 0), some (.inl 0)] _ from ⟨rfl, ⟨rfl, ⟨rfl, ⟨rfl, ⟨rfl, ⟨rfl, trivial⟩⟩⟩⟩⟩⟩) vc
  · replace vc := vc.2 c1
    refine s_iconst (oe_t45 3 (q := (6, .iconst 1, 1)) rfl) ?_
    refine s_goto (oe_t45 4 (q := (7, .goto 11, 3)) rfl) ?_
    refine s_istore (oe_t45 6 (q := (11, .istore 5, 2)) rfl) ?_
    refine s_iconst (oe_t45 7 (q := (13, .iconst 0, 1)) rfl) ?_
    refine s_istore (oe_t45 8 (q := (14, .istore 6, 2)) rfl) ?_
    exact oe_V.fg (oe_M_mono _) (show oe_fg [some (.inr (.inl v0)), some (.inl v1), some (.inl v2), some (.inl v3), none, some (.inl 1), some (.inl 0)] _ from ⟨rfl, ⟨rfl, ⟨rfl, ⟨rfl, ⟨rfl, ⟨rfl, trivial⟩⟩⟩⟩⟩⟩) vc
theorem g45_16 {d : Nat} {sh : List (Nat × Nat)} {g : Nat → Nat → Option Nat} {h : Nat → Nat → Int} {Q : oeQ} {v0 : Nat} {v1 : Int} {v2 : Int} {v3 : Int} {v5 : Int} {v6 : Int}
    (vc : (v5 = 0 → (v5 = 0 ∨ v5 = 1) ∧ Q (some (.inl v5)) (sh, g, h)) ∧ (v5 ≠ 0 → (v2 ≤ v6 → (v5 = 0 ∨ v5 = 1) ∧ Q (some (.inl v5)) (sh, g, h)) ∧ (v6 < v2 → sh[v0]? = some (12, 45) ∧ ∃ q7, g v0 28 = some q7 ∧ oe_rg (v1 + v6) ∧ ∃ n11, sh[q7]? = some (0, n11) ∧ 0 ≤ (v1 + v6) ∧ (v1 + v6) < (n11 : Nat) ∧ oe_rg (v3 + v6) ∧ 0 ≤ (v3 + v6) ∧ (v3 + v6) < (n11 : Nat) ∧ ((h q7 ((v1 + v6) : Int).toNat) ≠ (h q7 ((v3 + v6) : Int).toNat) → oe_rg (v6 + 1) ∧ oe_V (oe_cost 45) 45 (oe_M (d + 1)) none Q 16 [some (.inr (.inl v0)), some (.inl v1), some (.inl v2), some (.inl v3), none, some (.inl 0), some (.inl (v6 + 1))] [] (sh, g, h) 0 0) ∧ ((h q7 ((v1 + v6) : Int).toNat) = (h q7 ((v3 + v6) : Int).toNat) → oe_rg (v6 + 1) ∧ oe_V (oe_cost 45) 45 (oe_M (d + 1)) none Q 16 [some (.inr (.inl v0)), some (.inl v1), some (.inl v2), some (.inl v3), none, some (.inl 1), some (.inl (v6 + 1))] [] (sh, g, h) 0 0)))) :
    oe_V (oe_cost 45) 45 (oe_M (d + 1)) none Q 16 [some (.inr (.inl v0)), some (.inl v1), some (.inl v2), some (.inl v3), none, some (.inl v5), some (.inl v6)] [] (sh, g, h) 0 0 := by
  refine s_iload (oe_t45 9 (q := (16, .iload 5, 2)) rfl) rfl ?_
  refine s_if_eq (oe_t45 10 (q := (18, .ifCond .eq 61, 3)) rfl) (fun c2 => ?_) (fun c2 => ?_)
  · replace vc := vc.1 c2
    refine s_iload (oe_t45 33 (q := (61, .iload 5, 2)) rfl) rfl ?_
    obtain ⟨b3, vc⟩ := vc
    exact s_iret (oe_t45 34 (q := (63, .ireturn, 1)) rfl) (Or.inr (Or.inl ⟨rfl, b3⟩)) vc
  · replace vc := vc.2 c2
    refine s_iload (oe_t45 11 (q := (21, .iload 6, 2)) rfl) rfl ?_
    refine s_iload_n (oe_t45 12 (q := (23, .iload_n 2, 1)) rfl) rfl ?_
    refine s_ic_ge (oe_t45 13 (q := (24, .if_icmp .ge 61, 3)) rfl) (fun c4 => ?_) (fun c4 => ?_)
    · replace vc := vc.1 c4
      refine s_iload (oe_t45 33 (q := (61, .iload 5, 2)) rfl) rfl ?_
      obtain ⟨b5, vc⟩ := vc
      exact s_iret (oe_t45 34 (q := (63, .ireturn, 1)) rfl) (Or.inr (Or.inl ⟨rfl, b5⟩)) vc
    · replace vc := vc.2 c4
      refine s_aload_n (oe_t45 14 (q := (27, .aload_n 0, 1)) rfl) rfl ?_
      obtain ⟨s6, vc⟩ := vc
      obtain ⟨q7, p8, vc⟩ := vc
      refine s_getr (oe_t45 15 (q := (28, .getfield 7281, 3)) rfl) s6 rfl rfl p8 ?_
      refine s_iload_n (oe_t45 16 (q := (31, .iload_n 1, 1)) rfl) rfl ?_
      refine s_iload (oe_t45 17 (q := (32, .iload 6, 2)) rfl) rfl ?_
      obtain ⟨r9, vc⟩ := vc
      refine s_iadd (oe_t45 18 (q := (34, .iadd, 1)) rfl) r9 ?_
      obtain ⟨n11, s10, vc⟩ := vc
      obtain ⟨i12, i13, vc⟩ := vc
      refine s_iaload (oe_t45 19 (q := (35, .iaload, 1)) rfl) s10 i12 i13 ?_
      refine s_aload_n (oe_t45 20 (q := (36, .aload_n 0, 1)) rfl) rfl ?_
      refine s_getr (oe_t45 21 (q := (37, .getfield 7281, 3)) rfl) s6 rfl rfl p8 ?_
      refine s_iload_n (oe_t45 22 (q := (40, .iload_n 3, 1)) rfl) rfl ?_
      refine s_iload (oe_t45 23 (q := (41, .iload 6, 2)) rfl) rfl ?_
      obtain ⟨r14, vc⟩ := vc
      refine s_iadd (oe_t45 24 (q := (43, .iadd, 1)) rfl) r14 ?_
      obtain ⟨i15, i16, vc⟩ := vc
      refine s_iaload (oe_t45 25 (q := (44, .iaload, 1)) rfl) s10 i15 i16 ?_
      refine s_ic_ne (oe_t45 26 (q := (45, .if_icmp .ne 52, 3)) rfl) (fun c17 => ?_) (fun c17 => ?_)
      · replace vc := vc.1 c17
        refine s_iconst (oe_t45 29 (q := (52, .iconst 0, 1)) rfl) ?_
        refine s_istore (oe_t45 30 (q := (53, .istore 5, 2)) rfl) ?_
        obtain ⟨r18, vc⟩ := vc
        refine s_iinc (oe_t45 31 (q := (55, .iinc 6 1, 3)) rfl) rfl r18 ?_
        refine s_goto (oe_t45 32 (q := (58, .goto 16, 3)) rfl) ?_
        exact oe_V.fg (oe_M_mono _) (show oe_fg [some (.inr (.inl v0)), some (.inl v1), some (.inl v2), some (.inl v3), none, some (.inl 0), some (.inl (v6 + 1))] _ from ⟨rfl, ⟨rfl, ⟨rfl, ⟨rfl, ⟨rfl, ⟨rfl, trivial⟩⟩⟩⟩⟩⟩) vc
      · replace vc := vc.2 c17
        refine s_iconst (oe_t45 27 (q := (48, .iconst 1, 1)) rfl) ?_
        refine s_goto (oe_t45 28 (q := (49, .goto 53, 3)) rfl) ?_
        refine s_istore (oe_t45 30 (q := (53, .istore 5, 2)) rfl) ?_
        obtain ⟨r19, vc⟩ := vc
        refine s_iinc (oe_t45 31 (q := (55, .iinc 6 1, 3)) rfl) rfl r19 ?_
        refine s_goto (oe_t45 32 (q := (58, .goto 16, 3)) rfl) ?_
        exact oe_V.fg (oe_M_mono _) (show oe_fg [some (.inr (.inl v0)), some (.inl v1), some (.inl v2), some (.inl v3), none, some (.inl 1), some (.inl (v6 + 1))] _ from ⟨rfl, ⟨rfl, ⟨rfl, ⟨rfl, ⟨rfl, ⟨rfl, trivial⟩⟩⟩⟩⟩⟩) vc
theorem oe_u46 : oe_c46.all (fun q => decide (oe_find oe_c46 q.1 = some q.2)) = true := by decide +kernel
theorem oe_t46 (k : Nat) {q : Nat × Jvm.ClassFile.Instr × Nat} (h : oe_c46[k]? = some q) : oe_find (oe_code 46) q.1 = some q.2 := oe_ft oe_u46 h
theorem g46 {d : Nat} {sh : List (Nat × Nat)} {g : Nat → Nat → Option Nat} {h : Nat → Nat → Int} {Q : oeQ} {v0 : Nat} {v1 : Int} {v2 : Int} {v3 : Int}
    (vc : sh[v0]? = some (12, 45) ∧ ∀ h2, h2 = oe_up h v0 33 0 → oe_V (oe_cost 46) 46 (oe_M (d + 1)) none Q 8 [some (.inr (.inl v0)), none, some (.inl v2), some (.inl v3), some (.inl v1), none, none, none] [] (sh, g, h2) 0 0) :
    oe_M (d + 2) 46 [.inr (.inl v0), .inl v1, .inl v2, .inl v3] (sh, g, h) Q := by
  refine oe_M.of (by simp [oe_c1]) (Nat.le_of_ble_eq_true rfl) ?_
  show oe_V (oe_cost 46) 46 (oe_M (d + 1)) none Q 0 [some (.inr (.inl v0)), some (.inl v1), some (.inl v2), some (.inl v3), none, none, none, none] [] (sh, g, h) 0 0
  refine s_aload_n (oe_t46 0 (q := (0, .aload_n 0, 1)) rfl) rfl ?_
  refine s_iconst (oe_t46 1 (q := (1, .iconst 0, 1)) rfl) ?_
  obtain ⟨s1, vc⟩ := vc
  refine t_puti (oe_t46 2 (q := (2, .putfield 7330, 3)) rfl) s1 rfl (Or.inl rfl) (fun h2 e3 => ?_)
  replace vc := vc h2 e3
  refine s_iload_n (oe_t46 3 (q := (5, .iload_n 1, 1)) rfl) rfl ?_
  refine s_istore (oe_t46 4 (q := (6, .istore 4, 2)) rfl) ?_
  exact oe_V.fg (oe_M_mono _) (show oe_fg [some (.inr (.inl v0)), none, some (.inl v2), some (.inl v3), some (.inl v1), none, none, none] _ from ⟨rfl, ⟨rfl, ⟨rfl, ⟨rfl, trivial⟩⟩⟩⟩) vc
theorem g46_8 {d : Nat} {sh : List (Nat × Nat)} {g : Nat → Nat → Option Nat} {h : Nat → Nat → Int} {Q : oeQ} {v0 : Nat} {v2 : Int} {v3 : Int} {v4 : Int}
    (vc : (v2 ≤ v4 → Q (some (.inl 1)) (sh, g, h)) ∧ (v4 < v2 → sh[v0]? = some (12, 45) ∧ ∃ q6, g v0 13 = some q6 ∧ ∃ n9, sh[q6]? = some (0, n9) ∧ 0 ≤ v4 ∧ v4 < (n9 : Nat) ∧ ((h q6 (v4 : Int).toNat) < 20 → ∃ q13, g v0 30 = some q13 ∧ ∃ n16, sh[q13]? = some (0, n16) ∧ 0 ≤ (h q6 (v4 : Int).toNat) ∧ (h q6 (v4 : Int).toNat) < (n16 : Nat) ∧ (0 ≤ (h q13 ((h q6 (v4 : Int).toNat) : Int).toNat) → ((h q6 (v4 : Int).toNat) < 20 → ∃ q21, g v0 31 = some q21 ∧ ∃ n24, sh[q21]? = some (0, n24) ∧ 0 ≤ (h q6 (v4 : Int).toNat) ∧ (h q6 (v4 : Int).toNat) < (n24 : Nat) ∧ oe_rg ((h v0 33) + (h q21 ((h q6 (v4 : Int).toNat) : Int).toNat)) ∧ (((h v0 33) + (h q21 ((h q6 (v4 : Int).toNat) : Int).toNat)) ≤ v3 → oe_V (oe_cost 46) 46 (oe_M (d + 1)) none Q 80 [some (.inr (.inl v0)), none, some (.inl v2), some (.inl v3), some (.inl v4), some (.inl (h q6 (v4 : Int).toNat)), some (.inl (h q21 ((h q6 (v4 : Int).toNat) : Int).toNat)), some (.inl 0)] [] (sh, g, h) 0 0) ∧ (v3 < ((h v0 33) + (h q21 ((h q6 (v4 : Int).toNat) : Int).toNat)) → Q (some (.inl 0)) (sh, g, h))) ∧ (20 ≤ (h q6 (v4 : Int).toNat) → oe_rg ((h v0 33) + 1) ∧ (((h v0 33) + 1) ≤ v3 → oe_V (oe_cost 46) 46 (oe_M (d + 1)) none Q 80 [some (.inr (.inl v0)), none, some (.inl v2), some (.inl v3), some (.inl v4), some (.inl (h q6 (v4 : Int).toNat)), some (.inl 1), some (.inl 0)] [] (sh, g, h) 0 0) ∧ (v3 < ((h v0 33) + 1) → Q (some (.inl 0)) (sh, g, h)))) ∧ ((h q13 ((h q6 (v4 : Int).toNat) : Int).toNat) < 0 → Q (some (.inl 0)) (sh, g, h))) ∧ (20 ≤ (h q6 (v4 : Int).toNat) → ((h q6 (v4 : Int).toNat) < 20 → ∃ q32, g v0 31 = some q32 ∧ ∃ n35, sh[q32]? = some (0, n35) ∧ 0 ≤ (h q6 (v4 : Int).toNat) ∧ (h q6 (v4 : Int).toNat) < (n35 : Nat) ∧ oe_rg ((h v0 33) + (h q32 ((h q6 (v4 : Int).toNat) : Int).toNat)) ∧ (((h v0 33) + (h q32 ((h q6 (v4 : Int).toNat) : Int).toNat)) ≤ v3 → oe_V (oe_cost 46) 46 (oe_M (d + 1)) none Q 80 [some (.inr (.inl v0)), none, some (.inl v2), some (.inl v3), some (.inl v4), some (.inl (h q6 (v4 : Int).toNat)), some (.inl (h q32 ((h q6 (v4 : Int).toNat) : Int).toNat)), some (.inl 0)] [] (sh, g, h) 0 0) ∧ (v3 < ((h v0 33) + (h q32 ((h q6 (v4 : Int).toNat) : Int).toNat)) → Q (some (.inl 0)) (sh, g, h))) ∧ (20 ≤ (h q6 (v4 : Int).toNat) → oe_rg ((h v0 33) + 1) ∧ (((h v0 33) + 1) ≤ v3 → oe_V (oe_cost 46) 46 (oe_M (d + 1)) none Q 80 [some (.inr (.inl v0)), none, some (.inl v2), some (.inl v3), some (.inl v4), some (.inl (h q6 (v4 : Int).toNat)), some (.inl 1), some (.inl 0)] [] (sh, g, h) 0 0) ∧ (v3 < ((h v0 33) + 1) → Q (some (.inl 0)) (sh, g, h)))))) :
    oe_V (oe_cost 46) 46 (oe_M (d + 1)) none Q 8 [some (.inr (.inl v0)), none, some (.inl v2), some (.inl v3), some (.inl v4), none, none, none] [] (sh, g, h) 0 0 := by
  refine s_iload (oe_t46 5 (q := (8, .iload 4, 2)) rfl) rfl ?_
  refine s_iload_n (oe_t46 6 (q := (10, .iload_n 2, 1)) rfl) rfl ?_
  refine s_ic_ge (oe_t46 7 (q := (11, .if_icmp .ge 146, 3)) rfl) (fun c4 => ?_) (fun c4 => ?_)
  · replace vc := vc.1 c4
    refine s_iconst (oe_t46 75 (q := (146, .iconst 1, 1)) rfl) ?_
    exact s_iret (oe_t46 76 (q := (147, .ireturn, 1)) rfl) (Or.inr (Or.inl ⟨rfl, Or.inr rfl⟩)) vc
  · replace vc := vc.2 c4
    refine s_aload_n (oe_t46 8 (q := (14, .aload_n 0, 1)) rfl) rfl ?_
    obtain ⟨s5, vc⟩ := vc
    obtain ⟨q6, p7, vc⟩ := vc
    refine s_getr (oe_t46 9 (q := (15, .getfield 7131, 3)) rfl) s5 rfl rfl p7 ?_
    refine s_iload (oe_t46 10 (q := (18, .iload 4, 2)) rfl) rfl ?_
    obtain ⟨n9, s8, vc⟩ := vc
    obtain ⟨i10, i11, vc⟩ := vc
    refine s_iaload (oe_t46 11 (q := (20, .iaload, 1)) rfl) s8 i10 i11 ?_
    refine s_istore (oe_t46 12 (q := (21, .istore 5, 2)) rfl) ?_
    refine s_iload (oe_t46 13 (q := (23, .iload 5, 2)) rfl) rfl ?_
    refine s_calls (oe_t46 14 (q := (25, .invokestatic 35071, 3)) rfl) (by decide) (Nat.le_of_ble_eq_true rfl) (Nat.le_of_ble_eq_true rfl) (Nat.le_of_ble_eq_true rfl) (Nat.le_of_ble_eq_true rfl) (sp_35 (fun c12 => ?_) (fun c12 => ?_))
    · replace vc := vc.1 c12
      show oe_V (oe_cost 46) 46 (oe_M (d + 1)) none Q 28 [some (.inr (.inl v0)), none, some (.inl v2), some (.inl v3), some (.inl v4), some (.inl (h q6 (v4 : Int).toNat)), none, none] [.inl 1] (sh, g, h) 0 0
      refine s_if_eq (oe_t46 15 (q := (28, .ifCond .eq 43, 3)) rfl) (fun q => absurd q (by decide)) (fun _ => ?_)
      refine s_aload_n (oe_t46 16 (q := (31, .aload_n 0, 1)) rfl) rfl ?_
      obtain ⟨q13, p14, vc⟩ := vc
      refine s_getr (oe_t46 17 (q := (32, .getfield 7301, 3)) rfl) s5 rfl rfl p14 ?_
      refine s_iload (oe_t46 18 (q := (35, .iload 5, 2)) rfl) rfl ?_
      obtain ⟨n16, s15, vc⟩ := vc
      obtain ⟨i17, i18, vc⟩ := vc
      refine s_iaload (oe_t46 19 (q := (37, .iaload, 1)) rfl) s15 i17 i18 ?_
      refine s_if_ge (oe_t46 20 (q := (38, .ifCond .ge 43, 3)) rfl) (fun c19 => ?_) (fun c19 => ?_)
      · replace vc := vc.1 c19
        refine s_iload (oe_t46 23 (q := (43, .iload 5, 2)) rfl) rfl ?_
        refine s_calls (oe_t46 24 (q := (45, .invokestatic 35071, 3)) rfl) (by decide) (Nat.le_of_ble_eq_true rfl) (Nat.le_of_ble_eq_true rfl) (Nat.le_of_ble_eq_true rfl) (Nat.le_of_ble_eq_true rfl) (sp_35 (fun c20 => ?_) (fun c20 => ?_))
        · replace vc := vc.1 c20
          show oe_V (oe_cost 46) 46 (oe_M (d + 1)) none Q 48 [some (.inr (.inl v0)), none, some (.inl v2), some (.inl v3), some (.inl v4), some (.inl (h q6 (v4 : Int).toNat)), none, none] [.inl 1] (sh, g, h) 0 0
          refine s_if_eq (oe_t46 25 (q := (48, .ifCond .eq 61, 3)) rfl) (fun q => absurd q (by decide)) (fun _ => ?_)
          refine s_aload_n (oe_t46 26 (q := (51, .aload_n 0, 1)) rfl) rfl ?_
          obtain ⟨q21, p22, vc⟩ := vc
          refine s_getr (oe_t46 27 (q := (52, .getfield 7311, 3)) rfl) s5 rfl rfl p22 ?_
          refine s_iload (oe_t46 28 (q := (55, .iload 5, 2)) rfl) rfl ?_
          obtain ⟨n24, s23, vc⟩ := vc
          obtain ⟨i25, i26, vc⟩ := vc
          refine s_iaload (oe_t46 29 (q := (57, .iaload, 1)) rfl) s23 i25 i26 ?_
          refine s_goto (oe_t46 30 (q := (58, .goto 62, 3)) rfl) ?_
          refine s_istore (oe_t46 32 (q := (62, .istore 6, 2)) rfl) ?_
          refine s_aload_n (oe_t46 33 (q := (64, .aload_n 0, 1)) rfl) rfl ?_
          refine s_geti (oe_t46 34 (q := (65, .getfield 7330, 3)) rfl) s5 rfl (by decide) ?_
          refine s_iload (oe_t46 35 (q := (68, .iload 6, 2)) rfl) rfl ?_
          obtain ⟨r27, vc⟩ := vc
          refine s_iadd (oe_t46 36 (q := (70, .iadd, 1)) rfl) r27 ?_
          refine s_iload_n (oe_t46 37 (q := (71, .iload_n 3, 1)) rfl) rfl ?_
          refine s_ic_le (oe_t46 38 (q := (72, .if_icmp .le 77, 3)) rfl) (fun c28 => ?_) (fun c28 => ?_)
          · replace vc := vc.1 c28
            refine s_iconst (oe_t46 41 (q := (77, .iconst 0, 1)) rfl) ?_
            refine s_istore (oe_t46 42 (q := (78, .istore 7, 2)) rfl) ?_
            exact oe_V.fg (oe_M_mono _) (show oe_fg [some (.inr (.inl v0)), none, some (.inl v2), some (.inl v3), some (.inl v4), some (.inl (h q6 (v4 : Int).toNat)), some (.inl (h q21 ((h q6 (v4 : Int).toNat) : Int).toNat)), some (.inl 0)] _ from ⟨rfl, ⟨rfl, ⟨rfl, ⟨rfl, ⟨rfl, ⟨rfl, ⟨rfl, trivial⟩⟩⟩⟩⟩⟩⟩) vc
          · replace vc := vc.2 c28
            refine s_iconst (oe_t46 39 (q := (75, .iconst 0, 1)) rfl) ?_
            exact s_iret (oe_t46 40 (q := (76, .ireturn, 1)) rfl) (Or.inr (Or.inl ⟨rfl, Or.inl rfl⟩)) vc
        · replace vc := vc.2 c20
          show oe_V (oe_cost 46) 46 (oe_M (d + 1)) none Q 48 [some (.inr (.inl v0)), none, some (.inl v2), some (.inl v3), some (.inl v4), some (.inl (h q6 (v4 : Int).toNat)), none, none] [.inl 0] (sh, g, h) 0 0
          refine s_if_eq (oe_t46 25 (q := (48, .ifCond .eq 61, 3)) rfl) (fun _ => ?_) (fun q => absurd q (by decide))
          refine s_iconst (oe_t46 31 (q := (61, .iconst 1, 1)) rfl) ?_
          refine s_istore (oe_t46 32 (q := (62, .istore 6, 2)) rfl) ?_
          refine s_aload_n (oe_t46 33 (q := (64, .aload_n 0, 1)) rfl) rfl ?_
          refine s_geti (oe_t46 34 (q := (65, .getfield 7330, 3)) rfl) s5 rfl (by decide) ?_
          refine s_iload (oe_t46 35 (q := (68, .iload 6, 2)) rfl) rfl ?_
          obtain ⟨r29, vc⟩ := vc
          refine s_iadd (oe_t46 36 (q := (70, .iadd, 1)) rfl) r29 ?_
          refine s_iload_n (oe_t46 37 (q := (71, .iload_n 3, 1)) rfl) rfl ?_
          refine s_ic_le (oe_t46 38 (q := (72, .if_icmp .le 77, 3)) rfl) (fun c30 => ?_) (fun c30 => ?_)
          · replace vc := vc.1 c30
            refine s_iconst (oe_t46 41 (q := (77, .iconst 0, 1)) rfl) ?_
            refine s_istore (oe_t46 42 (q := (78, .istore 7, 2)) rfl) ?_
            exact oe_V.fg (oe_M_mono _) (show oe_fg [some (.inr (.inl v0)), none, some (.inl v2), some (.inl v3), some (.inl v4), some (.inl (h q6 (v4 : Int).toNat)), some (.inl 1), some (.inl 0)] _ from ⟨rfl, ⟨rfl, ⟨rfl, ⟨rfl, ⟨rfl, ⟨rfl, ⟨rfl, trivial⟩⟩⟩⟩⟩⟩⟩) vc
          · replace vc := vc.2 c30
            refine s_iconst (oe_t46 39 (q := (75, .iconst 0, 1)) rfl) ?_
            exact s_iret (oe_t46 40 (q := (76, .ireturn, 1)) rfl) (Or.inr (Or.inl ⟨rfl, Or.inl rfl⟩)) vc
      · replace vc := vc.2 c19
        refine s_iconst (oe_t46 21 (q := (41, .iconst 0, 1)) rfl) ?_
        exact s_iret (oe_t46 22 (q := (42, .ireturn, 1)) rfl) (Or.inr (Or.inl ⟨rfl, Or.inl rfl⟩)) vc
    · replace vc := vc.2 c12
      show oe_V (oe_cost 46) 46 (oe_M (d + 1)) none Q 28 [some (.inr (.inl v0)), none, some (.inl v2), some (.inl v3), some (.inl v4), some (.inl (h q6 (v4 : Int).toNat)), none, none] [.inl 0] (sh, g, h) 0 0
      refine s_if_eq (oe_t46 15 (q := (28, .ifCond .eq 43, 3)) rfl) (fun _ => ?_) (fun q => absurd q (by decide))
      refine s_iload (oe_t46 23 (q := (43, .iload 5, 2)) rfl) rfl ?_
      refine s_calls (oe_t46 24 (q := (45, .invokestatic 35071, 3)) rfl) (by decide) (Nat.le_of_ble_eq_true rfl) (Nat.le_of_ble_eq_true rfl) (Nat.le_of_ble_eq_true rfl) (Nat.le_of_ble_eq_true rfl) (sp_35 (fun c31 => ?_) (fun c31 => ?_))
      · replace vc := vc.1 c31
        show oe_V (oe_cost 46) 46 (oe_M (d + 1)) none Q 48 [some (.inr (.inl v0)), none, some (.inl v2), some (.inl v3), some (.inl v4), some (.inl (h q6 (v4 : Int).toNat)), none, none] [.inl 1] (sh, g, h) 0 0
        refine s_if_eq (oe_t46 25 (q := (48, .ifCond .eq 61, 3)) rfl) (fun q => absurd q (by decide)) (fun _ => ?_)
        refine s_aload_n (oe_t46 26 (q := (51, .aload_n 0, 1)) rfl) rfl ?_
        obtain ⟨q32, p33, vc⟩ := vc
        refine s_getr (oe_t46 27 (q := (52, .getfield 7311, 3)) rfl) s5 rfl rfl p33 ?_
        refine s_iload (oe_t46 28 (q := (55, .iload 5, 2)) rfl) rfl ?_
        obtain ⟨n35, s34, vc⟩ := vc
        obtain ⟨i36, i37, vc⟩ := vc
        refine s_iaload (oe_t46 29 (q := (57, .iaload, 1)) rfl) s34 i36 i37 ?_
        refine s_goto (oe_t46 30 (q := (58, .goto 62, 3)) rfl) ?_
        refine s_istore (oe_t46 32 (q := (62, .istore 6, 2)) rfl) ?_
        refine s_aload_n (oe_t46 33 (q := (64, .aload_n 0, 1)) rfl) rfl ?_
        refine s_geti (oe_t46 34 (q := (65, .getfield 7330, 3)) rfl) s5 rfl (by decide) ?_
        refine s_iload (oe_t46 35 (q := (68, .iload 6, 2)) rfl) rfl ?_
        obtain ⟨r38, vc⟩ := vc
        refine s_iadd (oe_t46 36 (q := (70, .iadd, 1)) rfl) r38 ?_
        refine s_iload_n (oe_t46 37 (q := (71, .iload_n 3, 1)) rfl) rfl ?_
        refine s_ic_le (oe_t46 38 (q := (72, .if_icmp .le 77, 3)) rfl) (fun c39 => ?_) (fun c39 => ?_)
        · replace vc := vc.1 c39
          refine s_iconst (oe_t46 41 (q := (77, .iconst 0, 1)) rfl) ?_
          refine s_istore (oe_t46 42 (q := (78, .istore 7, 2)) rfl) ?_
          exact oe_V.fg (oe_M_mono _) (show oe_fg [some (.inr (.inl v0)), none, some (.inl v2), some (.inl v3), some (.inl v4), some (.inl (h q6 (v4 : Int).toNat)), some (.inl (h q32 ((h q6 (v4 : Int).toNat) : Int).toNat)), some (.inl 0)] _ from ⟨rfl, ⟨rfl, ⟨rfl, ⟨rfl, ⟨rfl, ⟨rfl, ⟨rfl, trivial⟩⟩⟩⟩⟩⟩⟩) vc
        · replace vc := vc.2 c39
          refine s_iconst (oe_t46 39 (q := (75, .iconst 0, 1)) rfl) ?_
          exact s_iret (oe_t46 40 (q := (76, .ireturn, 1)) rfl) (Or.inr (Or.inl ⟨rfl, Or.inl rfl⟩)) vc
      · replace vc := vc.2 c31
        show oe_V (oe_cost 46) 46 (oe_M (d + 1)) none Q 48 [some (.inr (.inl v0)), none, some (.inl v2), some (.inl v3), some (.inl v4), some (.inl (h q6 (v4 : Int).toNat)), none, none] [.inl 0] (sh, g, h) 0 0
        refine s_if_eq (oe_t46 25 (q := (48, .ifCond .eq 61, 3)) rfl) (fun _ => ?_) (fun q => absurd q (by decide))
        refine s_iconst (oe_t46 31 (q := (61, .iconst 1, 1)) rfl) ?_
        refine s_istore (oe_t46 32 (q := (62, .istore 6, 2)) rfl) ?_
        refine s_aload_n (oe_t46 33 (q := (64, .aload_n 0, 1)) rfl) rfl ?_
        refine s_geti (oe_t46 34 (q := (65, .getfield 7330, 3)) rfl) s5 rfl (by decide) ?_
        refine s_iload (oe_t46 35 (q := (68, .iload 6, 2)) rfl) rfl ?_
        obtain ⟨r40, vc⟩ := vc
        refine s_iadd (oe_t46 36 (q := (70, .iadd, 1)) rfl) r40 ?_
        refine s_iload_n (oe_t46 37 (q := (71, .iload_n 3, 1)) rfl) rfl ?_
        refine s_ic_le (oe_t46 38 (q := (72, .if_icmp .le 77, 3)) rfl) (fun c41 => ?_) (fun c41 => ?_)
        · replace vc := vc.1 c41
          refine s_iconst (oe_t46 41 (q := (77, .iconst 0, 1)) rfl) ?_
          refine s_istore (oe_t46 42 (q := (78, .istore 7, 2)) rfl) ?_
          exact oe_V.fg (oe_M_mono _) (show oe_fg [some (.inr (.inl v0)), none, some (.inl v2), some (.inl v3), some (.inl v4), some (.inl (h q6 (v4 : Int).toNat)), some (.inl 1), some (.inl 0)] _ from ⟨rfl, ⟨rfl, ⟨rfl, ⟨rfl, ⟨rfl, ⟨rfl, ⟨rfl, trivial⟩⟩⟩⟩⟩⟩⟩) vc
        · replace vc := vc.2 c41
          refine s_iconst (oe_t46 39 (q := (75, .iconst 0, 1)) rfl) ?_
          exact s_iret (oe_t46 40 (q := (76, .ireturn, 1)) rfl) (Or.inr (Or.inl ⟨rfl, Or.inl rfl⟩)) vc
theorem g46_80 {d : Nat} {sh : List (Nat × Nat)} {g : Nat → Nat → Option Nat} {h : Nat → Nat → Int} {Q : oeQ} {v0 : Nat} {v2 : Int} {v3 : Int} {v4 : Int} {v5 : Int} {v6 : Int} {v7 : Int}
    (vc : (v6 ≤ v7 → oe_rg (v4 + 1) ∧ oe_V (oe_cost 46) 46 (oe_M (d + 1)) none Q 8 [some (.inr (.inl v0)), none, some (.inl v2), some (.inl v3), some (.inl (v4 + 1)), none, none, none] [] (sh, g, h) 0 0) ∧ (v7 < v6 → sh[v0]? = some (12, 45) ∧ ∃ q45, g v0 32 = some q45 ∧ (v5 < 20 → ∃ q48, g v0 28 = some q48 ∧ ∃ q50, g v0 30 = some q50 ∧ ∃ n53, sh[q50]? = some (0, n53) ∧ 0 ≤ v5 ∧ v5 < (n53 : Nat) ∧ oe_rg ((h q50 (v5 : Int).toNat) + v7) ∧ ∃ n58, sh[q48]? = some (0, n58) ∧ 0 ≤ ((h q50 (v5 : Int).toNat) + v7) ∧ ((h q50 (v5 : Int).toNat) + v7) < (n58 : Nat) ∧ ∃ n62, sh[q45]? = some (0, n62) ∧ 0 ≤ (h v0 33) ∧ (h v0 33) < (n62 : Nat) ∧ ∀ h65, h65 = oe_up h q45 ((h v0 33) : Int).toNat (h q48 (((h q50 (v5 : Int).toNat) + v7) : Int).toNat) → oe_rg ((h65 v0 33) + 1) ∧ ∀ h68, h68 = oe_up h65 v0 33 ((h65 v0 33) + 1) → oe_rg (v7 + 1) ∧ oe_V (oe_cost 46) 46 (oe_M (d + 1)) none Q 80 [some (.inr (.inl v0)), none, some (.inl v2), some (.inl v3), some (.inl v4), some (.inl v5), some (.inl v6), some (.inl (v7 + 1))] [] (sh, g, h68) 0 0) ∧ (20 ≤ v5 → ∃ n72, sh[q45]? = some (0, n72) ∧ 0 ≤ (h v0 33) ∧ (h v0 33) < (n72 : Nat) ∧ ∀ h75, h75 = oe_up h q45 ((h v0 33) : Int).toNat v5 → oe_rg ((h75 v0 33) + 1) ∧ ∀ h78, h78 = oe_up h75 v0 33 ((h75 v0 33) + 1) → oe_rg (v7 + 1) ∧ oe_V (oe_cost 46) 46 (oe_M (d + 1)) none Q 80 [some (.inr (.inl v0)), none, some (.inl v2), some (.inl v3), some (.inl v4), some (.inl v5), some (.inl v6), some (.inl (v7 + 1))] [] (sh, g, h78) 0 0))) :
    oe_V (oe_cost 46) 46 (oe_M (d + 1)) none Q 80 [some (.inr (.inl v0)), none, some (.inl v2), some (.inl v3), some (.inl v4), some (.inl v5), some (.inl v6), some (.inl v7)] [] (sh, g, h) 0 0 := by
  refine s_iload (oe_t46 43 (q := (80, .iload 7, 2)) rfl) rfl ?_
  refine s_iload (oe_t46 44 (q := (82, .iload 6, 2)) rfl) rfl ?_
  refine s_ic_ge (oe_t46 45 (q := (84, .if_icmp .ge 140, 3)) rfl) (fun c42 => ?_) (fun c42 => ?_)
  · replace vc := vc.1 c42
    obtain ⟨r43, vc⟩ := vc
    refine s_iinc (oe_t46 73 (q := (140, .iinc 4 1, 3)) rfl) rfl r43 ?_
    refine s_goto (oe_t46 74 (q := (143, .goto 8, 3)) rfl) ?_
    exact oe_V.fg (oe_M_mono _) (show oe_fg [some (.inr (.inl v0)), none, some (.inl v2), some (.inl v3), some (.inl (v4 + 1)), none, none, none] _ from ⟨rfl, ⟨rfl, ⟨rfl, ⟨rfl, trivial⟩⟩⟩⟩) vc
  · replace vc := vc.2 c42
    refine s_aload_n (oe_t46 46 (q := (87, .aload_n 0, 1)) rfl) rfl ?_
    obtain ⟨s44, vc⟩ := vc
    obtain ⟨q45, p46, vc⟩ := vc
    refine s_getr (oe_t46 47 (q := (88, .getfield 7321, 3)) rfl) s44 rfl rfl p46 ?_
    refine s_aload_n (oe_t46 48 (q := (91, .aload_n 0, 1)) rfl) rfl ?_
    refine s_geti (oe_t46 49 (q := (92, .getfield 7330, 3)) rfl) s44 rfl (by decide) ?_
    refine s_iload (oe_t46 50 (q := (95, .iload 5, 2)) rfl) rfl ?_
    refine s_calls (oe_t46 51 (q := (97, .invokestatic 35071, 3)) rfl) (by decide) (Nat.le_of_ble_eq_true rfl) (Nat.le_of_ble_eq_true rfl) (Nat.le_of_ble_eq_true rfl) (Nat.le_of_ble_eq_true rfl) (sp_35 (fun c47 => ?_) (fun c47 => ?_))
    · replace vc := vc.1 c47
      show oe_V (oe_cost 46) 46 (oe_M (d + 1)) none Q 100 [some (.inr (.inl v0)), none, some (.inl v2), some (.inl v3), some (.inl v4), some (.inl v5), some (.inl v6), some (.inl v7)] [.inl 1, .inl (h v0 33), .inr (.inl q45)] (sh, g, h) 0 0
      refine s_if_eq (oe_t46 52 (q := (100, .ifCond .eq 121, 3)) rfl) (fun q => absurd q (by decide)) (fun _ => ?_)
      refine s_aload_n (oe_t46 53 (q := (103, .aload_n 0, 1)) rfl) rfl ?_
      obtain ⟨q48, p49, vc⟩ := vc
      refine s_getr (oe_t46 54 (q := (104, .getfield 7281, 3)) rfl) s44 rfl rfl p49 ?_
      refine s_aload_n (oe_t46 55 (q := (107, .aload_n 0, 1)) rfl) rfl ?_
      obtain ⟨q50, p51, vc⟩ := vc
      refine s_getr (oe_t46 56 (q := (108, .getfield 7301, 3)) rfl) s44 rfl rfl p51 ?_
      refine s_iload (oe_t46 57 (q := (111, .iload 5, 2)) rfl) rfl ?_
      obtain ⟨n53, s52, vc⟩ := vc
      obtain ⟨i54, i55, vc⟩ := vc
      refine s_iaload (oe_t46 58 (q := (113, .iaload, 1)) rfl) s52 i54 i55 ?_
      refine s_iload (oe_t46 59 (q := (114, .iload 7, 2)) rfl) rfl ?_
      obtain ⟨r56, vc⟩ := vc
      refine s_iadd (oe_t46 60 (q := (116, .iadd, 1)) rfl) r56 ?_
      obtain ⟨n58, s57, vc⟩ := vc
      obtain ⟨i59, i60, vc⟩ := vc
      refine s_iaload (oe_t46 61 (q := (117, .iaload, 1)) rfl) s57 i59 i60 ?_
      refine s_goto (oe_t46 62 (q := (118, .goto 123, 3)) rfl) ?_
      obtain ⟨n62, s61, vc⟩ := vc
      obtain ⟨i63, i64, vc⟩ := vc
      refine t_iastore (oe_t46 64 (q := (123, .iastore, 1)) rfl) s61 i63 i64 (fun h65 e66 => ?_)
      replace vc := vc h65 e66
      refine s_aload_n (oe_t46 65 (q := (124, .aload_n 0, 1)) rfl) rfl ?_
      refine s_dup (oe_t46 66 (q := (125, .dup, 1)) rfl) trivial ?_
      refine s_geti (oe_t46 67 (q := (126, .getfield 7330, 3)) rfl) s44 rfl (by decide) ?_
      refine s_iconst (oe_t46 68 (q := (129, .iconst 1, 1)) rfl) ?_
      obtain ⟨r67, vc⟩ := vc
      refine s_iadd (oe_t46 69 (q := (130, .iadd, 1)) rfl) r67 ?_
      refine t_puti (oe_t46 70 (q := (131, .putfield 7330, 3)) rfl) s44 rfl (Or.inl rfl) (fun h68 e69 => ?_)
      replace vc := vc h68 e69
      obtain ⟨r70, vc⟩ := vc
      refine s_iinc (oe_t46 71 (q := (134, .iinc 7 1, 3)) rfl) rfl r70 ?_
      refine s_goto (oe_t46 72 (q := (137, .goto 80, 3)) rfl) ?_
      exact oe_V.fg (oe_M_mono _) (show oe_fg [some (.inr (.inl v0)), none, some (.inl v2), some (.inl v3), some (.inl v4), some (.inl v5), some (.inl v6), some (.inl (v7 + 1))] _ from ⟨rfl, ⟨rfl, ⟨rfl, ⟨rfl, ⟨rfl, ⟨rfl, ⟨rfl, trivial⟩⟩⟩⟩⟩⟩⟩) vc
    · replace vc := vc.2 c47
      show oe_V (oe_cost 46) 46 (oe_M (d + 1)) none Q 100 [some (.inr (.inl v0)), none, some (.inl v2), some (.inl v3), some (.inl v4), some (.inl v5), some (.inl v6), some (.inl v7)] [.inl 0, .inl (h v0 33), .inr (.inl q45)] (sh, g, h) 0 0
      refine s_if_eq (oe_t46 52 (q := (100, .ifCond .eq 121, 3)) rfl) (fun _ => ?_) (fun q => absurd q (by decide))
      refine s_iload (oe_t46 63 (q := (121, .iload 5, 2)) rfl) rfl ?_
      obtain ⟨n72, s71, vc⟩ := vc
      obtain ⟨i73, i74, vc⟩ := vc
      refine t_iastore (oe_t46 64 (q := (123, .iastore, 1)) rfl) s71 i73 i74 (fun h75 e76 => ?_)
      replace vc := vc h75 e76
      refine s_aload_n (oe_t46 65 (q := (124, .aload_n 0, 1)) rfl) rfl ?_
      refine s_dup (oe_t46 66 (q := (125, .dup, 1)) rfl) trivial ?_
      refine s_geti (oe_t46 67 (q := (126, .getfield 7330, 3)) rfl) s44 rfl (by decide) ?_
      refine s_iconst (oe_t46 68 (q := (129, .iconst 1, 1)) rfl) ?_
      obtain ⟨r77, vc⟩ := vc
      refine s_iadd (oe_t46 69 (q := (130, .iadd, 1)) rfl) r77 ?_
      refine t_puti (oe_t46 70 (q := (131, .putfield 7330, 3)) rfl) s44 rfl (Or.inl rfl) (fun h78 e79 => ?_)
      replace vc := vc h78 e79
      obtain ⟨r80, vc⟩ := vc
      refine s_iinc (oe_t46 71 (q := (134, .iinc 7 1, 3)) rfl) rfl r80 ?_
      refine s_goto (oe_t46 72 (q := (137, .goto 80, 3)) rfl) ?_
      exact oe_V.fg (oe_M_mono _) (show oe_fg [some (.inr (.inl v0)), none, some (.inl v2), some (.inl v3), some (.inl v4), some (.inl v5), some (.inl v6), some (.inl (v7 + 1))] _ from ⟨rfl, ⟨rfl, ⟨rfl, ⟨rfl, ⟨rfl, ⟨rfl, ⟨rfl, trivial⟩⟩⟩⟩⟩⟩⟩) vc
theorem oe_u47 : oe_c47.all (fun q => decide (oe_find oe_c47 q.1 = some q.2)) = true := by decide +kernel
theorem oe_t47 (k : Nat) {q : Nat × Jvm.ClassFile.Instr × Nat} (h : oe_c47[k]? = some q) : oe_find (oe_code 47) q.1 = some q.2 := oe_ft oe_u47 h
theorem g47 {d : Nat} {sh : List (Nat × Nat)} {g : Nat → Nat → Option Nat} {h : Nat → Nat → Int} {Q : oeQ} {v0 : Nat} {v1 : Int} {v2 : Int}
    (vc : oe_rg (v2 - v1) ∧ sh[v0]? = some (12, 45) ∧ ∀ h3, h3 = oe_up h v0 22 (v2 - v1) → oe_V (oe_cost 47) 47 (oe_M (d + 1)) none Q 9 [some (.inr (.inl v0)), some (.inl v1), some (.inl v2), some (.inl v1)] [] (sh, g, h3) 0 0) :
    oe_M (d + 2) 47 [.inr (.inl v0), .inl v1, .inl v2] (sh, g, h) Q := by
  refine oe_M.of (by simp [oe_c1]) (Nat.le_of_ble_eq_true rfl) ?_
  show oe_V (oe_cost 47) 47 (oe_M (d + 1)) none Q 0 [some (.inr (.inl v0)), some (.inl v1), some (.inl v2), none] [] (sh, g, h) 0 0
  refine s_aload_n (oe_t47 0 (q := (0, .aload_n 0, 1)) rfl) rfl ?_
  refine s_iload_n (oe_t47 1 (q := (1, .iload_n 2, 1)) rfl) rfl ?_
  refine s_iload_n (oe_t47 2 (q := (2, .iload_n 1, 1)) rfl) rfl ?_
  obtain ⟨r1, vc⟩ := vc
  refine s_isub (oe_t47 3 (q := (3, .isub, 1)) rfl) r1 ?_
  obtain ⟨s2, vc⟩ := vc
  refine t_puti (oe_t47 4 (q := (4, .putfield 7220, 3)) rfl) s2 rfl (Or.inl rfl) (fun h3 e4 => ?_)
  replace vc := vc h3 e4
  refine s_iload_n (oe_t47 5 (q := (7, .iload_n 1, 1)) rfl) rfl ?_
  refine s_istore_n (oe_t47 6 (q := (8, .istore_n 3, 1)) rfl) ?_
  exact oe_V.fg (oe_M_mono _) (show oe_fg [some (.inr (.inl v0)), some (.inl v1), some (.inl v2), some (.inl v1)] _ from ⟨rfl, ⟨rfl, ⟨rfl, ⟨rfl, trivial⟩⟩⟩⟩) vc
theorem g47_9 {d : Nat} {sh : List (Nat × Nat)} {g : Nat → Nat → Option Nat} {h : Nat → Nat → Int} {Q : oeQ} {v0 : Nat} {v1 : Int} {v2 : Int} {v3 : Int}
    (vc : (v2 ≤ v3 → sh[v0]? = some (12, 45) ∧ ∀ h7, h7 = oe_up h v0 24 (h v0 33) → oe_V (oe_cost 47) 47 (oe_M (d + 1)) none Q 44 [some (.inr (.inl v0)), none, none, some (.inl 0)] [] (sh, g, h7) 0 0) ∧ (v3 < v2 → sh[v0]? = some (12, 45) ∧ ∃ q10, g v0 21 = some q10 ∧ oe_rg (v3 - v1) ∧ ∃ q13, g v0 28 = some q13 ∧ ∃ n16, sh[q13]? = some (0, n16) ∧ 0 ≤ v3 ∧ v3 < (n16 : Nat) ∧ ∃ n20, sh[q10]? = some (0, n20) ∧ 0 ≤ (v3 - v1) ∧ (v3 - v1) < (n20 : Nat) ∧ ∀ h23, h23 = oe_up h q10 ((v3 - v1) : Int).toNat (h q13 (v3 : Int).toNat) → oe_rg (v3 + 1) ∧ oe_V (oe_cost 47) 47 (oe_M (d + 1)) none Q 9 [some (.inr (.inl v0)), some (.inl v1), some (.inl v2), some (.inl (v3 + 1))] [] (sh, g, h23) 0 0)) :
    oe_V (oe_cost 47) 47 (oe_M (d + 1)) none Q 9 [some (.inr (.inl v0)), some (.inl v1), some (.inl v2), some (.inl v3)] [] (sh, g, h) 0 0 := by
  refine s_iload_n (oe_t47 7 (q := (9, .iload_n 3, 1)) rfl) rfl ?_
  refine s_iload_n (oe_t47 8 (q := (10, .iload_n 2, 1)) rfl) rfl ?_
  refine s_ic_ge (oe_t47 9 (q := (11, .if_icmp .ge 34, 3)) rfl) (fun c5 => ?_) (fun c5 => ?_)
  · replace vc := vc.1 c5
    refine s_aload_n (oe_t47 22 (q := (34, .aload_n 0, 1)) rfl) rfl ?_
    refine s_aload_n (oe_t47 23 (q := (35, .aload_n 0, 1)) rfl) rfl ?_
    obtain ⟨s6, vc⟩ := vc
    refine s_geti (oe_t47 24 (q := (36, .getfield 7330, 3)) rfl) s6 rfl (by decide) ?_
    refine t_puti (oe_t47 25 (q := (39, .putfield 7240, 3)) rfl) s6 rfl (Or.inl rfl) (fun h7 e8 => ?_)
    replace vc := vc h7 e8
    refine s_iconst (oe_t47 26 (q := (42, .iconst 0, 1)) rfl) ?_
    refine s_istore_n (oe_t47 27 (q := (43, .istore_n 3, 1)) rfl) ?_
    exact oe_V.fg (oe_M_mono _) (show oe_fg [some (.inr (.inl v0)), none, none, some (.inl 0)] _ from ⟨rfl, ⟨rfl, trivial⟩⟩) vc
  · replace vc := vc.2 c5
    refine s_aload_n (oe_t47 10 (q := (14, .aload_n 0, 1)) rfl) rfl ?_
    obtain ⟨s9, vc⟩ := vc
    obtain ⟨q10, p11, vc⟩ := vc
    refine s_getr (oe_t47 11 (q := (15, .getfield 7211, 3)) rfl) s9 rfl rfl p11 ?_
    refine s_iload_n (oe_t47 12 (q := (18, .iload_n 3, 1)) rfl) rfl ?_
    refine s_iload_n (oe_t47 13 (q := (19, .iload_n 1, 1)) rfl) rfl ?_
    obtain ⟨r12, vc⟩ := vc
    refine s_isub (oe_t47 14 (q := (20, .isub, 1)) rfl) r12 ?_
    refine s_aload_n (oe_t47 15 (q := (21, .aload_n 0, 1)) rfl) rfl ?_
    obtain ⟨q13, p14, vc⟩ := vc
    refine s_getr (oe_t47 16 (q := (22, .getfield 7281, 3)) rfl) s9 rfl rfl p14 ?_
    refine s_iload_n (oe_t47 17 (q := (25, .iload_n 3, 1)) rfl) rfl ?_
    obtain ⟨n16, s15, vc⟩ := vc
    obtain ⟨i17, i18, vc⟩ := vc
    refine s_iaload (oe_t47 18 (q := (26, .iaload, 1)) rfl) s15 i17 i18 ?_
    obtain ⟨n20, s19, vc⟩ := vc
    obtain ⟨i21, i22, vc⟩ := vc
    refine t_iastore (oe_t47 19 (q := (27, .iastore, 1)) rfl) s19 i21 i22 (fun h23 e24 => ?_)
    replace vc := vc h23 e24
    obtain ⟨r25, vc⟩ := vc
    refine s_iinc (oe_t47 20 (q := (28, .iinc 3 1, 3)) rfl) rfl r25 ?_
    refine s_goto (oe_t47 21 (q := (31, .goto 9, 3)) rfl) ?_
    exact oe_V.fg (oe_M_mono _) (show oe_fg [some (.inr (.inl v0)), some (.inl v1), some (.inl v2), some (.inl (v3 + 1))] _ from ⟨rfl, ⟨rfl, ⟨rfl, ⟨rfl, trivial⟩⟩⟩⟩) vc
theorem g47_44 {d : Nat} {sh : List (Nat × Nat)} {g : Nat → Nat → Option Nat} {h : Nat → Nat → Int} {Q : oeQ} {v0 : Nat} {v3 : Int}
    (vc : sh[v0]? = some (12, 45) ∧ ((h v0 33) ≤ v3 → oe_M (d + 1) 42 [.inr (.inl v0)] (sh, g, h) (fun r hp => ∃ (x29 : Int) (h28 : Nat → Nat → Int), r = some (.inl x29) ∧ hp = (sh, g, h28) ∧ (x29 = 0 ∨ x29 = 1) ∧ Q (some (.inl x29)) (sh, g, h28))) ∧ (v3 < (h v0 33) → ∃ q31, g v0 23 = some q31 ∧ ∃ q33, g v0 32 = some q33 ∧ ∃ n36, sh[q33]? = some (0, n36) ∧ 0 ≤ v3 ∧ v3 < (n36 : Nat) ∧ ∃ n40, sh[q31]? = some (0, n40) ∧ 0 ≤ v3 ∧ v3 < (n40 : Nat) ∧ ∀ h43, h43 = oe_up h q31 (v3 : Int).toNat (h q33 (v3 : Int).toNat) → oe_rg (v3 + 1) ∧ oe_V (oe_cost 47) 47 (oe_M (d + 1)) none Q 44 [some (.inr (.inl v0)), none, none, some (.inl (v3 + 1))] [] (sh, g, h43) 0 0)) :
    oe_V (oe_cost 47) 47 (oe_M (d + 1)) none Q 44 [some (.inr (.inl v0)), none, none, some (.inl v3)] [] (sh, g, h) 0 0 := by
  refine s_iload_n (oe_t47 28 (q := (44, .iload_n 3, 1)) rfl) rfl ?_
  refine s_aload_n (oe_t47 29 (q := (45, .aload_n 0, 1)) rfl) rfl ?_
  obtain ⟨s26, vc⟩ := vc
  refine s_geti (oe_t47 30 (q := (46, .getfield 7330, 3)) rfl) s26 rfl (by decide) ?_
  refine s_ic_ge (oe_t47 31 (q := (49, .if_icmp .ge 70, 3)) rfl) (fun c27 => ?_) (fun c27 => ?_)
  · replace vc := vc.1 c27
    refine s_aload_n (oe_t47 42 (q := (70, .aload_n 0, 1)) rfl) rfl ?_
    refine s_callv (oe_t47 43 (q := (71, .invokevirtual 42070, 3)) rfl) rfl s26 rfl (Nat.le_of_ble_eq_true rfl) (Nat.le_of_ble_eq_true rfl) (Nat.le_of_ble_eq_true rfl) (Nat.le_of_ble_eq_true rfl) ?_
    refine oe_M_mono _ _ _ _ _ _ (fun r hp vq => ?_) vc
    obtain ⟨x29, h28, rfl, rfl, vc⟩ := vq
    show oe_V (oe_cost 47) 47 (oe_M (d + 1)) none Q 74 [some (.inr (.inl v0)), none, none, some (.inl v3)] [.inl x29] (sh, g, h28) 0 0
    obtain ⟨b30, vc⟩ := vc
    exact s_iret (oe_t47 44 (q := (74, .ireturn, 1)) rfl) (Or.inr (Or.inl ⟨rfl, b30⟩)) vc
  · replace vc := vc.2 c27
    refine s_aload_n (oe_t47 32 (q := (52, .aload_n 0, 1)) rfl) rfl ?_
    obtain ⟨q31, p32, vc⟩ := vc
    refine s_getr (oe_t47 33 (q := (53, .getfield 7231, 3)) rfl) s26 rfl rfl p32 ?_
    refine s_iload_n (oe_t47 34 (q := (56, .iload_n 3, 1)) rfl) rfl ?_
    refine s_aload_n (oe_t47 35 (q := (57, .aload_n 0, 1)) rfl) rfl ?_
    obtain ⟨q33, p34, vc⟩ := vc
    refine s_getr (oe_t47 36 (q := (58, .getfield 7321, 3)) rfl) s26 rfl rfl p34 ?_
    refine s_iload_n (oe_t47 37 (q := (61, .iload_n 3, 1)) rfl) rfl ?_
    obtain ⟨n36, s35, vc⟩ := vc
    obtain ⟨i37, i38, vc⟩ := vc
    refine s_iaload (oe_t47 38 (q := (62, .iaload, 1)) rfl) s35 i37 i38 ?_
    obtain ⟨n40, s39, vc⟩ := vc
    obtain ⟨i41, i42, vc⟩ := vc
    refine t_iastore (oe_t47 39 (q := (63, .iastore, 1)) rfl) s39 i41 i42 (fun h43 e44 => ?_)
    replace vc := vc h43 e44
    obtain ⟨r45, vc⟩ := vc
    refine s_iinc (oe_t47 40 (q := (64, .iinc 3 1, 3)) rfl) rfl r45 ?_
    refine s_goto (oe_t47 41 (q := (67, .goto 44, 3)) rfl) ?_
    exact oe_V.fg (oe_M_mono _) (show oe_fg [some (.inr (.inl v0)), none, none, some (.inl (v3 + 1))] _ from ⟨rfl, ⟨rfl, trivial⟩⟩) vc
theorem oe_u48 : oe_c48.all (fun q => decide (oe_find oe_c48 q.1 = some q.2)) = true := by decide +kernel
theorem oe_t48 (k : Nat) {q : Nat × Jvm.ClassFile.Instr × Nat} (h : oe_c48[k]? = some q) : oe_find (oe_code 48) q.1 = some q.2 := oe_ft oe_u48 h
theorem g48 {d : Nat} {sh : List (Nat × Nat)} {g : Nat → Nat → Option Nat} {h : Nat → Nat → Int} {Q : oeQ} {v0 : Nat} {v1 : Int} {v2 : Int}
    (vc : sh[v0]? = some (12, 45) ∧ oe_rg ((h v0 29) - v2) ∧ oe_rg (v1 + (h v0 33)) ∧ oe_rg ((v1 + (h v0 33)) - v2) ∧ (((v1 + (h v0 33)) - v2) ≤ 0 → oe_V (oe_cost 48) 48 (oe_M (d + 1)) none Q 65 [some (.inr (.inl v0)), some (.inl v1), none, some (.inl ((h v0 29) - v2)), some (.inl ((v1 + (h v0 33)) - v2)), some (.inl v2)] [] (sh, g, h) 0 0) ∧ (0 < ((v1 + (h v0 33)) - v2) → oe_rg ((h v0 29) - 1) ∧ oe_V (oe_cost 48) 48 (oe_M (d + 1)) none Q 30 [some (.inr (.inl v0)), some (.inl v1), some (.inl v2), some (.inl ((h v0 29) - v2)), some (.inl ((v1 + (h v0 33)) - v2)), some (.inl ((h v0 29) - 1))] [] (sh, g, h) 0 0)) :
    oe_M (d + 2) 48 [.inr (.inl v0), .inl v1, .inl v2] (sh, g, h) Q := by
  refine oe_M.of (by simp [oe_c1]) (Nat.le_of_ble_eq_true rfl) ?_
  show oe_V (oe_cost 48) 48 (oe_M (d + 1)) none Q 0 [some (.inr (.inl v0)), some (.inl v1), some (.inl v2), none, none, none] [] (sh, g, h) 0 0
  refine s_aload_n (oe_t48 0 (q := (0, .aload_n 0, 1)) rfl) rfl ?_
  obtain ⟨s1, vc⟩ := vc
  refine s_geti (oe_t48 1 (q := (1, .getfield 7290, 3)) rfl) s1 rfl (by decide) ?_
  refine s_iload_n (oe_t48 2 (q := (4, .iload_n 2, 1)) rfl) rfl ?_
  obtain ⟨r2, vc⟩ := vc
  refine s_isub (oe_t48 3 (q := (5, .isub, 1)) rfl) r2 ?_
  refine s_istore_n (oe_t48 4 (q := (6, .istore_n 3, 1)) rfl) ?_
  refine s_iload_n (oe_t48 5 (q := (7, .iload_n 1, 1)) rfl) rfl ?_
  refine s_aload_n (oe_t48 6 (q := (8, .aload_n 0, 1)) rfl) rfl ?_
  refine s_geti (oe_t48 7 (q := (9, .getfield 7330, 3)) rfl) s1 rfl (by decide) ?_
  obtain ⟨r3, vc⟩ := vc
  refine s_iadd (oe_t48 8 (q := (12, .iadd, 1)) rfl) r3 ?_
  refine s_iload_n (oe_t48 9 (q := (13, .iload_n 2, 1)) rfl) rfl ?_
  obtain ⟨r4, vc⟩ := vc
  refine s_isub (oe_t48 10 (q := (14, .isub, 1)) rfl) r4 ?_
  refine s_istore (oe_t48 11 (q := (15, .istore 4, 2)) rfl) ?_
  refine s_iload (oe_t48 12 (q := (17, .iload 4, 2)) rfl) rfl ?_
  refine s_if_le (oe_t48 13 (q := (19, .ifCond .le 62, 3)) rfl) (fun c5 => ?_) (fun c5 => ?_)
  · replace vc := vc.1 c5
    refine s_iload_n (oe_t48 35 (q := (62, .iload_n 2, 1)) rfl) rfl ?_
    refine s_istore (oe_t48 36 (q := (63, .istore 5, 2)) rfl) ?_
    exact oe_V.fg (oe_M_mono _) (show oe_fg [some (.inr (.inl v0)), some (.inl v1), none, some (.inl ((h v0 29) - v2)), some (.inl ((v1 + (h v0 33)) - v2)), some (.inl v2)] _ from ⟨rfl, ⟨rfl, ⟨rfl, ⟨rfl, ⟨rfl, trivial⟩⟩⟩⟩⟩) vc
  · replace vc := vc.2 c5
    refine s_aload_n (oe_t48 14 (q := (22, .aload_n 0, 1)) rfl) rfl ?_
    refine s_geti (oe_t48 15 (q := (23, .getfield 7290, 3)) rfl) s1 rfl (by decide) ?_
    refine s_iconst (oe_t48 16 (q := (26, .iconst 1, 1)) rfl) ?_
    obtain ⟨r6, vc⟩ := vc
    refine s_isub (oe_t48 17 (q := (27, .isub, 1)) rfl) r6 ?_
    refine s_istore (oe_t48 18 (q := (28, .istore 5, 2)) rfl) ?_
    exact oe_V.fg (oe_M_mono _) (show oe_fg [some (.inr (.inl v0)), some (.inl v1), some (.inl v2), some (.inl ((h v0 29) - v2)), some (.inl ((v1 + (h v0 33)) - v2)), some (.inl ((h v0 29) - 1))] _ from ⟨rfl, ⟨rfl, ⟨rfl, ⟨rfl, ⟨rfl, ⟨rfl, trivial⟩⟩⟩⟩⟩⟩) vc
theorem g48_65 {d : Nat} {sh : List (Nat × Nat)} {g : Nat → Nat → Option Nat} {h : Nat → Nat → Int} {Q : oeQ} {v0 : Nat} {v1 : Int} {v3 : Int} {v4 : Int} {v5 : Int}
    (vc : sh[v0]? = some (12, 45) ∧ ((h v0 29) ≤ v5 → oe_V (oe_cost 48) 48 (oe_M (d + 1)) none Q 100 [some (.inr (.inl v0)), some (.inl v1), none, some (.inl v3), none, some (.inl 0)] [] (sh, g, h) 0 0) ∧ (v5 < (h v0 29) → ∃ q9, g v0 28 = some q9 ∧ oe_rg (v5 + v4) ∧ ∃ n13, sh[q9]? = some (0, n13) ∧ 0 ≤ v5 ∧ v5 < (n13 : Nat) ∧ 0 ≤ (v5 + v4) ∧ (v5 + v4) < (n13 : Nat) ∧ ∀ h18, h18 = oe_up h q9 ((v5 + v4) : Int).toNat (h q9 (v5 : Int).toNat) → oe_rg (v5 + 1) ∧ oe_V (oe_cost 48) 48 (oe_M (d + 1)) none Q 65 [some (.inr (.inl v0)), some (.inl v1), none, some (.inl v3), some (.inl v4), some (.inl (v5 + 1))] [] (sh, g, h18) 0 0)) :
    oe_V (oe_cost 48) 48 (oe_M (d + 1)) none Q 65 [some (.inr (.inl v0)), some (.inl v1), none, some (.inl v3), some (.inl v4), some (.inl v5)] [] (sh, g, h) 0 0 := by
  refine s_iload (oe_t48 37 (q := (65, .iload 5, 2)) rfl) rfl ?_
  refine s_aload_n (oe_t48 38 (q := (67, .aload_n 0, 1)) rfl) rfl ?_
  obtain ⟨s7, vc⟩ := vc
  refine s_geti (oe_t48 39 (q := (68, .getfield 7290, 3)) rfl) s7 rfl (by decide) ?_
  refine s_ic_ge (oe_t48 40 (q := (71, .if_icmp .ge 97, 3)) rfl) (fun c8 => ?_) (fun c8 => ?_)
  · replace vc := vc.1 c8
    refine s_iconst (oe_t48 53 (q := (97, .iconst 0, 1)) rfl) ?_
    refine s_istore (oe_t48 54 (q := (98, .istore 5, 2)) rfl) ?_
    exact oe_V.fg (oe_M_mono _) (show oe_fg [some (.inr (.inl v0)), some (.inl v1), none, some (.inl v3), none, some (.inl 0)] _ from ⟨rfl, ⟨rfl, ⟨rfl, ⟨rfl, trivial⟩⟩⟩⟩) vc
  · replace vc := vc.2 c8
    refine s_aload_n (oe_t48 41 (q := (74, .aload_n 0, 1)) rfl) rfl ?_
    obtain ⟨q9, p10, vc⟩ := vc
    refine s_getr (oe_t48 42 (q := (75, .getfield 7281, 3)) rfl) s7 rfl rfl p10 ?_
    refine s_iload (oe_t48 43 (q := (78, .iload 5, 2)) rfl) rfl ?_
    refine s_iload (oe_t48 44 (q := (80, .iload 4, 2)) rfl) rfl ?_
    obtain ⟨r11, vc⟩ := vc
    refine s_iadd (oe_t48 45 (q := (82, .iadd, 1)) rfl) r11 ?_
    refine s_aload_n (oe_t48 46 (q := (83, .aload_n 0, 1)) rfl) rfl ?_
    refine s_getr (oe_t48 47 (q := (84, .getfield 7281, 3)) rfl) s7 rfl rfl p10 ?_
    refine s_iload (oe_t48 48 (q := (87, .iload 5, 2)) rfl) rfl ?_
    obtain ⟨n13, s12, vc⟩ := vc
    obtain ⟨i14, i15, vc⟩ := vc
    refine s_iaload (oe_t48 49 (q := (89, .iaload, 1)) rfl) s12 i14 i15 ?_
    obtain ⟨i16, i17, vc⟩ := vc
    refine t_iastore (oe_t48 50 (q := (90, .iastore, 1)) rfl) s12 i16 i17 (fun h18 e19 => ?_)
    replace vc := vc h18 e19
    obtain ⟨r20, vc⟩ := vc
    refine s_iinc (oe_t48 51 (q := (91, .iinc 5 1, 3)) rfl) rfl r20 ?_
    refine s_goto (oe_t48 52 (q := (94, .goto 65, 3)) rfl) ?_
    exact oe_V.fg (oe_M_mono _) (show oe_fg [some (.inr (.inl v0)), some (.inl v1), none, some (.inl v3), some (.inl v4), some (.inl (v5 + 1))] _ from ⟨rfl, ⟨rfl, ⟨rfl, ⟨rfl, ⟨rfl, trivial⟩⟩⟩⟩⟩) vc
theorem g48_30 {d : Nat} {sh : List (Nat × Nat)} {g : Nat → Nat → Option Nat} {h : Nat → Nat → Int} {Q : oeQ} {v0 : Nat} {v1 : Int} {v2 : Int} {v3 : Int} {v4 : Int} {v5 : Int}
    (vc : (v5 < v2 → oe_V (oe_cost 48) 48 (oe_M (d + 1)) none Q 100 [some (.inr (.inl v0)), some (.inl v1), none, some (.inl v3), none, some (.inl 0)] [] (sh, g, h) 0 0) ∧ (v2 ≤ v5 → sh[v0]? = some (12, 45) ∧ ∃ q23, g v0 28 = some q23 ∧ oe_rg (v5 + v4) ∧ ∃ n27, sh[q23]? = some (0, n27) ∧ 0 ≤ v5 ∧ v5 < (n27 : Nat) ∧ 0 ≤ (v5 + v4) ∧ (v5 + v4) < (n27 : Nat) ∧ ∀ h32, h32 = oe_up h q23 ((v5 + v4) : Int).toNat (h q23 (v5 : Int).toNat) → oe_rg (v5 + (-1)) ∧ oe_V (oe_cost 48) 48 (oe_M (d + 1)) none Q 30 [some (.inr (.inl v0)), some (.inl v1), some (.inl v2), some (.inl v3), some (.inl v4), some (.inl (v5 + (-1)))] [] (sh, g, h32) 0 0)) :
    oe_V (oe_cost 48) 48 (oe_M (d + 1)) none Q 30 [some (.inr (.inl v0)), some (.inl v1), some (.inl v2), some (.inl v3), some (.inl v4), some (.inl v5)] [] (sh, g, h) 0 0 := by
  refine s_iload (oe_t48 19 (q := (30, .iload 5, 2)) rfl) rfl ?_
  refine s_iload_n (oe_t48 20 (q := (32, .iload_n 2, 1)) rfl) rfl ?_
  refine s_ic_lt (oe_t48 21 (q := (33, .if_icmp .lt 59, 3)) rfl) (fun c21 => ?_) (fun c21 => ?_)
  · replace vc := vc.1 c21
    refine s_goto (oe_t48 34 (q := (59, .goto 97, 3)) rfl) ?_
    refine s_iconst (oe_t48 53 (q := (97, .iconst 0, 1)) rfl) ?_
    refine s_istore (oe_t48 54 (q := (98, .istore 5, 2)) rfl) ?_
    exact oe_V.fg (oe_M_mono _) (show oe_fg [some (.inr (.inl v0)), some (.inl v1), none, some (.inl v3), none, some (.inl 0)] _ from ⟨rfl, ⟨rfl, ⟨rfl, ⟨rfl, trivial⟩⟩⟩⟩) vc
  · replace vc := vc.2 c21
    refine s_aload_n (oe_t48 22 (q := (36, .aload_n 0, 1)) rfl) rfl ?_
    obtain ⟨s22, vc⟩ := vc
    obtain ⟨q23, p24, vc⟩ := vc
    refine s_getr (oe_t48 23 (q := (37, .getfield 7281, 3)) rfl) s22 rfl rfl p24 ?_
    refine s_iload (oe_t48 24 (q := (40, .iload 5, 2)) rfl) rfl ?_
    refine s_iload (oe_t48 25 (q := (42, .iload 4, 2)) rfl) rfl ?_
    obtain ⟨r25, vc⟩ := vc
    refine s_iadd (oe_t48 26 (q := (44, .iadd, 1)) rfl) r25 ?_
    refine s_aload_n (oe_t48 27 (q := (45, .aload_n 0, 1)) rfl) rfl ?_
    refine s_getr (oe_t48 28 (q := (46, .getfield 7281, 3)) rfl) s22 rfl rfl p24 ?_
    refine s_iload (oe_t48 29 (q := (49, .iload 5, 2)) rfl) rfl ?_
    obtain ⟨n27, s26, vc⟩ := vc
    obtain ⟨i28, i29, vc⟩ := vc
    refine s_iaload (oe_t48 30 (q := (51, .iaload, 1)) rfl) s26 i28 i29 ?_
    obtain ⟨i30, i31, vc⟩ := vc
    refine t_iastore (oe_t48 31 (q := (52, .iastore, 1)) rfl) s26 i30 i31 (fun h32 e33 => ?_)
    replace vc := vc h32 e33
    obtain ⟨r34, vc⟩ := vc
    refine s_iinc (oe_t48 32 (q := (53, .iinc 5 (-1), 3)) rfl) rfl r34 ?_
    refine s_goto (oe_t48 33 (q := (56, .goto 30, 3)) rfl) ?_
    exact oe_V.fg (oe_M_mono _) (show oe_fg [some (.inr (.inl v0)), some (.inl v1), some (.inl v2), some (.inl v3), some (.inl v4), some (.inl (v5 + (-1)))] _ from ⟨rfl, ⟨rfl, ⟨rfl, ⟨rfl, ⟨rfl, ⟨rfl, trivial⟩⟩⟩⟩⟩⟩) vc
theorem g48_100 {d : Nat} {sh : List (Nat × Nat)} {g : Nat → Nat → Option Nat} {h : Nat → Nat → Int} {Q : oeQ} {v0 : Nat} {v1 : Int} {v3 : Int} {v5 : Int}
    (vc : sh[v0]? = some (12, 45) ∧ ((h v0 33) ≤ v5 → oe_rg (v1 + (h v0 33)) ∧ oe_rg ((v1 + (h v0 33)) + v3) ∧ ∀ h39, h39 = oe_up h v0 29 ((v1 + (h v0 33)) + v3) → Q none (sh, g, h39)) ∧ (v5 < (h v0 33) → ∃ q41, g v0 28 = some q41 ∧ oe_rg (v1 + v5) ∧ ∃ q44, g v0 32 = some q44 ∧ ∃ n47, sh[q44]? = some (0, n47) ∧ 0 ≤ v5 ∧ v5 < (n47 : Nat) ∧ ∃ n51, sh[q41]? = some (0, n51) ∧ 0 ≤ (v1 + v5) ∧ (v1 + v5) < (n51 : Nat) ∧ ∀ h54, h54 = oe_up h q41 ((v1 + v5) : Int).toNat (h q44 (v5 : Int).toNat) → oe_rg (v5 + 1) ∧ oe_V (oe_cost 48) 48 (oe_M (d + 1)) none Q 100 [some (.inr (.inl v0)), some (.inl v1), none, some (.inl v3), none, some (.inl (v5 + 1))] [] (sh, g, h54) 0 0)) :
    oe_V (oe_cost 48) 48 (oe_M (d + 1)) none Q 100 [some (.inr (.inl v0)), some (.inl v1), none, some (.inl v3), none, some (.inl v5)] [] (sh, g, h) 0 0 := by
  refine s_iload (oe_t48 55 (q := (100, .iload 5, 2)) rfl) rfl ?_
  refine s_aload_n (oe_t48 56 (q := (102, .aload_n 0, 1)) rfl) rfl ?_
  obtain ⟨s35, vc⟩ := vc
  refine s_geti (oe_t48 57 (q := (103, .getfield 7330, 3)) rfl) s35 rfl (by decide) ?_
  refine s_ic_ge (oe_t48 58 (q := (106, .if_icmp .ge 131, 3)) rfl) (fun c36 => ?_) (fun c36 => ?_)
  · replace vc := vc.1 c36
    refine s_aload_n (oe_t48 71 (q := (131, .aload_n 0, 1)) rfl) rfl ?_
    refine s_iload_n (oe_t48 72 (q := (132, .iload_n 1, 1)) rfl) rfl ?_
    refine s_aload_n (oe_t48 73 (q := (133, .aload_n 0, 1)) rfl) rfl ?_
    refine s_geti (oe_t48 74 (q := (134, .getfield 7330, 3)) rfl) s35 rfl (by decide) ?_
    obtain ⟨r37, vc⟩ := vc
    refine s_iadd (oe_t48 75 (q := (137, .iadd, 1)) rfl) r37 ?_
    refine s_iload_n (oe_t48 76 (q := (138, .iload_n 3, 1)) rfl) rfl ?_
    obtain ⟨r38, vc⟩ := vc
    refine s_iadd (oe_t48 77 (q := (139, .iadd, 1)) rfl) r38 ?_
    refine t_puti (oe_t48 78 (q := (140, .putfield 7290, 3)) rfl) s35 rfl (Or.inl rfl) (fun h39 e40 => ?_)
    replace vc := vc h39 e40
    exact s_ret (oe_t48 79 (q := (143, .return_, 1)) rfl) rfl vc
  · replace vc := vc.2 c36
    refine s_aload_n (oe_t48 59 (q := (109, .aload_n 0, 1)) rfl) rfl ?_
    obtain ⟨q41, p42, vc⟩ := vc
    refine s_getr (oe_t48 60 (q := (110, .getfield 7281, 3)) rfl) s35 rfl rfl p42 ?_
    refine s_iload_n (oe_t48 61 (q := (113, .iload_n 1, 1)) rfl) rfl ?_
    refine s_iload (oe_t48 62 (q := (114, .iload 5, 2)) rfl) rfl ?_
    obtain ⟨r43, vc⟩ := vc
    refine s_iadd (oe_t48 63 (q := (116, .iadd, 1)) rfl) r43 ?_
    refine s_aload_n (oe_t48 64 (q := (117, .aload_n 0, 1)) rfl) rfl ?_
    obtain ⟨q44, p45, vc⟩ := vc
    refine s_getr (oe_t48 65 (q := (118, .getfield 7321, 3)) rfl) s35 rfl rfl p45 ?_
    refine s_iload (oe_t48 66 (q := (121, .iload 5, 2)) rfl) rfl ?_
    obtain ⟨n47, s46, vc⟩ := vc
    obtain ⟨i48, i49, vc⟩ := vc
    refine s_iaload (oe_t48 67 (q := (123, .iaload, 1)) rfl) s46 i48 i49 ?_
    obtain ⟨n51, s50, vc⟩ := vc
    obtain ⟨i52, i53, vc⟩ := vc
    refine t_iastore (oe_t48 68 (q := (124, .iastore, 1)) rfl) s50 i52 i53 (fun h54 e55 => ?_)
    replace vc := vc h54 e55
    obtain ⟨r56, vc⟩ := vc
    refine s_iinc (oe_t48 69 (q := (125, .iinc 5 1, 3)) rfl) rfl r56 ?_
    refine s_goto (oe_t48 70 (q := (128, .goto 100, 3)) rfl) ?_
    exact oe_V.fg (oe_M_mono _) (show oe_fg [some (.inr (.inl v0)), some (.inl v1), none, some (.inl v3), none, some (.inl (v5 + 1))] _ from ⟨rfl, ⟨rfl, ⟨rfl, ⟨rfl, trivial⟩⟩⟩⟩) vc
theorem oe_u49 : oe_c49.all (fun q => decide (oe_find oe_c49 q.1 = some q.2)) = true := by decide +kernel
theorem oe_t49 (k : Nat) {q : Nat × Jvm.ClassFile.Instr × Nat} (h : oe_c49[k]? = some q) : oe_find (oe_code 49) q.1 = some q.2 := oe_ft oe_u49 h
theorem g49 {d : Nat} {sh : List (Nat × Nat)} {g : Nat → Nat → Option Nat} {h : Nat → Nat → Int} {Q : oeQ} {v0 : Nat}
    (vc : oe_V (oe_cost 49) 49 (oe_M (d + 1)) none Q 2 [some (.inr (.inl v0)), some (.inl 0), none, none, none, none, none, none, none, none] [] (sh, g, h) 0 0) :
    oe_M (d + 2) 49 [.inr (.inl v0)] (sh, g, h) Q := by
  refine oe_M.of (by simp [oe_c1]) (Nat.le_of_ble_eq_true rfl) ?_
  show oe_V (oe_cost 49) 49 (oe_M (d + 1)) none Q 0 [some (.inr (.inl v0)), none, none, none, none, none, none, none, none, none] [] (sh, g, h) 0 0
  refine s_iconst (oe_t49 0 (q := (0, .iconst 0, 1)) rfl) ?_
  refine s_istore_n (oe_t49 1 (q := (1, .istore_n 1, 1)) rfl) ?_
  exact oe_V.fg (oe_M_mono _) (show oe_fg [some (.inr (.inl v0)), some (.inl 0), none, none, none, none, none, none, none, none] _ from ⟨rfl, ⟨rfl, trivial⟩⟩) vc
theorem g49_2 {d : Nat} {sh : List (Nat × Nat)} {g : Nat → Nat → Option Nat} {h : Nat → Nat → Int} {Q : oeQ} {v0 : Nat} {v1 : Int}
    (vc : sh[v0]? = some (12, 45) ∧ ((h v0 29) ≤ v1 → Q (some (.inl 0)) (sh, g, h)) ∧ (v1 < (h v0 29) → oe_M (d + 1) 43 [.inr (.inl v0), .inl v1] (sh, g, h) (fun r hp => ∃ (x3 : Int), r = some (.inl x3) ∧ hp = (sh, g, h) ∧ oe_V (oe_cost 49) 49 (oe_M (d + 1)) none Q 18 [some (.inr (.inl v0)), some (.inl v1), some (.inl x3), some (.inl 0), none, none, none, none, none, none] [] (sh, g, h) 0 0))) :
    oe_V (oe_cost 49) 49 (oe_M (d + 1)) none Q 2 [some (.inr (.inl v0)), some (.inl v1), none, none, none, none, none, none, none, none] [] (sh, g, h) 0 0 := by
  refine s_iload_n (oe_t49 2 (q := (2, .iload_n 1, 1)) rfl) rfl ?_
  refine s_aload_n (oe_t49 3 (q := (3, .aload_n 0, 1)) rfl) rfl ?_
  obtain ⟨s1, vc⟩ := vc
  refine s_geti (oe_t49 4 (q := (4, .getfield 7290, 3)) rfl) s1 rfl (by decide) ?_
  refine s_ic_ge (oe_t49 5 (q := (7, .if_icmp .ge 192, 3)) rfl) (fun c2 => ?_) (fun c2 => ?_)
  · replace vc := vc.1 c2
    refine s_iconst (oe_t49 104 (q := (192, .iconst 0, 1)) rfl) ?_
    exact s_iret (oe_t49 105 (q := (193, .ireturn, 1)) rfl) (Or.inr (Or.inl ⟨rfl, Or.inl rfl⟩)) vc
  · replace vc := vc.2 c2
    refine s_aload_n (oe_t49 6 (q := (10, .aload_n 0, 1)) rfl) rfl ?_
    refine s_iload_n (oe_t49 7 (q := (11, .iload_n 1, 1)) rfl) rfl ?_
    refine s_callv (oe_t49 8 (q := (12, .invokevirtual 43071, 3)) rfl) rfl s1 rfl (Nat.le_of_ble_eq_true rfl) (Nat.le_of_ble_eq_true rfl) (Nat.le_of_ble_eq_true rfl) (Nat.le_of_ble_eq_true rfl) ?_
    refine oe_M_mono _ _ _ _ _ _ (fun r hp vq => ?_) vc
    obtain ⟨x3, rfl, rfl, vc⟩ := vq
    show oe_V (oe_cost 49) 49 (oe_M (d + 1)) none Q 15 [some (.inr (.inl v0)), some (.inl v1), none, none, none, none, none, none, none, none] [.inl x3] (sh, g, h) 0 0
    refine s_istore_n (oe_t49 9 (q := (15, .istore_n 2, 1)) rfl) ?_
    refine s_iconst (oe_t49 10 (q := (16, .iconst 0, 1)) rfl) ?_
    refine s_istore_n (oe_t49 11 (q := (17, .istore_n 3, 1)) rfl) ?_
    exact oe_V.fg (oe_M_mono _) (show oe_fg [some (.inr (.inl v0)), some (.inl v1), some (.inl x3), some (.inl 0), none, none, none, none, none, none] _ from ⟨rfl, ⟨rfl, ⟨rfl, ⟨rfl, trivial⟩⟩⟩⟩) vc
theorem g49_18 {d : Nat} {sh : List (Nat × Nat)} {g : Nat → Nat → Option Nat} {h : Nat → Nat → Int} {Q : oeQ} {v0 : Nat} {v1 : Int} {v2 : Int} {v3 : Int}
    (vc : sh[v0]? = some (12, 45) ∧ oe_rg (2 * (h v0 12)) ∧ ((2 * (h v0 12)) ≤ v3 → oe_rg (v1 + 1) ∧ oe_V (oe_cost 49) 49 (oe_M (d + 1)) none Q 2 [some (.inr (.inl v0)), some (.inl (v1 + 1)), none, none, none, none, none, none, none, none] [] (sh, g, h) 0 0) ∧ (v3 < (2 * (h v0 12)) → 0 ≤ v3 ∧ 0 ≤ v3 ∧ ((v3 % 2) ≠ 0 → oe_V (oe_cost 49) 49 (oe_M (d + 1)) none Q 44 [some (.inr (.inl v0)), some (.inl v1), some (.inl v2), some (.inl v3), some (.inl (v3 / 2)), none, none, none, none, none] [.inl 0] (sh, g, h) 0 0) ∧ ((v3 % 2) = 0 → oe_V (oe_cost 49) 49 (oe_M (d + 1)) none Q 44 [some (.inr (.inl v0)), some (.inl v1), some (.inl v2), some (.inl v3), some (.inl (v3 / 2)), none, none, none, none, none] [.inl 1] (sh, g, h) 0 0))) :
    oe_V (oe_cost 49) 49 (oe_M (d + 1)) none Q 18 [some (.inr (.inl v0)), some (.inl v1), some (.inl v2), some (.inl v3), none, none, none, none, none, none] [] (sh, g, h) 0 0 := by
  refine s_iload_n (oe_t49 12 (q := (18, .iload_n 3, 1)) rfl) rfl ?_
  refine s_iconst (oe_t49 13 (q := (19, .iconst 2, 1)) rfl) ?_
  refine s_aload_n (oe_t49 14 (q := (20, .aload_n 0, 1)) rfl) rfl ?_
  obtain ⟨s4, vc⟩ := vc
  refine s_geti (oe_t49 15 (q := (21, .getfield 7120, 3)) rfl) s4 rfl (by decide) ?_
  obtain ⟨r5, vc⟩ := vc
  refine s_imul (oe_t49 16 (q := (24, .imul, 1)) rfl) r5 ?_
  refine s_ic_ge (oe_t49 17 (q := (25, .if_icmp .ge 186, 3)) rfl) (fun c6 => ?_) (fun c6 => ?_)
  · replace vc := vc.1 c6
    obtain ⟨r7, vc⟩ := vc
    refine s_iinc (oe_t49 102 (q := (186, .iinc 1 1, 3)) rfl) rfl r7 ?_
    refine s_goto (oe_t49 103 (q := (189, .goto 2, 3)) rfl) ?_
    exact oe_V.fg (oe_M_mono _) (show oe_fg [some (.inr (.inl v0)), some (.inl (v1 + 1)), none, none, none, none, none, none, none, none] _ from ⟨rfl, ⟨rfl, trivial⟩⟩) vc
  · replace vc := vc.2 c6
    refine s_iload_n (oe_t49 18 (q := (28, .iload_n 3, 1)) rfl) rfl ?_
    refine s_iconst (oe_t49 19 (q := (29, .iconst 2, 1)) rfl) ?_
    obtain ⟨r8, vc⟩ := vc
    refine s_idiv (oe_t49 20 (q := (30, .idiv, 1)) rfl) r8 (by decide) ?_
    refine s_istore (oe_t49 21 (q := (31, .istore 4, 2)) rfl) ?_
    refine s_iload_n (oe_t49 22 (q := (33, .iload_n 3, 1)) rfl) rfl ?_
    refine s_iconst (oe_t49 23 (q := (34, .iconst 2, 1)) rfl) ?_
    obtain ⟨r9, vc⟩ := vc
    refine s_irem (oe_t49 24 (q := (35, .irem, 1)) rfl) r9 (by decide) ?_
    refine s_if_ne (oe_t49 25 (q := (36, .ifCond .ne 43, 3)) rfl) (fun c10 => ?_) (fun c10 => ?_)
    · replace vc := vc.1 c10
      refine s_iconst (oe_t49 28 (q := (43, .iconst 0, 1)) rfl) ?_
      exact oe_V.fg (oe_M_mono _) (show oe_fg [some (.inr (.inl v0)), some (.inl v1), some (.inl v2), some (.inl v3), some (.inl (v3 / 2)), none, none, none, none, none] _ from ⟨rfl, ⟨rfl, ⟨rfl, ⟨rfl, ⟨rfl, trivial⟩⟩⟩⟩⟩) vc
    · replace vc := vc.2 c10
      refine s_iconst (oe_t49 26 (q := (39, .iconst 1, 1)) rfl) ?_
      refine s_goto (oe_t49 27 (q := (40, .goto 44, 3)) rfl) ?_
      exact oe_V.fg (oe_M_mono _) (show oe_fg [some (.inr (.inl v0)), some (.inl v1), some (.inl v2), some (.inl v3), some (.inl (v3 / 2)), none, none, none, none, none] _ from ⟨rfl, ⟨rfl, ⟨rfl, ⟨rfl, ⟨rfl, trivial⟩⟩⟩⟩⟩) vc
theorem g49_44 {d : Nat} {sh : List (Nat × Nat)} {g : Nat → Nat → Option Nat} {h : Nat → Nat → Int} {Q : oeQ} {v0 : Nat} {v1 : Int} {v2 : Int} {v3 : Int} {v4 : Int} {w0 : Int}
    (vc : oe_rg (20 * v4) ∧ sh[v0]? = some (12, 45) ∧ ∃ q13, g v0 14 = some q13 ∧ ∃ n16, sh[q13]? = some (0, n16) ∧ 0 ≤ v4 ∧ v4 < (n16 : Nat) ∧ oe_rg ((20 * v4) + (h q13 (v4 : Int).toNat)) ∧ ∃ q20, g v0 15 = some q20 ∧ ∃ n23, sh[q20]? = some (0, n23) ∧ 0 ≤ v4 ∧ v4 < (n23 : Nat) ∧ oe_rg ((20 * v4) + (h q20 (v4 : Int).toNat)) ∧ (w0 = 0 → (w0 = 0 → oe_V (oe_cost 49) 49 (oe_M (d + 1)) none Q 102 [some (.inr (.inl v0)), some (.inl v1), some (.inl v2), some (.inl v3), none, some (.inl w0), some (.inl (20 * v4)), some (.inl ((20 * v4) + (h q13 (v4 : Int).toNat))), some (.inl ((20 * v4) + (h q20 (v4 : Int).toNat))), none] [.inl ((20 * v4) + (h q20 (v4 : Int).toNat)), .inl ((20 * v4) + (h q13 (v4 : Int).toNat)), .inr (.inl v0)] (sh, g, h) 0 0) ∧ (w0 ≠ 0 → oe_V (oe_cost 49) 49 (oe_M (d + 1)) none Q 102 [some (.inr (.inl v0)), some (.inl v1), some (.inl v2), some (.inl v3), none, some (.inl w0), some (.inl (20 * v4)), some (.inl ((20 * v4) + (h q13 (v4 : Int).toNat))), some (.inl ((20 * v4) + (h q20 (v4 : Int).toNat))), none] [.inl ((20 * v4) + (h q13 (v4 : Int).toNat)), .inl ((20 * v4) + (h q13 (v4 : Int).toNat)), .inr (.inl v0)] (sh, g, h) 0 0)) ∧ (w0 ≠ 0 → (w0 = 0 → oe_V (oe_cost 49) 49 (oe_M (d + 1)) none Q 102 [some (.inr (.inl v0)), some (.inl v1), some (.inl v2), some (.inl v3), none, some (.inl w0), some (.inl (20 * v4)), some (.inl ((20 * v4) + (h q13 (v4 : Int).toNat))), some (.inl ((20 * v4) + (h q20 (v4 : Int).toNat))), none] [.inl ((20 * v4) + (h q20 (v4 : Int).toNat)), .inl (20 * v4), .inr (.inl v0)] (sh, g, h) 0 0) ∧ (w0 ≠ 0 → oe_V (oe_cost 49) 49 (oe_M (d + 1)) none Q 102 [some (.inr (.inl v0)), some (.inl v1), some (.inl v2), some (.inl v3), none, some (.inl w0), some (.inl (20 * v4)), some (.inl ((20 * v4) + (h q13 (v4 : Int).toNat))), some (.inl ((20 * v4) + (h q20 (v4 : Int).toNat))), none] [.inl ((20 * v4) + (h q13 (v4 : Int).toNat)), .inl (20 * v4), .inr (.inl v0)] (sh, g, h) 0 0))) :
    oe_V (oe_cost 49) 49 (oe_M (d + 1)) none Q 44 [some (.inr (.inl v0)), some (.inl v1), some (.inl v2), some (.inl v3), some (.inl v4), none, none, none, none, none] [.inl w0] (sh, g, h) 0 0 := by
  refine s_istore (oe_t49 29 (q := (44, .istore 5, 2)) rfl) ?_
  refine s_bipush (oe_t49 30 (q := (46, .bipush 20, 2)) rfl) ?_
  refine s_iload (oe_t49 31 (q := (48, .iload 4, 2)) rfl) rfl ?_
  obtain ⟨r11, vc⟩ := vc
  refine s_imul (oe_t49 32 (q := (50, .imul, 1)) rfl) r11 ?_
  refine s_istore (oe_t49 33 (q := (51, .istore 6, 2)) rfl) ?_
  refine s_iload (oe_t49 34 (q := (53, .iload 6, 2)) rfl) rfl ?_
  refine s_aload_n (oe_t49 35 (q := (55, .aload_n 0, 1)) rfl) rfl ?_
  obtain ⟨s12, vc⟩ := vc
  obtain ⟨q13, p14, vc⟩ := vc
  refine s_getr (oe_t49 36 (q := (56, .getfield 7141, 3)) rfl) s12 rfl rfl p14 ?_
  refine s_iload (oe_t49 37 (q := (59, .iload 4, 2)) rfl) rfl ?_
  obtain ⟨n16, s15, vc⟩ := vc
  obtain ⟨i17, i18, vc⟩ := vc
  refine s_iaload (oe_t49 38 (q := (61, .iaload, 1)) rfl) s15 i17 i18 ?_
  obtain ⟨r19, vc⟩ := vc
  refine s_iadd (oe_t49 39 (q := (62, .iadd, 1)) rfl) r19 ?_
  refine s_istore (oe_t49 40 (q := (63, .istore 7, 2)) rfl) ?_
  refine s_iload (oe_t49 41 (q := (65, .iload 6, 2)) rfl) rfl ?_
  refine s_aload_n (oe_t49 42 (q := (67, .aload_n 0, 1)) rfl) rfl ?_
  obtain ⟨q20, p21, vc⟩ := vc
  refine s_getr (oe_t49 43 (q := (68, .getfield 7151, 3)) rfl) s12 rfl rfl p21 ?_
  refine s_iload (oe_t49 44 (q := (71, .iload 4, 2)) rfl) rfl ?_
  obtain ⟨n23, s22, vc⟩ := vc
  obtain ⟨i24, i25, vc⟩ := vc
  refine s_iaload (oe_t49 45 (q := (73, .iaload, 1)) rfl) s22 i24 i25 ?_
  obtain ⟨r26, vc⟩ := vc
  refine s_iadd (oe_t49 46 (q := (74, .iadd, 1)) rfl) r26 ?_
  refine s_istore (oe_t49 47 (q := (75, .istore 8, 2)) rfl) ?_
  refine s_aload_n (oe_t49 48 (q := (77, .aload_n 0, 1)) rfl) rfl ?_
  refine s_iload (oe_t49 49 (q := (78, .iload 5, 2)) rfl) rfl ?_
  refine s_if_eq (oe_t49 50 (q := (80, .ifCond .eq 88, 3)) rfl) (fun c27 => ?_) (fun c27 => ?_)
  · replace vc := vc.1 c27
    refine s_iload (oe_t49 53 (q := (88, .iload 7, 2)) rfl) rfl ?_
    refine s_iload (oe_t49 54 (q := (90, .iload 5, 2)) rfl) rfl ?_
    refine s_if_eq (oe_t49 55 (q := (92, .ifCond .eq 100, 3)) rfl) (fun c28 => ?_) (fun c28 => ?_)
    · replace vc := vc.1 c28
      refine s_iload (oe_t49 58 (q := (100, .iload 8, 2)) rfl) rfl ?_
      exact oe_V.fg (oe_M_mono _) (show oe_fg [some (.inr (.inl v0)), some (.inl v1), some (.inl v2), some (.inl v3), none, some (.inl w0), some (.inl (20 * v4)), some (.inl ((20 * v4) + (h q13 (v4 : Int).toNat))), some (.inl ((20 * v4) + (h q20 (v4 : Int).toNat))), none] _ from ⟨rfl, ⟨rfl, ⟨rfl, ⟨rfl, ⟨rfl, ⟨rfl, ⟨rfl, ⟨rfl, trivial⟩⟩⟩⟩⟩⟩⟩⟩) vc
    · replace vc := vc.2 c28
      refine s_iload (oe_t49 56 (q := (95, .iload 7, 2)) rfl) rfl ?_
      refine s_goto (oe_t49 57 (q := (97, .goto 102, 3)) rfl) ?_
      exact oe_V.fg (oe_M_mono _) (show oe_fg [some (.inr (.inl v0)), some (.inl v1), some (.inl v2), some (.inl v3), none, some (.inl w0), some (.inl (20 * v4)), some (.inl ((20 * v4) + (h q13 (v4 : Int).toNat))), some (.inl ((20 * v4) + (h q20 (v4 : Int).toNat))), none] _ from ⟨rfl, ⟨rfl, ⟨rfl, ⟨rfl, ⟨rfl, ⟨rfl, ⟨rfl, ⟨rfl, trivial⟩⟩⟩⟩⟩⟩⟩⟩) vc
  · replace vc := vc.2 c27
    refine s_iload (oe_t49 51 (q := (83, .iload 6, 2)) rfl) rfl ?_
    refine s_goto (oe_t49 52 (q := (85, .goto 90, 3)) rfl) ?_
    refine s_iload (oe_t49 54 (q := (90, .iload 5, 2)) rfl) rfl ?_
    refine s_if_eq (oe_t49 55 (q := (92, .ifCond .eq 100, 3)) rfl) (fun c29 => ?_) (fun c29 => ?_)
    · replace vc := vc.1 c29
      refine s_iload (oe_t49 58 (q := (100, .iload 8, 2)) rfl) rfl ?_
      exact oe_V.fg (oe_M_mono _) (show oe_fg [some (.inr (.inl v0)), some (.inl v1), some (.inl v2), some (.inl v3), none, some (.inl w0), some (.inl (20 * v4)), some (.inl ((20 * v4) + (h q13 (v4 : Int).toNat))), some (.inl ((20 * v4) + (h q20 (v4 : Int).toNat))), none] _ from ⟨rfl, ⟨rfl, ⟨rfl, ⟨rfl, ⟨rfl, ⟨rfl, ⟨rfl, ⟨rfl, trivial⟩⟩⟩⟩⟩⟩⟩⟩) vc
    · replace vc := vc.2 c29
      refine s_iload (oe_t49 56 (q := (95, .iload 7, 2)) rfl) rfl ?_
      refine s_goto (oe_t49 57 (q := (97, .goto 102, 3)) rfl) ?_
      exact oe_V.fg (oe_M_mono _) (show oe_fg [some (.inr (.inl v0)), some (.inl v1), some (.inl v2), some (.inl v3), none, some (.inl w0), some (.inl (20 * v4)), some (.inl ((20 * v4) + (h q13 (v4 : Int).toNat))), some (.inl ((20 * v4) + (h q20 (v4 : Int).toNat))), none] _ from ⟨rfl, ⟨rfl, ⟨rfl, ⟨rfl, ⟨rfl, ⟨rfl, ⟨rfl, ⟨rfl, trivial⟩⟩⟩⟩⟩⟩⟩⟩) vc
theorem g49_102 {d : Nat} {sh : List (Nat × Nat)} {g : Nat → Nat → Option Nat} {h : Nat → Nat → Int} {Q : oeQ} {v0 : Nat} {v1 : Int} {v2 : Int} {v3 : Int} {v5 : Int} {v6 : Int} {v7 : Int} {v8 : Int} {w0 : Int} {w1 : Int} {w2 : Nat}
    (vc : sh[w2]? = some (12, 45) ∧ oe_M (d + 1) 44 [.inr (.inl w2), .inl w1, .inl w0, .inl v1] (sh, g, h) (fun r hp => ∃ (x31 : Int) (h30 : Nat → Nat → Int), r = some (.inl x31) ∧ hp = (sh, g, h30) ∧ (x31 = 0 → oe_rg (v3 + 1) ∧ oe_V (oe_cost 49) 49 (oe_M (d + 1)) none Q 18 [some (.inr (.inl v0)), some (.inl v1), some (.inl v2), some (.inl (v3 + 1)), none, none, none, none, none, none] [] (sh, g, h30) 0 0) ∧ (x31 ≠ 0 → (v5 = 0 → (v5 = 0 → oe_V (oe_cost 49) 49 (oe_M (d + 1)) none Q 134 [some (.inr (.inl v0)), some (.inl v1), some (.inl v2), some (.inl v3), none, none, none, none, none, none] [.inl v7, .inl v6, .inr (.inl v0)] (sh, g, h30) 0 0) ∧ (v5 ≠ 0 → oe_V (oe_cost 49) 49 (oe_M (d + 1)) none Q 134 [some (.inr (.inl v0)), some (.inl v1), some (.inl v2), some (.inl v3), none, none, none, none, none, none] [.inl v8, .inl v6, .inr (.inl v0)] (sh, g, h30) 0 0)) ∧ (v5 ≠ 0 → (v5 = 0 → oe_V (oe_cost 49) 49 (oe_M (d + 1)) none Q 134 [some (.inr (.inl v0)), some (.inl v1), some (.inl v2), some (.inl v3), none, none, none, none, none, none] [.inl v7, .inl v7, .inr (.inl v0)] (sh, g, h30) 0 0) ∧ (v5 ≠ 0 → oe_V (oe_cost 49) 49 (oe_M (d + 1)) none Q 134 [some (.inr (.inl v0)), some (.inl v1), some (.inl v2), some (.inl v3), none, none, none, none, none, none] [.inl v8, .inl v7, .inr (.inl v0)] (sh, g, h30) 0 0))))) :
    oe_V (oe_cost 49) 49 (oe_M (d + 1)) none Q 102 [some (.inr (.inl v0)), some (.inl v1), some (.inl v2), some (.inl v3), none, some (.inl v5), some (.inl v6), some (.inl v7), some (.inl v8), none] [.inl w0, .inl w1, .inr (.inl w2)] (sh, g, h) 0 0 := by
  refine s_iload_n (oe_t49 59 (q := (102, .iload_n 1, 1)) rfl) rfl ?_
  obtain ⟨s32, vc⟩ := vc
  refine s_callv (oe_t49 60 (q := (103, .invokevirtual 44073, 3)) rfl) rfl s32 rfl (Nat.le_of_ble_eq_true rfl) (Nat.le_of_ble_eq_true rfl) (Nat.le_of_ble_eq_true rfl) (Nat.le_of_ble_eq_true rfl) ?_
  refine oe_M_mono _ _ _ _ _ _ (fun r hp vq => ?_) vc
  obtain ⟨x31, h30, rfl, rfl, vc⟩ := vq
  show oe_V (oe_cost 49) 49 (oe_M (d + 1)) none Q 106 [some (.inr (.inl v0)), some (.inl v1), some (.inl v2), some (.inl v3), none, some (.inl v5), some (.inl v6), some (.inl v7), some (.inl v8), none] [.inl x31] (sh, g, h30) 0 0
  refine s_if_eq (oe_t49 61 (q := (106, .ifCond .eq 164, 3)) rfl) (fun c33 => ?_) (fun c33 => ?_)
  · replace vc := vc.1 c33
    refine s_iconst (oe_t49 90 (q := (164, .iconst 0, 1)) rfl) ?_
    refine s_istore (oe_t49 91 (q := (165, .istore 9, 2)) rfl) ?_
    refine s_iload (oe_t49 92 (q := (167, .iload 9, 2)) rfl) rfl ?_
    refine s_if_eq (oe_t49 93 (q := (169, .ifCond .eq 180, 3)) rfl) (fun _ => ?_) (fun q => absurd q (by decide))
    obtain ⟨r34, vc⟩ := vc
    refine s_iinc (oe_t49 100 (q := (180, .iinc 3 1, 3)) rfl) rfl r34 ?_
    refine s_goto (oe_t49 101 (q := (183, .goto 18, 3)) rfl) ?_
    exact oe_V.fg (oe_M_mono _) (show oe_fg [some (.inr (.inl v0)), some (.inl v1), some (.inl v2), some (.inl (v3 + 1)), none, none, none, none, none, none] _ from ⟨rfl, ⟨rfl, ⟨rfl, ⟨rfl, trivial⟩⟩⟩⟩) vc
  · replace vc := vc.2 c33
    refine s_aload_n (oe_t49 62 (q := (109, .aload_n 0, 1)) rfl) rfl ?_
    refine s_iload (oe_t49 63 (q := (110, .iload 5, 2)) rfl) rfl ?_
    refine s_if_eq (oe_t49 64 (q := (112, .ifCond .eq 120, 3)) rfl) (fun c35 => ?_) (fun c35 => ?_)
    · replace vc := vc.1 c35
      refine s_iload (oe_t49 67 (q := (120, .iload 6, 2)) rfl) rfl ?_
      refine s_iload (oe_t49 68 (q := (122, .iload 5, 2)) rfl) rfl ?_
      refine s_if_eq (oe_t49 69 (q := (124, .ifCond .eq 132, 3)) rfl) (fun c36 => ?_) (fun c36 => ?_)
      · replace vc := vc.1 c36
        refine s_iload (oe_t49 72 (q := (132, .iload 7, 2)) rfl) rfl ?_
        exact oe_V.fg (oe_M_mono _) (show oe_fg [some (.inr (.inl v0)), some (.inl v1), some (.inl v2), some (.inl v3), none, none, none, none, none, none] _ from ⟨rfl, ⟨rfl, ⟨rfl, ⟨rfl, trivial⟩⟩⟩⟩) vc
      · replace vc := vc.2 c36
        refine s_iload (oe_t49 70 (q := (127, .iload 8, 2)) rfl) rfl ?_
        refine s_goto (oe_t49 71 (q := (129, .goto 134, 3)) rfl) ?_
        exact oe_V.fg (oe_M_mono _) (show oe_fg [some (.inr (.inl v0)), some (.inl v1), some (.inl v2), some (.inl v3), none, none, none, none, none, none] _ from ⟨rfl, ⟨rfl, ⟨rfl, ⟨rfl, trivial⟩⟩⟩⟩) vc
    · replace vc := vc.2 c35
      refine s_iload (oe_t49 65 (q := (115, .iload 7, 2)) rfl) rfl ?_
      refine s_goto (oe_t49 66 (q := (117, .goto 122, 3)) rfl) ?_
      refine s_iload (oe_t49 68 (q := (122, .iload 5, 2)) rfl) rfl ?_
      refine s_if_eq (oe_t49 69 (q := (124, .ifCond .eq 132, 3)) rfl) (fun c37 => ?_) (fun c37 => ?_)
      · replace vc := vc.1 c37
        refine s_iload (oe_t49 72 (q := (132, .iload 7, 2)) rfl) rfl ?_
        exact oe_V.fg (oe_M_mono _) (show oe_fg [some (.inr (.inl v0)), some (.inl v1), some (.inl v2), some (.inl v3), none, none, none, none, none, none] _ from ⟨rfl, ⟨rfl, ⟨rfl, ⟨rfl, trivial⟩⟩⟩⟩) vc
      · replace vc := vc.2 c37
        refine s_iload (oe_t49 70 (q := (127, .iload 8, 2)) rfl) rfl ?_
        refine s_goto (oe_t49 71 (q := (129, .goto 134, 3)) rfl) ?_
        exact oe_V.fg (oe_M_mono _) (show oe_fg [some (.inr (.inl v0)), some (.inl v1), some (.inl v2), some (.inl v3), none, none, none, none, none, none] _ from ⟨rfl, ⟨rfl, ⟨rfl, ⟨rfl, trivial⟩⟩⟩⟩) vc
theorem g49_134 {d : Nat} {sh : List (Nat × Nat)} {g : Nat → Nat → Option Nat} {h : Nat → Nat → Int} {Q : oeQ} {v0 : Nat} {v1 : Int} {v2 : Int} {v3 : Int} {w0 : Int} {w1 : Int} {w2 : Nat}
    (vc : sh[v0]? = some (12, 45) ∧ oe_rg (30 - (h v0 29)) ∧ oe_rg ((30 - (h v0 29)) + v2) ∧ oe_rg (((30 - (h v0 29)) + v2) - v1) ∧ sh[w2]? = some (12, 45) ∧ oe_M (d + 1) 46 [.inr (.inl w2), .inl w1, .inl w0, .inl (((30 - (h v0 29)) + v2) - v1)] (sh, g, h) (fun r hp => ∃ (x43 : Int) (h42 : Nat → Nat → Int), r = some (.inl x43) ∧ hp = (sh, g, h42) ∧ (x43 = 0 → oe_rg (v3 + 1) ∧ oe_V (oe_cost 49) 49 (oe_M (d + 1)) none Q 18 [some (.inr (.inl v0)), some (.inl v1), some (.inl v2), some (.inl (v3 + 1)), none, none, none, none, none, none] [] (sh, g, h42) 0 0) ∧ (x43 ≠ 0 → oe_M (d + 1) 47 [.inr (.inl v0), .inl v1, .inl v2] (sh, g, h42) (fun r hp => ∃ (x48 : Int) (h47 : Nat → Nat → Int), r = some (.inl x48) ∧ hp = (sh, g, h47) ∧ (x48 = 0 → oe_rg (v3 + 1) ∧ oe_V (oe_cost 49) 49 (oe_M (d + 1)) none Q 18 [some (.inr (.inl v0)), some (.inl v1), some (.inl v2), some (.inl (v3 + 1)), none, none, none, none, none, none] [] (sh, g, h47) 0 0) ∧ (x48 ≠ 0 → oe_M (d + 1) 48 [.inr (.inl v0), .inl v1, .inl v2] (sh, g, h47) (fun r hp => ∃ (h51 : Nat → Nat → Int), r = none ∧ hp = (sh, g, h51) ∧ Q (some (.inl 1)) (sh, g, h51))))))) :
    oe_V (oe_cost 49) 49 (oe_M (d + 1)) none Q 134 [some (.inr (.inl v0)), some (.inl v1), some (.inl v2), some (.inl v3), none, none, none, none, none, none] [.inl w0, .inl w1, .inr (.inl w2)] (sh, g, h) 0 0 := by
  refine s_bipush (oe_t49 73 (q := (134, .bipush 30, 2)) rfl) ?_
  refine s_aload_n (oe_t49 74 (q := (136, .aload_n 0, 1)) rfl) rfl ?_
  obtain ⟨s38, vc⟩ := vc
  refine s_geti (oe_t49 75 (q := (137, .getfield 7290, 3)) rfl) s38 rfl (by decide) ?_
  obtain ⟨r39, vc⟩ := vc
  refine s_isub (oe_t49 76 (q := (140, .isub, 1)) rfl) r39 ?_
  refine s_iload_n (oe_t49 77 (q := (141, .iload_n 2, 1)) rfl) rfl ?_
  obtain ⟨r40, vc⟩ := vc
  refine s_iadd (oe_t49 78 (q := (142, .iadd, 1)) rfl) r40 ?_
  refine s_iload_n (oe_t49 79 (q := (143, .iload_n 1, 1)) rfl) rfl ?_
  obtain ⟨r41, vc⟩ := vc
  refine s_isub (oe_t49 80 (q := (144, .isub, 1)) rfl) r41 ?_
  obtain ⟨s44, vc⟩ := vc
  refine s_callv (oe_t49 81 (q := (145, .invokevirtual 46073, 3)) rfl) rfl s44 rfl (Nat.le_of_ble_eq_true rfl) (Nat.le_of_ble_eq_true rfl) (Nat.le_of_ble_eq_true rfl) (Nat.le_of_ble_eq_true rfl) ?_
  refine oe_M_mono _ _ _ _ _ _ (fun r hp vq => ?_) vc
  obtain ⟨x43, h42, rfl, rfl, vc⟩ := vq
  show oe_V (oe_cost 49) 49 (oe_M (d + 1)) none Q 148 [some (.inr (.inl v0)), some (.inl v1), some (.inl v2), some (.inl v3), none, none, none, none, none, none] [.inl x43] (sh, g, h42) 0 0
  refine s_if_eq (oe_t49 82 (q := (148, .ifCond .eq 164, 3)) rfl) (fun c45 => ?_) (fun c45 => ?_)
  · replace vc := vc.1 c45
    refine s_iconst (oe_t49 90 (q := (164, .iconst 0, 1)) rfl) ?_
    refine s_istore (oe_t49 91 (q := (165, .istore 9, 2)) rfl) ?_
    refine s_iload (oe_t49 92 (q := (167, .iload 9, 2)) rfl) rfl ?_
    refine s_if_eq (oe_t49 93 (q := (169, .ifCond .eq 180, 3)) rfl) (fun _ => ?_) (fun q => absurd q (by decide))
    obtain ⟨r46, vc⟩ := vc
    refine s_iinc (oe_t49 100 (q := (180, .iinc 3 1, 3)) rfl) rfl r46 ?_
    refine s_goto (oe_t49 101 (q := (183, .goto 18, 3)) rfl) ?_
    exact oe_V.fg (oe_M_mono _) (show oe_fg [some (.inr (.inl v0)), some (.inl v1), some (.inl v2), some (.inl (v3 + 1)), none, none, none, none, none, none] _ from ⟨rfl, ⟨rfl, ⟨rfl, ⟨rfl, trivial⟩⟩⟩⟩) vc
  · replace vc := vc.2 c45
    refine s_aload_n (oe_t49 83 (q := (151, .aload_n 0, 1)) rfl) rfl ?_
    refine s_iload_n (oe_t49 84 (q := (152, .iload_n 1, 1)) rfl) rfl ?_
    refine s_iload_n (oe_t49 85 (q := (153, .iload_n 2, 1)) rfl) rfl ?_
    refine s_callv (oe_t49 86 (q := (154, .invokevirtual 47072, 3)) rfl) rfl s38 rfl (Nat.le_of_ble_eq_true rfl) (Nat.le_of_ble_eq_true rfl) (Nat.le_of_ble_eq_true rfl) (Nat.le_of_ble_eq_true rfl) ?_
    refine oe_M_mono _ _ _ _ _ _ (fun r hp vq => ?_) vc
    obtain ⟨x48, h47, rfl, rfl, vc⟩ := vq
    show oe_V (oe_cost 49) 49 (oe_M (d + 1)) none Q 157 [some (.inr (.inl v0)), some (.inl v1), some (.inl v2), some (.inl v3), none, none, none, none, none, none] [.inl x48] (sh, g, h47) 0 0
    refine s_if_eq (oe_t49 87 (q := (157, .ifCond .eq 164, 3)) rfl) (fun c49 => ?_) (fun c49 => ?_)
    · replace vc := vc.1 c49
      refine s_iconst (oe_t49 90 (q := (164, .iconst 0, 1)) rfl) ?_
      refine s_istore (oe_t49 91 (q := (165, .istore 9, 2)) rfl) ?_
      refine s_iload (oe_t49 92 (q := (167, .iload 9, 2)) rfl) rfl ?_
      refine s_if_eq (oe_t49 93 (q := (169, .ifCond .eq 180, 3)) rfl) (fun _ => ?_) (fun q => absurd q (by decide))
      obtain ⟨r50, vc⟩ := vc
      refine s_iinc (oe_t49 100 (q := (180, .iinc 3 1, 3)) rfl) rfl r50 ?_
      refine s_goto (oe_t49 101 (q := (183, .goto 18, 3)) rfl) ?_
      exact oe_V.fg (oe_M_mono _) (show oe_fg [some (.inr (.inl v0)), some (.inl v1), some (.inl v2), some (.inl (v3 + 1)), none, none, none, none, none, none] _ from ⟨rfl, ⟨rfl, ⟨rfl, ⟨rfl, trivial⟩⟩⟩⟩) vc
    · replace vc := vc.2 c49
      refine s_iconst (oe_t49 88 (q := (160, .iconst 1, 1)) rfl) ?_
      refine s_goto (oe_t49 89 (q := (161, .goto 165, 3)) rfl) ?_
      refine s_istore (oe_t49 91 (q := (165, .istore 9, 2)) rfl) ?_
      refine s_iload (oe_t49 92 (q := (167, .iload 9, 2)) rfl) rfl ?_
      refine s_if_eq (oe_t49 93 (q := (169, .ifCond .eq 180, 3)) rfl) (fun q => absurd q (by decide)) (fun _ => ?_)
      refine s_aload_n (oe_t49 94 (q := (172, .aload_n 0, 1)) rfl) rfl ?_
      refine s_iload_n (oe_t49 95 (q := (173, .iload_n 1, 1)) rfl) rfl ?_
      refine s_iload_n (oe_t49 96 (q := (174, .iload_n 2, 1)) rfl) rfl ?_
      refine s_callv (oe_t49 97 (q := (175, .invokevirtual 48072, 3)) rfl) rfl s38 rfl (Nat.le_of_ble_eq_true rfl) (Nat.le_of_ble_eq_true rfl) (Nat.le_of_ble_eq_true rfl) (Nat.le_of_ble_eq_true rfl) ?_
      refine oe_M_mono _ _ _ _ _ _ (fun r hp vq => ?_) vc
      obtain ⟨h51, rfl, rfl, vc⟩ := vq
      show oe_V (oe_cost 49) 49 (oe_M (d + 1)) none Q 178 [some (.inr (.inl v0)), some (.inl v1), some (.inl v2), some (.inl v3), none, none, none, none, none, some (.inl 1)] [] (sh, g, h51) 0 0
      refine s_iconst (oe_t49 98 (q := (178, .iconst 1, 1)) rfl) ?_
      exact s_iret (oe_t49 99 (q := (179, .ireturn, 1)) rfl) (Or.inr (Or.inl ⟨rfl, Or.inr rfl⟩)) vc
theorem oe_u50 : oe_c50.all (fun q => decide (oe_find oe_c50 q.1 = some q.2)) = true := by decide +kernel
theorem oe_t50 (k : Nat) {q : Nat × Jvm.ClassFile.Instr × Nat} (h : oe_c50[k]? = some q) : oe_find (oe_code 50) q.1 = some q.2 := oe_ft oe_u50 h
theorem g50 {d : Nat} {sh : List (Nat × Nat)} {g : Nat → Nat → Option Nat} {h : Nat → Nat → Int} {Q : oeQ} {v0 : Nat}
    (vc : oe_V (oe_cost 50) 50 (oe_M (d + 1)) none Q 2 [some (.inr (.inl v0)), some (.inl 0)] [] (sh, g, h) 0 0) :
    oe_M (d + 2) 50 [.inr (.inl v0)] (sh, g, h) Q := by
  refine oe_M.of (by simp [oe_c1]) (Nat.le_of_ble_eq_true rfl) ?_
  show oe_V (oe_cost 50) 50 (oe_M (d + 1)) none Q 0 [some (.inr (.inl v0)), none] [] (sh, g, h) 0 0
  refine s_iconst (oe_t50 0 (q := (0, .iconst 0, 1)) rfl) ?_
  refine s_istore_n (oe_t50 1 (q := (1, .istore_n 1, 1)) rfl) ?_
  exact oe_V.fg (oe_M_mono _) (show oe_fg [some (.inr (.inl v0)), some (.inl 0)] _ from ⟨rfl, ⟨rfl, trivial⟩⟩) vc
theorem g50_2 {d : Nat} {sh : List (Nat × Nat)} {g : Nat → Nat → Option Nat} {h : Nat → Nat → Int} {Q : oeQ} {v0 : Nat} {v1 : Int}
    (vc : (50 ≤ v1 → Q (some (.inl v1)) (sh, g, h)) ∧ (v1 < 50 → sh[v0]? = some (12, 45) ∧ oe_M (d + 1) 49 [.inr (.inl v0)] (sh, g, h) (fun r hp => ∃ (x3 : Int) (h2 : Nat → Nat → Int), r = some (.inl x3) ∧ hp = (sh, g, h2) ∧ (x3 = 0 → Q (some (.inl v1)) (sh, g, h2)) ∧ (x3 ≠ 0 → oe_rg (v1 + 1) ∧ oe_V (oe_cost 50) 50 (oe_M (d + 1)) none Q 2 [some (.inr (.inl v0)), some (.inl (v1 + 1))] [] (sh, g, h2) 0 0)))) :
    oe_V (oe_cost 50) 50 (oe_M (d + 1)) none Q 2 [some (.inr (.inl v0)), some (.inl v1)] [] (sh, g, h) 0 0 := by
  refine s_iload_n (oe_t50 2 (q := (2, .iload_n 1, 1)) rfl) rfl ?_
  refine s_bipush (oe_t50 3 (q := (3, .bipush 50, 2)) rfl) ?_
  refine s_ic_ge (oe_t50 4 (q := (5, .if_icmp .ge 21, 3)) rfl) (fun c1 => ?_) (fun c1 => ?_)
  · replace vc := vc.1 c1
    refine s_iload_n (oe_t50 10 (q := (21, .iload_n 1, 1)) rfl) rfl ?_
    exact s_iret (oe_t50 11 (q := (22, .ireturn, 1)) rfl) (Or.inl rfl) vc
  · replace vc := vc.2 c1
    refine s_aload_n (oe_t50 5 (q := (8, .aload_n 0, 1)) rfl) rfl ?_
    obtain ⟨s4, vc⟩ := vc
    refine s_callv (oe_t50 6 (q := (9, .invokevirtual 49070, 3)) rfl) rfl s4 rfl (Nat.le_of_ble_eq_true rfl) (Nat.le_of_ble_eq_true rfl) (Nat.le_of_ble_eq_true rfl) (Nat.le_of_ble_eq_true rfl) ?_
    refine oe_M_mono _ _ _ _ _ _ (fun r hp vq => ?_) vc
    obtain ⟨x3, h2, rfl, rfl, vc⟩ := vq
    show oe_V (oe_cost 50) 50 (oe_M (d + 1)) none Q 12 [some (.inr (.inl v0)), some (.inl v1)] [.inl x3] (sh, g, h2) 0 0
    refine s_if_eq (oe_t50 7 (q := (12, .ifCond .eq 21, 3)) rfl) (fun c5 => ?_) (fun c5 => ?_)
    · replace vc := vc.1 c5
      refine s_iload_n (oe_t50 10 (q := (21, .iload_n 1, 1)) rfl) rfl ?_
      exact s_iret (oe_t50 11 (q := (22, .ireturn, 1)) rfl) (Or.inl rfl) vc
    · replace vc := vc.2 c5
      obtain ⟨r6, vc⟩ := vc
      refine s_iinc (oe_t50 8 (q := (15, .iinc 1 1, 3)) rfl) rfl r6 ?_
      refine s_goto (oe_t50 9 (q := (18, .goto 2, 3)) rfl) ?_
      exact oe_V.fg (oe_M_mono _) (show oe_fg [some (.inr (.inl v0)), some (.inl (v1 + 1))] _ from ⟨rfl, ⟨rfl, trivial⟩⟩) vc
theorem oe_u51 : oe_c51.all (fun q => decide (oe_find oe_c51 q.1 = some q.2)) = true := by decide +kernel
theorem oe_t51 (k : Nat) {q : Nat × Jvm.ClassFile.Instr × Nat} (h : oe_c51[k]? = some q) : oe_find (oe_code 51) q.1 = some q.2 := oe_ft oe_u51 h
theorem g51 {d : Nat} {sh : List (Nat × Nat)} {g : Nat → Nat → Option Nat} {h : Nat → Nat → Int} {Q : oeQ} {v0 : Nat} {v1 : Int}
    (vc : sh[v0]? = some (12, 45) ∧ ∃ q2, g v0 19 = some q2 ∧ ∃ n5, sh[q2]? = some (0, n5) ∧ 0 ≤ v1 ∧ v1 < (n5 : Nat) ∧ ∀ h8, h8 = oe_up h v0 29 (h q2 (v1 : Int).toNat) → oe_V (oe_cost 51) 51 (oe_M (d + 1)) none Q 12 [some (.inr (.inl v0)), some (.inl v1), some (.inl 0)] [] (sh, g, h8) 0 0) :
    oe_M (d + 2) 51 [.inr (.inl v0), .inl v1] (sh, g, h) Q := by
  refine oe_M.of (by simp [oe_c1]) (Nat.le_of_ble_eq_true rfl) ?_
  show oe_V (oe_cost 51) 51 (oe_M (d + 1)) none Q 0 [some (.inr (.inl v0)), some (.inl v1), none] [] (sh, g, h) 0 0
  refine s_aload_n (oe_t51 0 (q := (0, .aload_n 0, 1)) rfl) rfl ?_
  refine s_aload_n (oe_t51 1 (q := (1, .aload_n 0, 1)) rfl) rfl ?_
  obtain ⟨s1, vc⟩ := vc
  obtain ⟨q2, p3, vc⟩ := vc
  refine s_getr (oe_t51 2 (q := (2, .getfield 7191, 3)) rfl) s1 rfl rfl p3 ?_
  refine s_iload_n (oe_t51 3 (q := (5, .iload_n 1, 1)) rfl) rfl ?_
  obtain ⟨n5, s4, vc⟩ := vc
  obtain ⟨i6, i7, vc⟩ := vc
  refine s_iaload (oe_t51 4 (q := (6, .iaload, 1)) rfl) s4 i6 i7 ?_
  refine t_puti (oe_t51 5 (q := (7, .putfield 7290, 3)) rfl) s1 rfl (Or.inl rfl) (fun h8 e9 => ?_)
  replace vc := vc h8 e9
  refine s_iconst (oe_t51 6 (q := (10, .iconst 0, 1)) rfl) ?_
  refine s_istore_n (oe_t51 7 (q := (11, .istore_n 2, 1)) rfl) ?_
  exact oe_V.fg (oe_M_mono _) (show oe_fg [some (.inr (.inl v0)), some (.inl v1), some (.inl 0)] _ from ⟨rfl, ⟨rfl, ⟨rfl, trivial⟩⟩⟩) vc
theorem g51_12 {d : Nat} {sh : List (Nat × Nat)} {g : Nat → Nat → Option Nat} {h : Nat → Nat → Int} {Q : oeQ} {v0 : Nat} {v1 : Int} {v2 : Int}
    (vc : sh[v0]? = some (12, 45) ∧ ((h v0 29) ≤ v2 → oe_M (d + 1) 50 [.inr (.inl v0)] (sh, g, h) (fun r hp => ∃ (x13 : Int) (h12 : Nat → Nat → Int), r = some (.inl x13) ∧ hp = (sh, g, h12) ∧ ∃ q14, g v0 19 = some q14 ∧ ∃ n17, sh[q14]? = some (0, n17) ∧ 0 ≤ v1 ∧ v1 < (n17 : Nat) ∧ ∀ h20, h20 = oe_up h12 q14 (v1 : Int).toNat (h12 v0 29) → oe_V (oe_cost 51) 51 (oe_M (d + 1)) none Q 60 [some (.inr (.inl v0)), some (.inl v1), some (.inl 0)] [] (sh, g, h20) 0 0)) ∧ (v2 < (h v0 29) → ∃ q22, g v0 28 = some q22 ∧ ∃ q24, g v0 18 = some q24 ∧ oe_rg (40 * v1) ∧ oe_rg ((40 * v1) + v2) ∧ ∃ n29, sh[q24]? = some (0, n29) ∧ 0 ≤ ((40 * v1) + v2) ∧ ((40 * v1) + v2) < (n29 : Nat) ∧ ∃ n33, sh[q22]? = some (0, n33) ∧ 0 ≤ v2 ∧ v2 < (n33 : Nat) ∧ ∀ h36, h36 = oe_up h q22 (v2 : Int).toNat (h q24 (((40 * v1) + v2) : Int).toNat) → oe_rg (v2 + 1) ∧ oe_V (oe_cost 51) 51 (oe_M (d + 1)) none Q 12 [some (.inr (.inl v0)), some (.inl v1), some (.inl (v2 + 1))] [] (sh, g, h36) 0 0)) :
    oe_V (oe_cost 51) 51 (oe_M (d + 1)) none Q 12 [some (.inr (.inl v0)), some (.inl v1), some (.inl v2)] [] (sh, g, h) 0 0 := by
  refine s_iload_n (oe_t51 8 (q := (12, .iload_n 2, 1)) rfl) rfl ?_
  refine s_aload_n (oe_t51 9 (q := (13, .aload_n 0, 1)) rfl) rfl ?_
  obtain ⟨s10, vc⟩ := vc
  refine s_geti (oe_t51 10 (q := (14, .getfield 7290, 3)) rfl) s10 rfl (by decide) ?_
  refine s_ic_ge (oe_t51 11 (q := (17, .if_icmp .ge 43, 3)) rfl) (fun c11 => ?_) (fun c11 => ?_)
  · replace vc := vc.1 c11
    refine s_aload_n (oe_t51 26 (q := (43, .aload_n 0, 1)) rfl) rfl ?_
    refine s_callv (oe_t51 27 (q := (44, .invokevirtual 50070, 3)) rfl) rfl s10 rfl (Nat.le_of_ble_eq_true rfl) (Nat.le_of_ble_eq_true rfl) (Nat.le_of_ble_eq_true rfl) (Nat.le_of_ble_eq_true rfl) ?_
    refine oe_M_mono _ _ _ _ _ _ (fun r hp vq => ?_) vc
    obtain ⟨x13, h12, rfl, rfl, vc⟩ := vq
    show oe_V (oe_cost 51) 51 (oe_M (d + 1)) none Q 47 [some (.inr (.inl v0)), some (.inl v1), some (.inl v2)] [.inl x13] (sh, g, h12) 0 0
    refine s_pop (oe_t51 28 (q := (47, .pop, 1)) rfl) trivial ?_
    refine s_aload_n (oe_t51 29 (q := (48, .aload_n 0, 1)) rfl) rfl ?_
    obtain ⟨q14, p15, vc⟩ := vc
    refine s_getr (oe_t51 30 (q := (49, .getfield 7191, 3)) rfl) s10 rfl rfl p15 ?_
    refine s_iload_n (oe_t51 31 (q := (52, .iload_n 1, 1)) rfl) rfl ?_
    refine s_aload_n (oe_t51 32 (q := (53, .aload_n 0, 1)) rfl) rfl ?_
    refine s_geti (oe_t51 33 (q := (54, .getfield 7290, 3)) rfl) s10 rfl (by decide) ?_
    obtain ⟨n17, s16, vc⟩ := vc
    obtain ⟨i18, i19, vc⟩ := vc
    refine t_iastore (oe_t51 34 (q := (57, .iastore, 1)) rfl) s16 i18 i19 (fun h20 e21 => ?_)
    replace vc := vc h20 e21
    refine s_iconst (oe_t51 35 (q := (58, .iconst 0, 1)) rfl) ?_
    refine s_istore_n (oe_t51 36 (q := (59, .istore_n 2, 1)) rfl) ?_
    exact oe_V.fg (oe_M_mono _) (show oe_fg [some (.inr (.inl v0)), some (.inl v1), some (.inl 0)] _ from ⟨rfl, ⟨rfl, ⟨rfl, trivial⟩⟩⟩) vc
  · replace vc := vc.2 c11
    refine s_aload_n (oe_t51 12 (q := (20, .aload_n 0, 1)) rfl) rfl ?_
    obtain ⟨q22, p23, vc⟩ := vc
    refine s_getr (oe_t51 13 (q := (21, .getfield 7281, 3)) rfl) s10 rfl rfl p23 ?_
    refine s_iload_n (oe_t51 14 (q := (24, .iload_n 2, 1)) rfl) rfl ?_
    refine s_aload_n (oe_t51 15 (q := (25, .aload_n 0, 1)) rfl) rfl ?_
    obtain ⟨q24, p25, vc⟩ := vc
    refine s_getr (oe_t51 16 (q := (26, .getfield 7181, 3)) rfl) s10 rfl rfl p25 ?_
    refine s_bipush (oe_t51 17 (q := (29, .bipush 40, 2)) rfl) ?_
    refine s_iload_n (oe_t51 18 (q := (31, .iload_n 1, 1)) rfl) rfl ?_
    obtain ⟨r26, vc⟩ := vc
    refine s_imul (oe_t51 19 (q := (32, .imul, 1)) rfl) r26 ?_
    refine s_iload_n (oe_t51 20 (q := (33, .iload_n 2, 1)) rfl) rfl ?_
    obtain ⟨r27, vc⟩ := vc
    refine s_iadd (oe_t51 21 (q := (34, .iadd, 1)) rfl) r27 ?_
    obtain ⟨n29, s28, vc⟩ := vc
    obtain ⟨i30, i31, vc⟩ := vc
    refine s_iaload (oe_t51 22 (q := (35, .iaload, 1)) rfl) s28 i30 i31 ?_
    obtain ⟨n33, s32, vc⟩ := vc
    obtain ⟨i34, i35, vc⟩ := vc
    refine t_iastore (oe_t51 23 (q := (36, .iastore, 1)) rfl) s32 i34 i35 (fun h36 e37 => ?_)
    replace vc := vc h36 e37
    obtain ⟨r38, vc⟩ := vc
    refine s_iinc (oe_t51 24 (q := (37, .iinc 2 1, 3)) rfl) rfl r38 ?_
    refine s_goto (oe_t51 25 (q := (40, .goto 12, 3)) rfl) ?_
    exact oe_V.fg (oe_M_mono _) (show oe_fg [some (.inr (.inl v0)), some (.inl v1), some (.inl (v2 + 1))] _ from ⟨rfl, ⟨rfl, ⟨rfl, trivial⟩⟩⟩) vc
theorem g51_60 {d : Nat} {sh : List (Nat × Nat)} {g : Nat → Nat → Option Nat} {h : Nat → Nat → Int} {Q : oeQ} {v0 : Nat} {v1 : Int} {v2 : Int}
    (vc : sh[v0]? = some (12, 45) ∧ ((h v0 29) ≤ v2 → Q none (sh, g, h)) ∧ (v2 < (h v0 29) → ∃ q41, g v0 18 = some q41 ∧ oe_rg (40 * v1) ∧ oe_rg ((40 * v1) + v2) ∧ ∃ q45, g v0 28 = some q45 ∧ ∃ n48, sh[q45]? = some (0, n48) ∧ 0 ≤ v2 ∧ v2 < (n48 : Nat) ∧ ∃ n52, sh[q41]? = some (0, n52) ∧ 0 ≤ ((40 * v1) + v2) ∧ ((40 * v1) + v2) < (n52 : Nat) ∧ ∀ h55, h55 = oe_up h q41 (((40 * v1) + v2) : Int).toNat (h q45 (v2 : Int).toNat) → oe_rg (v2 + 1) ∧ oe_V (oe_cost 51) 51 (oe_M (d + 1)) none Q 60 [some (.inr (.inl v0)), some (.inl v1), some (.inl (v2 + 1))] [] (sh, g, h55) 0 0)) :
    oe_V (oe_cost 51) 51 (oe_M (d + 1)) none Q 60 [some (.inr (.inl v0)), some (.inl v1), some (.inl v2)] [] (sh, g, h) 0 0 := by
  refine s_iload_n (oe_t51 37 (q := (60, .iload_n 2, 1)) rfl) rfl ?_
  refine s_aload_n (oe_t51 38 (q := (61, .aload_n 0, 1)) rfl) rfl ?_
  obtain ⟨s39, vc⟩ := vc
  refine s_geti (oe_t51 39 (q := (62, .getfield 7290, 3)) rfl) s39 rfl (by decide) ?_
  refine s_ic_ge (oe_t51 40 (q := (65, .if_icmp .ge 91, 3)) rfl) (fun c40 => ?_) (fun c40 => ?_)
  · replace vc := vc.1 c40
    exact s_ret (oe_t51 55 (q := (91, .return_, 1)) rfl) rfl vc
  · replace vc := vc.2 c40
    refine s_aload_n (oe_t51 41 (q := (68, .aload_n 0, 1)) rfl) rfl ?_
    obtain ⟨q41, p42, vc⟩ := vc
    refine s_getr (oe_t51 42 (q := (69, .getfield 7181, 3)) rfl) s39 rfl rfl p42 ?_
    refine s_bipush (oe_t51 43 (q := (72, .bipush 40, 2)) rfl) ?_
    refine s_iload_n (oe_t51 44 (q := (74, .iload_n 1, 1)) rfl) rfl ?_
    obtain ⟨r43, vc⟩ := vc
    refine s_imul (oe_t51 45 (q := (75, .imul, 1)) rfl) r43 ?_
    refine s_iload_n (oe_t51 46 (q := (76, .iload_n 2, 1)) rfl) rfl ?_
    obtain ⟨r44, vc⟩ := vc
    refine s_iadd (oe_t51 47 (q := (77, .iadd, 1)) rfl) r44 ?_
    refine s_aload_n (oe_t51 48 (q := (78, .aload_n 0, 1)) rfl) rfl ?_
    obtain ⟨q45, p46, vc⟩ := vc
    refine s_getr (oe_t51 49 (q := (79, .getfield 7281, 3)) rfl) s39 rfl rfl p46 ?_
    refine s_iload_n (oe_t51 50 (q := (82, .iload_n 2, 1)) rfl) rfl ?_
    obtain ⟨n48, s47, vc⟩ := vc
    obtain ⟨i49, i50, vc⟩ := vc
    refine s_iaload (oe_t51 51 (q := (83, .iaload, 1)) rfl) s47 i49 i50 ?_
    obtain ⟨n52, s51, vc⟩ := vc
    obtain ⟨i53, i54, vc⟩ := vc
    refine t_iastore (oe_t51 52 (q := (84, .iastore, 1)) rfl) s51 i53 i54 (fun h55 e56 => ?_)
    replace vc := vc h55 e56
    obtain ⟨r57, vc⟩ := vc
    refine s_iinc (oe_t51 53 (q := (85, .iinc 2 1, 3)) rfl) rfl r57 ?_
    refine s_goto (oe_t51 54 (q := (88, .goto 60, 3)) rfl) ?_
    exact oe_V.fg (oe_M_mono _) (show oe_fg [some (.inr (.inl v0)), some (.inl v1), some (.inl (v2 + 1))] _ from ⟨rfl, ⟨rfl, ⟨rfl, trivial⟩⟩⟩) vc
theorem oe_u52 : oe_c52.all (fun q => decide (oe_find oe_c52 q.1 = some q.2)) = true := by decide +kernel
theorem oe_t52 (k : Nat) {q : Nat × Jvm.ClassFile.Instr × Nat} (h : oe_c52[k]? = some q) : oe_find (oe_code 52) q.1 = some q.2 := oe_ft oe_u52 h
theorem g52 {d : Nat} {sh : List (Nat × Nat)} {g : Nat → Nat → Option Nat} {h : Nat → Nat → Int} {Q : oeQ} {v0 : Nat} {v1 : Int} {v2 : Int}
    (vc : sh[v0]? = some (12, 45) ∧ ∃ q2, g v0 19 = some q2 ∧ ∃ n5, sh[q2]? = some (0, n5) ∧ 0 ≤ v1 ∧ v1 < (n5 : Nat) ∧ 0 ≤ v2 ∧ v2 < (n5 : Nat) ∧ ((h q2 (v1 : Int).toNat) ≠ (h q2 (v2 : Int).toNat) → oe_V (oe_cost 52) 52 (oe_M (d + 1)) none Q 24 [some (.inr (.inl v0)), some (.inl v1), some (.inl v2), some (.inl 0), some (.inl 0)] [] (sh, g, h) 0 0) ∧ ((h q2 (v1 : Int).toNat) = (h q2 (v2 : Int).toNat) → oe_V (oe_cost 52) 52 (oe_M (d + 1)) none Q 24 [some (.inr (.inl v0)), some (.inl v1), some (.inl v2), some (.inl 1), some (.inl 0)] [] (sh, g, h) 0 0)) :
    oe_M (d + 2) 52 [.inr (.inl v0), .inl v1, .inl v2] (sh, g, h) Q := by
  refine oe_M.of (by simp [oe_c1]) (Nat.le_of_ble_eq_true rfl) ?_
  show oe_V (oe_cost 52) 52 (oe_M (d + 1)) none Q 0 [some (.inr (.inl v0)), some (.inl v1), some (.inl v2), none, none] [] (sh, g, h) 0 0
  refine s_aload_n (oe_t52 0 (q := (0, .aload_n 0, 1)) rfl) rfl ?_
  obtain ⟨s1, vc⟩ := vc
  obtain ⟨q2, p3, vc⟩ := vc
  refine s_getr (oe_t52 1 (q := (1, .getfield 7191, 3)) rfl) s1 rfl rfl p3 ?_
  refine s_iload_n (oe_t52 2 (q := (4, .iload_n 1, 1)) rfl) rfl ?_
  obtain ⟨n5, s4, vc⟩ := vc
  obtain ⟨i6, i7, vc⟩ := vc
  refine s_iaload (oe_t52 3 (q := (5, .iaload, 1)) rfl) s4 i6 i7 ?_
  refine s_aload_n (oe_t52 4 (q := (6, .aload_n 0, 1)) rfl) rfl ?_
  refine s_getr (oe_t52 5 (q := (7, .getfield 7191, 3)) rfl) s1 rfl rfl p3 ?_
  refine s_iload_n (oe_t52 6 (q := (10, .iload_n 2, 1)) rfl) rfl ?_
  obtain ⟨i8, i9, vc⟩ := vc
  refine s_iaload (oe_t52 7 (q := (11, .iaload, 1)) rfl) s4 i8 i9 ?_
  refine s_ic_ne (oe_t52 8 (q := (12, .if_icmp .ne 19, 3)) rfl) (fun c10 => ?_) (fun c10 => ?_)
  · replace vc := vc.1 c10
    refine s_iconst (oe_t52 11 (q := (19, .iconst 0, 1)) rfl) ?_
    refine s_istore_n (oe_t52 12 (q := (20, .istore_n 3, 1)) rfl) ?_
    refine s_iconst (oe_t52 13 (q := (21, .iconst 0, 1)) rfl) ?_
    refine s_istore (oe_t52 14 (q := (22, .istore 4, 2)) rfl) ?_
    exact oe_V.fg (oe_M_mono _) (show oe_fg [some (.inr (.inl v0)), some (.inl v1), some (.inl v2), some (.inl 0), some (.inl 0)] _ from ⟨rfl, ⟨rfl, ⟨rfl, ⟨rfl, ⟨rfl, trivial⟩⟩⟩⟩⟩) vc
  · replace vc := vc.2 c10
    refine s_iconst (oe_t52 9 (q := (15, .iconst 1, 1)) rfl) ?_
    refine s_goto (oe_t52 10 (q := (16, .goto 20, 3)) rfl) ?_
    refine s_istore_n (oe_t52 12 (q := (20, .istore_n 3, 1)) rfl) ?_
    refine s_iconst (oe_t52 13 (q := (21, .iconst 0, 1)) rfl) ?_
    refine s_istore (oe_t52 14 (q := (22, .istore 4, 2)) rfl) ?_
    exact oe_V.fg (oe_M_mono _) (show oe_fg [some (.inr (.inl v0)), some (.inl v1), some (.inl v2), some (.inl 1), some (.inl 0)] _ from ⟨rfl, ⟨rfl, ⟨rfl, ⟨rfl, ⟨rfl, trivial⟩⟩⟩⟩⟩) vc
theorem g52_24 {d : Nat} {sh : List (Nat × Nat)} {g : Nat → Nat → Option Nat} {h : Nat → Nat → Int} {Q : oeQ} {v0 : Nat} {v1 : Int} {v2 : Int} {v3 : Int} {v4 : Int}
    (vc : (v3 = 0 → (v3 = 0 ∨ v3 = 1) ∧ Q (some (.inl v3)) (sh, g, h)) ∧ (v3 ≠ 0 → sh[v0]? = some (12, 45) ∧ ∃ q14, g v0 19 = some q14 ∧ ∃ n17, sh[q14]? = some (0, n17) ∧ 0 ≤ v1 ∧ v1 < (n17 : Nat) ∧ ((h q14 (v1 : Int).toNat) ≤ v4 → (v3 = 0 ∨ v3 = 1) ∧ Q (some (.inl v3)) (sh, g, h)) ∧ (v4 < (h q14 (v1 : Int).toNat) → ∃ q22, g v0 18 = some q22 ∧ oe_rg (40 * v1) ∧ oe_rg ((40 * v1) + v4) ∧ ∃ n27, sh[q22]? = some (0, n27) ∧ 0 ≤ ((40 * v1) + v4) ∧ ((40 * v1) + v4) < (n27 : Nat) ∧ oe_rg (40 * v2) ∧ oe_rg ((40 * v2) + v4) ∧ 0 ≤ ((40 * v2) + v4) ∧ ((40 * v2) + v4) < (n27 : Nat) ∧ ((h q22 (((40 * v1) + v4) : Int).toNat) ≠ (h q22 (((40 * v2) + v4) : Int).toNat) → oe_rg (v4 + 1) ∧ oe_V (oe_cost 52) 52 (oe_M (d + 1)) none Q 24 [some (.inr (.inl v0)), some (.inl v1), some (.inl v2), some (.inl 0), some (.inl (v4 + 1))] [] (sh, g, h) 0 0) ∧ ((h q22 (((40 * v1) + v4) : Int).toNat) = (h q22 (((40 * v2) + v4) : Int).toNat) → oe_rg (v4 + 1) ∧ oe_V (oe_cost 52) 52 (oe_M (d + 1)) none Q 24 [some (.inr (.inl v0)), some (.inl v1), some (.inl v2), some (.inl 1), some (.inl (v4 + 1))] [] (sh, g, h) 0 0)))) :
    oe_V (oe_cost 52) 52 (oe_M (d + 1)) none Q 24 [some (.inr (.inl v0)), some (.inl v1), some (.inl v2), some (.inl v3), some (.inl v4)] [] (sh, g, h) 0 0 := by
  refine s_iload_n (oe_t52 15 (q := (24, .iload_n 3, 1)) rfl) rfl ?_
  refine s_if_eq (oe_t52 16 (q := (25, .ifCond .eq 78, 3)) rfl) (fun c11 => ?_) (fun c11 => ?_)
  · replace vc := vc.1 c11
    refine s_iload_n (oe_t52 46 (q := (78, .iload_n 3, 1)) rfl) rfl ?_
    obtain ⟨b12, vc⟩ := vc
    exact s_iret (oe_t52 47 (q := (79, .ireturn, 1)) rfl) (Or.inr (Or.inl ⟨rfl, b12⟩)) vc
  · replace vc := vc.2 c11
    refine s_iload (oe_t52 17 (q := (28, .iload 4, 2)) rfl) rfl ?_
    refine s_aload_n (oe_t52 18 (q := (30, .aload_n 0, 1)) rfl) rfl ?_
    obtain ⟨s13, vc⟩ := vc
    obtain ⟨q14, p15, vc⟩ := vc
    refine s_getr (oe_t52 19 (q := (31, .getfield 7191, 3)) rfl) s13 rfl rfl p15 ?_
    refine s_iload_n (oe_t52 20 (q := (34, .iload_n 1, 1)) rfl) rfl ?_
    obtain ⟨n17, s16, vc⟩ := vc
    obtain ⟨i18, i19, vc⟩ := vc
    refine s_iaload (oe_t52 21 (q := (35, .iaload, 1)) rfl) s16 i18 i19 ?_
    refine s_ic_ge (oe_t52 22 (q := (36, .if_icmp .ge 78, 3)) rfl) (fun c20 => ?_) (fun c20 => ?_)
    · replace vc := vc.1 c20
      refine s_iload_n (oe_t52 46 (q := (78, .iload_n 3, 1)) rfl) rfl ?_
      obtain ⟨b21, vc⟩ := vc
      exact s_iret (oe_t52 47 (q := (79, .ireturn, 1)) rfl) (Or.inr (Or.inl ⟨rfl, b21⟩)) vc
    · replace vc := vc.2 c20
      refine s_aload_n (oe_t52 23 (q := (39, .aload_n 0, 1)) rfl) rfl ?_
      obtain ⟨q22, p23, vc⟩ := vc
      refine s_getr (oe_t52 24 (q := (40, .getfield 7181, 3)) rfl) s13 rfl rfl p23 ?_
      refine s_bipush (oe_t52 25 (q := (43, .bipush 40, 2)) rfl) ?_
      refine s_iload_n (oe_t52 26 (q := (45, .iload_n 1, 1)) rfl) rfl ?_
      obtain ⟨r24, vc⟩ := vc
      refine s_imul (oe_t52 27 (q := (46, .imul, 1)) rfl) r24 ?_
      refine s_iload (oe_t52 28 (q := (47, .iload 4, 2)) rfl) rfl ?_
      obtain ⟨r25, vc⟩ := vc
      refine s_iadd (oe_t52 29 (q := (49, .iadd, 1)) rfl) r25 ?_
      obtain ⟨n27, s26, vc⟩ := vc
      obtain ⟨i28, i29, vc⟩ := vc
      refine s_iaload (oe_t52 30 (q := (50, .iaload, 1)) rfl) s26 i28 i29 ?_
      refine s_aload_n (oe_t52 31 (q := (51, .aload_n 0, 1)) rfl) rfl ?_
      refine s_getr (oe_t52 32 (q := (52, .getfield 7181, 3)) rfl) s13 rfl rfl p23 ?_
      refine s_bipush (oe_t52 33 (q := (55, .bipush 40, 2)) rfl) ?_
      refine s_iload_n (oe_t52 34 (q := (57, .iload_n 2, 1)) rfl) rfl ?_
      obtain ⟨r30, vc⟩ := vc
      refine s_imul (oe_t52 35 (q := (58, .imul, 1)) rfl) r30 ?_
      refine s_iload (oe_t52 36 (q := (59, .iload 4, 2)) rfl) rfl ?_
      obtain ⟨r31, vc⟩ := vc
      refine s_iadd (oe_t52 37 (q := (61, .iadd, 1)) rfl) r31 ?_
      obtain ⟨i32, i33, vc⟩ := vc
      refine s_iaload (oe_t52 38 (q := (62, .iaload, 1)) rfl) s26 i32 i33 ?_
      refine s_ic_ne (oe_t52 39 (q := (63, .if_icmp .ne 70, 3)) rfl) (fun c34 => ?_) (fun c34 => ?_)
      · replace vc := vc.1 c34
        refine s_iconst (oe_t52 42 (q := (70, .iconst 0, 1)) rfl) ?_
        refine s_istore_n (oe_t52 43 (q := (71, .istore_n 3, 1)) rfl) ?_
        obtain ⟨r35, vc⟩ := vc
        refine s_iinc (oe_t52 44 (q := (72, .iinc 4 1, 3)) rfl) rfl r35 ?_
        refine s_goto (oe_t52 45 (q := (75, .goto 24, 3)) rfl) ?_
        exact oe_V.fg (oe_M_mono _) (show oe_fg [some (.inr (.inl v0)), some (.inl v1), some (.inl v2), some (.inl 0), some (.inl (v4 + 1))] _ from ⟨rfl, ⟨rfl, ⟨rfl, ⟨rfl, ⟨rfl, trivial⟩⟩⟩⟩⟩) vc
      · replace vc := vc.2 c34
        refine s_iconst (oe_t52 40 (q := (66, .iconst 1, 1)) rfl) ?_
        refine s_goto (oe_t52 41 (q := (67, .goto 71, 3)) rfl) ?_
        refine s_istore_n (oe_t52 43 (q := (71, .istore_n 3, 1)) rfl) ?_
        obtain ⟨r36, vc⟩ := vc
        refine s_iinc (oe_t52 44 (q := (72, .iinc 4 1, 3)) rfl) rfl r36 ?_
        refine s_goto (oe_t52 45 (q := (75, .goto 24, 3)) rfl) ?_
        exact oe_V.fg (oe_M_mono _) (show oe_fg [some (.inr (.inl v0)), some (.inl v1), some (.inl v2), some (.inl 1), some (.inl (v4 + 1))] _ from ⟨rfl, ⟨rfl, ⟨rfl, ⟨rfl, ⟨rfl, trivial⟩⟩⟩⟩⟩) vc
theorem oe_u53 : oe_c53.all (fun q => decide (oe_find oe_c53 q.1 = some q.2)) = true := by decide +kernel
theorem oe_t53 (k : Nat) {q : Nat × Jvm.ClassFile.Instr × Nat} (h : oe_c53[k]? = some q) : oe_find (oe_code 53) q.1 = some q.2 := oe_ft oe_u53 h
theorem g53 {d : Nat} {sh : List (Nat × Nat)} {g : Nat → Nat → Option Nat} {h : Nat → Nat → Int} {Q : oeQ} {v0 : Nat} {v1 : Int} {v2 : Int}
    (vc : oe_V (oe_cost 53) 53 (oe_M (d + 1)) none Q 2 [some (.inr (.inl v0)), some (.inl v1), some (.inl v2), some (.inl 0), none, none, none, none] [] (sh, g, h) 0 0) :
    oe_M (d + 2) 53 [.inr (.inl v0), .inl v1, .inl v2] (sh, g, h) Q := by
  refine oe_M.of (by simp [oe_c1]) (Nat.le_of_ble_eq_true rfl) ?_
  show oe_V (oe_cost 53) 53 (oe_M (d + 1)) none Q 0 [some (.inr (.inl v0)), some (.inl v1), some (.inl v2), none, none, none, none, none] [] (sh, g, h) 0 0
  refine s_iconst (oe_t53 0 (q := (0, .iconst 0, 1)) rfl) ?_
  refine s_istore_n (oe_t53 1 (q := (1, .istore_n 3, 1)) rfl) ?_
  exact oe_V.fg (oe_M_mono _) (show oe_fg [some (.inr (.inl v0)), some (.inl v1), some (.inl v2), some (.inl 0), none, none, none, none] _ from ⟨rfl, ⟨rfl, ⟨rfl, ⟨rfl, trivial⟩⟩⟩⟩) vc
theorem g53_2 {d : Nat} {sh : List (Nat × Nat)} {g : Nat → Nat → Option Nat} {h : Nat → Nat → Int} {Q : oeQ} {v0 : Nat} {v1 : Int} {v2 : Int} {v3 : Int}
    (vc : (12 ≤ v3 → oe_V (oe_cost 53) 53 (oe_M (d + 1)) none Q 26 [some (.inr (.inl v0)), some (.inl v1), some (.inl v2), some (.inl 0), some (.inl 0), none, none, none] [] (sh, g, h) 0 0) ∧ (v3 < 12 → sh[v0]? = some (12, 45) ∧ ∃ q3, g v0 20 = some q3 ∧ ∃ n6, sh[q3]? = some (0, n6) ∧ 0 ≤ v3 ∧ v3 < (n6 : Nat) ∧ ∀ h9, h9 = oe_up h q3 (v3 : Int).toNat (-1) → oe_rg (v3 + 1) ∧ oe_V (oe_cost 53) 53 (oe_M (d + 1)) none Q 2 [some (.inr (.inl v0)), some (.inl v1), some (.inl v2), some (.inl (v3 + 1)), none, none, none, none] [] (sh, g, h9) 0 0)) :
    oe_V (oe_cost 53) 53 (oe_M (d + 1)) none Q 2 [some (.inr (.inl v0)), some (.inl v1), some (.inl v2), some (.inl v3), none, none, none, none] [] (sh, g, h) 0 0 := by
  refine s_iload_n (oe_t53 2 (q := (2, .iload_n 3, 1)) rfl) rfl ?_
  refine s_bipush (oe_t53 3 (q := (3, .bipush 12, 2)) rfl) ?_
  refine s_ic_ge (oe_t53 4 (q := (5, .if_icmp .ge 21, 3)) rfl) (fun c1 => ?_) (fun c1 => ?_)
  · replace vc := vc.1 c1
    refine s_iconst (oe_t53 12 (q := (21, .iconst 0, 1)) rfl) ?_
    refine s_istore_n (oe_t53 13 (q := (22, .istore_n 3, 1)) rfl) ?_
    refine s_iconst (oe_t53 14 (q := (23, .iconst 0, 1)) rfl) ?_
    refine s_istore (oe_t53 15 (q := (24, .istore 4, 2)) rfl) ?_
    exact oe_V.fg (oe_M_mono _) (show oe_fg [some (.inr (.inl v0)), some (.inl v1), some (.inl v2), some (.inl 0), some (.inl 0), none, none, none] _ from ⟨rfl, ⟨rfl, ⟨rfl, ⟨rfl, ⟨rfl, trivial⟩⟩⟩⟩⟩) vc
  · replace vc := vc.2 c1
    refine s_aload_n (oe_t53 5 (q := (8, .aload_n 0, 1)) rfl) rfl ?_
    obtain ⟨s2, vc⟩ := vc
    obtain ⟨q3, p4, vc⟩ := vc
    refine s_getr (oe_t53 6 (q := (9, .getfield 7201, 3)) rfl) s2 rfl rfl p4 ?_
    refine s_iload_n (oe_t53 7 (q := (12, .iload_n 3, 1)) rfl) rfl ?_
    refine s_iconst (oe_t53 8 (q := (13, .iconst (-1), 1)) rfl) ?_
    obtain ⟨n6, s5, vc⟩ := vc
    obtain ⟨i7, i8, vc⟩ := vc
    refine t_iastore (oe_t53 9 (q := (14, .iastore, 1)) rfl) s5 i7 i8 (fun h9 e10 => ?_)
    replace vc := vc h9 e10
    obtain ⟨r11, vc⟩ := vc
    refine s_iinc (oe_t53 10 (q := (15, .iinc 3 1, 3)) rfl) rfl r11 ?_
    refine s_goto (oe_t53 11 (q := (18, .goto 2, 3)) rfl) ?_
    exact oe_V.fg (oe_M_mono _) (show oe_fg [some (.inr (.inl v0)), some (.inl v1), some (.inl v2), some (.inl (v3 + 1)), none, none, none, none] _ from ⟨rfl, ⟨rfl, ⟨rfl, ⟨rfl, trivial⟩⟩⟩⟩) vc
theorem g53_26 {d : Nat} {sh : List (Nat × Nat)} {g : Nat → Nat → Option Nat} {h : Nat → Nat → Int} {Q : oeQ} {v0 : Nat} {v1 : Int} {v2 : Int} {v3 : Int} {v4 : Int}
    (vc : (2 ≤ v4 → Q (some (.inl v3)) (sh, g, h)) ∧ (v4 < 2 → (v4 ≠ 0 → sh[v0]? = some (12, 45) ∧ ∃ q15, g v0 19 = some q15 ∧ oe_rg (4 + v4) ∧ ∃ n19, sh[q15]? = some (0, n19) ∧ 0 ≤ v2 ∧ v2 < (n19 : Nat) ∧ 0 ≤ (4 + v4) ∧ (4 + v4) < (n19 : Nat) ∧ ∀ h24, h24 = oe_up h q15 ((4 + v4) : Int).toNat (h q15 (v2 : Int).toNat) → oe_V (oe_cost 53) 53 (oe_M (d + 1)) none Q 63 [some (.inr (.inl v0)), some (.inl v1), some (.inl v2), some (.inl v3), some (.inl v4), some (.inl v2), some (.inl 0), none] [] (sh, g, h24) 0 0) ∧ (v4 = 0 → sh[v0]? = some (12, 45) ∧ ∃ q27, g v0 19 = some q27 ∧ oe_rg (4 + v4) ∧ ∃ n31, sh[q27]? = some (0, n31) ∧ 0 ≤ v1 ∧ v1 < (n31 : Nat) ∧ 0 ≤ (4 + v4) ∧ (4 + v4) < (n31 : Nat) ∧ ∀ h36, h36 = oe_up h q27 ((4 + v4) : Int).toNat (h q27 (v1 : Int).toNat) → oe_V (oe_cost 53) 53 (oe_M (d + 1)) none Q 63 [some (.inr (.inl v0)), some (.inl v1), some (.inl v2), some (.inl v3), some (.inl v4), some (.inl v1), some (.inl 0), none] [] (sh, g, h36) 0 0))) :
    oe_V (oe_cost 53) 53 (oe_M (d + 1)) none Q 26 [some (.inr (.inl v0)), some (.inl v1), some (.inl v2), some (.inl v3), some (.inl v4), none, none, none] [] (sh, g, h) 0 0 := by
  refine s_iload (oe_t53 16 (q := (26, .iload 4, 2)) rfl) rfl ?_
  refine s_iconst (oe_t53 17 (q := (28, .iconst 2, 1)) rfl) ?_
  refine s_ic_ge (oe_t53 18 (q := (29, .if_icmp .ge 159, 3)) rfl) (fun c12 => ?_) (fun c12 => ?_)
  · replace vc := vc.1 c12
    refine s_iload_n (oe_t53 86 (q := (159, .iload_n 3, 1)) rfl) rfl ?_
    exact s_iret (oe_t53 87 (q := (160, .ireturn, 1)) rfl) (Or.inl rfl) vc
  · replace vc := vc.2 c12
    refine s_iload (oe_t53 19 (q := (32, .iload 4, 2)) rfl) rfl ?_
    refine s_if_ne (oe_t53 20 (q := (34, .ifCond .ne 41, 3)) rfl) (fun c13 => ?_) (fun c13 => ?_)
    · replace vc := vc.1 c13
      refine s_iload_n (oe_t53 23 (q := (41, .iload_n 2, 1)) rfl) rfl ?_
      refine s_istore (oe_t53 24 (q := (42, .istore 5, 2)) rfl) ?_
      refine s_aload_n (oe_t53 25 (q := (44, .aload_n 0, 1)) rfl) rfl ?_
      obtain ⟨s14, vc⟩ := vc
      obtain ⟨q15, p16, vc⟩ := vc
      refine s_getr (oe_t53 26 (q := (45, .getfield 7191, 3)) rfl) s14 rfl rfl p16 ?_
      refine s_iconst (oe_t53 27 (q := (48, .iconst 4, 1)) rfl) ?_
      refine s_iload (oe_t53 28 (q := (49, .iload 4, 2)) rfl) rfl ?_
      obtain ⟨r17, vc⟩ := vc
      refine s_iadd (oe_t53 29 (q := (51, .iadd, 1)) rfl) r17 ?_
      refine s_aload_n (oe_t53 30 (q := (52, .aload_n 0, 1)) rfl) rfl ?_
      refine s_getr (oe_t53 31 (q := (53, .getfield 7191, 3)) rfl) s14 rfl rfl p16 ?_
      refine s_iload (oe_t53 32 (q := (56, .iload 5, 2)) rfl) rfl ?_
      obtain ⟨n19, s18, vc⟩ := vc
      obtain ⟨i20, i21, vc⟩ := vc
      refine s_iaload (oe_t53 33 (q := (58, .iaload, 1)) rfl) s18 i20 i21 ?_
      obtain ⟨i22, i23, vc⟩ := vc
      refine t_iastore (oe_t53 34 (q := (59, .iastore, 1)) rfl) s18 i22 i23 (fun h24 e25 => ?_)
      replace vc := vc h24 e25
      refine s_iconst (oe_t53 35 (q := (60, .iconst 0, 1)) rfl) ?_
      refine s_istore (oe_t53 36 (q := (61, .istore 6, 2)) rfl) ?_
      exact oe_V.fg (oe_M_mono _) (show oe_fg [some (.inr (.inl v0)), some (.inl v1), some (.inl v2), some (.inl v3), some (.inl v4), some (.inl v2), some (.inl 0), none] _ from ⟨rfl, ⟨rfl, ⟨rfl, ⟨rfl, ⟨rfl, ⟨rfl, ⟨rfl, trivial⟩⟩⟩⟩⟩⟩⟩) vc
    · replace vc := vc.2 c13
      refine s_iload_n (oe_t53 21 (q := (37, .iload_n 1, 1)) rfl) rfl ?_
      refine s_goto (oe_t53 22 (q := (38, .goto 42, 3)) rfl) ?_
      refine s_istore (oe_t53 24 (q := (42, .istore 5, 2)) rfl) ?_
      refine s_aload_n (oe_t53 25 (q := (44, .aload_n 0, 1)) rfl) rfl ?_
      obtain ⟨s26, vc⟩ := vc
      obtain ⟨q27, p28, vc⟩ := vc
      refine s_getr (oe_t53 26 (q := (45, .getfield 7191, 3)) rfl) s26 rfl rfl p28 ?_
      refine s_iconst (oe_t53 27 (q := (48, .iconst 4, 1)) rfl) ?_
      refine s_iload (oe_t53 28 (q := (49, .iload 4, 2)) rfl) rfl ?_
      obtain ⟨r29, vc⟩ := vc
      refine s_iadd (oe_t53 29 (q := (51, .iadd, 1)) rfl) r29 ?_
      refine s_aload_n (oe_t53 30 (q := (52, .aload_n 0, 1)) rfl) rfl ?_
      refine s_getr (oe_t53 31 (q := (53, .getfield 7191, 3)) rfl) s26 rfl rfl p28 ?_
      refine s_iload (oe_t53 32 (q := (56, .iload 5, 2)) rfl) rfl ?_
      obtain ⟨n31, s30, vc⟩ := vc
      obtain ⟨i32, i33, vc⟩ := vc
      refine s_iaload (oe_t53 33 (q := (58, .iaload, 1)) rfl) s30 i32 i33 ?_
      obtain ⟨i34, i35, vc⟩ := vc
      refine t_iastore (oe_t53 34 (q := (59, .iastore, 1)) rfl) s30 i34 i35 (fun h36 e37 => ?_)
      replace vc := vc h36 e37
      refine s_iconst (oe_t53 35 (q := (60, .iconst 0, 1)) rfl) ?_
      refine s_istore (oe_t53 36 (q := (61, .istore 6, 2)) rfl) ?_
      exact oe_V.fg (oe_M_mono _) (show oe_fg [some (.inr (.inl v0)), some (.inl v1), some (.inl v2), some (.inl v3), some (.inl v4), some (.inl v1), some (.inl 0), none] _ from ⟨rfl, ⟨rfl, ⟨rfl, ⟨rfl, ⟨rfl, ⟨rfl, ⟨rfl, trivial⟩⟩⟩⟩⟩⟩⟩) vc
theorem g53_63 {d : Nat} {sh : List (Nat × Nat)} {g : Nat → Nat → Option Nat} {h : Nat → Nat → Int} {Q : oeQ} {v0 : Nat} {v1 : Int} {v2 : Int} {v3 : Int} {v4 : Int} {v5 : Int} {v6 : Int}
    (vc : sh[v0]? = some (12, 45) ∧ ∃ q39, g v0 19 = some q39 ∧ ∃ n42, sh[q39]? = some (0, n42) ∧ 0 ≤ v5 ∧ v5 < (n42 : Nat) ∧ ((h q39 (v5 : Int).toNat) ≤ v6 → oe_rg (v4 + 1) ∧ oe_V (oe_cost 53) 53 (oe_M (d + 1)) none Q 26 [some (.inr (.inl v0)), some (.inl v1), some (.inl v2), some (.inl v3), some (.inl (v4 + 1)), none, none, none] [] (sh, g, h) 0 0) ∧ (v6 < (h q39 (v5 : Int).toNat) → ∃ q47, g v0 18 = some q47 ∧ oe_rg (40 * v5) ∧ oe_rg ((40 * v5) + v6) ∧ ∃ n52, sh[q47]? = some (0, n52) ∧ 0 ≤ ((40 * v5) + v6) ∧ ((40 * v5) + v6) < (n52 : Nat) ∧ ((h q47 (((40 * v5) + v6) : Int).toNat) < 20 → ∃ q56, g v0 20 = some q56 ∧ ∃ n59, sh[q56]? = some (0, n59) ∧ 0 ≤ (h q47 (((40 * v5) + v6) : Int).toNat) ∧ (h q47 (((40 * v5) + v6) : Int).toNat) < (n59 : Nat) ∧ (0 ≤ (h q56 ((h q47 (((40 * v5) + v6) : Int).toNat) : Int).toNat) → 0 ≤ (h q47 (((40 * v5) + v6) : Int).toNat) ∧ (h q47 (((40 * v5) + v6) : Int).toNat) < (n59 : Nat) ∧ oe_rg (40 * v4) ∧ oe_rg (160 + (40 * v4)) ∧ oe_rg ((160 + (40 * v4)) + v6) ∧ 0 ≤ ((160 + (40 * v4)) + v6) ∧ ((160 + (40 * v4)) + v6) < (n52 : Nat) ∧ ∀ h70, h70 = oe_up h q47 (((160 + (40 * v4)) + v6) : Int).toNat (h q56 ((h q47 (((40 * v5) + v6) : Int).toNat) : Int).toNat) → oe_rg (v6 + 1) ∧ oe_V (oe_cost 53) 53 (oe_M (d + 1)) none Q 63 [some (.inr (.inl v0)), some (.inl v1), some (.inl v2), some (.inl v3), some (.inl v4), some (.inl v5), some (.inl (v6 + 1)), none] [] (sh, g, h70) 0 0) ∧ ((h q56 ((h q47 (((40 * v5) + v6) : Int).toNat) : Int).toNat) < 0 → 0 ≤ (h q47 (((40 * v5) + v6) : Int).toNat) ∧ (h q47 (((40 * v5) + v6) : Int).toNat) < (n59 : Nat) ∧ ∀ h75, h75 = oe_up h q56 ((h q47 (((40 * v5) + v6) : Int).toNat) : Int).toNat v3 → oe_rg (v3 + 1) ∧ 0 ≤ (h q47 (((40 * v5) + v6) : Int).toNat) ∧ (h q47 (((40 * v5) + v6) : Int).toNat) < (n59 : Nat) ∧ oe_rg (40 * v4) ∧ oe_rg (160 + (40 * v4)) ∧ oe_rg ((160 + (40 * v4)) + v6) ∧ 0 ≤ ((160 + (40 * v4)) + v6) ∧ ((160 + (40 * v4)) + v6) < (n52 : Nat) ∧ ∀ h85, h85 = oe_up h75 q47 (((160 + (40 * v4)) + v6) : Int).toNat (h75 q56 ((h q47 (((40 * v5) + v6) : Int).toNat) : Int).toNat) → oe_rg (v6 + 1) ∧ oe_V (oe_cost 53) 53 (oe_M (d + 1)) none Q 63 [some (.inr (.inl v0)), some (.inl v1), some (.inl v2), some (.inl (v3 + 1)), some (.inl v4), some (.inl v5), some (.inl (v6 + 1)), none] [] (sh, g, h85) 0 0)) ∧ (20 ≤ (h q47 (((40 * v5) + v6) : Int).toNat) → oe_rg (40 * v4) ∧ oe_rg (160 + (40 * v4)) ∧ oe_rg ((160 + (40 * v4)) + v6) ∧ 0 ≤ ((160 + (40 * v4)) + v6) ∧ ((160 + (40 * v4)) + v6) < (n52 : Nat) ∧ ∀ h93, h93 = oe_up h q47 (((160 + (40 * v4)) + v6) : Int).toNat (h q47 (((40 * v5) + v6) : Int).toNat) → oe_rg (v6 + 1) ∧ oe_V (oe_cost 53) 53 (oe_M (d + 1)) none Q 63 [some (.inr (.inl v0)), some (.inl v1), some (.inl v2), some (.inl v3), some (.inl v4), some (.inl v5), some (.inl (v6 + 1)), none] [] (sh, g, h93) 0 0))) :
    oe_V (oe_cost 53) 53 (oe_M (d + 1)) none Q 63 [some (.inr (.inl v0)), some (.inl v1), some (.inl v2), some (.inl v3), some (.inl v4), some (.inl v5), some (.inl v6), none] [] (sh, g, h) 0 0 := by
  refine s_iload (oe_t53 37 (q := (63, .iload 6, 2)) rfl) rfl ?_
  refine s_aload_n (oe_t53 38 (q := (65, .aload_n 0, 1)) rfl) rfl ?_
  obtain ⟨s38, vc⟩ := vc
  obtain ⟨q39, p40, vc⟩ := vc
  refine s_getr (oe_t53 39 (q := (66, .getfield 7191, 3)) rfl) s38 rfl rfl p40 ?_
  refine s_iload (oe_t53 40 (q := (69, .iload 5, 2)) rfl) rfl ?_
  obtain ⟨n42, s41, vc⟩ := vc
  obtain ⟨i43, i44, vc⟩ := vc
  refine s_iaload (oe_t53 41 (q := (71, .iaload, 1)) rfl) s41 i43 i44 ?_
  refine s_ic_ge (oe_t53 42 (q := (72, .if_icmp .ge 153, 3)) rfl) (fun c45 => ?_) (fun c45 => ?_)
  · replace vc := vc.1 c45
    obtain ⟨r46, vc⟩ := vc
    refine s_iinc (oe_t53 84 (q := (153, .iinc 4 1, 3)) rfl) rfl r46 ?_
    refine s_goto (oe_t53 85 (q := (156, .goto 26, 3)) rfl) ?_
    exact oe_V.fg (oe_M_mono _) (show oe_fg [some (.inr (.inl v0)), some (.inl v1), some (.inl v2), some (.inl v3), some (.inl (v4 + 1)), none, none, none] _ from ⟨rfl, ⟨rfl, ⟨rfl, ⟨rfl, ⟨rfl, trivial⟩⟩⟩⟩⟩) vc
  · replace vc := vc.2 c45
    refine s_aload_n (oe_t53 43 (q := (75, .aload_n 0, 1)) rfl) rfl ?_
    obtain ⟨q47, p48, vc⟩ := vc
    refine s_getr (oe_t53 44 (q := (76, .getfield 7181, 3)) rfl) s38 rfl rfl p48 ?_
    refine s_bipush (oe_t53 45 (q := (79, .bipush 40, 2)) rfl) ?_
    refine s_iload (oe_t53 46 (q := (81, .iload 5, 2)) rfl) rfl ?_
    obtain ⟨r49, vc⟩ := vc
    refine s_imul (oe_t53 47 (q := (83, .imul, 1)) rfl) r49 ?_
    refine s_iload (oe_t53 48 (q := (84, .iload 6, 2)) rfl) rfl ?_
    obtain ⟨r50, vc⟩ := vc
    refine s_iadd (oe_t53 49 (q := (86, .iadd, 1)) rfl) r50 ?_
    obtain ⟨n52, s51, vc⟩ := vc
    obtain ⟨i53, i54, vc⟩ := vc
    refine s_iaload (oe_t53 50 (q := (87, .iaload, 1)) rfl) s51 i53 i54 ?_
    refine s_istore (oe_t53 51 (q := (88, .istore 7, 2)) rfl) ?_
    refine s_iload (oe_t53 52 (q := (90, .iload 7, 2)) rfl) rfl ?_
    refine s_calls (oe_t53 53 (q := (92, .invokestatic 35071, 3)) rfl) (by decide) (Nat.le_of_ble_eq_true rfl) (Nat.le_of_ble_eq_true rfl) (Nat.le_of_ble_eq_true rfl) (Nat.le_of_ble_eq_true rfl) (sp_35 (fun c55 => ?_) (fun c55 => ?_))
    · replace vc := vc.1 c55
      show oe_V (oe_cost 53) 53 (oe_M (d + 1)) none Q 95 [some (.inr (.inl v0)), some (.inl v1), some (.inl v2), some (.inl v3), some (.inl v4), some (.inl v5), some (.inl v6), some (.inl (h q47 (((40 * v5) + v6) : Int).toNat))] [.inl 1] (sh, g, h) 0 0
      refine s_if_eq (oe_t53 54 (q := (95, .ifCond .eq 128, 3)) rfl) (fun q => absurd q (by decide)) (fun _ => ?_)
      refine s_aload_n (oe_t53 55 (q := (98, .aload_n 0, 1)) rfl) rfl ?_
      obtain ⟨q56, p57, vc⟩ := vc
      refine s_getr (oe_t53 56 (q := (99, .getfield 7201, 3)) rfl) s38 rfl rfl p57 ?_
      refine s_iload (oe_t53 57 (q := (102, .iload 7, 2)) rfl) rfl ?_
      obtain ⟨n59, s58, vc⟩ := vc
      obtain ⟨i60, i61, vc⟩ := vc
      refine s_iaload (oe_t53 58 (q := (104, .iaload, 1)) rfl) s58 i60 i61 ?_
      refine s_if_ge (oe_t53 59 (q := (105, .ifCond .ge 119, 3)) rfl) (fun c62 => ?_) (fun c62 => ?_)
      · replace vc := vc.1 c62
        refine s_aload_n (oe_t53 66 (q := (119, .aload_n 0, 1)) rfl) rfl ?_
        refine s_getr (oe_t53 67 (q := (120, .getfield 7201, 3)) rfl) s38 rfl rfl p57 ?_
        refine s_iload (oe_t53 68 (q := (123, .iload 7, 2)) rfl) rfl ?_
        obtain ⟨i63, i64, vc⟩ := vc
        refine s_iaload (oe_t53 69 (q := (125, .iaload, 1)) rfl) s58 i63 i64 ?_
        refine s_istore (oe_t53 70 (q := (126, .istore 7, 2)) rfl) ?_
        refine s_aload_n (oe_t53 71 (q := (128, .aload_n 0, 1)) rfl) rfl ?_
        refine s_getr (oe_t53 72 (q := (129, .getfield 7181, 3)) rfl) s38 rfl rfl p48 ?_
        refine s_sipush (oe_t53 73 (q := (132, .sipush 160, 3)) rfl) ?_
        refine s_bipush (oe_t53 74 (q := (135, .bipush 40, 2)) rfl) ?_
        refine s_iload (oe_t53 75 (q := (137, .iload 4, 2)) rfl) rfl ?_
        obtain ⟨r65, vc⟩ := vc
        refine s_imul (oe_t53 76 (q := (139, .imul, 1)) rfl) r65 ?_
        obtain ⟨r66, vc⟩ := vc
        refine s_iadd (oe_t53 77 (q := (140, .iadd, 1)) rfl) r66 ?_
        refine s_iload (oe_t53 78 (q := (141, .iload 6, 2)) rfl) rfl ?_
        obtain ⟨r67, vc⟩ := vc
        refine s_iadd (oe_t53 79 (q := (143, .iadd, 1)) rfl) r67 ?_
        refine s_iload (oe_t53 80 (q := (144, .iload 7, 2)) rfl) rfl ?_
        obtain ⟨i68, i69, vc⟩ := vc
        refine t_iastore (oe_t53 81 (q := (146, .iastore, 1)) rfl) s51 i68 i69 (fun h70 e71 => ?_)
        replace vc := vc h70 e71
        obtain ⟨r72, vc⟩ := vc
        refine s_iinc (oe_t53 82 (q := (147, .iinc 6 1, 3)) rfl) rfl r72 ?_
        refine s_goto (oe_t53 83 (q := (150, .goto 63, 3)) rfl) ?_
        exact oe_V.fg (oe_M_mono _) (show oe_fg [some (.inr (.inl v0)), some (.inl v1), some (.inl v2), some (.inl v3), some (.inl v4), some (.inl v5), some (.inl (v6 + 1)), none] _ from ⟨rfl, ⟨rfl, ⟨rfl, ⟨rfl, ⟨rfl, ⟨rfl, ⟨rfl, trivial⟩⟩⟩⟩⟩⟩⟩) vc
      · replace vc := vc.2 c62
        refine s_aload_n (oe_t53 60 (q := (108, .aload_n 0, 1)) rfl) rfl ?_
        refine s_getr (oe_t53 61 (q := (109, .getfield 7201, 3)) rfl) s38 rfl rfl p57 ?_
        refine s_iload (oe_t53 62 (q := (112, .iload 7, 2)) rfl) rfl ?_
        refine s_iload_n (oe_t53 63 (q := (114, .iload_n 3, 1)) rfl) rfl ?_
        obtain ⟨i73, i74, vc⟩ := vc
        refine t_iastore (oe_t53 64 (q := (115, .iastore, 1)) rfl) s58 i73 i74 (fun h75 e76 => ?_)
        replace vc := vc h75 e76
        obtain ⟨r77, vc⟩ := vc
        refine s_iinc (oe_t53 65 (q := (116, .iinc 3 1, 3)) rfl) rfl r77 ?_
        refine s_aload_n (oe_t53 66 (q := (119, .aload_n 0, 1)) rfl) rfl ?_
        refine s_getr (oe_t53 67 (q := (120, .getfield 7201, 3)) rfl) s38 rfl rfl p57 ?_
        refine s_iload (oe_t53 68 (q := (123, .iload 7, 2)) rfl) rfl ?_
        obtain ⟨i78, i79, vc⟩ := vc
        refine s_iaload (oe_t53 69 (q := (125, .iaload, 1)) rfl) s58 i78 i79 ?_
        refine s_istore (oe_t53 70 (q := (126, .istore 7, 2)) rfl) ?_
        refine s_aload_n (oe_t53 71 (q := (128, .aload_n 0, 1)) rfl) rfl ?_
        refine s_getr (oe_t53 72 (q := (129, .getfield 7181, 3)) rfl) s38 rfl rfl p48 ?_
        refine s_sipush (oe_t53 73 (q := (132, .sipush 160, 3)) rfl) ?_
        refine s_bipush (oe_t53 74 (q := (135, .bipush 40, 2)) rfl) ?_
        refine s_iload (oe_t53 75 (q := (137, .iload 4, 2)) rfl) rfl ?_
        obtain ⟨r80, vc⟩ := vc
        refine s_imul (oe_t53 76 (q := (139, .imul, 1)) rfl) r80 ?_
        obtain ⟨r81, vc⟩ := vc
        refine s_iadd (oe_t53 77 (q := (140, .iadd, 1)) rfl) r81 ?_
        refine s_iload (oe_t53 78 (q := (141, .iload 6, 2)) rfl) rfl ?_
        obtain ⟨r82, vc⟩ := vc
        refine s_iadd (oe_t53 79 (q := (143, .iadd, 1)) rfl) r82 ?_
        refine s_iload (oe_t53 80 (q := (144, .iload 7, 2)) rfl) rfl ?_
        obtain ⟨i83, i84, vc⟩ := vc
        refine t_iastore (oe_t53 81 (q := (146, .iastore, 1)) rfl) s51 i83 i84 (fun h85 e86 => ?_)
        replace vc := vc h85 e86
        obtain ⟨r87, vc⟩ := vc
        refine s_iinc (oe_t53 82 (q := (147, .iinc 6 1, 3)) rfl) rfl r87 ?_
        refine s_goto (oe_t53 83 (q := (150, .goto 63, 3)) rfl) ?_
        exact oe_V.fg (oe_M_mono _) (show oe_fg [some (.inr (.inl v0)), some (.inl v1), some (.inl v2), some (.inl (v3 + 1)), some (.inl v4), some (.inl v5), some (.inl (v6 + 1)), none] _ from ⟨rfl, ⟨rfl, ⟨rfl, ⟨rfl, ⟨rfl, ⟨rfl, ⟨rfl, trivial⟩⟩⟩⟩⟩⟩⟩) vc
    · replace vc := vc.2 c55
      show oe_V (oe_cost 53) 53 (oe_M (d + 1)) none Q 95 [some (.inr (.inl v0)), some (.inl v1), some (.inl v2), some (.inl v3), some (.inl v4), some (.inl v5), some (.inl v6), some (.inl (h q47 (((40 * v5) + v6) : Int).toNat))] [.inl 0] (sh, g, h) 0 0
      refine s_if_eq (oe_t53 54 (q := (95, .ifCond .eq 128, 3)) rfl) (fun _ => ?_) (fun q => absurd q (by decide))
      refine s_aload_n (oe_t53 71 (q := (128, .aload_n 0, 1)) rfl) rfl ?_
      refine s_getr (oe_t53 72 (q := (129, .getfield 7181, 3)) rfl) s38 rfl rfl p48 ?_
      refine s_sipush (oe_t53 73 (q := (132, .sipush 160, 3)) rfl) ?_
      refine s_bipush (oe_t53 74 (q := (135, .bipush 40, 2)) rfl) ?_
      refine s_iload (oe_t53 75 (q := (137, .iload 4, 2)) rfl) rfl ?_
      obtain ⟨r88, vc⟩ := vc
      refine s_imul (oe_t53 76 (q := (139, .imul, 1)) rfl) r88 ?_
      obtain ⟨r89, vc⟩ := vc
      refine s_iadd (oe_t53 77 (q := (140, .iadd, 1)) rfl) r89 ?_
      refine s_iload (oe_t53 78 (q := (141, .iload 6, 2)) rfl) rfl ?_
      obtain ⟨r90, vc⟩ := vc
      refine s_iadd (oe_t53 79 (q := (143, .iadd, 1)) rfl) r90 ?_
      refine s_iload (oe_t53 80 (q := (144, .iload 7, 2)) rfl) rfl ?_
      obtain ⟨i91, i92, vc⟩ := vc
      refine t_iastore (oe_t53 81 (q := (146, .iastore, 1)) rfl) s51 i91 i92 (fun h93 e94 => ?_)
      replace vc := vc h93 e94
      obtain ⟨r95, vc⟩ := vc
      refine s_iinc (oe_t53 82 (q := (147, .iinc 6 1, 3)) rfl) rfl r95 ?_
      refine s_goto (oe_t53 83 (q := (150, .goto 63, 3)) rfl) ?_
      exact oe_V.fg (oe_M_mono _) (show oe_fg [some (.inr (.inl v0)), some (.inl v1), some (.inl v2), some (.inl v3), some (.inl v4), some (.inl v5), some (.inl (v6 + 1)), none] _ from ⟨rfl, ⟨rfl, ⟨rfl, ⟨rfl, ⟨rfl, ⟨rfl, ⟨rfl, trivial⟩⟩⟩⟩⟩⟩⟩) vc
theorem oe_u54 : oe_c54.all (fun q => decide (oe_find oe_c54 q.1 = some q.2)) = true := by decide +kernel
theorem oe_t54 (k : Nat) {q : Nat × Jvm.ClassFile.Instr × Nat} (h : oe_c54[k]? = some q) : oe_find (oe_code 54) q.1 = some q.2 := oe_ft oe_u54 h
theorem g54 {d : Nat} {sh : List (Nat × Nat)} {g : Nat → Nat → Option Nat} {h : Nat → Nat → Int} {Q : oeQ} {v0 : Nat}
    (vc : sh[v0]? = some (12, 45) ∧ oe_M (d + 1) 53 [.inr (.inl v0), .inl 2, .inl 3] (sh, g, h) (fun r hp => ∃ (x2 : Int) (h1 : Nat → Nat → Int), r = some (.inl x2) ∧ hp = (sh, g, h1) ∧ oe_V (oe_cost 54) 54 (oe_M (d + 1)) none Q 9 [some (.inr (.inl v0)), some (.inl x2), some (.inl 0)] [] (sh, g, h1) 0 0)) :
    oe_M (d + 2) 54 [.inr (.inl v0)] (sh, g, h) Q := by
  refine oe_M.of (by simp [oe_c1]) (Nat.le_of_ble_eq_true rfl) ?_
  show oe_V (oe_cost 54) 54 (oe_M (d + 1)) none Q 0 [some (.inr (.inl v0)), none, none] [] (sh, g, h) 0 0
  refine s_aload_n (oe_t54 0 (q := (0, .aload_n 0, 1)) rfl) rfl ?_
  refine s_iconst (oe_t54 1 (q := (1, .iconst 2, 1)) rfl) ?_
  refine s_iconst (oe_t54 2 (q := (2, .iconst 3, 1)) rfl) ?_
  obtain ⟨s3, vc⟩ := vc
  refine s_callv (oe_t54 3 (q := (3, .invokevirtual 53072, 3)) rfl) rfl s3 rfl (Nat.le_of_ble_eq_true rfl) (Nat.le_of_ble_eq_true rfl) (Nat.le_of_ble_eq_true rfl) (Nat.le_of_ble_eq_true rfl) ?_
  refine oe_M_mono _ _ _ _ _ _ (fun r hp vq => ?_) vc
  obtain ⟨x2, h1, rfl, rfl, vc⟩ := vq
  show oe_V (oe_cost 54) 54 (oe_M (d + 1)) none Q 6 [some (.inr (.inl v0)), none, none] [.inl x2] (sh, g, h1) 0 0
  refine s_istore_n (oe_t54 4 (q := (6, .istore_n 1, 1)) rfl) ?_
  refine s_iconst (oe_t54 5 (q := (7, .iconst 0, 1)) rfl) ?_
  refine s_istore_n (oe_t54 6 (q := (8, .istore_n 2, 1)) rfl) ?_
  exact oe_V.fg (oe_M_mono _) (show oe_fg [some (.inr (.inl v0)), some (.inl x2), some (.inl 0)] _ from ⟨rfl, ⟨rfl, ⟨rfl, trivial⟩⟩⟩) vc
theorem g54_9 {d : Nat} {sh : List (Nat × Nat)} {g : Nat → Nat → Option Nat} {h : Nat → Nat → Int} {Q : oeQ} {v0 : Nat} {v1 : Int} {v2 : Int}
    (vc : (40 ≤ v2 → Q (some (.inl v1)) (sh, g, h)) ∧ (v2 < 40 → sh[v0]? = some (12, 45) ∧ ∃ q6, g v0 18 = some q6 ∧ oe_rg (80 + v2) ∧ oe_rg (160 + v2) ∧ ∃ n11, sh[q6]? = some (0, n11) ∧ 0 ≤ (160 + v2) ∧ (160 + v2) < (n11 : Nat) ∧ 0 ≤ (80 + v2) ∧ (80 + v2) < (n11 : Nat) ∧ ∀ h16, h16 = oe_up h q6 ((80 + v2) : Int).toNat (h q6 ((160 + v2) : Int).toNat) → oe_rg (120 + v2) ∧ oe_rg (200 + v2) ∧ 0 ≤ (200 + v2) ∧ (200 + v2) < (n11 : Nat) ∧ 0 ≤ (120 + v2) ∧ (120 + v2) < (n11 : Nat) ∧ ∀ h24, h24 = oe_up h16 q6 ((120 + v2) : Int).toNat (h16 q6 ((200 + v2) : Int).toNat) → oe_rg (v2 + 1) ∧ oe_V (oe_cost 54) 54 (oe_M (d + 1)) none Q 9 [some (.inr (.inl v0)), some (.inl v1), some (.inl (v2 + 1))] [] (sh, g, h24) 0 0)) :
    oe_V (oe_cost 54) 54 (oe_M (d + 1)) none Q 9 [some (.inr (.inl v0)), some (.inl v1), some (.inl v2)] [] (sh, g, h) 0 0 := by
  refine s_iload_n (oe_t54 7 (q := (9, .iload_n 2, 1)) rfl) rfl ?_
  refine s_bipush (oe_t54 8 (q := (10, .bipush 40, 2)) rfl) ?_
  refine s_ic_ge (oe_t54 9 (q := (12, .if_icmp .ge 59, 3)) rfl) (fun c4 => ?_) (fun c4 => ?_)
  · replace vc := vc.1 c4
    refine s_iload_n (oe_t54 36 (q := (59, .iload_n 1, 1)) rfl) rfl ?_
    exact s_iret (oe_t54 37 (q := (60, .ireturn, 1)) rfl) (Or.inl rfl) vc
  · replace vc := vc.2 c4
    refine s_aload_n (oe_t54 10 (q := (15, .aload_n 0, 1)) rfl) rfl ?_
    obtain ⟨s5, vc⟩ := vc
    obtain ⟨q6, p7, vc⟩ := vc
    refine s_getr (oe_t54 11 (q := (16, .getfield 7181, 3)) rfl) s5 rfl rfl p7 ?_
    refine s_bipush (oe_t54 12 (q := (19, .bipush 80, 2)) rfl) ?_
    refine s_iload_n (oe_t54 13 (q := (21, .iload_n 2, 1)) rfl) rfl ?_
    obtain ⟨r8, vc⟩ := vc
    refine s_iadd (oe_t54 14 (q := (22, .iadd, 1)) rfl) r8 ?_
    refine s_aload_n (oe_t54 15 (q := (23, .aload_n 0, 1)) rfl) rfl ?_
    refine s_getr (oe_t54 16 (q := (24, .getfield 7181, 3)) rfl) s5 rfl rfl p7 ?_
    refine s_sipush (oe_t54 17 (q := (27, .sipush 160, 3)) rfl) ?_
    refine s_iload_n (oe_t54 18 (q := (30, .iload_n 2, 1)) rfl) rfl ?_
    obtain ⟨r9, vc⟩ := vc
    refine s_iadd (oe_t54 19 (q := (31, .iadd, 1)) rfl) r9 ?_
    obtain ⟨n11, s10, vc⟩ := vc
    obtain ⟨i12, i13, vc⟩ := vc
    refine s_iaload (oe_t54 20 (q := (32, .iaload, 1)) rfl) s10 i12 i13 ?_
    obtain ⟨i14, i15, vc⟩ := vc
    refine t_iastore (oe_t54 21 (q := (33, .iastore, 1)) rfl) s10 i14 i15 (fun h16 e17 => ?_)
    replace vc := vc h16 e17
    refine s_aload_n (oe_t54 22 (q := (34, .aload_n 0, 1)) rfl) rfl ?_
    refine s_getr (oe_t54 23 (q := (35, .getfield 7181, 3)) rfl) s5 rfl rfl p7 ?_
    refine s_bipush (oe_t54 24 (q := (38, .bipush 120, 2)) rfl) ?_
    refine s_iload_n (oe_t54 25 (q := (40, .iload_n 2, 1)) rfl) rfl ?_
    obtain ⟨r18, vc⟩ := vc
    refine s_iadd (oe_t54 26 (q := (41, .iadd, 1)) rfl) r18 ?_
    refine s_aload_n (oe_t54 27 (q := (42, .aload_n 0, 1)) rfl) rfl ?_
    refine s_getr (oe_t54 28 (q := (43, .getfield 7181, 3)) rfl) s5 rfl rfl p7 ?_
    refine s_sipush (oe_t54 29 (q := (46, .sipush 200, 3)) rfl) ?_
    refine s_iload_n (oe_t54 30 (q := (49, .iload_n 2, 1)) rfl) rfl ?_
    obtain ⟨r19, vc⟩ := vc
    refine s_iadd (oe_t54 31 (q := (50, .iadd, 1)) rfl) r19 ?_
    obtain ⟨i20, i21, vc⟩ := vc
    refine s_iaload (oe_t54 32 (q := (51, .iaload, 1)) rfl) s10 i20 i21 ?_
    obtain ⟨i22, i23, vc⟩ := vc
    refine t_iastore (oe_t54 33 (q := (52, .iastore, 1)) rfl) s10 i22 i23 (fun h24 e25 => ?_)
    replace vc := vc h24 e25
    obtain ⟨r26, vc⟩ := vc
    refine s_iinc (oe_t54 34 (q := (53, .iinc 2 1, 3)) rfl) rfl r26 ?_
    refine s_goto (oe_t54 35 (q := (56, .goto 9, 3)) rfl) ?_
    exact oe_V.fg (oe_M_mono _) (show oe_fg [some (.inr (.inl v0)), some (.inl v1), some (.inl (v2 + 1))] _ from ⟨rfl, ⟨rfl, ⟨rfl, trivial⟩⟩⟩) vc
theorem oe_u55 : oe_c55.all (fun q => decide (oe_find oe_c55 q.1 = some q.2)) = true := by decide +kernel
theorem oe_t55 (k : Nat) {q : Nat × Jvm.ClassFile.Instr × Nat} (h : oe_c55[k]? = some q) : oe_find (oe_code 55) q.1 = some q.2 := oe_ft oe_u55 h
theorem g55 {d : Nat} {sh : List (Nat × Nat)} {g : Nat → Nat → Option Nat} {h : Nat → Nat → Int} {Q : oeQ} {v0 : Nat} {v1 : Nat} {v2 : Int} {v3 : Int} {v4 : Int} {v5 : Int} {v6 : Int}
    (vc : sh[v0]? = some (12, 45) ∧ ∃ q2, g v0 19 = some q2 ∧ ∃ n5, sh[q2]? = some (0, n5) ∧ 0 ≤ v5 ∧ v5 < (n5 : Nat) ∧ ((h q2 (v5 : Int).toNat) ≠ v3 → oe_V (oe_cost 55) 55 (oe_M (d + 1)) none Q 41 [some (.inr (.inl v0)), some (.inr (.inl v1)), some (.inl v2), some (.inl v3), some (.inl v4), some (.inl v5), some (.inl v6), some (.inl 0), some (.inl 0)] [] (sh, g, h) 0 0) ∧ ((h q2 (v5 : Int).toNat) = v3 → 0 ≤ v5 ∧ v5 < (n5 : Nat) ∧ 0 ≤ v6 ∧ v6 < (n5 : Nat) ∧ oe_rg ((h q2 (v5 : Int).toNat) + (h q2 (v6 : Int).toNat)) ∧ (((h q2 (v5 : Int).toNat) + (h q2 (v6 : Int).toNat)) ≠ v4 → oe_V (oe_cost 55) 55 (oe_M (d + 1)) none Q 41 [some (.inr (.inl v0)), some (.inr (.inl v1)), some (.inl v2), some (.inl v3), some (.inl v4), some (.inl v5), some (.inl v6), some (.inl 0), some (.inl 0)] [] (sh, g, h) 0 0) ∧ (((h q2 (v5 : Int).toNat) + (h q2 (v6 : Int).toNat)) = v4 → oe_V (oe_cost 55) 55 (oe_M (d + 1)) none Q 41 [some (.inr (.inl v0)), some (.inr (.inl v1)), some (.inl v2), some (.inl v3), some (.inl v4), some (.inl v5), some (.inl v6), some (.inl 1), some (.inl 0)] [] (sh, g, h) 0 0))) :
    oe_M (d + 2) 55 [.inr (.inl v0), .inr (.inl v1), .inl v2, .inl v3, .inl v4, .inl v5, .inl v6] (sh, g, h) Q := by
  refine oe_M.of (by simp [oe_c1]) (Nat.le_of_ble_eq_true rfl) ?_
  show oe_V (oe_cost 55) 55 (oe_M (d + 1)) none Q 0 [some (.inr (.inl v0)), some (.inr (.inl v1)), some (.inl v2), some (.inl v3), some (.inl v4), some (.inl v5), some (.inl v6), none, none] [] (sh, g, h) 0 0
  refine s_aload_n (oe_t55 0 (q := (0, .aload_n 0, 1)) rfl) rfl ?_
  obtain ⟨s1, vc⟩ := vc
  obtain ⟨q2, p3, vc⟩ := vc
  refine s_getr (oe_t55 1 (q := (1, .getfield 7191, 3)) rfl) s1 rfl rfl p3 ?_
  refine s_iload (oe_t55 2 (q := (4, .iload 5, 2)) rfl) rfl ?_
  obtain ⟨n5, s4, vc⟩ := vc
  obtain ⟨i6, i7, vc⟩ := vc
  refine s_iaload (oe_t55 3 (q := (6, .iaload, 1)) rfl) s4 i6 i7 ?_
  refine s_iload_n (oe_t55 4 (q := (7, .iload_n 3, 1)) rfl) rfl ?_
  refine s_ic_ne (oe_t55 5 (q := (8, .if_icmp .ne 35, 3)) rfl) (fun c8 => ?_) (fun c8 => ?_)
  · replace vc := vc.1 c8
    refine s_iconst (oe_t55 19 (q := (35, .iconst 0, 1)) rfl) ?_
    refine s_istore (oe_t55 20 (q := (36, .istore 7, 2)) rfl) ?_
    refine s_iconst (oe_t55 21 (q := (38, .iconst 0, 1)) rfl) ?_
    refine s_istore (oe_t55 22 (q := (39, .istore 8, 2)) rfl) ?_
    exact oe_V.fg (oe_M_mono _) (show oe_fg [some (.inr (.inl v0)), some (.inr (.inl v1)), some (.inl v2), some (.inl v3), some (.inl v4), some (.inl v5), some (.inl v6), some (.inl 0), some (.inl 0)] _ from ⟨rfl, ⟨rfl, ⟨rfl, ⟨rfl, ⟨rfl, ⟨rfl, ⟨rfl, ⟨rfl, ⟨rfl, trivial⟩⟩⟩⟩⟩⟩⟩⟩⟩) vc
  · replace vc := vc.2 c8
    refine s_aload_n (oe_t55 6 (q := (11, .aload_n 0, 1)) rfl) rfl ?_
    refine s_getr (oe_t55 7 (q := (12, .getfield 7191, 3)) rfl) s1 rfl rfl p3 ?_
    refine s_iload (oe_t55 8 (q := (15, .iload 5, 2)) rfl) rfl ?_
    obtain ⟨i9, i10, vc⟩ := vc
    refine s_iaload (oe_t55 9 (q := (17, .iaload, 1)) rfl) s4 i9 i10 ?_
    refine s_aload_n (oe_t55 10 (q := (18, .aload_n 0, 1)) rfl) rfl ?_
    refine s_getr (oe_t55 11 (q := (19, .getfield 7191, 3)) rfl) s1 rfl rfl p3 ?_
    refine s_iload (oe_t55 12 (q := (22, .iload 6, 2)) rfl) rfl ?_
    obtain ⟨i11, i12, vc⟩ := vc
    refine s_iaload (oe_t55 13 (q := (24, .iaload, 1)) rfl) s4 i11 i12 ?_
    obtain ⟨r13, vc⟩ := vc
    refine s_iadd (oe_t55 14 (q := (25, .iadd, 1)) rfl) r13 ?_
    refine s_iload (oe_t55 15 (q := (26, .iload 4, 2)) rfl) rfl ?_
    refine s_ic_ne (oe_t55 16 (q := (28, .if_icmp .ne 35, 3)) rfl) (fun c14 => ?_) (fun c14 => ?_)
    · replace vc := vc.1 c14
      refine s_iconst (oe_t55 19 (q := (35, .iconst 0, 1)) rfl) ?_
      refine s_istore (oe_t55 20 (q := (36, .istore 7, 2)) rfl) ?_
      refine s_iconst (oe_t55 21 (q := (38, .iconst 0, 1)) rfl) ?_
      refine s_istore (oe_t55 22 (q := (39, .istore 8, 2)) rfl) ?_
      exact oe_V.fg (oe_M_mono _) (show oe_fg [some (.inr (.inl v0)), some (.inr (.inl v1)), some (.inl v2), some (.inl v3), some (.inl v4), some (.inl v5), some (.inl v6), some (.inl 0), some (.inl 0)] _ from ⟨rfl, ⟨rfl, ⟨rfl, ⟨rfl, ⟨rfl, ⟨rfl, ⟨rfl, ⟨rfl, ⟨rfl, trivial⟩⟩⟩⟩⟩⟩⟩⟩⟩) vc
    · replace vc := vc.2 c14
      refine s_iconst (oe_t55 17 (q := (31, .iconst 1, 1)) rfl) ?_
      refine s_goto (oe_t55 18 (q := (32, .goto 36, 3)) rfl) ?_
      refine s_istore (oe_t55 20 (q := (36, .istore 7, 2)) rfl) ?_
      refine s_iconst (oe_t55 21 (q := (38, .iconst 0, 1)) rfl) ?_
      refine s_istore (oe_t55 22 (q := (39, .istore 8, 2)) rfl) ?_
      exact oe_V.fg (oe_M_mono _) (show oe_fg [some (.inr (.inl v0)), some (.inr (.inl v1)), some (.inl v2), some (.inl v3), some (.inl v4), some (.inl v5), some (.inl v6), some (.inl 1), some (.inl 0)] _ from ⟨rfl, ⟨rfl, ⟨rfl, ⟨rfl, ⟨rfl, ⟨rfl, ⟨rfl, ⟨rfl, ⟨rfl, trivial⟩⟩⟩⟩⟩⟩⟩⟩⟩) vc
theorem g55_41 {d : Nat} {sh : List (Nat × Nat)} {g : Nat → Nat → Option Nat} {h : Nat → Nat → Int} {Q : oeQ} {v0 : Nat} {v1 : Nat} {v2 : Int} {v3 : Int} {v4 : Int} {v5 : Int} {v6 : Int} {v7 : Int} {v8 : Int}
    (vc : (v7 = 0 → (v7 = 0 ∨ v7 = 1) ∧ Q (some (.inl v7)) (sh, g, h)) ∧ (v7 ≠ 0 → (v4 ≤ v8 → (v7 = 0 ∨ v7 = 1) ∧ Q (some (.inl v7)) (sh, g, h)) ∧ (v8 < v4 → oe_rg (20 * v2) ∧ oe_rg ((20 * v2) + v8) ∧ ∃ n22, sh[v1]? = some (0, n22) ∧ 0 ≤ ((20 * v2) + v8) ∧ ((20 * v2) + v8) < (n22 : Nat) ∧ (v3 ≤ v8 → sh[v0]? = some (12, 45) ∧ ∃ q27, g v0 18 = some q27 ∧ oe_rg (40 * v6) ∧ oe_rg ((40 * v6) + v8) ∧ oe_rg (((40 * v6) + v8) - v3) ∧ ∃ n33, sh[q27]? = some (0, n33) ∧ 0 ≤ (((40 * v6) + v8) - v3) ∧ (((40 * v6) + v8) - v3) < (n33 : Nat) ∧ ((h v1 (((20 * v2) + v8) : Int).toNat) ≠ (h q27 ((((40 * v6) + v8) - v3) : Int).toNat) → oe_rg (v8 + 1) ∧ oe_V (oe_cost 55) 55 (oe_M (d + 1)) none Q 41 [some (.inr (.inl v0)), some (.inr (.inl v1)), some (.inl v2), some (.inl v3), some (.inl v4), some (.inl v5), some (.inl v6), some (.inl 0), some (.inl (v8 + 1))] [] (sh, g, h) 0 0) ∧ ((h v1 (((20 * v2) + v8) : Int).toNat) = (h q27 ((((40 * v6) + v8) - v3) : Int).toNat) → oe_rg (v8 + 1) ∧ oe_V (oe_cost 55) 55 (oe_M (d + 1)) none Q 41 [some (.inr (.inl v0)), some (.inr (.inl v1)), some (.inl v2), some (.inl v3), some (.inl v4), some (.inl v5), some (.inl v6), some (.inl 1), some (.inl (v8 + 1))] [] (sh, g, h) 0 0)) ∧ (v8 < v3 → sh[v0]? = some (12, 45) ∧ ∃ q40, g v0 18 = some q40 ∧ oe_rg (40 * v5) ∧ oe_rg ((40 * v5) + v8) ∧ ∃ n45, sh[q40]? = some (0, n45) ∧ 0 ≤ ((40 * v5) + v8) ∧ ((40 * v5) + v8) < (n45 : Nat) ∧ ((h v1 (((20 * v2) + v8) : Int).toNat) ≠ (h q40 (((40 * v5) + v8) : Int).toNat) → oe_rg (v8 + 1) ∧ oe_V (oe_cost 55) 55 (oe_M (d + 1)) none Q 41 [some (.inr (.inl v0)), some (.inr (.inl v1)), some (.inl v2), some (.inl v3), some (.inl v4), some (.inl v5), some (.inl v6), some (.inl 0), some (.inl (v8 + 1))] [] (sh, g, h) 0 0) ∧ ((h v1 (((20 * v2) + v8) : Int).toNat) = (h q40 (((40 * v5) + v8) : Int).toNat) → oe_rg (v8 + 1) ∧ oe_V (oe_cost 55) 55 (oe_M (d + 1)) none Q 41 [some (.inr (.inl v0)), some (.inr (.inl v1)), some (.inl v2), some (.inl v3), some (.inl v4), some (.inl v5), some (.inl v6), some (.inl 1), some (.inl (v8 + 1))] [] (sh, g, h) 0 0))))) :
    oe_V (oe_cost 55) 55 (oe_M (d + 1)) none Q 41 [some (.inr (.inl v0)), some (.inr (.inl v1)), some (.inl v2), some (.inl v3), some (.inl v4), some (.inl v5), some (.inl v6), some (.inl v7), some (.inl v8)] [] (sh, g, h) 0 0 := by
  refine s_iload (oe_t55 23 (q := (41, .iload 7, 2)) rfl) rfl ?_
  refine s_if_eq (oe_t55 24 (q := (43, .ifCond .eq 115, 3)) rfl) (fun c15 => ?_) (fun c15 => ?_)
  · replace vc := vc.1 c15
    refine s_iload (oe_t55 64 (q := (115, .iload 7, 2)) rfl) rfl ?_
    obtain ⟨b16, vc⟩ := vc
    exact s_iret (oe_t55 65 (q := (117, .ireturn, 1)) rfl) (Or.inr (Or.inl ⟨rfl, b16⟩)) vc
  · replace vc := vc.2 c15
    refine s_iload (oe_t55 25 (q := (46, .iload 8, 2)) rfl) rfl ?_
    refine s_iload (oe_t55 26 (q := (48, .iload 4, 2)) rfl) rfl ?_
    refine s_ic_ge (oe_t55 27 (q := (50, .if_icmp .ge 115, 3)) rfl) (fun c17 => ?_) (fun c17 => ?_)
    · replace vc := vc.1 c17
      refine s_iload (oe_t55 64 (q := (115, .iload 7, 2)) rfl) rfl ?_
      obtain ⟨b18, vc⟩ := vc
      exact s_iret (oe_t55 65 (q := (117, .ireturn, 1)) rfl) (Or.inr (Or.inl ⟨rfl, b18⟩)) vc
    · replace vc := vc.2 c17
      refine s_aload_n (oe_t55 28 (q := (53, .aload_n 1, 1)) rfl) rfl ?_
      refine s_bipush (oe_t55 29 (q := (54, .bipush 20, 2)) rfl) ?_
      refine s_iload_n (oe_t55 30 (q := (56, .iload_n 2, 1)) rfl) rfl ?_
      obtain ⟨r19, vc⟩ := vc
      refine s_imul (oe_t55 31 (q := (57, .imul, 1)) rfl) r19 ?_
      refine s_iload (oe_t55 32 (q := (58, .iload 8, 2)) rfl) rfl ?_
      obtain ⟨r20, vc⟩ := vc
      refine s_iadd (oe_t55 33 (q := (60, .iadd, 1)) rfl) r20 ?_
      obtain ⟨n22, s21, vc⟩ := vc
      obtain ⟨i23, i24, vc⟩ := vc
      refine s_iaload (oe_t55 34 (q := (61, .iaload, 1)) rfl) s21 i23 i24 ?_
      refine s_iload (oe_t55 35 (q := (62, .iload 8, 2)) rfl) rfl ?_
      refine s_iload_n (oe_t55 36 (q := (64, .iload_n 3, 1)) rfl) rfl ?_
      refine s_ic_ge (oe_t55 37 (q := (65, .if_icmp .ge 84, 3)) rfl) (fun c25 => ?_) (fun c25 => ?_)
      · replace vc := vc.1 c25
        refine s_aload_n (oe_t55 47 (q := (84, .aload_n 0, 1)) rfl) rfl ?_
        obtain ⟨s26, vc⟩ := vc
        obtain ⟨q27, p28, vc⟩ := vc
        refine s_getr (oe_t55 48 (q := (85, .getfield 7181, 3)) rfl) s26 rfl rfl p28 ?_
        refine s_bipush (oe_t55 49 (q := (88, .bipush 40, 2)) rfl) ?_
        refine s_iload (oe_t55 50 (q := (90, .iload 6, 2)) rfl) rfl ?_
        obtain ⟨r29, vc⟩ := vc
        refine s_imul (oe_t55 51 (q := (92, .imul, 1)) rfl) r29 ?_
        refine s_iload (oe_t55 52 (q := (93, .iload 8, 2)) rfl) rfl ?_
        obtain ⟨r30, vc⟩ := vc
        refine s_iadd (oe_t55 53 (q := (95, .iadd, 1)) rfl) r30 ?_
        refine s_iload_n (oe_t55 54 (q := (96, .iload_n 3, 1)) rfl) rfl ?_
        obtain ⟨r31, vc⟩ := vc
        refine s_isub (oe_t55 55 (q := (97, .isub, 1)) rfl) r31 ?_
        obtain ⟨n33, s32, vc⟩ := vc
        obtain ⟨i34, i35, vc⟩ := vc
        refine s_iaload (oe_t55 56 (q := (98, .iaload, 1)) rfl) s32 i34 i35 ?_
        refine s_ic_ne (oe_t55 57 (q := (99, .if_icmp .ne 106, 3)) rfl) (fun c36 => ?_) (fun c36 => ?_)
        · replace vc := vc.1 c36
          refine s_iconst (oe_t55 60 (q := (106, .iconst 0, 1)) rfl) ?_
          refine s_istore (oe_t55 61 (q := (107, .istore 7, 2)) rfl) ?_
          obtain ⟨r37, vc⟩ := vc
          refine s_iinc (oe_t55 62 (q := (109, .iinc 8 1, 3)) rfl) rfl r37 ?_
          refine s_goto (oe_t55 63 (q := (112, .goto 41, 3)) rfl) ?_
          exact oe_V.fg (oe_M_mono _) (show oe_fg [some (.inr (.inl v0)), some (.inr (.inl v1)), some (.inl v2), some (.inl v3), some (.inl v4), some (.inl v5), some (.inl v6), some (.inl 0), some (.inl (v8 + 1))] _ from ⟨rfl, ⟨rfl, ⟨rfl, ⟨rfl, ⟨rfl, ⟨rfl, ⟨rfl, ⟨rfl, ⟨rfl, trivial⟩⟩⟩⟩⟩⟩⟩⟩⟩) vc
        · replace vc := vc.2 c36
          refine s_iconst (oe_t55 58 (q := (102, .iconst 1, 1)) rfl) ?_
          refine s_goto (oe_t55 59 (q := (103, .goto 107, 3)) rfl) ?_
          refine s_istore (oe_t55 61 (q := (107, .istore 7, 2)) rfl) ?_
          obtain ⟨r38, vc⟩ := vc
          refine s_iinc (oe_t55 62 (q := (109, .iinc 8 1, 3)) rfl) rfl r38 ?_
          refine s_goto (oe_t55 63 (q := (112, .goto 41, 3)) rfl) ?_
          exact oe_V.fg (oe_M_mono _) (show oe_fg [some (.inr (.inl v0)), some (.inr (.inl v1)), some (.inl v2), some (.inl v3), some (.inl v4), some (.inl v5), some (.inl v6), some (.inl 1), some (.inl (v8 + 1))] _ from ⟨rfl, ⟨rfl, ⟨rfl, ⟨rfl, ⟨rfl, ⟨rfl, ⟨rfl, ⟨rfl, ⟨rfl, trivial⟩⟩⟩⟩⟩⟩⟩⟩⟩) vc
      · replace vc := vc.2 c25
        refine s_aload_n (oe_t55 38 (q := (68, .aload_n 0, 1)) rfl) rfl ?_
        obtain ⟨s39, vc⟩ := vc
        obtain ⟨q40, p41, vc⟩ := vc
        refine s_getr (oe_t55 39 (q := (69, .getfield 7181, 3)) rfl) s39 rfl rfl p41 ?_
        refine s_bipush (oe_t55 40 (q := (72, .bipush 40, 2)) rfl) ?_
        refine s_iload (oe_t55 41 (q := (74, .iload 5, 2)) rfl) rfl ?_
        obtain ⟨r42, vc⟩ := vc
        refine s_imul (oe_t55 42 (q := (76, .imul, 1)) rfl) r42 ?_
        refine s_iload (oe_t55 43 (q := (77, .iload 8, 2)) rfl) rfl ?_
        obtain ⟨r43, vc⟩ := vc
        refine s_iadd (oe_t55 44 (q := (79, .iadd, 1)) rfl) r43 ?_
        obtain ⟨n45, s44, vc⟩ := vc
        obtain ⟨i46, i47, vc⟩ := vc
        refine s_iaload (oe_t55 45 (q := (80, .iaload, 1)) rfl) s44 i46 i47 ?_
        refine s_goto (oe_t55 46 (q := (81, .goto 99, 3)) rfl) ?_
        refine s_ic_ne (oe_t55 57 (q := (99, .if_icmp .ne 106, 3)) rfl) (fun c48 => ?_) (fun c48 => ?_)
        · replace vc := vc.1 c48
          refine s_iconst (oe_t55 60 (q := (106, .iconst 0, 1)) rfl) ?_
          refine s_istore (oe_t55 61 (q := (107, .istore 7, 2)) rfl) ?_
          obtain ⟨r49, vc⟩ := vc
          refine s_iinc (oe_t55 62 (q := (109, .iinc 8 1, 3)) rfl) rfl r49 ?_
          refine s_goto (oe_t55 63 (q := (112, .goto 41, 3)) rfl) ?_
          exact oe_V.fg (oe_M_mono _) (show oe_fg [some (.inr (.inl v0)), some (.inr (.inl v1)), some (.inl v2), some (.inl v3), some (.inl v4), some (.inl v5), some (.inl v6), some (.inl 0), some (.inl (v8 + 1))] _ from ⟨rfl, ⟨rfl, ⟨rfl, ⟨rfl, ⟨rfl, ⟨rfl, ⟨rfl, ⟨rfl, ⟨rfl, trivial⟩⟩⟩⟩⟩⟩⟩⟩⟩) vc
        · replace vc := vc.2 c48
          refine s_iconst (oe_t55 58 (q := (102, .iconst 1, 1)) rfl) ?_
          refine s_goto (oe_t55 59 (q := (103, .goto 107, 3)) rfl) ?_
          refine s_istore (oe_t55 61 (q := (107, .istore 7, 2)) rfl) ?_
          obtain ⟨r50, vc⟩ := vc
          refine s_iinc (oe_t55 62 (q := (109, .iinc 8 1, 3)) rfl) rfl r50 ?_
          refine s_goto (oe_t55 63 (q := (112, .goto 41, 3)) rfl) ?_
          exact oe_V.fg (oe_M_mono _) (show oe_fg [some (.inr (.inl v0)), some (.inr (.inl v1)), some (.inl v2), some (.inl v3), some (.inl v4), some (.inl v5), some (.inl v6), some (.inl 1), some (.inl (v8 + 1))] _ from ⟨rfl, ⟨rfl, ⟨rfl, ⟨rfl, ⟨rfl, ⟨rfl, ⟨rfl, ⟨rfl, ⟨rfl, trivial⟩⟩⟩⟩⟩⟩⟩⟩⟩) vc
