/-! Walks laid by program. -/
theorem oe_u3 : oe_c3.all (fun q => decide (oe_find oe_c3 q.1 = some q.2)) = true := by decide +kernel
theorem oe_t3 (k : Nat) {q : Nat × Jvm.ClassFile.Instr × Nat} (h : oe_c3[k]? = some q) : oe_find (oe_code 3) q.1 = some q.2 := oe_ft oe_u3 h
theorem g3 {d : Nat} {sh : List (Nat × Nat)} {g : Nat → Nat → Option Nat} {h : Nat → Nat → Int} {Q : oeQ} {v0 : Nat} {v1 : Int}
    (vc : (v1 < 32 → Q (some (.inl 0)) (sh, g, h)) ∧ (32 ≤ v1 → (126 < v1 → Q (some (.inl 0)) (sh, g, h)) ∧ (v1 ≤ 126 → sh[v0]? = some (5, 14) ∧ ((h v0 1) < 60 → ∃ q5, g v0 0 = some q5 ∧ ∃ n8, sh[q5]? = some (1, n8) ∧ 0 ≤ (h v0 1) ∧ (h v0 1) < (n8 : Nat) ∧ 0 ≤ v1 ∧ v1 < 65536 ∧ ∀ h11, h11 = oe_up h q5 ((h v0 1) : Int).toNat v1 → oe_rg ((h11 v0 1) + 1) ∧ ∀ h16, h16 = oe_up h11 v0 1 ((h11 v0 1) + 1) → Q (some (.inl 1)) (sh, g, h16)) ∧ (60 ≤ (h v0 1) → Q (some (.inl 0)) (sh, g, h))))) :
    oe_M (d + 2) 3 [.inr (.inl v0), .inl v1] (sh, g, h) Q := by
  refine oe_M.of (by simp [oe_c1]) (Nat.le_of_ble_eq_true rfl) ?_
  show oe_V (oe_cost 3) 3 (oe_M (d + 1)) none Q 0 [some (.inr (.inl v0)), some (.inl v1)] [] (sh, g, h) 0 0
  refine s_iload_n (oe_t3 0 (q := (0, .iload_n 1, 1)) rfl) rfl ?_
  refine s_bipush (oe_t3 1 (q := (1, .bipush 32, 2)) rfl) ?_
  refine s_ic_lt (oe_t3 2 (q := (3, .if_icmp .lt 21, 3)) rfl) (fun c1 => ?_) (fun c1 => ?_)
  · replace vc := vc.1 c1
    refine s_iconst (oe_t3 10 (q := (21, .iconst 0, 1)) rfl) ?_
    exact s_iret (oe_t3 11 (q := (22, .ireturn, 1)) rfl) (Or.inr (Or.inl ⟨rfl, Or.inl rfl⟩)) vc
  · replace vc := vc.2 c1
    refine s_iload_n (oe_t3 3 (q := (6, .iload_n 1, 1)) rfl) rfl ?_
    refine s_bipush (oe_t3 4 (q := (7, .bipush 126, 2)) rfl) ?_
    refine s_ic_gt (oe_t3 5 (q := (9, .if_icmp .gt 21, 3)) rfl) (fun c2 => ?_) (fun c2 => ?_)
    · replace vc := vc.1 c2
      refine s_iconst (oe_t3 10 (q := (21, .iconst 0, 1)) rfl) ?_
      exact s_iret (oe_t3 11 (q := (22, .ireturn, 1)) rfl) (Or.inr (Or.inl ⟨rfl, Or.inl rfl⟩)) vc
    · replace vc := vc.2 c2
      refine s_aload_n (oe_t3 6 (q := (12, .aload_n 0, 1)) rfl) rfl ?_
      obtain ⟨s3, vc⟩ := vc
      refine s_geti (oe_t3 7 (q := (13, .getfield 10, 3)) rfl) s3 rfl (by decide) ?_
      refine s_bipush (oe_t3 8 (q := (16, .bipush 60, 2)) rfl) ?_
      refine s_ic_lt (oe_t3 9 (q := (18, .if_icmp .lt 23, 3)) rfl) (fun c4 => ?_) (fun c4 => ?_)
      · replace vc := vc.1 c4
        refine s_aload_n (oe_t3 12 (q := (23, .aload_n 0, 1)) rfl) rfl ?_
        obtain ⟨q5, p6, vc⟩ := vc
        refine s_getr (oe_t3 13 (q := (24, .getfield 1, 3)) rfl) s3 rfl rfl p6 ?_
        refine s_aload_n (oe_t3 14 (q := (27, .aload_n 0, 1)) rfl) rfl ?_
        refine s_geti (oe_t3 15 (q := (28, .getfield 10, 3)) rfl) s3 rfl (by decide) ?_
        refine s_iload_n (oe_t3 16 (q := (31, .iload_n 1, 1)) rfl) rfl ?_
        obtain ⟨n8, s7, vc⟩ := vc
        obtain ⟨i9, i10, vc⟩ := vc
        obtain ⟨c13, c14, vc⟩ := vc
        refine t_castore (oe_t3 17 (q := (32, .castore, 1)) rfl) s7 i9 i10 c13 c14 (fun h11 e12 => ?_)
        replace vc := vc h11 e12
        refine s_aload_n (oe_t3 18 (q := (33, .aload_n 0, 1)) rfl) rfl ?_
        refine s_dup (oe_t3 19 (q := (34, .dup, 1)) rfl) trivial ?_
        refine s_geti (oe_t3 20 (q := (35, .getfield 10, 3)) rfl) s3 rfl (by decide) ?_
        refine s_iconst (oe_t3 21 (q := (38, .iconst 1, 1)) rfl) ?_
        obtain ⟨r15, vc⟩ := vc
        refine s_iadd (oe_t3 22 (q := (39, .iadd, 1)) rfl) r15 ?_
        refine t_puti (oe_t3 23 (q := (40, .putfield 10, 3)) rfl) s3 rfl (Or.inl rfl) (fun h16 e17 => ?_)
        replace vc := vc h16 e17
        refine s_iconst (oe_t3 24 (q := (43, .iconst 1, 1)) rfl) ?_
        exact s_iret (oe_t3 25 (q := (44, .ireturn, 1)) rfl) (Or.inr (Or.inl ⟨rfl, Or.inr rfl⟩)) vc
      · replace vc := vc.2 c4
        refine s_iconst (oe_t3 10 (q := (21, .iconst 0, 1)) rfl) ?_
        exact s_iret (oe_t3 11 (q := (22, .ireturn, 1)) rfl) (Or.inr (Or.inl ⟨rfl, Or.inl rfl⟩)) vc
theorem oe_u4 : oe_c4.all (fun q => decide (oe_find oe_c4 q.1 = some q.2)) = true := by decide +kernel
theorem oe_t4 (k : Nat) {q : Nat × Jvm.ClassFile.Instr × Nat} (h : oe_c4[k]? = some q) : oe_find (oe_code 4) q.1 = some q.2 := oe_ft oe_u4 h
theorem g4 {d : Nat} {sh : List (Nat × Nat)} {g : Nat → Nat → Option Nat} {h : Nat → Nat → Int} {Q : oeQ} {v0 : Nat}
    (vc : sh[v0]? = some (5, 14) ∧ ∀ h2, h2 = oe_up h v0 1 0 → Q (some (.inl (h v0 1))) (sh, g, h2)) :
    oe_M (d + 2) 4 [.inr (.inl v0)] (sh, g, h) Q := by
  refine oe_M.of (by simp [oe_c1]) (Nat.le_of_ble_eq_true rfl) ?_
  show oe_V (oe_cost 4) 4 (oe_M (d + 1)) none Q 0 [some (.inr (.inl v0)), none] [] (sh, g, h) 0 0
  refine s_aload_n (oe_t4 0 (q := (0, .aload_n 0, 1)) rfl) rfl ?_
  obtain ⟨s1, vc⟩ := vc
  refine s_geti (oe_t4 1 (q := (1, .getfield 10, 3)) rfl) s1 rfl (by decide) ?_
  refine s_istore_n (oe_t4 2 (q := (4, .istore_n 1, 1)) rfl) ?_
  refine s_aload_n (oe_t4 3 (q := (5, .aload_n 0, 1)) rfl) rfl ?_
  refine s_iconst (oe_t4 4 (q := (6, .iconst 0, 1)) rfl) ?_
  refine t_puti (oe_t4 5 (q := (7, .putfield 10, 3)) rfl) s1 rfl (Or.inl rfl) (fun h2 e3 => ?_)
  replace vc := vc h2 e3
  refine s_iload_n (oe_t4 6 (q := (10, .iload_n 1, 1)) rfl) rfl ?_
  exact s_iret (oe_t4 7 (q := (11, .ireturn, 1)) rfl) (Or.inl rfl) vc
theorem oe_u5 : oe_c5.all (fun q => decide (oe_find oe_c5 q.1 = some q.2)) = true := by decide +kernel
theorem oe_t5 (k : Nat) {q : Nat × Jvm.ClassFile.Instr × Nat} (h : oe_c5[k]? = some q) : oe_find (oe_code 5) q.1 = some q.2 := oe_ft oe_u5 h
theorem g5 {d : Nat} {sh : List (Nat × Nat)} {g : Nat → Nat → Option Nat} {h : Nat → Nat → Int} {Q : oeQ} {v0 : Nat}
    (vc : sh[v0]? = some (5, 14) ∧ ∃ q2, g v0 4 = some q2 ∧ sh[q2]? = some (11, 2) ∧ oe_M (d + 1) 126 [.inr (.inl q2)] (sh, g, h) (fun r hp => ∃ (x4 : Int), r = some (.inl x4) ∧ hp = (sh, g, h) ∧ (x4 = 0 → oe_M (d + 1) 18 [.inr (.inl v0), .inl 1, .inl 1] (sh, g, h) (fun r hp => ∃ (x8 : Int) (h7 : Nat → Nat → Int), r = some (.inl x8) ∧ hp = (sh, g, h7) ∧ (x8 = (-1) → ∃ q10, g v0 10 = some q10 ∧ sh[q10]? = some (7, 2) ∧ oe_M (d + 1) 94 [.inr (.inl q10)] (sh, g, h7) (fun r hp => ∃ (x12 : Int), r = some (.inl x12) ∧ hp = (sh, g, h7) ∧ (x12 ≤ 20 → ∃ q15, g v0 13 = some q15 ∧ oe_M (d + 1) 98 [.inr (.inl q10), .inr (.inl q15)] (sh, g, h7) (fun r hp => ∃ (x18 : Int) (h17 : Nat → Nat → Int), r = some (.inl x18) ∧ hp = (sh, g, h17) ∧ oe_M (d + 1) 127 [.inr (.inl q2), .inr (.inl q10)] (sh, g, h17) (fun r hp => ∃ (h19 : Nat → Nat → Int), r = none ∧ hp = (sh, g, h19) ∧ Q (some (.inl (h19 q2 1))) (sh, g, h19)))) ∧ (20 < x12 → Q (some (.inl (-200))) (sh, g, h7)))) ∧ (x8 ≠ (-1) → oe_rg ((-1) - x8) ∧ Q (some (.inl ((-1) - x8))) (sh, g, h7)))) ∧ (x4 ≠ 0 → False))) :
    oe_M (d + 2) 5 [.inr (.inl v0)] (sh, g, h) Q := by
  refine oe_M.of (by simp [oe_c1]) (Nat.le_of_ble_eq_true rfl) ?_
  show oe_V (oe_cost 5) 5 (oe_M (d + 1)) none Q 0 [some (.inr (.inl v0)), none] [] (sh, g, h) 0 0
  refine s_aload_n (oe_t5 0 (q := (0, .aload_n 0, 1)) rfl) rfl ?_
  obtain ⟨s1, vc⟩ := vc
  obtain ⟨q2, p3, vc⟩ := vc
  refine s_getr (oe_t5 1 (q := (1, .getfield 41, 3)) rfl) s1 rfl rfl p3 ?_
  obtain ⟨s5, vc⟩ := vc
  refine s_callv (oe_t5 2 (q := (4, .invokevirtual 126060, 3)) rfl) rfl s5 rfl (Nat.le_of_ble_eq_true rfl) (Nat.le_of_ble_eq_true rfl) (Nat.le_of_ble_eq_true rfl) (Nat.le_of_ble_eq_true rfl) ?_
  refine oe_M_mono _ _ _ _ _ _ (fun r hp vq => ?_) vc
  obtain ⟨x4, rfl, rfl, vc⟩ := vq
  show oe_V (oe_cost 5) 5 (oe_M (d + 1)) none Q 7 [some (.inr (.inl v0)), none] [.inl x4] (sh, g, h) 0 0
  refine s_if_eq (oe_t5 3 (q := (7, .ifCond .eq 20, 3)) rfl) (fun c6 => ?_) (fun c6 => ?_)
  · replace vc := vc.1 c6
    refine s_aload_n (oe_t5 5 (q := (20, .aload_n 0, 1)) rfl) rfl ?_
    refine s_iconst (oe_t5 6 (q := (21, .iconst 1, 1)) rfl) ?_
    refine s_iconst (oe_t5 7 (q := (22, .iconst 1, 1)) rfl) ?_
    refine s_callv (oe_t5 8 (q := (23, .invokevirtual 18002, 3)) rfl) rfl s1 rfl (Nat.le_of_ble_eq_true rfl) (Nat.le_of_ble_eq_true rfl) (Nat.le_of_ble_eq_true rfl) (Nat.le_of_ble_eq_true rfl) ?_
    refine oe_M_mono _ _ _ _ _ _ (fun r hp vq => ?_) vc
    obtain ⟨x8, h7, rfl, rfl, vc⟩ := vq
    show oe_V (oe_cost 5) 5 (oe_M (d + 1)) none Q 26 [some (.inr (.inl v0)), none] [.inl x8] (sh, g, h7) 0 0
    refine s_istore_n (oe_t5 9 (q := (26, .istore_n 1, 1)) rfl) ?_
    refine s_iload_n (oe_t5 10 (q := (27, .iload_n 1, 1)) rfl) rfl ?_
    refine s_iconst (oe_t5 11 (q := (28, .iconst (-1), 1)) rfl) ?_
    refine s_ic_eq (oe_t5 12 (q := (29, .if_icmp .eq 36, 3)) rfl) (fun c9 => ?_) (fun c9 => ?_)
    · replace vc := vc.1 c9
      refine s_aload_n (oe_t5 17 (q := (36, .aload_n 0, 1)) rfl) rfl ?_
      obtain ⟨q10, p11, vc⟩ := vc
      refine s_getr (oe_t5 18 (q := (37, .getfield 101, 3)) rfl) s1 rfl rfl p11 ?_
      obtain ⟨s13, vc⟩ := vc
      refine s_callv (oe_t5 19 (q := (40, .invokevirtual 94020, 3)) rfl) rfl s13 rfl (Nat.le_of_ble_eq_true rfl) (Nat.le_of_ble_eq_true rfl) (Nat.le_of_ble_eq_true rfl) (Nat.le_of_ble_eq_true rfl) ?_
      refine oe_M_mono _ _ _ _ _ _ (fun r hp vq => ?_) vc
      obtain ⟨x12, rfl, rfl, vc⟩ := vq
      show oe_V (oe_cost 5) 5 (oe_M (d + 1)) none Q 43 [some (.inr (.inl v0)), some (.inl x8)] [.inl x12] (sh, g, h7) 0 0
      refine s_bipush (oe_t5 20 (q := (43, .bipush 20, 2)) rfl) ?_
      refine s_ic_le (oe_t5 21 (q := (45, .if_icmp .le 52, 3)) rfl) (fun c14 => ?_) (fun c14 => ?_)
      · replace vc := vc.1 c14
        refine s_aload_n (oe_t5 24 (q := (52, .aload_n 0, 1)) rfl) rfl ?_
        refine s_getr (oe_t5 25 (q := (53, .getfield 101, 3)) rfl) s1 rfl rfl p11 ?_
        refine s_aload_n (oe_t5 26 (q := (56, .aload_n 0, 1)) rfl) rfl ?_
        obtain ⟨q15, p16, vc⟩ := vc
        refine s_getr (oe_t5 27 (q := (57, .getfield 131, 3)) rfl) s1 rfl rfl p16 ?_
        refine s_callv (oe_t5 28 (q := (60, .invokevirtual 98021, 3)) rfl) rfl s13 rfl (Nat.le_of_ble_eq_true rfl) (Nat.le_of_ble_eq_true rfl) (Nat.le_of_ble_eq_true rfl) (Nat.le_of_ble_eq_true rfl) ?_
        refine oe_M_mono _ _ _ _ _ _ (fun r hp vq => ?_) vc
        obtain ⟨x18, h17, rfl, rfl, vc⟩ := vq
        show oe_V (oe_cost 5) 5 (oe_M (d + 1)) none Q 63 [some (.inr (.inl v0)), some (.inl x8)] [.inl x18] (sh, g, h17) 0 0
        refine s_pop (oe_t5 29 (q := (63, .pop, 1)) rfl) trivial ?_
        refine s_aload_n (oe_t5 30 (q := (64, .aload_n 0, 1)) rfl) rfl ?_
        refine s_getr (oe_t5 31 (q := (65, .getfield 41, 3)) rfl) s1 rfl rfl p3 ?_
        refine s_aload_n (oe_t5 32 (q := (68, .aload_n 0, 1)) rfl) rfl ?_
        refine s_getr (oe_t5 33 (q := (69, .getfield 101, 3)) rfl) s1 rfl rfl p11 ?_
        refine s_callv (oe_t5 34 (q := (72, .invokevirtual 127061, 3)) rfl) rfl s5 rfl (Nat.le_of_ble_eq_true rfl) (Nat.le_of_ble_eq_true rfl) (Nat.le_of_ble_eq_true rfl) (Nat.le_of_ble_eq_true rfl) ?_
        refine oe_M_mono _ _ _ _ _ _ (fun r hp vq => ?_) vc
        obtain ⟨h19, rfl, rfl, vc⟩ := vq
        show oe_V (oe_cost 5) 5 (oe_M (d + 1)) none Q 75 [some (.inr (.inl v0)), some (.inl x8)] [] (sh, g, h19) 0 0
        refine s_aload_n (oe_t5 35 (q := (75, .aload_n 0, 1)) rfl) rfl ?_
        refine s_getr (oe_t5 36 (q := (76, .getfield 41, 3)) rfl) s1 rfl rfl p3 ?_
        refine s_geti (oe_t5 37 (q := (79, .getfield 6010, 3)) rfl) s5 rfl (by decide) ?_
        exact s_iret (oe_t5 38 (q := (82, .ireturn, 1)) rfl) (Or.inl rfl) vc
      · replace vc := vc.2 c14
        refine s_sipush (oe_t5 22 (q := (48, .sipush (-200), 3)) rfl) ?_
        exact s_iret (oe_t5 23 (q := (51, .ireturn, 1)) rfl) (Or.inl rfl) vc
    · replace vc := vc.2 c9
      refine s_iconst (oe_t5 13 (q := (32, .iconst (-1), 1)) rfl) ?_
      refine s_iload_n (oe_t5 14 (q := (33, .iload_n 1, 1)) rfl) rfl ?_
      obtain ⟨r20, vc⟩ := vc
      refine s_isub (oe_t5 15 (q := (34, .isub, 1)) rfl) r20 ?_
      exact s_iret (oe_t5 16 (q := (35, .ireturn, 1)) rfl) (Or.inl rfl) vc
  · replace vc := vc.2 c6
    exact vc.elim
theorem oe_u6 : oe_c6.all (fun q => decide (oe_find oe_c6 q.1 = some q.2)) = true := by decide +kernel
theorem oe_t6 (k : Nat) {q : Nat × Jvm.ClassFile.Instr × Nat} (h : oe_c6[k]? = some q) : oe_find (oe_code 6) q.1 = some q.2 := oe_ft oe_u6 h
theorem g6 {d : Nat} {sh : List (Nat × Nat)} {g : Nat → Nat → Option Nat} {h : Nat → Nat → Int} {Q : oeQ} {v0 : Nat}
    (vc : sh[v0]? = some (5, 14) ∧ oe_M (d + 1) 18 [.inr (.inl v0), .inl 1, .inl 0] (sh, g, h) (fun r hp => ∃ (x2 : Int) (h1 : Nat → Nat → Int), r = some (.inl x2) ∧ hp = (sh, g, h1) ∧ (x2 = (-1) → ∃ q5, g v0 10 = some q5 ∧ sh[q5]? = some (7, 2) ∧ ∃ q8, g q5 0 = some q8 ∧ sh[q8]? = some (8, 3) ∧ (20 < (h1 q8 2) → Q (some (.inl (-200))) (sh, g, h1)) ∧ ((h1 q8 2) ≤ 20 → ∃ q12, g q5 1 = some q12 ∧ sh[q12]? = some (8, 3) ∧ ((h1 q12 2) ≤ 20 → ∃ q16, g v0 8 = some q16 ∧ sh[q16]? = some (7, 2) ∧ oe_M (d + 1) 95 [.inr (.inl q16), .inr (.inl q8), .inr (.inl q12)] (sh, g, h1) (fun r hp => ∃ (h18 : Nat → Nat → Int), r = none ∧ hp = (sh, g, h18) ∧ ∀ h20, h20 = oe_up h18 v0 9 1 → oe_M (d + 1) 22 [.inr (.inl v0), .inr (.inl q16)] (sh, g, h20) (fun r hp => ∃ (h22 : Nat → Nat → Int), r = none ∧ hp = (sh, g, h22) ∧ oe_M (d + 1) 21 [.inr (.inl v0)] (sh, g, h22) (fun r hp => ∃ (x23 : Int), r = some (.inl x23) ∧ hp = (sh, g, h22) ∧ (x23 = 0 → Q (some (.inl 0)) (sh, g, h22)) ∧ (x23 ≠ 0 → Q (some (.inl 1)) (sh, g, h22)))))) ∧ (20 < (h1 q12 2) → Q (some (.inl (-200))) (sh, g, h1)))) ∧ (x2 ≠ (-1) → oe_rg ((-1) - x2) ∧ Q (some (.inl ((-1) - x2))) (sh, g, h1)))) :
    oe_M (d + 2) 6 [.inr (.inl v0)] (sh, g, h) Q := by
  refine oe_M.of (by simp [oe_c1]) (Nat.le_of_ble_eq_true rfl) ?_
  show oe_V (oe_cost 6) 6 (oe_M (d + 1)) none Q 0 [some (.inr (.inl v0)), none] [] (sh, g, h) 0 0
  refine s_aload_n (oe_t6 0 (q := (0, .aload_n 0, 1)) rfl) rfl ?_
  refine s_iconst (oe_t6 1 (q := (1, .iconst 1, 1)) rfl) ?_
  refine s_iconst (oe_t6 2 (q := (2, .iconst 0, 1)) rfl) ?_
  obtain ⟨s3, vc⟩ := vc
  refine s_callv (oe_t6 3 (q := (3, .invokevirtual 18002, 3)) rfl) rfl s3 rfl (Nat.le_of_ble_eq_true rfl) (Nat.le_of_ble_eq_true rfl) (Nat.le_of_ble_eq_true rfl) (Nat.le_of_ble_eq_true rfl) ?_
  refine oe_M_mono _ _ _ _ _ _ (fun r hp vq => ?_) vc
  obtain ⟨x2, h1, rfl, rfl, vc⟩ := vq
  show oe_V (oe_cost 6) 6 (oe_M (d + 1)) none Q 6 [some (.inr (.inl v0)), none] [.inl x2] (sh, g, h1) 0 0
  refine s_istore_n (oe_t6 4 (q := (6, .istore_n 1, 1)) rfl) ?_
  refine s_iload_n (oe_t6 5 (q := (7, .iload_n 1, 1)) rfl) rfl ?_
  refine s_iconst (oe_t6 6 (q := (8, .iconst (-1), 1)) rfl) ?_
  refine s_ic_eq (oe_t6 7 (q := (9, .if_icmp .eq 16, 3)) rfl) (fun c4 => ?_) (fun c4 => ?_)
  · replace vc := vc.1 c4
    refine s_aload_n (oe_t6 12 (q := (16, .aload_n 0, 1)) rfl) rfl ?_
    obtain ⟨q5, p6, vc⟩ := vc
    refine s_getr (oe_t6 13 (q := (17, .getfield 101, 3)) rfl) s3 rfl rfl p6 ?_
    obtain ⟨s7, vc⟩ := vc
    obtain ⟨q8, p9, vc⟩ := vc
    refine s_getr (oe_t6 14 (q := (20, .getfield 2001, 3)) rfl) s7 rfl rfl p9 ?_
    obtain ⟨s10, vc⟩ := vc
    refine s_geti (oe_t6 15 (q := (23, .getfield 3020, 3)) rfl) s10 rfl (by decide) ?_
    refine s_bipush (oe_t6 16 (q := (26, .bipush 20, 2)) rfl) ?_
    refine s_ic_gt (oe_t6 17 (q := (28, .if_icmp .gt 46, 3)) rfl) (fun c11 => ?_) (fun c11 => ?_)
    · replace vc := vc.1 c11
      refine s_sipush (oe_t6 24 (q := (46, .sipush (-200), 3)) rfl) ?_
      exact s_iret (oe_t6 25 (q := (49, .ireturn, 1)) rfl) (Or.inl rfl) vc
    · replace vc := vc.2 c11
      refine s_aload_n (oe_t6 18 (q := (31, .aload_n 0, 1)) rfl) rfl ?_
      refine s_getr (oe_t6 19 (q := (32, .getfield 101, 3)) rfl) s3 rfl rfl p6 ?_
      obtain ⟨q12, p13, vc⟩ := vc
      refine s_getr (oe_t6 20 (q := (35, .getfield 2011, 3)) rfl) s7 rfl rfl p13 ?_
      obtain ⟨s14, vc⟩ := vc
      refine s_geti (oe_t6 21 (q := (38, .getfield 3020, 3)) rfl) s14 rfl (by decide) ?_
      refine s_bipush (oe_t6 22 (q := (41, .bipush 20, 2)) rfl) ?_
      refine s_ic_le (oe_t6 23 (q := (43, .if_icmp .le 50, 3)) rfl) (fun c15 => ?_) (fun c15 => ?_)
      · replace vc := vc.1 c15
        refine s_aload_n (oe_t6 26 (q := (50, .aload_n 0, 1)) rfl) rfl ?_
        obtain ⟨q16, p17, vc⟩ := vc
        refine s_getr (oe_t6 27 (q := (51, .getfield 81, 3)) rfl) s3 rfl rfl p17 ?_
        refine s_aload_n (oe_t6 28 (q := (54, .aload_n 0, 1)) rfl) rfl ?_
        refine s_getr (oe_t6 29 (q := (55, .getfield 101, 3)) rfl) s3 rfl rfl p6 ?_
        refine s_getr (oe_t6 30 (q := (58, .getfield 2001, 3)) rfl) s7 rfl rfl p9 ?_
        refine s_aload_n (oe_t6 31 (q := (61, .aload_n 0, 1)) rfl) rfl ?_
        refine s_getr (oe_t6 32 (q := (62, .getfield 101, 3)) rfl) s3 rfl rfl p6 ?_
        refine s_getr (oe_t6 33 (q := (65, .getfield 2011, 3)) rfl) s7 rfl rfl p13 ?_
        obtain ⟨s19, vc⟩ := vc
        refine s_callv (oe_t6 34 (q := (68, .invokevirtual 95022, 3)) rfl) rfl s19 rfl (Nat.le_of_ble_eq_true rfl) (Nat.le_of_ble_eq_true rfl) (Nat.le_of_ble_eq_true rfl) (Nat.le_of_ble_eq_true rfl) ?_
        refine oe_M_mono _ _ _ _ _ _ (fun r hp vq => ?_) vc
        obtain ⟨h18, rfl, rfl, vc⟩ := vq
        show oe_V (oe_cost 6) 6 (oe_M (d + 1)) none Q 71 [some (.inr (.inl v0)), some (.inl x2)] [] (sh, g, h18) 0 0
        refine s_aload_n (oe_t6 35 (q := (71, .aload_n 0, 1)) rfl) rfl ?_
        refine s_iconst (oe_t6 36 (q := (72, .iconst 1, 1)) rfl) ?_
        refine t_puti (oe_t6 37 (q := (73, .putfield 92, 3)) rfl) s3 rfl (Or.inr ⟨rfl, Or.inr rfl⟩) (fun h20 e21 => ?_)
        replace vc := vc h20 e21
        refine s_aload_n (oe_t6 38 (q := (76, .aload_n 0, 1)) rfl) rfl ?_
        refine s_aload_n (oe_t6 39 (q := (77, .aload_n 0, 1)) rfl) rfl ?_
        refine s_getr (oe_t6 40 (q := (78, .getfield 81, 3)) rfl) s3 rfl rfl p17 ?_
        refine s_callv (oe_t6 41 (q := (81, .invokevirtual 22001, 3)) rfl) rfl s3 rfl (Nat.le_of_ble_eq_true rfl) (Nat.le_of_ble_eq_true rfl) (Nat.le_of_ble_eq_true rfl) (Nat.le_of_ble_eq_true rfl) ?_
        refine oe_M_mono _ _ _ _ _ _ (fun r hp vq => ?_) vc
        obtain ⟨h22, rfl, rfl, vc⟩ := vq
        show oe_V (oe_cost 6) 6 (oe_M (d + 1)) none Q 84 [some (.inr (.inl v0)), some (.inl x2)] [] (sh, g, h22) 0 0
        refine s_aload_n (oe_t6 42 (q := (84, .aload_n 0, 1)) rfl) rfl ?_
        refine s_callv (oe_t6 43 (q := (85, .invokevirtual 21000, 3)) rfl) rfl s3 rfl (Nat.le_of_ble_eq_true rfl) (Nat.le_of_ble_eq_true rfl) (Nat.le_of_ble_eq_true rfl) (Nat.le_of_ble_eq_true rfl) ?_
        refine oe_M_mono _ _ _ _ _ _ (fun r hp vq => ?_) vc
        obtain ⟨x23, rfl, rfl, vc⟩ := vq
        show oe_V (oe_cost 6) 6 (oe_M (d + 1)) none Q 88 [some (.inr (.inl v0)), some (.inl x2)] [.inl x23] (sh, g, h22) 0 0
        refine s_if_eq (oe_t6 44 (q := (88, .ifCond .eq 95, 3)) rfl) (fun c24 => ?_) (fun c24 => ?_)
        · replace vc := vc.1 c24
          refine s_iconst (oe_t6 47 (q := (95, .iconst 0, 1)) rfl) ?_
          exact s_iret (oe_t6 48 (q := (96, .ireturn, 1)) rfl) (Or.inl rfl) vc
        · replace vc := vc.2 c24
          refine s_iconst (oe_t6 45 (q := (91, .iconst 1, 1)) rfl) ?_
          refine s_goto (oe_t6 46 (q := (92, .goto 96, 3)) rfl) ?_
          exact s_iret (oe_t6 48 (q := (96, .ireturn, 1)) rfl) (Or.inl rfl) vc
      · replace vc := vc.2 c15
        refine s_sipush (oe_t6 24 (q := (46, .sipush (-200), 3)) rfl) ?_
        exact s_iret (oe_t6 25 (q := (49, .ireturn, 1)) rfl) (Or.inl rfl) vc
  · replace vc := vc.2 c4
    refine s_iconst (oe_t6 8 (q := (12, .iconst (-1), 1)) rfl) ?_
    refine s_iload_n (oe_t6 9 (q := (13, .iload_n 1, 1)) rfl) rfl ?_
    obtain ⟨r25, vc⟩ := vc
    refine s_isub (oe_t6 10 (q := (14, .isub, 1)) rfl) r25 ?_
    exact s_iret (oe_t6 11 (q := (15, .ireturn, 1)) rfl) (Or.inl rfl) vc
theorem oe_u7 : oe_c7.all (fun q => decide (oe_find oe_c7 q.1 = some q.2)) = true := by decide +kernel
theorem oe_t7 (k : Nat) {q : Nat × Jvm.ClassFile.Instr × Nat} (h : oe_c7[k]? = some q) : oe_find (oe_code 7) q.1 = some q.2 := oe_ft oe_u7 h
theorem g7 {d : Nat} {sh : List (Nat × Nat)} {g : Nat → Nat → Option Nat} {h : Nat → Nat → Int} {Q : oeQ} {v0 : Nat}
    (vc : sh[v0]? = some (5, 14) ∧ oe_M (d + 1) 23 [.inr (.inl v0)] (sh, g, h) (fun r hp => ∃ (x3 : Int) (g2 : Nat → Nat → Option Nat) (h1 : Nat → Nat → Int), r = some (.inl x3) ∧ hp = (sh, g2, h1) ∧ Q (some (.inl x3)) (sh, g2, h1))) :
    oe_M (d + 2) 7 [.inr (.inl v0)] (sh, g, h) Q := by
  refine oe_M.of (by simp [oe_c1]) (Nat.le_of_ble_eq_true rfl) ?_
  show oe_V (oe_cost 7) 7 (oe_M (d + 1)) none Q 0 [some (.inr (.inl v0))] [] (sh, g, h) 0 0
  refine s_aload_n (oe_t7 0 (q := (0, .aload_n 0, 1)) rfl) rfl ?_
  obtain ⟨s4, vc⟩ := vc
  refine s_callv (oe_t7 1 (q := (1, .invokevirtual 23000, 3)) rfl) rfl s4 rfl (Nat.le_of_ble_eq_true rfl) (Nat.le_of_ble_eq_true rfl) (Nat.le_of_ble_eq_true rfl) (Nat.le_of_ble_eq_true rfl) ?_
  refine oe_M_mono _ _ _ _ _ _ (fun r hp vq => ?_) vc
  obtain ⟨x3, g2, h1, rfl, rfl, vc⟩ := vq
  show oe_V (oe_cost 7) 7 (oe_M (d + 1)) none Q 4 [some (.inr (.inl v0))] [.inl x3] (sh, g2, h1) 0 0
  exact s_iret (oe_t7 2 (q := (4, .ireturn, 1)) rfl) (Or.inl rfl) vc
theorem oe_u8 : oe_c8.all (fun q => decide (oe_find oe_c8 q.1 = some q.2)) = true := by decide +kernel
theorem oe_t8 (k : Nat) {q : Nat × Jvm.ClassFile.Instr × Nat} (h : oe_c8[k]? = some q) : oe_find (oe_code 8) q.1 = some q.2 := oe_ft oe_u8 h
theorem g8 {d : Nat} {sh : List (Nat × Nat)} {g : Nat → Nat → Option Nat} {h : Nat → Nat → Int} {Q : oeQ} {v0 : Nat} {v1 : Int}
    (vc : (v1 < 1 → False) ∧ (1 ≤ v1 → (v1 ≤ 20 → sh[v0]? = some (5, 14) ∧ oe_M (d + 1) 23 [.inr (.inl v0)] (sh, g, h) (fun r hp => ∃ (x5 : Int) (g4 : Nat → Nat → Option Nat) (h3 : Nat → Nat → Int), r = some (.inl x5) ∧ hp = (sh, g4, h3) ∧ oe_V (oe_cost 8) 8 (oe_M (d + 1)) none Q 28 [some (.inr (.inl v0)), some (.inl v1), some (.inl x5), some (.inl 1)] [] (sh, g4, h3) 0 0)) ∧ (20 < v1 → False))) :
    oe_M (d + 2) 8 [.inr (.inl v0), .inl v1] (sh, g, h) Q := by
  refine oe_M.of (by simp [oe_c1]) (Nat.le_of_ble_eq_true rfl) ?_
  show oe_V (oe_cost 8) 8 (oe_M (d + 1)) none Q 0 [some (.inr (.inl v0)), some (.inl v1), none, none] [] (sh, g, h) 0 0
  refine s_iload_n (oe_t8 0 (q := (0, .iload_n 1, 1)) rfl) rfl ?_
  refine s_iconst (oe_t8 1 (q := (1, .iconst 1, 1)) rfl) ?_
  refine s_ic_lt (oe_t8 2 (q := (2, .if_icmp .lt 11, 3)) rfl) (fun c1 => ?_) (fun c1 => ?_)
  · replace vc := vc.1 c1
    exact vc.elim
  · replace vc := vc.2 c1
    refine s_iload_n (oe_t8 3 (q := (5, .iload_n 1, 1)) rfl) rfl ?_
    refine s_bipush (oe_t8 4 (q := (6, .bipush 20, 2)) rfl) ?_
    refine s_ic_le (oe_t8 5 (q := (8, .if_icmp .le 21, 3)) rfl) (fun c2 => ?_) (fun c2 => ?_)
    · replace vc := vc.1 c2
      refine s_aload_n (oe_t8 7 (q := (21, .aload_n 0, 1)) rfl) rfl ?_
      obtain ⟨s6, vc⟩ := vc
      refine s_callv (oe_t8 8 (q := (22, .invokevirtual 23000, 3)) rfl) rfl s6 rfl (Nat.le_of_ble_eq_true rfl) (Nat.le_of_ble_eq_true rfl) (Nat.le_of_ble_eq_true rfl) (Nat.le_of_ble_eq_true rfl) ?_
      refine oe_M_mono _ _ _ _ _ _ (fun r hp vq => ?_) vc
      obtain ⟨x5, g4, h3, rfl, rfl, vc⟩ := vq
      show oe_V (oe_cost 8) 8 (oe_M (d + 1)) none Q 25 [some (.inr (.inl v0)), some (.inl v1), none, none] [.inl x5] (sh, g4, h3) 0 0
      refine s_istore_n (oe_t8 9 (q := (25, .istore_n 2, 1)) rfl) ?_
      refine s_iconst (oe_t8 10 (q := (26, .iconst 1, 1)) rfl) ?_
      refine s_istore_n (oe_t8 11 (q := (27, .istore_n 3, 1)) rfl) ?_
      exact oe_V.fg (oe_M_mono _) (show oe_fg [some (.inr (.inl v0)), some (.inl v1), some (.inl x5), some (.inl 1)] _ from ⟨rfl, ⟨rfl, ⟨rfl, ⟨rfl, trivial⟩⟩⟩⟩) vc
    · replace vc := vc.2 c2
      exact vc.elim
theorem g8_28 {d : Nat} {sh : List (Nat × Nat)} {g : Nat → Nat → Option Nat} {h : Nat → Nat → Int} {Q : oeQ} {v0 : Nat} {v1 : Int} {v2 : Int} {v3 : Int}
    (vc : (v1 ≤ v3 → Q (some (.inl v2)) (sh, g, h)) ∧ (v3 < v1 → (v2 = 0 → Q (some (.inl v2)) (sh, g, h)) ∧ (v2 ≠ 0 → (v2 = 1 → Q (some (.inl v2)) (sh, g, h)) ∧ (v2 ≠ 1 → sh[v0]? = some (5, 14) ∧ oe_M (d + 1) 23 [.inr (.inl v0)] (sh, g, h) (fun r hp => ∃ (x12 : Int) (g11 : Nat → Nat → Option Nat) (h10 : Nat → Nat → Int), r = some (.inl x12) ∧ hp = (sh, g11, h10) ∧ oe_rg (v3 + 1) ∧ oe_V (oe_cost 8) 8 (oe_M (d + 1)) none Q 28 [some (.inr (.inl v0)), some (.inl v1), some (.inl x12), some (.inl (v3 + 1))] [] (sh, g11, h10) 0 0))))) :
    oe_V (oe_cost 8) 8 (oe_M (d + 1)) none Q 28 [some (.inr (.inl v0)), some (.inl v1), some (.inl v2), some (.inl v3)] [] (sh, g, h) 0 0 := by
  refine s_iload_n (oe_t8 12 (q := (28, .iload_n 3, 1)) rfl) rfl ?_
  refine s_iload_n (oe_t8 13 (q := (29, .iload_n 1, 1)) rfl) rfl ?_
  refine s_ic_ge (oe_t8 14 (q := (30, .if_icmp .ge 53, 3)) rfl) (fun c7 => ?_) (fun c7 => ?_)
  · replace vc := vc.1 c7
    refine s_iload_n (oe_t8 25 (q := (53, .iload_n 2, 1)) rfl) rfl ?_
    exact s_iret (oe_t8 26 (q := (54, .ireturn, 1)) rfl) (Or.inl rfl) vc
  · replace vc := vc.2 c7
    refine s_iload_n (oe_t8 15 (q := (33, .iload_n 2, 1)) rfl) rfl ?_
    refine s_if_eq (oe_t8 16 (q := (34, .ifCond .eq 53, 3)) rfl) (fun c8 => ?_) (fun c8 => ?_)
    · replace vc := vc.1 c8
      refine s_iload_n (oe_t8 25 (q := (53, .iload_n 2, 1)) rfl) rfl ?_
      exact s_iret (oe_t8 26 (q := (54, .ireturn, 1)) rfl) (Or.inl rfl) vc
    · replace vc := vc.2 c8
      refine s_iload_n (oe_t8 17 (q := (37, .iload_n 2, 1)) rfl) rfl ?_
      refine s_iconst (oe_t8 18 (q := (38, .iconst 1, 1)) rfl) ?_
      refine s_ic_eq (oe_t8 19 (q := (39, .if_icmp .eq 53, 3)) rfl) (fun c9 => ?_) (fun c9 => ?_)
      · replace vc := vc.1 c9
        refine s_iload_n (oe_t8 25 (q := (53, .iload_n 2, 1)) rfl) rfl ?_
        exact s_iret (oe_t8 26 (q := (54, .ireturn, 1)) rfl) (Or.inl rfl) vc
      · replace vc := vc.2 c9
        refine s_aload_n (oe_t8 20 (q := (42, .aload_n 0, 1)) rfl) rfl ?_
        obtain ⟨s13, vc⟩ := vc
        refine s_callv (oe_t8 21 (q := (43, .invokevirtual 23000, 3)) rfl) rfl s13 rfl (Nat.le_of_ble_eq_true rfl) (Nat.le_of_ble_eq_true rfl) (Nat.le_of_ble_eq_true rfl) (Nat.le_of_ble_eq_true rfl) ?_
        refine oe_M_mono _ _ _ _ _ _ (fun r hp vq => ?_) vc
        obtain ⟨x12, g11, h10, rfl, rfl, vc⟩ := vq
        show oe_V (oe_cost 8) 8 (oe_M (d + 1)) none Q 46 [some (.inr (.inl v0)), some (.inl v1), some (.inl v2), some (.inl v3)] [.inl x12] (sh, g11, h10) 0 0
        refine s_istore_n (oe_t8 22 (q := (46, .istore_n 2, 1)) rfl) ?_
        obtain ⟨r14, vc⟩ := vc
        refine s_iinc (oe_t8 23 (q := (47, .iinc 3 1, 3)) rfl) rfl r14 ?_
        refine s_goto (oe_t8 24 (q := (50, .goto 28, 3)) rfl) ?_
        exact oe_V.fg (oe_M_mono _) (show oe_fg [some (.inr (.inl v0)), some (.inl v1), some (.inl x12), some (.inl (v3 + 1))] _ from ⟨rfl, ⟨rfl, ⟨rfl, ⟨rfl, trivial⟩⟩⟩⟩) vc
theorem oe_u9 : oe_c9.all (fun q => decide (oe_find oe_c9 q.1 = some q.2)) = true := by decide +kernel
theorem oe_t9 (k : Nat) {q : Nat × Jvm.ClassFile.Instr × Nat} (h : oe_c9[k]? = some q) : oe_find (oe_code 9) q.1 = some q.2 := oe_ft oe_u9 h
theorem g9 {d : Nat} {sh : List (Nat × Nat)} {g : Nat → Nat → Option Nat} {h : Nat → Nat → Int} {Q : oeQ} {v0 : Nat} {v1 : Int}
    (vc : ((v1 < 0 ∨ 2 < v1) → False) ∧ (v1 = 0 → sh[v0]? = some (5, 14) ∧ ∃ q2, g v0 5 = some q2 ∧ sh[q2]? = some (6, 5) ∧ Q (some (.inl (h q2 1))) (sh, g, h)) ∧ (v1 = 1 → sh[v0]? = some (5, 14) ∧ ∃ q6, g v0 4 = some q6 ∧ sh[q6]? = some (11, 2) ∧ Q (some (.inl (h q6 1))) (sh, g, h)) ∧ (v1 = 2 → sh[v0]? = some (5, 14) ∧ Q (some (.inl (h v0 7))) (sh, g, h))) :
    oe_M (d + 2) 9 [.inr (.inl v0), .inl v1] (sh, g, h) Q := by
  refine oe_M.of (by simp [oe_c1]) (Nat.le_of_ble_eq_true rfl) ?_
  show oe_V (oe_cost 9) 9 (oe_M (d + 1)) none Q 0 [some (.inr (.inl v0)), some (.inl v1)] [] (sh, g, h) 0 0
  refine s_iload_n (oe_t9 0 (q := (0, .iload_n 1, 1)) rfl) rfl ?_
  refine s_tsw (oe_t9 1 (q := (1, .tableswitch 49 0 2 #[28, 36, 44], 27)) rfl) (fun c0 => ?_) (fun t0 c1 c2 c3 => ?_)
  · replace vc := vc.1 c0
    exact vc.elim
  · replace vc := vc.2
    have c4 : v1 = 0 ∨ v1 = 1 ∨ v1 = 2 := by omega
    rcases c4 with c4 | c4
    · replace vc := vc.1 c4
      rw [c4] at c3
      have c5 : some (28 : Int) = some t0 := c3
      cases c5
      refine s_aload_n (oe_t9 2 (q := (28, .aload_n 0, 1)) rfl) rfl ?_
      obtain ⟨s1, vc⟩ := vc
      obtain ⟨q2, p3, vc⟩ := vc
      refine s_getr (oe_t9 3 (q := (29, .getfield 51, 3)) rfl) s1 rfl rfl p3 ?_
      obtain ⟨s4, vc⟩ := vc
      refine s_geti (oe_t9 4 (q := (32, .getfield 1010, 3)) rfl) s4 rfl (by decide) ?_
      exact s_iret (oe_t9 5 (q := (35, .ireturn, 1)) rfl) (Or.inl rfl) vc
    · replace vc := vc.2
      rcases c4 with c4 | c4
      · replace vc := vc.1 c4
        rw [c4] at c3
        have c5 : some (36 : Int) = some t0 := c3
        cases c5
        refine s_aload_n (oe_t9 6 (q := (36, .aload_n 0, 1)) rfl) rfl ?_
        obtain ⟨s5, vc⟩ := vc
        obtain ⟨q6, p7, vc⟩ := vc
        refine s_getr (oe_t9 7 (q := (37, .getfield 41, 3)) rfl) s5 rfl rfl p7 ?_
        obtain ⟨s8, vc⟩ := vc
        refine s_geti (oe_t9 8 (q := (40, .getfield 6010, 3)) rfl) s8 rfl (by decide) ?_
        exact s_iret (oe_t9 9 (q := (43, .ireturn, 1)) rfl) (Or.inl rfl) vc
      · replace vc := vc.2
        · replace vc := vc c4
          rw [c4] at c3
          have c5 : some (44 : Int) = some t0 := c3
          cases c5
          refine s_aload_n (oe_t9 10 (q := (44, .aload_n 0, 1)) rfl) rfl ?_
          obtain ⟨s9, vc⟩ := vc
          refine s_geti (oe_t9 11 (q := (45, .getfield 70, 3)) rfl) s9 rfl (by decide) ?_
          exact s_iret (oe_t9 12 (q := (48, .ireturn, 1)) rfl) (Or.inl rfl) vc
theorem oe_u10 : oe_c10.all (fun q => decide (oe_find oe_c10 q.1 = some q.2)) = true := by decide +kernel
theorem oe_t10 (k : Nat) {q : Nat × Jvm.ClassFile.Instr × Nat} (h : oe_c10[k]? = some q) : oe_find (oe_code 10) q.1 = some q.2 := oe_ft oe_u10 h
theorem g10 {d : Nat} {sh : List (Nat × Nat)} {g : Nat → Nat → Option Nat} {h : Nat → Nat → Int} {Q : oeQ} {v0 : Nat} {v1 : Int} {v2 : Int}
    (vc : (v1 < 0 → False) ∧ (0 ≤ v1 → (v1 ≤ 2 → sh[v0]? = some (5, 14) ∧ oe_M (d + 1) 20 [.inr (.inl v0), .inl v1, .inl v2] (sh, g, h) (fun r hp => ∃ (q3 : Nat), r = some (.inr (.inl q3)) ∧ hp = (sh, g, h) ∧ ∀ h5, h5 = oe_up h v0 3 0 → sh[q3]? = some (7, 2) ∧ ∃ q8, g q3 0 = some q8 ∧ oe_M (d + 1) 19 [.inr (.inl v0), .inr (.inl q8)] (sh, g, h5) (fun r hp => ∃ (h10 : Nat → Nat → Int), r = none ∧ hp = (sh, g, h10) ∧ ∃ q11, g v0 2 = some q11 ∧ ∃ n14, sh[q11]? = some (1, n14) ∧ 0 ≤ (h10 v0 3) ∧ (h10 v0 3) < (n14 : Nat) ∧ 0 ≤ (61 : Int) ∧ (61 : Int) < 65536 ∧ ∀ h17, h17 = oe_up h10 q11 ((h10 v0 3) : Int).toNat 61 → oe_rg ((h17 v0 3) + 1) ∧ ∀ h22, h22 = oe_up h17 v0 3 ((h17 v0 3) + 1) → ∃ q24, g q3 1 = some q24 ∧ oe_M (d + 1) 19 [.inr (.inl v0), .inr (.inl q24)] (sh, g, h22) (fun r hp => ∃ (h26 : Nat → Nat → Int), r = none ∧ hp = (sh, g, h26) ∧ Q (some (.inl (h26 v0 3))) (sh, g, h26))))) ∧ (2 < v1 → False))) :
    oe_M (d + 2) 10 [.inr (.inl v0), .inl v1, .inl v2] (sh, g, h) Q := by
  refine oe_M.of (by simp [oe_c1]) (Nat.le_of_ble_eq_true rfl) ?_
  show oe_V (oe_cost 10) 10 (oe_M (d + 1)) none Q 0 [some (.inr (.inl v0)), some (.inl v1), some (.inl v2), none] [] (sh, g, h) 0 0
  refine s_iload_n (oe_t10 0 (q := (0, .iload_n 1, 1)) rfl) rfl ?_
  refine s_if_lt (oe_t10 1 (q := (1, .ifCond .lt 9, 3)) rfl) (fun c1 => ?_) (fun c1 => ?_)
  · replace vc := vc.1 c1
    exact vc.elim
  · replace vc := vc.2 c1
    refine s_iload_n (oe_t10 2 (q := (4, .iload_n 1, 1)) rfl) rfl ?_
    refine s_iconst (oe_t10 3 (q := (5, .iconst 2, 1)) rfl) ?_
    refine s_ic_le (oe_t10 4 (q := (6, .if_icmp .le 19, 3)) rfl) (fun c2 => ?_) (fun c2 => ?_)
    · replace vc := vc.1 c2
      refine s_aload_n (oe_t10 6 (q := (19, .aload_n 0, 1)) rfl) rfl ?_
      refine s_iload_n (oe_t10 7 (q := (20, .iload_n 1, 1)) rfl) rfl ?_
      refine s_iload_n (oe_t10 8 (q := (21, .iload_n 2, 1)) rfl) rfl ?_
      obtain ⟨s4, vc⟩ := vc
      refine s_callv (oe_t10 9 (q := (22, .invokevirtual 20002, 3)) rfl) rfl s4 rfl (Nat.le_of_ble_eq_true rfl) (Nat.le_of_ble_eq_true rfl) (Nat.le_of_ble_eq_true rfl) (Nat.le_of_ble_eq_true rfl) ?_
      refine oe_M_mono _ _ _ _ _ _ (fun r hp vq => ?_) vc
      obtain ⟨q3, rfl, rfl, vc⟩ := vq
      show oe_V (oe_cost 10) 10 (oe_M (d + 1)) none Q 25 [some (.inr (.inl v0)), some (.inl v1), some (.inl v2), none] [.inr (.inl q3)] (sh, g, h) 0 0
      refine s_astore_n (oe_t10 10 (q := (25, .astore_n 3, 1)) rfl) ?_
      refine s_aload_n (oe_t10 11 (q := (26, .aload_n 3, 1)) rfl) rfl ?_
      refine s_nn_r (oe_t10 12 (q := (27, .ifnonnull 40, 3)) rfl) ?_
      refine s_aload_n (oe_t10 14 (q := (40, .aload_n 0, 1)) rfl) rfl ?_
      refine s_iconst (oe_t10 15 (q := (41, .iconst 0, 1)) rfl) ?_
      refine t_puti (oe_t10 16 (q := (42, .putfield 30, 3)) rfl) s4 rfl (Or.inl rfl) (fun h5 e6 => ?_)
      replace vc := vc h5 e6
      refine s_aload_n (oe_t10 17 (q := (45, .aload_n 0, 1)) rfl) rfl ?_
      refine s_aload_n (oe_t10 18 (q := (46, .aload_n 3, 1)) rfl) rfl ?_
      obtain ⟨s7, vc⟩ := vc
      obtain ⟨q8, p9, vc⟩ := vc
      refine s_getr (oe_t10 19 (q := (47, .getfield 2001, 3)) rfl) s7 rfl rfl p9 ?_
      refine s_callv (oe_t10 20 (q := (50, .invokevirtual 19001, 3)) rfl) rfl s4 rfl (Nat.le_of_ble_eq_true rfl) (Nat.le_of_ble_eq_true rfl) (Nat.le_of_ble_eq_true rfl) (Nat.le_of_ble_eq_true rfl) ?_
      refine oe_M_mono _ _ _ _ _ _ (fun r hp vq => ?_) vc
      obtain ⟨h10, rfl, rfl, vc⟩ := vq
      show oe_V (oe_cost 10) 10 (oe_M (d + 1)) none Q 53 [some (.inr (.inl v0)), some (.inl v1), some (.inl v2), some (.inr (.inl q3))] [] (sh, g, h10) 0 0
      refine s_aload_n (oe_t10 21 (q := (53, .aload_n 0, 1)) rfl) rfl ?_
      obtain ⟨q11, p12, vc⟩ := vc
      refine s_getr (oe_t10 22 (q := (54, .getfield 21, 3)) rfl) s4 rfl rfl p12 ?_
      refine s_aload_n (oe_t10 23 (q := (57, .aload_n 0, 1)) rfl) rfl ?_
      refine s_geti (oe_t10 24 (q := (58, .getfield 30, 3)) rfl) s4 rfl (by decide) ?_
      refine s_bipush (oe_t10 25 (q := (61, .bipush 61, 2)) rfl) ?_
      obtain ⟨n14, s13, vc⟩ := vc
      obtain ⟨i15, i16, vc⟩ := vc
      obtain ⟨c19, c20, vc⟩ := vc
      refine t_castore (oe_t10 26 (q := (63, .castore, 1)) rfl) s13 i15 i16 c19 c20 (fun h17 e18 => ?_)
      replace vc := vc h17 e18
      refine s_aload_n (oe_t10 27 (q := (64, .aload_n 0, 1)) rfl) rfl ?_
      refine s_dup (oe_t10 28 (q := (65, .dup, 1)) rfl) trivial ?_
      refine s_geti (oe_t10 29 (q := (66, .getfield 30, 3)) rfl) s4 rfl (by decide) ?_
      refine s_iconst (oe_t10 30 (q := (69, .iconst 1, 1)) rfl) ?_
      obtain ⟨r21, vc⟩ := vc
      refine s_iadd (oe_t10 31 (q := (70, .iadd, 1)) rfl) r21 ?_
      refine t_puti (oe_t10 32 (q := (71, .putfield 30, 3)) rfl) s4 rfl (Or.inl rfl) (fun h22 e23 => ?_)
      replace vc := vc h22 e23
      refine s_aload_n (oe_t10 33 (q := (74, .aload_n 0, 1)) rfl) rfl ?_
      refine s_aload_n (oe_t10 34 (q := (75, .aload_n 3, 1)) rfl) rfl ?_
      obtain ⟨q24, p25, vc⟩ := vc
      refine s_getr (oe_t10 35 (q := (76, .getfield 2011, 3)) rfl) s7 rfl rfl p25 ?_
      refine s_callv (oe_t10 36 (q := (79, .invokevirtual 19001, 3)) rfl) rfl s4 rfl (Nat.le_of_ble_eq_true rfl) (Nat.le_of_ble_eq_true rfl) (Nat.le_of_ble_eq_true rfl) (Nat.le_of_ble_eq_true rfl) ?_
      refine oe_M_mono _ _ _ _ _ _ (fun r hp vq => ?_) vc
      obtain ⟨h26, rfl, rfl, vc⟩ := vq
      show oe_V (oe_cost 10) 10 (oe_M (d + 1)) none Q 82 [some (.inr (.inl v0)), some (.inl v1), some (.inl v2), some (.inr (.inl q3))] [] (sh, g, h26) 0 0
      refine s_aload_n (oe_t10 37 (q := (82, .aload_n 0, 1)) rfl) rfl ?_
      refine s_geti (oe_t10 38 (q := (83, .getfield 30, 3)) rfl) s4 rfl (by decide) ?_
      exact s_iret (oe_t10 39 (q := (86, .ireturn, 1)) rfl) (Or.inl rfl) vc
    · replace vc := vc.2 c2
      exact vc.elim
theorem oe_u11 : oe_c11.all (fun q => decide (oe_find oe_c11 q.1 = some q.2)) = true := by decide +kernel
theorem oe_t11 (k : Nat) {q : Nat × Jvm.ClassFile.Instr × Nat} (h : oe_c11[k]? = some q) : oe_find (oe_code 11) q.1 = some q.2 := oe_ft oe_u11 h
theorem g11 {d : Nat} {sh : List (Nat × Nat)} {g : Nat → Nat → Option Nat} {h : Nat → Nat → Int} {Q : oeQ} {v0 : Nat}
    (vc : sh[v0]? = some (5, 14) ∧ oe_M (d + 1) 18 [.inr (.inl v0), .inl 1, .inl 1] (sh, g, h) (fun r hp => ∃ (x2 : Int) (h1 : Nat → Nat → Int), r = some (.inl x2) ∧ hp = (sh, g, h1) ∧ (x2 = (-1) → ∃ q5, g v0 10 = some q5 ∧ sh[q5]? = some (7, 2) ∧ oe_M (d + 1) 96 [.inr (.inl q5)] (sh, g, h1) (fun r hp => ∃ (x7 : Int), r = some (.inl x7) ∧ hp = (sh, g, h1) ∧ (x7 = 0 → ∃ q10, g q5 0 = some q10 ∧ ∃ q12, g q5 1 = some q12 ∧ oe_M (d + 1) 110 [.inr (.inl q10), .inl 0, .inr (.inl q12), .inl 0, .inl 0] (sh, g, h1) (fun r hp => ∃ (x14 : Int), r = some (.inl x14) ∧ hp = (sh, g, h1) ∧ (x14 = 0 → oe_M (d + 1) 110 [.inr (.inl q12), .inl 0, .inr (.inl q10), .inl 0, .inl 0] (sh, g, h1) (fun r hp => ∃ (x16 : Int), r = some (.inl x16) ∧ hp = (sh, g, h1) ∧ (x16 = 0 → Q (some (.inl 0)) (sh, g, h1)) ∧ (x16 ≠ 0 → Q (some (.inl 2)) (sh, g, h1)))) ∧ (x14 ≠ 0 → Q (some (.inl 1)) (sh, g, h1)))) ∧ (x7 ≠ 0 → Q (some (.inl 3)) (sh, g, h1)))) ∧ (x2 ≠ (-1) → oe_rg ((-1) - x2) ∧ Q (some (.inl ((-1) - x2))) (sh, g, h1)))) :
    oe_M (d + 2) 11 [.inr (.inl v0)] (sh, g, h) Q := by
  refine oe_M.of (by simp [oe_c1]) (Nat.le_of_ble_eq_true rfl) ?_
  show oe_V (oe_cost 11) 11 (oe_M (d + 1)) none Q 0 [some (.inr (.inl v0)), none] [] (sh, g, h) 0 0
  refine s_aload_n (oe_t11 0 (q := (0, .aload_n 0, 1)) rfl) rfl ?_
  refine s_iconst (oe_t11 1 (q := (1, .iconst 1, 1)) rfl) ?_
  refine s_iconst (oe_t11 2 (q := (2, .iconst 1, 1)) rfl) ?_
  obtain ⟨s3, vc⟩ := vc
  refine s_callv (oe_t11 3 (q := (3, .invokevirtual 18002, 3)) rfl) rfl s3 rfl (Nat.le_of_ble_eq_true rfl) (Nat.le_of_ble_eq_true rfl) (Nat.le_of_ble_eq_true rfl) (Nat.le_of_ble_eq_true rfl) ?_
  refine oe_M_mono _ _ _ _ _ _ (fun r hp vq => ?_) vc
  obtain ⟨x2, h1, rfl, rfl, vc⟩ := vq
  show oe_V (oe_cost 11) 11 (oe_M (d + 1)) none Q 6 [some (.inr (.inl v0)), none] [.inl x2] (sh, g, h1) 0 0
  refine s_istore_n (oe_t11 4 (q := (6, .istore_n 1, 1)) rfl) ?_
  refine s_iload_n (oe_t11 5 (q := (7, .iload_n 1, 1)) rfl) rfl ?_
  refine s_iconst (oe_t11 6 (q := (8, .iconst (-1), 1)) rfl) ?_
  refine s_ic_eq (oe_t11 7 (q := (9, .if_icmp .eq 16, 3)) rfl) (fun c4 => ?_) (fun c4 => ?_)
  · replace vc := vc.1 c4
    refine s_aload_n (oe_t11 12 (q := (16, .aload_n 0, 1)) rfl) rfl ?_
    obtain ⟨q5, p6, vc⟩ := vc
    refine s_getr (oe_t11 13 (q := (17, .getfield 101, 3)) rfl) s3 rfl rfl p6 ?_
    obtain ⟨s8, vc⟩ := vc
    refine s_callv (oe_t11 14 (q := (20, .invokevirtual 96020, 3)) rfl) rfl s8 rfl (Nat.le_of_ble_eq_true rfl) (Nat.le_of_ble_eq_true rfl) (Nat.le_of_ble_eq_true rfl) (Nat.le_of_ble_eq_true rfl) ?_
    refine oe_M_mono _ _ _ _ _ _ (fun r hp vq => ?_) vc
    obtain ⟨x7, rfl, rfl, vc⟩ := vq
    show oe_V (oe_cost 11) 11 (oe_M (d + 1)) none Q 23 [some (.inr (.inl v0)), some (.inl x2)] [.inl x7] (sh, g, h1) 0 0
    refine s_if_eq (oe_t11 15 (q := (23, .ifCond .eq 28, 3)) rfl) (fun c9 => ?_) (fun c9 => ?_)
    · replace vc := vc.1 c9
      refine s_aload_n (oe_t11 18 (q := (28, .aload_n 0, 1)) rfl) rfl ?_
      refine s_getr (oe_t11 19 (q := (29, .getfield 101, 3)) rfl) s3 rfl rfl p6 ?_
      obtain ⟨q10, p11, vc⟩ := vc
      refine s_getr (oe_t11 20 (q := (32, .getfield 2001, 3)) rfl) s8 rfl rfl p11 ?_
      refine s_iconst (oe_t11 21 (q := (35, .iconst 0, 1)) rfl) ?_
      refine s_aload_n (oe_t11 22 (q := (36, .aload_n 0, 1)) rfl) rfl ?_
      refine s_getr (oe_t11 23 (q := (37, .getfield 101, 3)) rfl) s3 rfl rfl p6 ?_
      obtain ⟨q12, p13, vc⟩ := vc
      refine s_getr (oe_t11 24 (q := (40, .getfield 2011, 3)) rfl) s8 rfl rfl p13 ?_
      refine s_iconst (oe_t11 25 (q := (43, .iconst 0, 1)) rfl) ?_
      refine s_iconst (oe_t11 26 (q := (44, .iconst 0, 1)) rfl) ?_
      refine s_calls (oe_t11 27 (q := (45, .invokestatic 110035, 3)) rfl) (by decide) (Nat.le_of_ble_eq_true rfl) (Nat.le_of_ble_eq_true rfl) (Nat.le_of_ble_eq_true rfl) (Nat.le_of_ble_eq_true rfl) ?_
      refine oe_M_mono _ _ _ _ _ _ (fun r hp vq => ?_) vc
      obtain ⟨x14, rfl, rfl, vc⟩ := vq
      show oe_V (oe_cost 11) 11 (oe_M (d + 1)) none Q 48 [some (.inr (.inl v0)), some (.inl x2)] [.inl x14] (sh, g, h1) 0 0
      refine s_if_eq (oe_t11 28 (q := (48, .ifCond .eq 53, 3)) rfl) (fun c15 => ?_) (fun c15 => ?_)
      · replace vc := vc.1 c15
        refine s_aload_n (oe_t11 31 (q := (53, .aload_n 0, 1)) rfl) rfl ?_
        refine s_getr (oe_t11 32 (q := (54, .getfield 101, 3)) rfl) s3 rfl rfl p6 ?_
        refine s_getr (oe_t11 33 (q := (57, .getfield 2011, 3)) rfl) s8 rfl rfl p13 ?_
        refine s_iconst (oe_t11 34 (q := (60, .iconst 0, 1)) rfl) ?_
        refine s_aload_n (oe_t11 35 (q := (61, .aload_n 0, 1)) rfl) rfl ?_
        refine s_getr (oe_t11 36 (q := (62, .getfield 101, 3)) rfl) s3 rfl rfl p6 ?_
        refine s_getr (oe_t11 37 (q := (65, .getfield 2001, 3)) rfl) s8 rfl rfl p11 ?_
        refine s_iconst (oe_t11 38 (q := (68, .iconst 0, 1)) rfl) ?_
        refine s_iconst (oe_t11 39 (q := (69, .iconst 0, 1)) rfl) ?_
        refine s_calls (oe_t11 40 (q := (70, .invokestatic 110035, 3)) rfl) (by decide) (Nat.le_of_ble_eq_true rfl) (Nat.le_of_ble_eq_true rfl) (Nat.le_of_ble_eq_true rfl) (Nat.le_of_ble_eq_true rfl) ?_
        refine oe_M_mono _ _ _ _ _ _ (fun r hp vq => ?_) vc
        obtain ⟨x16, rfl, rfl, vc⟩ := vq
        show oe_V (oe_cost 11) 11 (oe_M (d + 1)) none Q 73 [some (.inr (.inl v0)), some (.inl x2)] [.inl x16] (sh, g, h1) 0 0
        refine s_if_eq (oe_t11 41 (q := (73, .ifCond .eq 80, 3)) rfl) (fun c17 => ?_) (fun c17 => ?_)
        · replace vc := vc.1 c17
          refine s_iconst (oe_t11 44 (q := (80, .iconst 0, 1)) rfl) ?_
          exact s_iret (oe_t11 45 (q := (81, .ireturn, 1)) rfl) (Or.inl rfl) vc
        · replace vc := vc.2 c17
          refine s_iconst (oe_t11 42 (q := (76, .iconst 2, 1)) rfl) ?_
          refine s_goto (oe_t11 43 (q := (77, .goto 81, 3)) rfl) ?_
          exact s_iret (oe_t11 45 (q := (81, .ireturn, 1)) rfl) (Or.inl rfl) vc
      · replace vc := vc.2 c15
        refine s_iconst (oe_t11 29 (q := (51, .iconst 1, 1)) rfl) ?_
        exact s_iret (oe_t11 30 (q := (52, .ireturn, 1)) rfl) (Or.inl rfl) vc
    · replace vc := vc.2 c9
      refine s_iconst (oe_t11 16 (q := (26, .iconst 3, 1)) rfl) ?_
      exact s_iret (oe_t11 17 (q := (27, .ireturn, 1)) rfl) (Or.inl rfl) vc
  · replace vc := vc.2 c4
    refine s_iconst (oe_t11 8 (q := (12, .iconst (-1), 1)) rfl) ?_
    refine s_iload_n (oe_t11 9 (q := (13, .iload_n 1, 1)) rfl) rfl ?_
    obtain ⟨r18, vc⟩ := vc
    refine s_isub (oe_t11 10 (q := (14, .isub, 1)) rfl) r18 ?_
    exact s_iret (oe_t11 11 (q := (15, .ireturn, 1)) rfl) (Or.inl rfl) vc
theorem oe_u12 : oe_c12.all (fun q => decide (oe_find oe_c12 q.1 = some q.2)) = true := by decide +kernel
theorem oe_t12 (k : Nat) {q : Nat × Jvm.ClassFile.Instr × Nat} (h : oe_c12[k]? = some q) : oe_find (oe_code 12) q.1 = some q.2 := oe_ft oe_u12 h
theorem g12 {d : Nat} {sh : List (Nat × Nat)} {g : Nat → Nat → Option Nat} {h : Nat → Nat → Int} {Q : oeQ} {v0 : Nat}
    (vc : sh[v0]? = some (5, 14) ∧ oe_M (d + 1) 18 [.inr (.inl v0), .inl 1, .inl 1] (sh, g, h) (fun r hp => ∃ (x2 : Int) (h1 : Nat → Nat → Int), r = some (.inl x2) ∧ hp = (sh, g, h1) ∧ (x2 = (-1) → ∃ q5, g v0 6 = some q5 ∧ sh[q5]? = some (9, 3) ∧ ∃ q8, g q5 0 = some q8 ∧ sh[q8]? = some (10, 8) ∧ oe_M (d + 1) 115 [.inr (.inl q8)] (sh, g, h1) (fun r hp => ∃ (h10 : Nat → Nat → Int), r = none ∧ hp = (sh, g, h10) ∧ ∃ q12, g v0 10 = some q12 ∧ sh[q12]? = some (7, 2) ∧ ∃ q15, g q12 0 = some q15 ∧ oe_M (d + 1) 116 [.inr (.inl q8), .inr (.inl q15), .inl 0] (sh, g, h10) (fun r hp => ∃ (x18 : Int) (h17 : Nat → Nat → Int), r = some (.inl x18) ∧ hp = (sh, g, h17) ∧ ∃ q19, g q12 1 = some q19 ∧ oe_M (d + 1) 116 [.inr (.inl q8), .inr (.inl q19), .inl 0] (sh, g, h17) (fun r hp => ∃ (x22 : Int) (h21 : Nat → Nat → Int), r = some (.inl x22) ∧ hp = (sh, g, h21) ∧ oe_M (d + 1) 117 [.inr (.inl q8), .inl x18, .inl x22] (sh, g, h21) (fun r hp => ∃ (x24 : Int) (h23 : Nat → Nat → Int), r = some (.inl x24) ∧ hp = (sh, g, h23) ∧ (x24 = 0 → Q (some (.inl (-100))) (sh, g, h23)) ∧ (x24 ≠ 0 → oe_M (d + 1) 123 [.inr (.inl q8), .inl x18, .inr (.inl q15), .inl 60] (sh, g, h23) (fun r hp => ∃ (x27 : Int) (h26 : Nat → Nat → Int), r = some (.inl x27) ∧ hp = (sh, g, h26) ∧ (x27 ≠ 0 → ∀ h29, h29 = oe_up h26 v0 3 0 → oe_M (d + 1) 19 [.inr (.inl v0), .inr (.inl q15)] (sh, g, h29) (fun r hp => ∃ (h31 : Nat → Nat → Int), r = none ∧ hp = (sh, g, h31) ∧ Q (some (.inl (h31 v0 3))) (sh, g, h31))) ∧ (x27 = 0 → Q (some (.inl (-100))) (sh, g, h26))))))))) ∧ (x2 ≠ (-1) → oe_rg ((-1) - x2) ∧ Q (some (.inl ((-1) - x2))) (sh, g, h1)))) :
    oe_M (d + 2) 12 [.inr (.inl v0)] (sh, g, h) Q := by
  refine oe_M.of (by simp [oe_c1]) (Nat.le_of_ble_eq_true rfl) ?_
  show oe_V (oe_cost 12) 12 (oe_M (d + 1)) none Q 0 [some (.inr (.inl v0)), none, none, none, none] [] (sh, g, h) 0 0
  refine s_aload_n (oe_t12 0 (q := (0, .aload_n 0, 1)) rfl) rfl ?_
  refine s_iconst (oe_t12 1 (q := (1, .iconst 1, 1)) rfl) ?_
  refine s_iconst (oe_t12 2 (q := (2, .iconst 1, 1)) rfl) ?_
  obtain ⟨s3, vc⟩ := vc
  refine s_callv (oe_t12 3 (q := (3, .invokevirtual 18002, 3)) rfl) rfl s3 rfl (Nat.le_of_ble_eq_true rfl) (Nat.le_of_ble_eq_true rfl) (Nat.le_of_ble_eq_true rfl) (Nat.le_of_ble_eq_true rfl) ?_
  refine oe_M_mono _ _ _ _ _ _ (fun r hp vq => ?_) vc
  obtain ⟨x2, h1, rfl, rfl, vc⟩ := vq
  show oe_V (oe_cost 12) 12 (oe_M (d + 1)) none Q 6 [some (.inr (.inl v0)), none, none, none, none] [.inl x2] (sh, g, h1) 0 0
  refine s_istore_n (oe_t12 4 (q := (6, .istore_n 1, 1)) rfl) ?_
  refine s_iload_n (oe_t12 5 (q := (7, .iload_n 1, 1)) rfl) rfl ?_
  refine s_iconst (oe_t12 6 (q := (8, .iconst (-1), 1)) rfl) ?_
  refine s_ic_eq (oe_t12 7 (q := (9, .if_icmp .eq 16, 3)) rfl) (fun c4 => ?_) (fun c4 => ?_)
  · replace vc := vc.1 c4
    refine s_aload_n (oe_t12 12 (q := (16, .aload_n 0, 1)) rfl) rfl ?_
    obtain ⟨q5, p6, vc⟩ := vc
    refine s_getr (oe_t12 13 (q := (17, .getfield 61, 3)) rfl) s3 rfl rfl p6 ?_
    obtain ⟨s7, vc⟩ := vc
    obtain ⟨q8, p9, vc⟩ := vc
    refine s_getr (oe_t12 14 (q := (20, .getfield 4001, 3)) rfl) s7 rfl rfl p9 ?_
    refine s_astore_n (oe_t12 15 (q := (23, .astore_n 2, 1)) rfl) ?_
    refine s_aload_n (oe_t12 16 (q := (24, .aload_n 2, 1)) rfl) rfl ?_
    obtain ⟨s11, vc⟩ := vc
    refine s_callv (oe_t12 17 (q := (25, .invokevirtual 115050, 3)) rfl) rfl s11 rfl (Nat.le_of_ble_eq_true rfl) (Nat.le_of_ble_eq_true rfl) (Nat.le_of_ble_eq_true rfl) (Nat.le_of_ble_eq_true rfl) ?_
    refine oe_M_mono _ _ _ _ _ _ (fun r hp vq => ?_) vc
    obtain ⟨h10, rfl, rfl, vc⟩ := vq
    show oe_V (oe_cost 12) 12 (oe_M (d + 1)) none Q 28 [some (.inr (.inl v0)), some (.inl x2), some (.inr (.inl q8)), none, none] [] (sh, g, h10) 0 0
    refine s_aload_n (oe_t12 18 (q := (28, .aload_n 2, 1)) rfl) rfl ?_
    refine s_aload_n (oe_t12 19 (q := (29, .aload_n 0, 1)) rfl) rfl ?_
    obtain ⟨q12, p13, vc⟩ := vc
    refine s_getr (oe_t12 20 (q := (30, .getfield 101, 3)) rfl) s3 rfl rfl p13 ?_
    obtain ⟨s14, vc⟩ := vc
    obtain ⟨q15, p16, vc⟩ := vc
    refine s_getr (oe_t12 21 (q := (33, .getfield 2001, 3)) rfl) s14 rfl rfl p16 ?_
    refine s_iconst (oe_t12 22 (q := (36, .iconst 0, 1)) rfl) ?_
    refine s_callv (oe_t12 23 (q := (37, .invokevirtual 116052, 3)) rfl) rfl s11 rfl (Nat.le_of_ble_eq_true rfl) (Nat.le_of_ble_eq_true rfl) (Nat.le_of_ble_eq_true rfl) (Nat.le_of_ble_eq_true rfl) ?_
    refine oe_M_mono _ _ _ _ _ _ (fun r hp vq => ?_) vc
    obtain ⟨x18, h17, rfl, rfl, vc⟩ := vq
    show oe_V (oe_cost 12) 12 (oe_M (d + 1)) none Q 40 [some (.inr (.inl v0)), some (.inl x2), some (.inr (.inl q8)), none, none] [.inl x18] (sh, g, h17) 0 0
    refine s_istore_n (oe_t12 24 (q := (40, .istore_n 3, 1)) rfl) ?_
    refine s_aload_n (oe_t12 25 (q := (41, .aload_n 2, 1)) rfl) rfl ?_
    refine s_aload_n (oe_t12 26 (q := (42, .aload_n 0, 1)) rfl) rfl ?_
    refine s_getr (oe_t12 27 (q := (43, .getfield 101, 3)) rfl) s3 rfl rfl p13 ?_
    obtain ⟨q19, p20, vc⟩ := vc
    refine s_getr (oe_t12 28 (q := (46, .getfield 2011, 3)) rfl) s14 rfl rfl p20 ?_
    refine s_iconst (oe_t12 29 (q := (49, .iconst 0, 1)) rfl) ?_
    refine s_callv (oe_t12 30 (q := (50, .invokevirtual 116052, 3)) rfl) rfl s11 rfl (Nat.le_of_ble_eq_true rfl) (Nat.le_of_ble_eq_true rfl) (Nat.le_of_ble_eq_true rfl) (Nat.le_of_ble_eq_true rfl) ?_
    refine oe_M_mono _ _ _ _ _ _ (fun r hp vq => ?_) vc
    obtain ⟨x22, h21, rfl, rfl, vc⟩ := vq
    show oe_V (oe_cost 12) 12 (oe_M (d + 1)) none Q 53 [some (.inr (.inl v0)), some (.inl x2), some (.inr (.inl q8)), some (.inl x18), none] [.inl x22] (sh, g, h21) 0 0
    refine s_istore (oe_t12 31 (q := (53, .istore 4, 2)) rfl) ?_
    refine s_aload_n (oe_t12 32 (q := (55, .aload_n 2, 1)) rfl) rfl ?_
    refine s_iload_n (oe_t12 33 (q := (56, .iload_n 3, 1)) rfl) rfl ?_
    refine s_iload (oe_t12 34 (q := (57, .iload 4, 2)) rfl) rfl ?_
    refine s_callv (oe_t12 35 (q := (59, .invokevirtual 117052, 3)) rfl) rfl s11 rfl (Nat.le_of_ble_eq_true rfl) (Nat.le_of_ble_eq_true rfl) (Nat.le_of_ble_eq_true rfl) (Nat.le_of_ble_eq_true rfl) ?_
    refine oe_M_mono _ _ _ _ _ _ (fun r hp vq => ?_) vc
    obtain ⟨x24, h23, rfl, rfl, vc⟩ := vq
    show oe_V (oe_cost 12) 12 (oe_M (d + 1)) none Q 62 [some (.inr (.inl v0)), some (.inl x2), some (.inr (.inl q8)), some (.inl x18), some (.inl x22)] [.inl x24] (sh, g, h23) 0 0
    refine s_if_eq (oe_t12 36 (q := (62, .ifCond .eq 82, 3)) rfl) (fun c25 => ?_) (fun c25 => ?_)
    · replace vc := vc.1 c25
      refine s_bipush (oe_t12 45 (q := (82, .bipush (-100), 2)) rfl) ?_
      exact s_iret (oe_t12 46 (q := (84, .ireturn, 1)) rfl) (Or.inl rfl) vc
    · replace vc := vc.2 c25
      refine s_aload_n (oe_t12 37 (q := (65, .aload_n 2, 1)) rfl) rfl ?_
      refine s_iload_n (oe_t12 38 (q := (66, .iload_n 3, 1)) rfl) rfl ?_
      refine s_aload_n (oe_t12 39 (q := (67, .aload_n 0, 1)) rfl) rfl ?_
      refine s_getr (oe_t12 40 (q := (68, .getfield 101, 3)) rfl) s3 rfl rfl p13 ?_
      refine s_getr (oe_t12 41 (q := (71, .getfield 2001, 3)) rfl) s14 rfl rfl p16 ?_
      refine s_bipush (oe_t12 42 (q := (74, .bipush 60, 2)) rfl) ?_
      refine s_callv (oe_t12 43 (q := (76, .invokevirtual 123053, 3)) rfl) rfl s11 rfl (Nat.le_of_ble_eq_true rfl) (Nat.le_of_ble_eq_true rfl) (Nat.le_of_ble_eq_true rfl) (Nat.le_of_ble_eq_true rfl) ?_
      refine oe_M_mono _ _ _ _ _ _ (fun r hp vq => ?_) vc
      obtain ⟨x27, h26, rfl, rfl, vc⟩ := vq
      show oe_V (oe_cost 12) 12 (oe_M (d + 1)) none Q 79 [some (.inr (.inl v0)), some (.inl x2), some (.inr (.inl q8)), some (.inl x18), some (.inl x22)] [.inl x27] (sh, g, h26) 0 0
      refine s_if_ne (oe_t12 44 (q := (79, .ifCond .ne 85, 3)) rfl) (fun c28 => ?_) (fun c28 => ?_)
      · replace vc := vc.1 c28
        refine s_aload_n (oe_t12 47 (q := (85, .aload_n 0, 1)) rfl) rfl ?_
        refine s_iconst (oe_t12 48 (q := (86, .iconst 0, 1)) rfl) ?_
        refine t_puti (oe_t12 49 (q := (87, .putfield 30, 3)) rfl) s3 rfl (Or.inl rfl) (fun h29 e30 => ?_)
        replace vc := vc h29 e30
        refine s_aload_n (oe_t12 50 (q := (90, .aload_n 0, 1)) rfl) rfl ?_
        refine s_aload_n (oe_t12 51 (q := (91, .aload_n 0, 1)) rfl) rfl ?_
        refine s_getr (oe_t12 52 (q := (92, .getfield 101, 3)) rfl) s3 rfl rfl p13 ?_
        refine s_getr (oe_t12 53 (q := (95, .getfield 2001, 3)) rfl) s14 rfl rfl p16 ?_
        refine s_callv (oe_t12 54 (q := (98, .invokevirtual 19001, 3)) rfl) rfl s3 rfl (Nat.le_of_ble_eq_true rfl) (Nat.le_of_ble_eq_true rfl) (Nat.le_of_ble_eq_true rfl) (Nat.le_of_ble_eq_true rfl) ?_
        refine oe_M_mono _ _ _ _ _ _ (fun r hp vq => ?_) vc
        obtain ⟨h31, rfl, rfl, vc⟩ := vq
        show oe_V (oe_cost 12) 12 (oe_M (d + 1)) none Q 101 [some (.inr (.inl v0)), some (.inl x2), some (.inr (.inl q8)), some (.inl x18), some (.inl x22)] [] (sh, g, h31) 0 0
        refine s_aload_n (oe_t12 55 (q := (101, .aload_n 0, 1)) rfl) rfl ?_
        refine s_geti (oe_t12 56 (q := (102, .getfield 30, 3)) rfl) s3 rfl (by decide) ?_
        exact s_iret (oe_t12 57 (q := (105, .ireturn, 1)) rfl) (Or.inl rfl) vc
      · replace vc := vc.2 c28
        refine s_bipush (oe_t12 45 (q := (82, .bipush (-100), 2)) rfl) ?_
        exact s_iret (oe_t12 46 (q := (84, .ireturn, 1)) rfl) (Or.inl rfl) vc
  · replace vc := vc.2 c4
    refine s_iconst (oe_t12 8 (q := (12, .iconst (-1), 1)) rfl) ?_
    refine s_iload_n (oe_t12 9 (q := (13, .iload_n 1, 1)) rfl) rfl ?_
    obtain ⟨r32, vc⟩ := vc
    refine s_isub (oe_t12 10 (q := (14, .isub, 1)) rfl) r32 ?_
    exact s_iret (oe_t12 11 (q := (15, .ireturn, 1)) rfl) (Or.inl rfl) vc
theorem oe_u13 : oe_c13.all (fun q => decide (oe_find oe_c13 q.1 = some q.2)) = true := by decide +kernel
theorem oe_t13 (k : Nat) {q : Nat × Jvm.ClassFile.Instr × Nat} (h : oe_c13[k]? = some q) : oe_find (oe_code 13) q.1 = some q.2 := oe_ft oe_u13 h
theorem g13 {d : Nat} {sh : List (Nat × Nat)} {g : Nat → Nat → Option Nat} {h : Nat → Nat → Int} {Q : oeQ} {v0 : Nat}
    (vc : sh[v0]? = some (5, 14) ∧ oe_M (d + 1) 18 [.inr (.inl v0), .inl 0, .inl 1] (sh, g, h) (fun r hp => ∃ (x2 : Int) (h1 : Nat → Nat → Int), r = some (.inl x2) ∧ hp = (sh, g, h1) ∧ (x2 = (-1) → ∃ q5, g v0 10 = some q5 ∧ sh[q5]? = some (7, 2) ∧ ∃ q8, g q5 0 = some q8 ∧ sh[q8]? = some (8, 3) ∧ ((h1 q8 2) ≤ 30 → ∃ q12, g v0 5 = some q12 ∧ sh[q12]? = some (6, 5) ∧ oe_M (d + 1) 88 [.inr (.inl q12), .inr (.inl q8)] (sh, g, h1) (fun r hp => ∃ (x15 : Int) (h14 : Nat → Nat → Int), r = some (.inl x15) ∧ hp = (sh, g, h14) ∧ ∀ h17, h17 = oe_up h14 v0 3 0 → oe_M (d + 1) 19 [.inr (.inl v0), .inr (.inl q8)] (sh, g, h17) (fun r hp => ∃ (h19 : Nat → Nat → Int), r = none ∧ hp = (sh, g, h19) ∧ Q (some (.inl x15)) (sh, g, h19)))) ∧ (30 < (h1 q8 2) → Q (some (.inl (-200))) (sh, g, h1))) ∧ (x2 ≠ (-1) → oe_rg ((-1) - x2) ∧ Q (some (.inl ((-1) - x2))) (sh, g, h1)))) :
    oe_M (d + 2) 13 [.inr (.inl v0)] (sh, g, h) Q := by
  refine oe_M.of (by simp [oe_c1]) (Nat.le_of_ble_eq_true rfl) ?_
  show oe_V (oe_cost 13) 13 (oe_M (d + 1)) none Q 0 [some (.inr (.inl v0)), none, none] [] (sh, g, h) 0 0
  refine s_aload_n (oe_t13 0 (q := (0, .aload_n 0, 1)) rfl) rfl ?_
  refine s_iconst (oe_t13 1 (q := (1, .iconst 0, 1)) rfl) ?_
  refine s_iconst (oe_t13 2 (q := (2, .iconst 1, 1)) rfl) ?_
  obtain ⟨s3, vc⟩ := vc
  refine s_callv (oe_t13 3 (q := (3, .invokevirtual 18002, 3)) rfl) rfl s3 rfl (Nat.le_of_ble_eq_true rfl) (Nat.le_of_ble_eq_true rfl) (Nat.le_of_ble_eq_true rfl) (Nat.le_of_ble_eq_true rfl) ?_
  refine oe_M_mono _ _ _ _ _ _ (fun r hp vq => ?_) vc
  obtain ⟨x2, h1, rfl, rfl, vc⟩ := vq
  show oe_V (oe_cost 13) 13 (oe_M (d + 1)) none Q 6 [some (.inr (.inl v0)), none, none] [.inl x2] (sh, g, h1) 0 0
  refine s_istore_n (oe_t13 4 (q := (6, .istore_n 1, 1)) rfl) ?_
  refine s_iload_n (oe_t13 5 (q := (7, .iload_n 1, 1)) rfl) rfl ?_
  refine s_iconst (oe_t13 6 (q := (8, .iconst (-1), 1)) rfl) ?_
  refine s_ic_eq (oe_t13 7 (q := (9, .if_icmp .eq 16, 3)) rfl) (fun c4 => ?_) (fun c4 => ?_)
  · replace vc := vc.1 c4
    refine s_aload_n (oe_t13 12 (q := (16, .aload_n 0, 1)) rfl) rfl ?_
    obtain ⟨q5, p6, vc⟩ := vc
    refine s_getr (oe_t13 13 (q := (17, .getfield 101, 3)) rfl) s3 rfl rfl p6 ?_
    obtain ⟨s7, vc⟩ := vc
    obtain ⟨q8, p9, vc⟩ := vc
    refine s_getr (oe_t13 14 (q := (20, .getfield 2001, 3)) rfl) s7 rfl rfl p9 ?_
    obtain ⟨s10, vc⟩ := vc
    refine s_geti (oe_t13 15 (q := (23, .getfield 3020, 3)) rfl) s10 rfl (by decide) ?_
    refine s_bipush (oe_t13 16 (q := (26, .bipush 30, 2)) rfl) ?_
    refine s_ic_le (oe_t13 17 (q := (28, .if_icmp .le 35, 3)) rfl) (fun c11 => ?_) (fun c11 => ?_)
    · replace vc := vc.1 c11
      refine s_aload_n (oe_t13 20 (q := (35, .aload_n 0, 1)) rfl) rfl ?_
      obtain ⟨q12, p13, vc⟩ := vc
      refine s_getr (oe_t13 21 (q := (36, .getfield 51, 3)) rfl) s3 rfl rfl p13 ?_
      refine s_aload_n (oe_t13 22 (q := (39, .aload_n 0, 1)) rfl) rfl ?_
      refine s_getr (oe_t13 23 (q := (40, .getfield 101, 3)) rfl) s3 rfl rfl p6 ?_
      refine s_getr (oe_t13 24 (q := (43, .getfield 2001, 3)) rfl) s7 rfl rfl p9 ?_
      obtain ⟨s16, vc⟩ := vc
      refine s_callv (oe_t13 25 (q := (46, .invokevirtual 88011, 3)) rfl) rfl s16 rfl (Nat.le_of_ble_eq_true rfl) (Nat.le_of_ble_eq_true rfl) (Nat.le_of_ble_eq_true rfl) (Nat.le_of_ble_eq_true rfl) ?_
      refine oe_M_mono _ _ _ _ _ _ (fun r hp vq => ?_) vc
      obtain ⟨x15, h14, rfl, rfl, vc⟩ := vq
      show oe_V (oe_cost 13) 13 (oe_M (d + 1)) none Q 49 [some (.inr (.inl v0)), some (.inl x2), none] [.inl x15] (sh, g, h14) 0 0
      refine s_istore_n (oe_t13 26 (q := (49, .istore_n 2, 1)) rfl) ?_
      refine s_aload_n (oe_t13 27 (q := (50, .aload_n 0, 1)) rfl) rfl ?_
      refine s_iconst (oe_t13 28 (q := (51, .iconst 0, 1)) rfl) ?_
      refine t_puti (oe_t13 29 (q := (52, .putfield 30, 3)) rfl) s3 rfl (Or.inl rfl) (fun h17 e18 => ?_)
      replace vc := vc h17 e18
      refine s_aload_n (oe_t13 30 (q := (55, .aload_n 0, 1)) rfl) rfl ?_
      refine s_aload_n (oe_t13 31 (q := (56, .aload_n 0, 1)) rfl) rfl ?_
      refine s_getr (oe_t13 32 (q := (57, .getfield 101, 3)) rfl) s3 rfl rfl p6 ?_
      refine s_getr (oe_t13 33 (q := (60, .getfield 2001, 3)) rfl) s7 rfl rfl p9 ?_
      refine s_callv (oe_t13 34 (q := (63, .invokevirtual 19001, 3)) rfl) rfl s3 rfl (Nat.le_of_ble_eq_true rfl) (Nat.le_of_ble_eq_true rfl) (Nat.le_of_ble_eq_true rfl) (Nat.le_of_ble_eq_true rfl) ?_
      refine oe_M_mono _ _ _ _ _ _ (fun r hp vq => ?_) vc
      obtain ⟨h19, rfl, rfl, vc⟩ := vq
      show oe_V (oe_cost 13) 13 (oe_M (d + 1)) none Q 66 [some (.inr (.inl v0)), some (.inl x2), some (.inl x15)] [] (sh, g, h19) 0 0
      refine s_iload_n (oe_t13 35 (q := (66, .iload_n 2, 1)) rfl) rfl ?_
      exact s_iret (oe_t13 36 (q := (67, .ireturn, 1)) rfl) (Or.inl rfl) vc
    · replace vc := vc.2 c11
      refine s_sipush (oe_t13 18 (q := (31, .sipush (-200), 3)) rfl) ?_
      exact s_iret (oe_t13 19 (q := (34, .ireturn, 1)) rfl) (Or.inl rfl) vc
  · replace vc := vc.2 c4
    refine s_iconst (oe_t13 8 (q := (12, .iconst (-1), 1)) rfl) ?_
    refine s_iload_n (oe_t13 9 (q := (13, .iload_n 1, 1)) rfl) rfl ?_
    obtain ⟨r20, vc⟩ := vc
    refine s_isub (oe_t13 10 (q := (14, .isub, 1)) rfl) r20 ?_
    exact s_iret (oe_t13 11 (q := (15, .ireturn, 1)) rfl) (Or.inl rfl) vc
theorem oe_u14 : oe_c14.all (fun q => decide (oe_find oe_c14 q.1 = some q.2)) = true := by decide +kernel
theorem oe_t14 (k : Nat) {q : Nat × Jvm.ClassFile.Instr × Nat} (h : oe_c14[k]? = some q) : oe_find (oe_code 14) q.1 = some q.2 := oe_ft oe_u14 h
theorem g14 {d : Nat} {sh : List (Nat × Nat)} {g : Nat → Nat → Option Nat} {h : Nat → Nat → Int} {Q : oeQ} {v0 : Nat}
    (vc : sh[v0]? = some (5, 14) ∧ Q (some (.inl (h v0 3))) (sh, g, h)) :
    oe_M (d + 2) 14 [.inr (.inl v0)] (sh, g, h) Q := by
  refine oe_M.of (by simp [oe_c1]) (Nat.le_of_ble_eq_true rfl) ?_
  show oe_V (oe_cost 14) 14 (oe_M (d + 1)) none Q 0 [some (.inr (.inl v0))] [] (sh, g, h) 0 0
  refine s_aload_n (oe_t14 0 (q := (0, .aload_n 0, 1)) rfl) rfl ?_
  obtain ⟨s1, vc⟩ := vc
  refine s_geti (oe_t14 1 (q := (1, .getfield 30, 3)) rfl) s1 rfl (by decide) ?_
  exact s_iret (oe_t14 2 (q := (4, .ireturn, 1)) rfl) (Or.inl rfl) vc
theorem oe_u15 : oe_c15.all (fun q => decide (oe_find oe_c15 q.1 = some q.2)) = true := by decide +kernel
theorem oe_t15 (k : Nat) {q : Nat × Jvm.ClassFile.Instr × Nat} (h : oe_c15[k]? = some q) : oe_find (oe_code 15) q.1 = some q.2 := oe_ft oe_u15 h
theorem g15 {d : Nat} {sh : List (Nat × Nat)} {g : Nat → Nat → Option Nat} {h : Nat → Nat → Int} {Q : oeQ} {v0 : Nat} {v1 : Int}
    (vc : (v1 < 0 → (0 ≤ (32 : Int) ∧ (32 : Int) < 65536) ∧ Q (some (.inl 32)) (sh, g, h)) ∧ (0 ≤ v1 → sh[v0]? = some (5, 14) ∧ (v1 < (h v0 3) → ∃ q5, g v0 2 = some q5 ∧ ∃ n8, sh[q5]? = some (1, n8) ∧ 0 ≤ v1 ∧ v1 < (n8 : Nat) ∧ (0 ≤ (h q5 (v1 : Int).toNat) ∧ (h q5 (v1 : Int).toNat) < 65536) ∧ Q (some (.inl (h q5 (v1 : Int).toNat))) (sh, g, h)) ∧ ((h v0 3) ≤ v1 → (0 ≤ (32 : Int) ∧ (32 : Int) < 65536) ∧ Q (some (.inl 32)) (sh, g, h)))) :
    oe_M (d + 2) 15 [.inr (.inl v0), .inl v1] (sh, g, h) Q := by
  refine oe_M.of (by simp [oe_c1]) (Nat.le_of_ble_eq_true rfl) ?_
  show oe_V (oe_cost 15) 15 (oe_M (d + 1)) none Q 0 [some (.inr (.inl v0)), some (.inl v1)] [] (sh, g, h) 0 0
  refine s_iload_n (oe_t15 0 (q := (0, .iload_n 1, 1)) rfl) rfl ?_
  refine s_if_lt (oe_t15 1 (q := (1, .ifCond .lt 12, 3)) rfl) (fun c1 => ?_) (fun c1 => ?_)
  · replace vc := vc.1 c1
    refine s_bipush (oe_t15 6 (q := (12, .bipush 32, 2)) rfl) ?_
    refine s_goto (oe_t15 7 (q := (14, .goto 23, 3)) rfl) ?_
    obtain ⟨b2, vc⟩ := vc
    exact s_iret (oe_t15 12 (q := (23, .ireturn, 1)) rfl) (Or.inr (Or.inr ⟨rfl, b2⟩)) vc
  · replace vc := vc.2 c1
    refine s_iload_n (oe_t15 2 (q := (4, .iload_n 1, 1)) rfl) rfl ?_
    refine s_aload_n (oe_t15 3 (q := (5, .aload_n 0, 1)) rfl) rfl ?_
    obtain ⟨s3, vc⟩ := vc
    refine s_geti (oe_t15 4 (q := (6, .getfield 30, 3)) rfl) s3 rfl (by decide) ?_
    refine s_ic_lt (oe_t15 5 (q := (9, .if_icmp .lt 17, 3)) rfl) (fun c4 => ?_) (fun c4 => ?_)
    · replace vc := vc.1 c4
      refine s_aload_n (oe_t15 8 (q := (17, .aload_n 0, 1)) rfl) rfl ?_
      obtain ⟨q5, p6, vc⟩ := vc
      refine s_getr (oe_t15 9 (q := (18, .getfield 21, 3)) rfl) s3 rfl rfl p6 ?_
      refine s_iload_n (oe_t15 10 (q := (21, .iload_n 1, 1)) rfl) rfl ?_
      obtain ⟨n8, s7, vc⟩ := vc
      obtain ⟨i9, i10, vc⟩ := vc
      refine s_caload (oe_t15 11 (q := (22, .caload, 1)) rfl) s7 i9 i10 ?_
      obtain ⟨b11, vc⟩ := vc
      exact s_iret (oe_t15 12 (q := (23, .ireturn, 1)) rfl) (Or.inr (Or.inr ⟨rfl, b11⟩)) vc
    · replace vc := vc.2 c4
      refine s_bipush (oe_t15 6 (q := (12, .bipush 32, 2)) rfl) ?_
      refine s_goto (oe_t15 7 (q := (14, .goto 23, 3)) rfl) ?_
      obtain ⟨b12, vc⟩ := vc
      exact s_iret (oe_t15 12 (q := (23, .ireturn, 1)) rfl) (Or.inr (Or.inr ⟨rfl, b12⟩)) vc
theorem oe_u18 : oe_c18.all (fun q => decide (oe_find oe_c18 q.1 = some q.2)) = true := by decide +kernel
theorem oe_t18 (k : Nat) {q : Nat × Jvm.ClassFile.Instr × Nat} (h : oe_c18[k]? = some q) : oe_find (oe_code 18) q.1 = some q.2 := oe_ft oe_u18 h
theorem g18 {d : Nat} {sh : List (Nat × Nat)} {g : Nat → Nat → Option Nat} {h : Nat → Nat → Int} {Q : oeQ} {v0 : Nat} {v1 : Int} {v2 : Int}
    (vc : sh[v0]? = some (5, 14) ∧ ∀ h2, h2 = oe_up h v0 1 0 → ∃ q4, g v0 10 = some q4 ∧ sh[q4]? = some (7, 2) ∧ ∃ q7, g q4 0 = some q7 ∧ sh[q7]? = some (8, 3) ∧ oe_M (d + 1) 100 [.inr (.inl q7)] (sh, g, h2) (fun r hp => ∃ (h9 : Nat → Nat → Int), r = none ∧ hp = (sh, g, h9) ∧ ∃ q11, g q4 1 = some q11 ∧ sh[q11]? = some (8, 3) ∧ oe_M (d + 1) 100 [.inr (.inl q11)] (sh, g, h9) (fun r hp => ∃ (h13 : Nat → Nat → Int), r = none ∧ hp = (sh, g, h13) ∧ oe_V (oe_cost 18) 18 (oe_M (d + 1)) none Q 39 [some (.inr (.inl v0)), some (.inl v1), some (.inl v2), some (.inl (h v0 1)), some (.inl 0), some (.inl 1), some (.inl 0), none] [] (sh, g, h13) 0 0))) :
    oe_M (d + 2) 18 [.inr (.inl v0), .inl v1, .inl v2] (sh, g, h) Q := by
  refine oe_M.of (by simp [oe_c1]) (Nat.le_of_ble_eq_true rfl) ?_
  show oe_V (oe_cost 18) 18 (oe_M (d + 1)) none Q 0 [some (.inr (.inl v0)), some (.inl v1), some (.inl v2), none, none, none, none, none] [] (sh, g, h) 0 0
  refine s_aload_n (oe_t18 0 (q := (0, .aload_n 0, 1)) rfl) rfl ?_
  obtain ⟨s1, vc⟩ := vc
  refine s_geti (oe_t18 1 (q := (1, .getfield 10, 3)) rfl) s1 rfl (by decide) ?_
  refine s_istore_n (oe_t18 2 (q := (4, .istore_n 3, 1)) rfl) ?_
  refine s_aload_n (oe_t18 3 (q := (5, .aload_n 0, 1)) rfl) rfl ?_
  refine s_iconst (oe_t18 4 (q := (6, .iconst 0, 1)) rfl) ?_
  refine t_puti (oe_t18 5 (q := (7, .putfield 10, 3)) rfl) s1 rfl (Or.inl rfl) (fun h2 e3 => ?_)
  replace vc := vc h2 e3
  refine s_aload_n (oe_t18 6 (q := (10, .aload_n 0, 1)) rfl) rfl ?_
  obtain ⟨q4, p5, vc⟩ := vc
  refine s_getr (oe_t18 7 (q := (11, .getfield 101, 3)) rfl) s1 rfl rfl p5 ?_
  obtain ⟨s6, vc⟩ := vc
  obtain ⟨q7, p8, vc⟩ := vc
  refine s_getr (oe_t18 8 (q := (14, .getfield 2001, 3)) rfl) s6 rfl rfl p8 ?_
  obtain ⟨s10, vc⟩ := vc
  refine s_callv (oe_t18 9 (q := (17, .invokevirtual 100030, 3)) rfl) rfl s10 rfl (Nat.le_of_ble_eq_true rfl) (Nat.le_of_ble_eq_true rfl) (Nat.le_of_ble_eq_true rfl) (Nat.le_of_ble_eq_true rfl) ?_
  refine oe_M_mono _ _ _ _ _ _ (fun r hp vq => ?_) vc
  obtain ⟨h9, rfl, rfl, vc⟩ := vq
  show oe_V (oe_cost 18) 18 (oe_M (d + 1)) none Q 20 [some (.inr (.inl v0)), some (.inl v1), some (.inl v2), some (.inl (h v0 1)), none, none, none, none] [] (sh, g, h9) 0 0
  refine s_aload_n (oe_t18 10 (q := (20, .aload_n 0, 1)) rfl) rfl ?_
  refine s_getr (oe_t18 11 (q := (21, .getfield 101, 3)) rfl) s1 rfl rfl p5 ?_
  obtain ⟨q11, p12, vc⟩ := vc
  refine s_getr (oe_t18 12 (q := (24, .getfield 2011, 3)) rfl) s6 rfl rfl p12 ?_
  obtain ⟨s14, vc⟩ := vc
  refine s_callv (oe_t18 13 (q := (27, .invokevirtual 100030, 3)) rfl) rfl s14 rfl (Nat.le_of_ble_eq_true rfl) (Nat.le_of_ble_eq_true rfl) (Nat.le_of_ble_eq_true rfl) (Nat.le_of_ble_eq_true rfl) ?_
  refine oe_M_mono _ _ _ _ _ _ (fun r hp vq => ?_) vc
  obtain ⟨h13, rfl, rfl, vc⟩ := vq
  show oe_V (oe_cost 18) 18 (oe_M (d + 1)) none Q 30 [some (.inr (.inl v0)), some (.inl v1), some (.inl v2), some (.inl (h v0 1)), none, none, none, none] [] (sh, g, h13) 0 0
  refine s_iconst (oe_t18 14 (q := (30, .iconst 0, 1)) rfl) ?_
  refine s_istore (oe_t18 15 (q := (31, .istore 4, 2)) rfl) ?_
  refine s_iconst (oe_t18 16 (q := (33, .iconst 1, 1)) rfl) ?_
  refine s_istore (oe_t18 17 (q := (34, .istore 5, 2)) rfl) ?_
  refine s_iconst (oe_t18 18 (q := (36, .iconst 0, 1)) rfl) ?_
  refine s_istore (oe_t18 19 (q := (37, .istore 6, 2)) rfl) ?_
  exact oe_V.fg (oe_M_mono _) (show oe_fg [some (.inr (.inl v0)), some (.inl v1), some (.inl v2), some (.inl (h v0 1)), some (.inl 0), some (.inl 1), some (.inl 0), none] _ from ⟨rfl, ⟨rfl, ⟨rfl, ⟨rfl, ⟨rfl, ⟨rfl, ⟨rfl, trivial⟩⟩⟩⟩⟩⟩⟩) vc
theorem g18_39 {d : Nat} {sh : List (Nat × Nat)} {g : Nat → Nat → Option Nat} {h : Nat → Nat → Int} {Q : oeQ} {v0 : Nat} {v1 : Int} {v2 : Int} {v3 : Int} {v4 : Int} {v5 : Int} {v6 : Int}
    (vc : (v3 ≤ v6 → (0 < v5 → Q (some (.inl v3)) (sh, g, h)) ∧ (v5 ≤ 0 → (v1 = 0 → sh[v0]? = some (5, 14) ∧ ∃ q19, g v0 10 = some q19 ∧ sh[q19]? = some (7, 2) ∧ ∃ q22, g q19 0 = some q22 ∧ sh[q22]? = some (8, 3) ∧ oe_M (d + 1) 103 [.inr (.inl q22)] (sh, g, h) (fun r hp => ∃ (h24 : Nat → Nat → Int), r = none ∧ hp = (sh, g, h24) ∧ ∃ q26, g q19 1 = some q26 ∧ sh[q26]? = some (8, 3) ∧ oe_M (d + 1) 103 [.inr (.inl q26)] (sh, g, h24) (fun r hp => ∃ (h28 : Nat → Nat → Int), r = none ∧ hp = (sh, g, h28) ∧ Q (some (.inl (-1))) (sh, g, h28)))) ∧ (v1 ≠ 0 → (v4 ≠ 0 → sh[v0]? = some (5, 14) ∧ ∃ q32, g v0 10 = some q32 ∧ sh[q32]? = some (7, 2) ∧ ∃ q35, g q32 0 = some q35 ∧ sh[q35]? = some (8, 3) ∧ oe_M (d + 1) 103 [.inr (.inl q35)] (sh, g, h) (fun r hp => ∃ (h37 : Nat → Nat → Int), r = none ∧ hp = (sh, g, h37) ∧ ∃ q39, g q32 1 = some q39 ∧ sh[q39]? = some (8, 3) ∧ oe_M (d + 1) 103 [.inr (.inl q39)] (sh, g, h37) (fun r hp => ∃ (h41 : Nat → Nat → Int), r = none ∧ hp = (sh, g, h41) ∧ Q (some (.inl (-1))) (sh, g, h41)))) ∧ (v4 = 0 → Q (some (.inl v3)) (sh, g, h))))) ∧ (v6 < v3 → (v5 ≠ 0 → sh[v0]? = some (5, 14) ∧ ∃ q45, g v0 0 = some q45 ∧ ∃ n48, sh[q45]? = some (1, n48) ∧ 0 ≤ v6 ∧ v6 < (n48 : Nat) ∧ oe_M (d + 1) 900 [.inl (h q45 (v6 : Int).toNat)] (sh, g, h) (fun r hp => ∃ (x52 : Int) (h51 : Nat → Nat → Int), r = some (.inl x52) ∧ hp = (sh, g, h51) ∧ (x52 = (-1) → Q (some (.inl v6)) (sh, g, h51)) ∧ (x52 ≠ (-1) → (v2 ≠ 0 → (v4 = 0 → ∃ q56, g v0 10 = some q56 ∧ sh[q56]? = some (7, 2) ∧ ∃ q59, g q56 0 = some q59 ∧ sh[q59]? = some (8, 3) ∧ oe_M (d + 1) 101 [.inr (.inl q59), .inl x52] (sh, g, h51) (fun r hp => ∃ (h61 : Nat → Nat → Int), r = none ∧ hp = (sh, g, h61) ∧ oe_M (d + 1) 17 [.inl x52] (sh, g, h61) (fun r hp => ∃ (x63 : Int), r = some (.inl x63) ∧ hp = (sh, g, h61) ∧ oe_rg (x63 - 1) ∧ oe_rg (v5 + (x63 - 1)) ∧ oe_rg (v6 + 1) ∧ oe_V (oe_cost 18) 18 (oe_M (d + 1)) none Q 39 [some (.inr (.inl v0)), some (.inl v1), some (.inl v2), some (.inl v3), some (.inl v4), some (.inl (v5 + (x63 - 1))), some (.inl (v6 + 1)), none] [] (sh, g, h61) 0 0))) ∧ (v4 ≠ 0 → ∃ q67, g v0 10 = some q67 ∧ sh[q67]? = some (7, 2) ∧ ∃ q70, g q67 1 = some q70 ∧ sh[q70]? = some (8, 3) ∧ oe_M (d + 1) 101 [.inr (.inl q70), .inl x52] (sh, g, h51) (fun r hp => ∃ (h72 : Nat → Nat → Int), r = none ∧ hp = (sh, g, h72) ∧ oe_M (d + 1) 17 [.inl x52] (sh, g, h72) (fun r hp => ∃ (x74 : Int), r = some (.inl x74) ∧ hp = (sh, g, h72) ∧ oe_rg (x74 - 1) ∧ oe_rg (v5 + (x74 - 1)) ∧ oe_rg (v6 + 1) ∧ oe_V (oe_cost 18) 18 (oe_M (d + 1)) none Q 39 [some (.inr (.inl v0)), some (.inl v1), some (.inl v2), some (.inl v3), some (.inl v4), some (.inl (v5 + (x74 - 1))), some (.inl (v6 + 1)), none] [] (sh, g, h72) 0 0)))) ∧ (v2 = 0 → (x52 < 12 → Q (some (.inl v6)) (sh, g, h51)) ∧ (12 ≤ x52 → (v4 = 0 → ∃ q80, g v0 10 = some q80 ∧ sh[q80]? = some (7, 2) ∧ ∃ q83, g q80 0 = some q83 ∧ sh[q83]? = some (8, 3) ∧ oe_M (d + 1) 101 [.inr (.inl q83), .inl x52] (sh, g, h51) (fun r hp => ∃ (h85 : Nat → Nat → Int), r = none ∧ hp = (sh, g, h85) ∧ oe_M (d + 1) 17 [.inl x52] (sh, g, h85) (fun r hp => ∃ (x87 : Int), r = some (.inl x87) ∧ hp = (sh, g, h85) ∧ oe_rg (x87 - 1) ∧ oe_rg (v5 + (x87 - 1)) ∧ oe_rg (v6 + 1) ∧ oe_V (oe_cost 18) 18 (oe_M (d + 1)) none Q 39 [some (.inr (.inl v0)), some (.inl v1), some (.inl v2), some (.inl v3), some (.inl v4), some (.inl (v5 + (x87 - 1))), some (.inl (v6 + 1)), none] [] (sh, g, h85) 0 0))) ∧ (v4 ≠ 0 → ∃ q91, g v0 10 = some q91 ∧ sh[q91]? = some (7, 2) ∧ ∃ q94, g q91 1 = some q94 ∧ sh[q94]? = some (8, 3) ∧ oe_M (d + 1) 101 [.inr (.inl q94), .inl x52] (sh, g, h51) (fun r hp => ∃ (h96 : Nat → Nat → Int), r = none ∧ hp = (sh, g, h96) ∧ oe_M (d + 1) 17 [.inl x52] (sh, g, h96) (fun r hp => ∃ (x98 : Int), r = some (.inl x98) ∧ hp = (sh, g, h96) ∧ oe_rg (x98 - 1) ∧ oe_rg (v5 + (x98 - 1)) ∧ oe_rg (v6 + 1) ∧ oe_V (oe_cost 18) 18 (oe_M (d + 1)) none Q 39 [some (.inr (.inl v0)), some (.inl v1), some (.inl v2), some (.inl v3), some (.inl v4), some (.inl (v5 + (x98 - 1))), some (.inl (v6 + 1)), none] [] (sh, g, h96) 0 0)))))))) ∧ (v5 = 0 → (v1 = 0 → Q (some (.inl v6)) (sh, g, h)) ∧ (v1 ≠ 0 → (v4 ≠ 0 → Q (some (.inl v6)) (sh, g, h)) ∧ (v4 = 0 → sh[v0]? = some (5, 14) ∧ ∃ q105, g v0 0 = some q105 ∧ ∃ n108, sh[q105]? = some (1, n108) ∧ 0 ≤ v6 ∧ v6 < (n108 : Nat) ∧ ((h q105 (v6 : Int).toNat) = 61 → oe_rg (v6 + 1) ∧ oe_V (oe_cost 18) 18 (oe_M (d + 1)) none Q 39 [some (.inr (.inl v0)), some (.inl v1), some (.inl v2), some (.inl v3), some (.inl 1), some (.inl 1), some (.inl (v6 + 1)), none] [] (sh, g, h) 0 0) ∧ ((h q105 (v6 : Int).toNat) ≠ 61 → Q (some (.inl v6)) (sh, g, h))))))) :
    oe_V (oe_cost 18) 18 (oe_M (d + 1)) none Q 39 [some (.inr (.inl v0)), some (.inl v1), some (.inl v2), some (.inl v3), some (.inl v4), some (.inl v5), some (.inl v6), none] [] (sh, g, h) 0 0 := by
  refine s_iload (oe_t18 20 (q := (39, .iload 6, 2)) rfl) rfl ?_
  refine s_iload_n (oe_t18 21 (q := (41, .iload_n 3, 1)) rfl) rfl ?_
  refine s_ic_ge (oe_t18 22 (q := (42, .if_icmp .ge 161, 3)) rfl) (fun c15 => ?_) (fun c15 => ?_)
  · replace vc := vc.1 c15
    refine s_iload (oe_t18 78 (q := (161, .iload 5, 2)) rfl) rfl ?_
    refine s_if_gt (oe_t18 79 (q := (163, .ifCond .gt 175, 3)) rfl) (fun c16 => ?_) (fun c16 => ?_)
    · replace vc := vc.1 c16
      refine s_iload_n (oe_t18 84 (q := (175, .iload_n 3, 1)) rfl) rfl ?_
      exact s_iret (oe_t18 85 (q := (176, .ireturn, 1)) rfl) (Or.inl rfl) vc
    · replace vc := vc.2 c16
      refine s_iload_n (oe_t18 80 (q := (166, .iload_n 1, 1)) rfl) rfl ?_
      refine s_if_eq (oe_t18 81 (q := (167, .ifCond .eq 177, 3)) rfl) (fun c17 => ?_) (fun c17 => ?_)
      · replace vc := vc.1 c17
        refine s_aload_n (oe_t18 86 (q := (177, .aload_n 0, 1)) rfl) rfl ?_
        obtain ⟨s18, vc⟩ := vc
        obtain ⟨q19, p20, vc⟩ := vc
        refine s_getr (oe_t18 87 (q := (178, .getfield 101, 3)) rfl) s18 rfl rfl p20 ?_
        obtain ⟨s21, vc⟩ := vc
        obtain ⟨q22, p23, vc⟩ := vc
        refine s_getr (oe_t18 88 (q := (181, .getfield 2001, 3)) rfl) s21 rfl rfl p23 ?_
        obtain ⟨s25, vc⟩ := vc
        refine s_callv (oe_t18 89 (q := (184, .invokevirtual 103030, 3)) rfl) rfl s25 rfl (Nat.le_of_ble_eq_true rfl) (Nat.le_of_ble_eq_true rfl) (Nat.le_of_ble_eq_true rfl) (Nat.le_of_ble_eq_true rfl) ?_
        refine oe_M_mono _ _ _ _ _ _ (fun r hp vq => ?_) vc
        obtain ⟨h24, rfl, rfl, vc⟩ := vq
        show oe_V (oe_cost 18) 18 (oe_M (d + 1)) none Q 187 [some (.inr (.inl v0)), some (.inl v1), some (.inl v2), some (.inl v3), some (.inl v4), some (.inl v5), some (.inl v6), none] [] (sh, g, h24) 0 0
        refine s_aload_n (oe_t18 90 (q := (187, .aload_n 0, 1)) rfl) rfl ?_
        refine s_getr (oe_t18 91 (q := (188, .getfield 101, 3)) rfl) s18 rfl rfl p20 ?_
        obtain ⟨q26, p27, vc⟩ := vc
        refine s_getr (oe_t18 92 (q := (191, .getfield 2011, 3)) rfl) s21 rfl rfl p27 ?_
        obtain ⟨s29, vc⟩ := vc
        refine s_callv (oe_t18 93 (q := (194, .invokevirtual 103030, 3)) rfl) rfl s29 rfl (Nat.le_of_ble_eq_true rfl) (Nat.le_of_ble_eq_true rfl) (Nat.le_of_ble_eq_true rfl) (Nat.le_of_ble_eq_true rfl) ?_
        refine oe_M_mono _ _ _ _ _ _ (fun r hp vq => ?_) vc
        obtain ⟨h28, rfl, rfl, vc⟩ := vq
        show oe_V (oe_cost 18) 18 (oe_M (d + 1)) none Q 197 [some (.inr (.inl v0)), some (.inl v1), some (.inl v2), some (.inl v3), some (.inl v4), some (.inl v5), some (.inl v6), none] [] (sh, g, h28) 0 0
        refine s_iconst (oe_t18 94 (q := (197, .iconst (-1), 1)) rfl) ?_
        exact s_iret (oe_t18 95 (q := (198, .ireturn, 1)) rfl) (Or.inl rfl) vc
      · replace vc := vc.2 c17
        refine s_iload (oe_t18 82 (q := (170, .iload 4, 2)) rfl) rfl ?_
        refine s_if_ne (oe_t18 83 (q := (172, .ifCond .ne 177, 3)) rfl) (fun c30 => ?_) (fun c30 => ?_)
        · replace vc := vc.1 c30
          refine s_aload_n (oe_t18 86 (q := (177, .aload_n 0, 1)) rfl) rfl ?_
          obtain ⟨s31, vc⟩ := vc
          obtain ⟨q32, p33, vc⟩ := vc
          refine s_getr (oe_t18 87 (q := (178, .getfield 101, 3)) rfl) s31 rfl rfl p33 ?_
          obtain ⟨s34, vc⟩ := vc
          obtain ⟨q35, p36, vc⟩ := vc
          refine s_getr (oe_t18 88 (q := (181, .getfield 2001, 3)) rfl) s34 rfl rfl p36 ?_
          obtain ⟨s38, vc⟩ := vc
          refine s_callv (oe_t18 89 (q := (184, .invokevirtual 103030, 3)) rfl) rfl s38 rfl (Nat.le_of_ble_eq_true rfl) (Nat.le_of_ble_eq_true rfl) (Nat.le_of_ble_eq_true rfl) (Nat.le_of_ble_eq_true rfl) ?_
          refine oe_M_mono _ _ _ _ _ _ (fun r hp vq => ?_) vc
          obtain ⟨h37, rfl, rfl, vc⟩ := vq
          show oe_V (oe_cost 18) 18 (oe_M (d + 1)) none Q 187 [some (.inr (.inl v0)), some (.inl v1), some (.inl v2), some (.inl v3), some (.inl v4), some (.inl v5), some (.inl v6), none] [] (sh, g, h37) 0 0
          refine s_aload_n (oe_t18 90 (q := (187, .aload_n 0, 1)) rfl) rfl ?_
          refine s_getr (oe_t18 91 (q := (188, .getfield 101, 3)) rfl) s31 rfl rfl p33 ?_
          obtain ⟨q39, p40, vc⟩ := vc
          refine s_getr (oe_t18 92 (q := (191, .getfield 2011, 3)) rfl) s34 rfl rfl p40 ?_
          obtain ⟨s42, vc⟩ := vc
          refine s_callv (oe_t18 93 (q := (194, .invokevirtual 103030, 3)) rfl) rfl s42 rfl (Nat.le_of_ble_eq_true rfl) (Nat.le_of_ble_eq_true rfl) (Nat.le_of_ble_eq_true rfl) (Nat.le_of_ble_eq_true rfl) ?_
          refine oe_M_mono _ _ _ _ _ _ (fun r hp vq => ?_) vc
          obtain ⟨h41, rfl, rfl, vc⟩ := vq
          show oe_V (oe_cost 18) 18 (oe_M (d + 1)) none Q 197 [some (.inr (.inl v0)), some (.inl v1), some (.inl v2), some (.inl v3), some (.inl v4), some (.inl v5), some (.inl v6), none] [] (sh, g, h41) 0 0
          refine s_iconst (oe_t18 94 (q := (197, .iconst (-1), 1)) rfl) ?_
          exact s_iret (oe_t18 95 (q := (198, .ireturn, 1)) rfl) (Or.inl rfl) vc
        · replace vc := vc.2 c30
          refine s_iload_n (oe_t18 84 (q := (175, .iload_n 3, 1)) rfl) rfl ?_
          exact s_iret (oe_t18 85 (q := (176, .ireturn, 1)) rfl) (Or.inl rfl) vc
  · replace vc := vc.2 c15
    refine s_iload (oe_t18 23 (q := (45, .iload 5, 2)) rfl) rfl ?_
    refine s_if_ne (oe_t18 24 (q := (47, .ifCond .ne 83, 3)) rfl) (fun c43 => ?_) (fun c43 => ?_)
    · replace vc := vc.1 c43
      refine s_aload_n (oe_t18 42 (q := (83, .aload_n 0, 1)) rfl) rfl ?_
      obtain ⟨s44, vc⟩ := vc
      obtain ⟨q45, p46, vc⟩ := vc
      refine s_getr (oe_t18 43 (q := (84, .getfield 1, 3)) rfl) s44 rfl rfl p46 ?_
      refine s_iload (oe_t18 44 (q := (87, .iload 6, 2)) rfl) rfl ?_
      obtain ⟨n48, s47, vc⟩ := vc
      obtain ⟨i49, i50, vc⟩ := vc
      refine s_caload (oe_t18 45 (q := (89, .caload, 1)) rfl) s47 i49 i50 ?_
      refine s_calls (oe_t18 46 (q := (90, .invokestatic 900001, 3)) rfl) (by decide) (Nat.le_of_ble_eq_true rfl) (Nat.le_of_ble_eq_true rfl) (Nat.le_of_ble_eq_true rfl) (Nat.le_of_ble_eq_true rfl) ?_
      refine oe_M_mono _ _ _ _ _ _ (fun r hp vq => ?_) vc
      obtain ⟨x52, h51, rfl, rfl, vc⟩ := vq
      show oe_V (oe_cost 18) 18 (oe_M (d + 1)) none Q 93 [some (.inr (.inl v0)), some (.inl v1), some (.inl v2), some (.inl v3), some (.inl v4), some (.inl v5), some (.inl v6), none] [.inl x52] (sh, g, h51) 0 0
      refine s_istore (oe_t18 47 (q := (93, .istore 7, 2)) rfl) ?_
      refine s_iload (oe_t18 48 (q := (95, .iload 7, 2)) rfl) rfl ?_
      refine s_iconst (oe_t18 49 (q := (97, .iconst (-1), 1)) rfl) ?_
      refine s_ic_eq (oe_t18 50 (q := (98, .if_icmp .eq 113, 3)) rfl) (fun c53 => ?_) (fun c53 => ?_)
      · replace vc := vc.1 c53
        refine s_iload (oe_t18 56 (q := (113, .iload 6, 2)) rfl) rfl ?_
        exact s_iret (oe_t18 57 (q := (115, .ireturn, 1)) rfl) (Or.inl rfl) vc
      · replace vc := vc.2 c53
        refine s_iload_n (oe_t18 51 (q := (101, .iload_n 2, 1)) rfl) rfl ?_
        refine s_if_ne (oe_t18 52 (q := (102, .ifCond .ne 116, 3)) rfl) (fun c54 => ?_) (fun c54 => ?_)
        · replace vc := vc.1 c54
          refine s_iload (oe_t18 58 (q := (116, .iload 4, 2)) rfl) rfl ?_
          refine s_if_eq (oe_t18 59 (q := (118, .ifCond .eq 131, 3)) rfl) (fun c55 => ?_) (fun c55 => ?_)
          · replace vc := vc.1 c55
            refine s_aload_n (oe_t18 64 (q := (131, .aload_n 0, 1)) rfl) rfl ?_
            obtain ⟨q56, p57, vc⟩ := vc
            refine s_getr (oe_t18 65 (q := (132, .getfield 101, 3)) rfl) s44 rfl rfl p57 ?_
            obtain ⟨s58, vc⟩ := vc
            obtain ⟨q59, p60, vc⟩ := vc
            refine s_getr (oe_t18 66 (q := (135, .getfield 2001, 3)) rfl) s58 rfl rfl p60 ?_
            refine s_iload (oe_t18 67 (q := (138, .iload 7, 2)) rfl) rfl ?_
            obtain ⟨s62, vc⟩ := vc
            refine s_callv (oe_t18 68 (q := (140, .invokevirtual 101031, 3)) rfl) rfl s62 rfl (Nat.le_of_ble_eq_true rfl) (Nat.le_of_ble_eq_true rfl) (Nat.le_of_ble_eq_true rfl) (Nat.le_of_ble_eq_true rfl) ?_
            refine oe_M_mono _ _ _ _ _ _ (fun r hp vq => ?_) vc
            obtain ⟨h61, rfl, rfl, vc⟩ := vq
            show oe_V (oe_cost 18) 18 (oe_M (d + 1)) none Q 143 [some (.inr (.inl v0)), some (.inl v1), some (.inl v2), some (.inl v3), some (.inl v4), some (.inl v5), some (.inl v6), some (.inl x52)] [] (sh, g, h61) 0 0
            refine s_iload (oe_t18 69 (q := (143, .iload 5, 2)) rfl) rfl ?_
            refine s_iload (oe_t18 70 (q := (145, .iload 7, 2)) rfl) rfl ?_
            refine s_calls (oe_t18 71 (q := (147, .invokestatic 17001, 3)) rfl) (by decide) (Nat.le_of_ble_eq_true rfl) (Nat.le_of_ble_eq_true rfl) (Nat.le_of_ble_eq_true rfl) (Nat.le_of_ble_eq_true rfl) ?_
            refine oe_M_mono _ _ _ _ _ _ (fun r hp vq => ?_) vc
            obtain ⟨x63, rfl, rfl, vc⟩ := vq
            show oe_V (oe_cost 18) 18 (oe_M (d + 1)) none Q 150 [some (.inr (.inl v0)), some (.inl v1), some (.inl v2), some (.inl v3), some (.inl v4), some (.inl v5), some (.inl v6), some (.inl x52)] [.inl x63, .inl v5] (sh, g, h61) 0 0
            refine s_iconst (oe_t18 72 (q := (150, .iconst 1, 1)) rfl) ?_
            obtain ⟨r64, vc⟩ := vc
            refine s_isub (oe_t18 73 (q := (151, .isub, 1)) rfl) r64 ?_
            obtain ⟨r65, vc⟩ := vc
            refine s_iadd (oe_t18 74 (q := (152, .iadd, 1)) rfl) r65 ?_
            refine s_istore (oe_t18 75 (q := (153, .istore 5, 2)) rfl) ?_
            obtain ⟨r66, vc⟩ := vc
            refine s_iinc (oe_t18 76 (q := (155, .iinc 6 1, 3)) rfl) rfl r66 ?_
            refine s_goto (oe_t18 77 (q := (158, .goto 39, 3)) rfl) ?_
            exact oe_V.fg (oe_M_mono _) (show oe_fg [some (.inr (.inl v0)), some (.inl v1), some (.inl v2), some (.inl v3), some (.inl v4), some (.inl (v5 + (x63 - 1))), some (.inl (v6 + 1)), none] _ from ⟨rfl, ⟨rfl, ⟨rfl, ⟨rfl, ⟨rfl, ⟨rfl, ⟨rfl, trivial⟩⟩⟩⟩⟩⟩⟩) vc
          · replace vc := vc.2 c55
            refine s_aload_n (oe_t18 60 (q := (121, .aload_n 0, 1)) rfl) rfl ?_
            obtain ⟨q67, p68, vc⟩ := vc
            refine s_getr (oe_t18 61 (q := (122, .getfield 101, 3)) rfl) s44 rfl rfl p68 ?_
            obtain ⟨s69, vc⟩ := vc
            obtain ⟨q70, p71, vc⟩ := vc
            refine s_getr (oe_t18 62 (q := (125, .getfield 2011, 3)) rfl) s69 rfl rfl p71 ?_
            refine s_goto (oe_t18 63 (q := (128, .goto 138, 3)) rfl) ?_
            refine s_iload (oe_t18 67 (q := (138, .iload 7, 2)) rfl) rfl ?_
            obtain ⟨s73, vc⟩ := vc
            refine s_callv (oe_t18 68 (q := (140, .invokevirtual 101031, 3)) rfl) rfl s73 rfl (Nat.le_of_ble_eq_true rfl) (Nat.le_of_ble_eq_true rfl) (Nat.le_of_ble_eq_true rfl) (Nat.le_of_ble_eq_true rfl) ?_
            refine oe_M_mono _ _ _ _ _ _ (fun r hp vq => ?_) vc
            obtain ⟨h72, rfl, rfl, vc⟩ := vq
            show oe_V (oe_cost 18) 18 (oe_M (d + 1)) none Q 143 [some (.inr (.inl v0)), some (.inl v1), some (.inl v2), some (.inl v3), some (.inl v4), some (.inl v5), some (.inl v6), some (.inl x52)] [] (sh, g, h72) 0 0
            refine s_iload (oe_t18 69 (q := (143, .iload 5, 2)) rfl) rfl ?_
            refine s_iload (oe_t18 70 (q := (145, .iload 7, 2)) rfl) rfl ?_
            refine s_calls (oe_t18 71 (q := (147, .invokestatic 17001, 3)) rfl) (by decide) (Nat.le_of_ble_eq_true rfl) (Nat.le_of_ble_eq_true rfl) (Nat.le_of_ble_eq_true rfl) (Nat.le_of_ble_eq_true rfl) ?_
            refine oe_M_mono _ _ _ _ _ _ (fun r hp vq => ?_) vc
            obtain ⟨x74, rfl, rfl, vc⟩ := vq
            show oe_V (oe_cost 18) 18 (oe_M (d + 1)) none Q 150 [some (.inr (.inl v0)), some (.inl v1), some (.inl v2), some (.inl v3), some (.inl v4), some (.inl v5), some (.inl v6), some (.inl x52)] [.inl x74, .inl v5] (sh, g, h72) 0 0
            refine s_iconst (oe_t18 72 (q := (150, .iconst 1, 1)) rfl) ?_
            obtain ⟨r75, vc⟩ := vc
            refine s_isub (oe_t18 73 (q := (151, .isub, 1)) rfl) r75 ?_
            obtain ⟨r76, vc⟩ := vc
            refine s_iadd (oe_t18 74 (q := (152, .iadd, 1)) rfl) r76 ?_
            refine s_istore (oe_t18 75 (q := (153, .istore 5, 2)) rfl) ?_
            obtain ⟨r77, vc⟩ := vc
            refine s_iinc (oe_t18 76 (q := (155, .iinc 6 1, 3)) rfl) rfl r77 ?_
            refine s_goto (oe_t18 77 (q := (158, .goto 39, 3)) rfl) ?_
            exact oe_V.fg (oe_M_mono _) (show oe_fg [some (.inr (.inl v0)), some (.inl v1), some (.inl v2), some (.inl v3), some (.inl v4), some (.inl (v5 + (x74 - 1))), some (.inl (v6 + 1)), none] _ from ⟨rfl, ⟨rfl, ⟨rfl, ⟨rfl, ⟨rfl, ⟨rfl, ⟨rfl, trivial⟩⟩⟩⟩⟩⟩⟩) vc
        · replace vc := vc.2 c54
          refine s_iload (oe_t18 53 (q := (105, .iload 7, 2)) rfl) rfl ?_
          refine s_calls (oe_t18 54 (q := (107, .invokestatic 16001, 3)) rfl) (by decide) (Nat.le_of_ble_eq_true rfl) (Nat.le_of_ble_eq_true rfl) (Nat.le_of_ble_eq_true rfl) (Nat.le_of_ble_eq_true rfl) (sp_16 (fun c78 => ?_) (fun c78 => ?_))
          · replace vc := vc.1 c78
            show oe_V (oe_cost 18) 18 (oe_M (d + 1)) none Q 110 [some (.inr (.inl v0)), some (.inl v1), some (.inl v2), some (.inl v3), some (.inl v4), some (.inl v5), some (.inl v6), some (.inl x52)] [.inl 1] (sh, g, h51) 0 0
            refine s_if_eq (oe_t18 55 (q := (110, .ifCond .eq 116, 3)) rfl) (fun q => absurd q (by decide)) (fun _ => ?_)
            refine s_iload (oe_t18 56 (q := (113, .iload 6, 2)) rfl) rfl ?_
            exact s_iret (oe_t18 57 (q := (115, .ireturn, 1)) rfl) (Or.inl rfl) vc
          · replace vc := vc.2 c78
            show oe_V (oe_cost 18) 18 (oe_M (d + 1)) none Q 110 [some (.inr (.inl v0)), some (.inl v1), some (.inl v2), some (.inl v3), some (.inl v4), some (.inl v5), some (.inl v6), some (.inl x52)] [.inl 0] (sh, g, h51) 0 0
            refine s_if_eq (oe_t18 55 (q := (110, .ifCond .eq 116, 3)) rfl) (fun _ => ?_) (fun q => absurd q (by decide))
            refine s_iload (oe_t18 58 (q := (116, .iload 4, 2)) rfl) rfl ?_
            refine s_if_eq (oe_t18 59 (q := (118, .ifCond .eq 131, 3)) rfl) (fun c79 => ?_) (fun c79 => ?_)
            · replace vc := vc.1 c79
              refine s_aload_n (oe_t18 64 (q := (131, .aload_n 0, 1)) rfl) rfl ?_
              obtain ⟨q80, p81, vc⟩ := vc
              refine s_getr (oe_t18 65 (q := (132, .getfield 101, 3)) rfl) s44 rfl rfl p81 ?_
              obtain ⟨s82, vc⟩ := vc
              obtain ⟨q83, p84, vc⟩ := vc
              refine s_getr (oe_t18 66 (q := (135, .getfield 2001, 3)) rfl) s82 rfl rfl p84 ?_
              refine s_iload (oe_t18 67 (q := (138, .iload 7, 2)) rfl) rfl ?_
              obtain ⟨s86, vc⟩ := vc
              refine s_callv (oe_t18 68 (q := (140, .invokevirtual 101031, 3)) rfl) rfl s86 rfl (Nat.le_of_ble_eq_true rfl) (Nat.le_of_ble_eq_true rfl) (Nat.le_of_ble_eq_true rfl) (Nat.le_of_ble_eq_true rfl) ?_
              refine oe_M_mono _ _ _ _ _ _ (fun r hp vq => ?_) vc
              obtain ⟨h85, rfl, rfl, vc⟩ := vq
              show oe_V (oe_cost 18) 18 (oe_M (d + 1)) none Q 143 [some (.inr (.inl v0)), some (.inl v1), some (.inl v2), some (.inl v3), some (.inl v4), some (.inl v5), some (.inl v6), some (.inl x52)] [] (sh, g, h85) 0 0
              refine s_iload (oe_t18 69 (q := (143, .iload 5, 2)) rfl) rfl ?_
              refine s_iload (oe_t18 70 (q := (145, .iload 7, 2)) rfl) rfl ?_
              refine s_calls (oe_t18 71 (q := (147, .invokestatic 17001, 3)) rfl) (by decide) (Nat.le_of_ble_eq_true rfl) (Nat.le_of_ble_eq_true rfl) (Nat.le_of_ble_eq_true rfl) (Nat.le_of_ble_eq_true rfl) ?_
              refine oe_M_mono _ _ _ _ _ _ (fun r hp vq => ?_) vc
              obtain ⟨x87, rfl, rfl, vc⟩ := vq
              show oe_V (oe_cost 18) 18 (oe_M (d + 1)) none Q 150 [some (.inr (.inl v0)), some (.inl v1), some (.inl v2), some (.inl v3), some (.inl v4), some (.inl v5), some (.inl v6), some (.inl x52)] [.inl x87, .inl v5] (sh, g, h85) 0 0
              refine s_iconst (oe_t18 72 (q := (150, .iconst 1, 1)) rfl) ?_
              obtain ⟨r88, vc⟩ := vc
              refine s_isub (oe_t18 73 (q := (151, .isub, 1)) rfl) r88 ?_
              obtain ⟨r89, vc⟩ := vc
              refine s_iadd (oe_t18 74 (q := (152, .iadd, 1)) rfl) r89 ?_
              refine s_istore (oe_t18 75 (q := (153, .istore 5, 2)) rfl) ?_
              obtain ⟨r90, vc⟩ := vc
              refine s_iinc (oe_t18 76 (q := (155, .iinc 6 1, 3)) rfl) rfl r90 ?_
              refine s_goto (oe_t18 77 (q := (158, .goto 39, 3)) rfl) ?_
              exact oe_V.fg (oe_M_mono _) (show oe_fg [some (.inr (.inl v0)), some (.inl v1), some (.inl v2), some (.inl v3), some (.inl v4), some (.inl (v5 + (x87 - 1))), some (.inl (v6 + 1)), none] _ from ⟨rfl, ⟨rfl, ⟨rfl, ⟨rfl, ⟨rfl, ⟨rfl, ⟨rfl, trivial⟩⟩⟩⟩⟩⟩⟩) vc
            · replace vc := vc.2 c79
              refine s_aload_n (oe_t18 60 (q := (121, .aload_n 0, 1)) rfl) rfl ?_
              obtain ⟨q91, p92, vc⟩ := vc
              refine s_getr (oe_t18 61 (q := (122, .getfield 101, 3)) rfl) s44 rfl rfl p92 ?_
              obtain ⟨s93, vc⟩ := vc
              obtain ⟨q94, p95, vc⟩ := vc
              refine s_getr (oe_t18 62 (q := (125, .getfield 2011, 3)) rfl) s93 rfl rfl p95 ?_
              refine s_goto (oe_t18 63 (q := (128, .goto 138, 3)) rfl) ?_
              refine s_iload (oe_t18 67 (q := (138, .iload 7, 2)) rfl) rfl ?_
              obtain ⟨s97, vc⟩ := vc
              refine s_callv (oe_t18 68 (q := (140, .invokevirtual 101031, 3)) rfl) rfl s97 rfl (Nat.le_of_ble_eq_true rfl) (Nat.le_of_ble_eq_true rfl) (Nat.le_of_ble_eq_true rfl) (Nat.le_of_ble_eq_true rfl) ?_
              refine oe_M_mono _ _ _ _ _ _ (fun r hp vq => ?_) vc
              obtain ⟨h96, rfl, rfl, vc⟩ := vq
              show oe_V (oe_cost 18) 18 (oe_M (d + 1)) none Q 143 [some (.inr (.inl v0)), some (.inl v1), some (.inl v2), some (.inl v3), some (.inl v4), some (.inl v5), some (.inl v6), some (.inl x52)] [] (sh, g, h96) 0 0
              refine s_iload (oe_t18 69 (q := (143, .iload 5, 2)) rfl) rfl ?_
              refine s_iload (oe_t18 70 (q := (145, .iload 7, 2)) rfl) rfl ?_
              refine s_calls (oe_t18 71 (q := (147, .invokestatic 17001, 3)) rfl) (by decide) (Nat.le_of_ble_eq_true rfl) (Nat.le_of_ble_eq_true rfl) (Nat.le_of_ble_eq_true rfl) (Nat.le_of_ble_eq_true rfl) ?_
              refine oe_M_mono _ _ _ _ _ _ (fun r hp vq => ?_) vc
              obtain ⟨x98, rfl, rfl, vc⟩ := vq
              show oe_V (oe_cost 18) 18 (oe_M (d + 1)) none Q 150 [some (.inr (.inl v0)), some (.inl v1), some (.inl v2), some (.inl v3), some (.inl v4), some (.inl v5), some (.inl v6), some (.inl x52)] [.inl x98, .inl v5] (sh, g, h96) 0 0
              refine s_iconst (oe_t18 72 (q := (150, .iconst 1, 1)) rfl) ?_
              obtain ⟨r99, vc⟩ := vc
              refine s_isub (oe_t18 73 (q := (151, .isub, 1)) rfl) r99 ?_
              obtain ⟨r100, vc⟩ := vc
              refine s_iadd (oe_t18 74 (q := (152, .iadd, 1)) rfl) r100 ?_
              refine s_istore (oe_t18 75 (q := (153, .istore 5, 2)) rfl) ?_
              obtain ⟨r101, vc⟩ := vc
              refine s_iinc (oe_t18 76 (q := (155, .iinc 6 1, 3)) rfl) rfl r101 ?_
              refine s_goto (oe_t18 77 (q := (158, .goto 39, 3)) rfl) ?_
              exact oe_V.fg (oe_M_mono _) (show oe_fg [some (.inr (.inl v0)), some (.inl v1), some (.inl v2), some (.inl v3), some (.inl v4), some (.inl (v5 + (x98 - 1))), some (.inl (v6 + 1)), none] _ from ⟨rfl, ⟨rfl, ⟨rfl, ⟨rfl, ⟨rfl, ⟨rfl, ⟨rfl, trivial⟩⟩⟩⟩⟩⟩⟩) vc
    · replace vc := vc.2 c43
      refine s_iload_n (oe_t18 25 (q := (50, .iload_n 1, 1)) rfl) rfl ?_
      refine s_if_eq (oe_t18 26 (q := (51, .ifCond .eq 71, 3)) rfl) (fun c102 => ?_) (fun c102 => ?_)
      · replace vc := vc.1 c102
        refine s_iload (oe_t18 35 (q := (71, .iload 6, 2)) rfl) rfl ?_
        exact s_iret (oe_t18 36 (q := (73, .ireturn, 1)) rfl) (Or.inl rfl) vc
      · replace vc := vc.2 c102
        refine s_iload (oe_t18 27 (q := (54, .iload 4, 2)) rfl) rfl ?_
        refine s_if_ne (oe_t18 28 (q := (56, .ifCond .ne 71, 3)) rfl) (fun c103 => ?_) (fun c103 => ?_)
        · replace vc := vc.1 c103
          refine s_iload (oe_t18 35 (q := (71, .iload 6, 2)) rfl) rfl ?_
          exact s_iret (oe_t18 36 (q := (73, .ireturn, 1)) rfl) (Or.inl rfl) vc
        · replace vc := vc.2 c103
          refine s_aload_n (oe_t18 29 (q := (59, .aload_n 0, 1)) rfl) rfl ?_
          obtain ⟨s104, vc⟩ := vc
          obtain ⟨q105, p106, vc⟩ := vc
          refine s_getr (oe_t18 30 (q := (60, .getfield 1, 3)) rfl) s104 rfl rfl p106 ?_
          refine s_iload (oe_t18 31 (q := (63, .iload 6, 2)) rfl) rfl ?_
          obtain ⟨n108, s107, vc⟩ := vc
          obtain ⟨i109, i110, vc⟩ := vc
          refine s_caload (oe_t18 32 (q := (65, .caload, 1)) rfl) s107 i109 i110 ?_
          refine s_bipush (oe_t18 33 (q := (66, .bipush 61, 2)) rfl) ?_
          refine s_ic_eq (oe_t18 34 (q := (68, .if_icmp .eq 74, 3)) rfl) (fun c111 => ?_) (fun c111 => ?_)
          · replace vc := vc.1 c111
            refine s_iconst (oe_t18 37 (q := (74, .iconst 1, 1)) rfl) ?_
            refine s_istore (oe_t18 38 (q := (75, .istore 4, 2)) rfl) ?_
            refine s_iconst (oe_t18 39 (q := (77, .iconst 1, 1)) rfl) ?_
            refine s_istore (oe_t18 40 (q := (78, .istore 5, 2)) rfl) ?_
            refine s_goto (oe_t18 41 (q := (80, .goto 155, 3)) rfl) ?_
            obtain ⟨r112, vc⟩ := vc
            refine s_iinc (oe_t18 76 (q := (155, .iinc 6 1, 3)) rfl) rfl r112 ?_
            refine s_goto (oe_t18 77 (q := (158, .goto 39, 3)) rfl) ?_
            exact oe_V.fg (oe_M_mono _) (show oe_fg [some (.inr (.inl v0)), some (.inl v1), some (.inl v2), some (.inl v3), some (.inl 1), some (.inl 1), some (.inl (v6 + 1)), none] _ from ⟨rfl, ⟨rfl, ⟨rfl, ⟨rfl, ⟨rfl, ⟨rfl, ⟨rfl, trivial⟩⟩⟩⟩⟩⟩⟩) vc
          · replace vc := vc.2 c111
            refine s_iload (oe_t18 35 (q := (71, .iload 6, 2)) rfl) rfl ?_
            exact s_iret (oe_t18 36 (q := (73, .ireturn, 1)) rfl) (Or.inl rfl) vc
theorem oe_u19 : oe_c19.all (fun q => decide (oe_find oe_c19 q.1 = some q.2)) = true := by decide +kernel
theorem oe_t19 (k : Nat) {q : Nat × Jvm.ClassFile.Instr × Nat} (h : oe_c19[k]? = some q) : oe_find (oe_code 19) q.1 = some q.2 := oe_ft oe_u19 h
theorem g19 {d : Nat} {sh : List (Nat × Nat)} {g : Nat → Nat → Option Nat} {h : Nat → Nat → Int} {Q : oeQ} {v0 : Nat} {v1 : Nat}
    (vc : oe_V (oe_cost 19) 19 (oe_M (d + 1)) none Q 2 [some (.inr (.inl v0)), some (.inr (.inl v1)), some (.inl 0)] [] (sh, g, h) 0 0) :
    oe_M (d + 2) 19 [.inr (.inl v0), .inr (.inl v1)] (sh, g, h) Q := by
  refine oe_M.of (by simp [oe_c1]) (Nat.le_of_ble_eq_true rfl) ?_
  show oe_V (oe_cost 19) 19 (oe_M (d + 1)) none Q 0 [some (.inr (.inl v0)), some (.inr (.inl v1)), none] [] (sh, g, h) 0 0
  refine s_iconst (oe_t19 0 (q := (0, .iconst 0, 1)) rfl) ?_
  refine s_istore_n (oe_t19 1 (q := (1, .istore_n 2, 1)) rfl) ?_
  exact oe_V.fg (oe_M_mono _) (show oe_fg [some (.inr (.inl v0)), some (.inr (.inl v1)), some (.inl 0)] _ from ⟨rfl, ⟨rfl, ⟨rfl, trivial⟩⟩⟩) vc
theorem g19_2 {d : Nat} {sh : List (Nat × Nat)} {g : Nat → Nat → Option Nat} {h : Nat → Nat → Int} {Q : oeQ} {v0 : Nat} {v1 : Nat} {v2 : Int}
    (vc : sh[v1]? = some (8, 3) ∧ ((h v1 2) ≤ v2 → Q none (sh, g, h)) ∧ (v2 < (h v1 2) → sh[v0]? = some (5, 14) ∧ ∃ q4, g v0 2 = some q4 ∧ ∃ n7, sh[q4]? = some (1, n7) ∧ (((n7 : Nat) : Int) ≤ (h v0 3) → Q none (sh, g, h)) ∧ ((h v0 3) < ((n7 : Nat) : Int) → ∃ q9, g v1 0 = some q9 ∧ ∃ n12, sh[q9]? = some (0, n12) ∧ 0 ≤ v2 ∧ v2 < (n12 : Nat) ∧ oe_M (d + 1) 901 [.inl (h q9 (v2 : Int).toNat)] (sh, g, h) (fun r hp => ∃ (x16 : Int) (h15 : Nat → Nat → Int), r = some (.inl x16) ∧ hp = (sh, g, h15) ∧ 0 ≤ (h v0 3) ∧ (h v0 3) < (n7 : Nat) ∧ 0 ≤ x16 ∧ x16 < 65536 ∧ ∀ h19, h19 = oe_up h15 q4 ((h v0 3) : Int).toNat x16 → oe_rg ((h19 v0 3) + 1) ∧ ∀ h24, h24 = oe_up h19 v0 3 ((h19 v0 3) + 1) → oe_rg (v2 + 1) ∧ oe_V (oe_cost 19) 19 (oe_M (d + 1)) none Q 2 [some (.inr (.inl v0)), some (.inr (.inl v1)), some (.inl (v2 + 1))] [] (sh, g, h24) 0 0)))) :
    oe_V (oe_cost 19) 19 (oe_M (d + 1)) none Q 2 [some (.inr (.inl v0)), some (.inr (.inl v1)), some (.inl v2)] [] (sh, g, h) 0 0 := by
  refine s_iload_n (oe_t19 2 (q := (2, .iload_n 2, 1)) rfl) rfl ?_
  refine s_aload_n (oe_t19 3 (q := (3, .aload_n 1, 1)) rfl) rfl ?_
  obtain ⟨s1, vc⟩ := vc
  refine s_geti (oe_t19 4 (q := (4, .getfield 3020, 3)) rfl) s1 rfl (by decide) ?_
  refine s_ic_ge (oe_t19 5 (q := (7, .if_icmp .ge 56, 3)) rfl) (fun c2 => ?_) (fun c2 => ?_)
  · replace vc := vc.1 c2
    exact s_ret (oe_t19 30 (q := (56, .return_, 1)) rfl) rfl vc
  · replace vc := vc.2 c2
    refine s_aload_n (oe_t19 6 (q := (10, .aload_n 0, 1)) rfl) rfl ?_
    obtain ⟨s3, vc⟩ := vc
    refine s_geti (oe_t19 7 (q := (11, .getfield 30, 3)) rfl) s3 rfl (by decide) ?_
    refine s_aload_n (oe_t19 8 (q := (14, .aload_n 0, 1)) rfl) rfl ?_
    obtain ⟨q4, p5, vc⟩ := vc
    refine s_getr (oe_t19 9 (q := (15, .getfield 21, 3)) rfl) s3 rfl rfl p5 ?_
    obtain ⟨n7, s6, vc⟩ := vc
    refine s_alen (oe_t19 10 (q := (18, .arraylength, 1)) rfl) s6 (by decide) ?_
    refine s_ic_ge (oe_t19 11 (q := (19, .if_icmp .ge 56, 3)) rfl) (fun c8 => ?_) (fun c8 => ?_)
    · replace vc := vc.1 c8
      exact s_ret (oe_t19 30 (q := (56, .return_, 1)) rfl) rfl vc
    · replace vc := vc.2 c8
      refine s_aload_n (oe_t19 12 (q := (22, .aload_n 0, 1)) rfl) rfl ?_
      refine s_getr (oe_t19 13 (q := (23, .getfield 21, 3)) rfl) s3 rfl rfl p5 ?_
      refine s_aload_n (oe_t19 14 (q := (26, .aload_n 0, 1)) rfl) rfl ?_
      refine s_geti (oe_t19 15 (q := (27, .getfield 30, 3)) rfl) s3 rfl (by decide) ?_
      refine s_aload_n (oe_t19 16 (q := (30, .aload_n 1, 1)) rfl) rfl ?_
      obtain ⟨q9, p10, vc⟩ := vc
      refine s_getr (oe_t19 17 (q := (31, .getfield 3001, 3)) rfl) s1 rfl rfl p10 ?_
      refine s_iload_n (oe_t19 18 (q := (34, .iload_n 2, 1)) rfl) rfl ?_
      obtain ⟨n12, s11, vc⟩ := vc
      obtain ⟨i13, i14, vc⟩ := vc
      refine s_iaload (oe_t19 19 (q := (35, .iaload, 1)) rfl) s11 i13 i14 ?_
      refine s_calls (oe_t19 20 (q := (36, .invokestatic 901001, 3)) rfl) (by decide) (Nat.le_of_ble_eq_true rfl) (Nat.le_of_ble_eq_true rfl) (Nat.le_of_ble_eq_true rfl) (Nat.le_of_ble_eq_true rfl) ?_
      refine oe_M_mono _ _ _ _ _ _ (fun r hp vq => ?_) vc
      obtain ⟨x16, h15, rfl, rfl, vc⟩ := vq
      show oe_V (oe_cost 19) 19 (oe_M (d + 1)) none Q 39 [some (.inr (.inl v0)), some (.inr (.inl v1)), some (.inl v2)] [.inl x16, .inl (h v0 3), .inr (.inl q4)] (sh, g, h15) 0 0
      obtain ⟨i17, i18, vc⟩ := vc
      obtain ⟨c21, c22, vc⟩ := vc
      refine t_castore (oe_t19 21 (q := (39, .castore, 1)) rfl) s6 i17 i18 c21 c22 (fun h19 e20 => ?_)
      replace vc := vc h19 e20
      refine s_aload_n (oe_t19 22 (q := (40, .aload_n 0, 1)) rfl) rfl ?_
      refine s_dup (oe_t19 23 (q := (41, .dup, 1)) rfl) trivial ?_
      refine s_geti (oe_t19 24 (q := (42, .getfield 30, 3)) rfl) s3 rfl (by decide) ?_
      refine s_iconst (oe_t19 25 (q := (45, .iconst 1, 1)) rfl) ?_
      obtain ⟨r23, vc⟩ := vc
      refine s_iadd (oe_t19 26 (q := (46, .iadd, 1)) rfl) r23 ?_
      refine t_puti (oe_t19 27 (q := (47, .putfield 30, 3)) rfl) s3 rfl (Or.inl rfl) (fun h24 e25 => ?_)
      replace vc := vc h24 e25
      obtain ⟨r26, vc⟩ := vc
      refine s_iinc (oe_t19 28 (q := (50, .iinc 2 1, 3)) rfl) rfl r26 ?_
      refine s_goto (oe_t19 29 (q := (53, .goto 2, 3)) rfl) ?_
      exact oe_V.fg (oe_M_mono _) (show oe_fg [some (.inr (.inl v0)), some (.inr (.inl v1)), some (.inl (v2 + 1))] _ from ⟨rfl, ⟨rfl, ⟨rfl, trivial⟩⟩⟩) vc
theorem oe_u20 : oe_c20.all (fun q => decide (oe_find oe_c20 q.1 = some q.2)) = true := by decide +kernel
theorem oe_t20 (k : Nat) {q : Nat × Jvm.ClassFile.Instr × Nat} (h : oe_c20[k]? = some q) : oe_find (oe_code 20) q.1 = some q.2 := oe_ft oe_u20 h
theorem g20 {d : Nat} {sh : List (Nat × Nat)} {g : Nat → Nat → Option Nat} {h : Nat → Nat → Int} {Q : oeQ} {v0 : Nat} {v1 : Int} {v2 : Int}
    (vc : (v1 ≠ 2 → (v1 ≠ 0 → sh[v0]? = some (5, 14) ∧ ∃ q4, g v0 4 = some q4 ∧ sh[q4]? = some (11, 2) ∧ (v2 < 0 → False) ∧ (0 ≤ v2 → (v2 < (h q4 1) → (v1 ≠ 0 → ∃ q10, g q4 0 = some q10 ∧ ∃ n13, sh[q10]? = some (4, n13) ∧ 0 ≤ v2 ∧ v2 < (n13 : Nat) ∧ ∃ q16, g q10 (v2 : Int).toNat = some q16 ∧ Q (some (.inr (.inl q16))) (sh, g, h)) ∧ (v1 = 0 → ∃ q18, g v0 5 = some q18 ∧ sh[q18]? = some (6, 5) ∧ ∃ q21, g q18 0 = some q21 ∧ ∃ n24, sh[q21]? = some (4, n24) ∧ 0 ≤ v2 ∧ v2 < (n24 : Nat) ∧ ∃ q27, g q21 (v2 : Int).toNat = some q27 ∧ Q (some (.inr (.inl q27))) (sh, g, h))) ∧ ((h q4 1) ≤ v2 → False))) ∧ (v1 = 0 → sh[v0]? = some (5, 14) ∧ ∃ q30, g v0 5 = some q30 ∧ sh[q30]? = some (6, 5) ∧ (v2 < 0 → False) ∧ (0 ≤ v2 → (v2 < (h q30 1) → (v1 ≠ 0 → ∃ q36, g v0 4 = some q36 ∧ sh[q36]? = some (11, 2) ∧ ∃ q39, g q36 0 = some q39 ∧ ∃ n42, sh[q39]? = some (4, n42) ∧ 0 ≤ v2 ∧ v2 < (n42 : Nat) ∧ ∃ q45, g q39 (v2 : Int).toNat = some q45 ∧ Q (some (.inr (.inl q45))) (sh, g, h)) ∧ (v1 = 0 → ∃ q47, g q30 0 = some q47 ∧ ∃ n50, sh[q47]? = some (4, n50) ∧ 0 ≤ v2 ∧ v2 < (n50 : Nat) ∧ ∃ q53, g q47 (v2 : Int).toNat = some q53 ∧ Q (some (.inr (.inl q53))) (sh, g, h))) ∧ ((h q30 1) ≤ v2 → False)))) ∧ (v1 = 2 → sh[v0]? = some (5, 14) ∧ ((h v0 9) = 0 → False) ∧ ((h v0 9) ≠ 0 → ∃ q57, g v0 8 = some q57 ∧ Q (some (.inr (.inl q57))) (sh, g, h)))) :
    oe_M (d + 2) 20 [.inr (.inl v0), .inl v1, .inl v2] (sh, g, h) Q := by
  refine oe_M.of (by simp [oe_c1]) (Nat.le_of_ble_eq_true rfl) ?_
  show oe_V (oe_cost 20) 20 (oe_M (d + 1)) none Q 0 [some (.inr (.inl v0)), some (.inl v1), some (.inl v2), none] [] (sh, g, h) 0 0
  refine s_iload_n (oe_t20 0 (q := (0, .iload_n 1, 1)) rfl) rfl ?_
  refine s_iconst (oe_t20 1 (q := (1, .iconst 2, 1)) rfl) ?_
  refine s_ic_ne (oe_t20 2 (q := (2, .if_icmp .ne 21, 3)) rfl) (fun c1 => ?_) (fun c1 => ?_)
  · replace vc := vc.1 c1
    refine s_iload_n (oe_t20 11 (q := (21, .iload_n 1, 1)) rfl) rfl ?_
    refine s_if_ne (oe_t20 12 (q := (22, .ifCond .ne 35, 3)) rfl) (fun c2 => ?_) (fun c2 => ?_)
    · replace vc := vc.1 c2
      refine s_aload_n (oe_t20 17 (q := (35, .aload_n 0, 1)) rfl) rfl ?_
      obtain ⟨s3, vc⟩ := vc
      obtain ⟨q4, p5, vc⟩ := vc
      refine s_getr (oe_t20 18 (q := (36, .getfield 41, 3)) rfl) s3 rfl rfl p5 ?_
      obtain ⟨s6, vc⟩ := vc
      refine s_geti (oe_t20 19 (q := (39, .getfield 6010, 3)) rfl) s6 rfl (by decide) ?_
      refine s_istore_n (oe_t20 20 (q := (42, .istore_n 3, 1)) rfl) ?_
      refine s_iload_n (oe_t20 21 (q := (43, .iload_n 2, 1)) rfl) rfl ?_
      refine s_if_lt (oe_t20 22 (q := (44, .ifCond .lt 52, 3)) rfl) (fun c7 => ?_) (fun c7 => ?_)
      · replace vc := vc.1 c7
        refine s_null (oe_t20 26 (q := (52, .aconst_null, 1)) rfl) ?_
        exact vc.elim
      · replace vc := vc.2 c7
        refine s_iload_n (oe_t20 23 (q := (47, .iload_n 2, 1)) rfl) rfl ?_
        refine s_iload_n (oe_t20 24 (q := (48, .iload_n 3, 1)) rfl) rfl ?_
        refine s_ic_lt (oe_t20 25 (q := (49, .if_icmp .lt 54, 3)) rfl) (fun c8 => ?_) (fun c8 => ?_)
        · replace vc := vc.1 c8
          refine s_iload_n (oe_t20 28 (q := (54, .iload_n 1, 1)) rfl) rfl ?_
          refine s_if_ne (oe_t20 29 (q := (55, .ifCond .ne 70, 3)) rfl) (fun c9 => ?_) (fun c9 => ?_)
          · replace vc := vc.1 c9
            refine s_aload_n (oe_t20 36 (q := (70, .aload_n 0, 1)) rfl) rfl ?_
            refine s_getr (oe_t20 37 (q := (71, .getfield 41, 3)) rfl) s3 rfl rfl p5 ?_
            obtain ⟨q10, p11, vc⟩ := vc
            refine s_getr (oe_t20 38 (q := (74, .getfield 6001, 3)) rfl) s6 rfl rfl p11 ?_
            refine s_iload_n (oe_t20 39 (q := (77, .iload_n 2, 1)) rfl) rfl ?_
            obtain ⟨n13, s12, vc⟩ := vc
            obtain ⟨i14, i15, q16, p17, vc⟩ := vc
            refine s_aaload (oe_t20 40 (q := (78, .aaload, 1)) rfl) s12 i14 i15 p17 ?_
            exact s_aret (oe_t20 41 (q := (79, .areturn, 1)) rfl) rfl vc
          · replace vc := vc.2 c9
            refine s_aload_n (oe_t20 30 (q := (58, .aload_n 0, 1)) rfl) rfl ?_
            obtain ⟨q18, p19, vc⟩ := vc
            refine s_getr (oe_t20 31 (q := (59, .getfield 51, 3)) rfl) s3 rfl rfl p19 ?_
            obtain ⟨s20, vc⟩ := vc
            obtain ⟨q21, p22, vc⟩ := vc
            refine s_getr (oe_t20 32 (q := (62, .getfield 1001, 3)) rfl) s20 rfl rfl p22 ?_
            refine s_iload_n (oe_t20 33 (q := (65, .iload_n 2, 1)) rfl) rfl ?_
            obtain ⟨n24, s23, vc⟩ := vc
            obtain ⟨i25, i26, q27, p28, vc⟩ := vc
            refine s_aaload (oe_t20 34 (q := (66, .aaload, 1)) rfl) s23 i25 i26 p28 ?_
            refine s_goto (oe_t20 35 (q := (67, .goto 79, 3)) rfl) ?_
            exact s_aret (oe_t20 41 (q := (79, .areturn, 1)) rfl) rfl vc
        · replace vc := vc.2 c8
          refine s_null (oe_t20 26 (q := (52, .aconst_null, 1)) rfl) ?_
          exact vc.elim
    · replace vc := vc.2 c2
      refine s_aload_n (oe_t20 13 (q := (25, .aload_n 0, 1)) rfl) rfl ?_
      obtain ⟨s29, vc⟩ := vc
      obtain ⟨q30, p31, vc⟩ := vc
      refine s_getr (oe_t20 14 (q := (26, .getfield 51, 3)) rfl) s29 rfl rfl p31 ?_
      obtain ⟨s32, vc⟩ := vc
      refine s_geti (oe_t20 15 (q := (29, .getfield 1010, 3)) rfl) s32 rfl (by decide) ?_
      refine s_goto (oe_t20 16 (q := (32, .goto 42, 3)) rfl) ?_
      refine s_istore_n (oe_t20 20 (q := (42, .istore_n 3, 1)) rfl) ?_
      refine s_iload_n (oe_t20 21 (q := (43, .iload_n 2, 1)) rfl) rfl ?_
      refine s_if_lt (oe_t20 22 (q := (44, .ifCond .lt 52, 3)) rfl) (fun c33 => ?_) (fun c33 => ?_)
      · replace vc := vc.1 c33
        refine s_null (oe_t20 26 (q := (52, .aconst_null, 1)) rfl) ?_
        exact vc.elim
      · replace vc := vc.2 c33
        refine s_iload_n (oe_t20 23 (q := (47, .iload_n 2, 1)) rfl) rfl ?_
        refine s_iload_n (oe_t20 24 (q := (48, .iload_n 3, 1)) rfl) rfl ?_
        refine s_ic_lt (oe_t20 25 (q := (49, .if_icmp .lt 54, 3)) rfl) (fun c34 => ?_) (fun c34 => ?_)
        · replace vc := vc.1 c34
          refine s_iload_n (oe_t20 28 (q := (54, .iload_n 1, 1)) rfl) rfl ?_
          refine s_if_ne (oe_t20 29 (q := (55, .ifCond .ne 70, 3)) rfl) (fun c35 => ?_) (fun c35 => ?_)
          · replace vc := vc.1 c35
            refine s_aload_n (oe_t20 36 (q := (70, .aload_n 0, 1)) rfl) rfl ?_
            obtain ⟨q36, p37, vc⟩ := vc
            refine s_getr (oe_t20 37 (q := (71, .getfield 41, 3)) rfl) s29 rfl rfl p37 ?_
            obtain ⟨s38, vc⟩ := vc
            obtain ⟨q39, p40, vc⟩ := vc
            refine s_getr (oe_t20 38 (q := (74, .getfield 6001, 3)) rfl) s38 rfl rfl p40 ?_
            refine s_iload_n (oe_t20 39 (q := (77, .iload_n 2, 1)) rfl) rfl ?_
            obtain ⟨n42, s41, vc⟩ := vc
            obtain ⟨i43, i44, q45, p46, vc⟩ := vc
            refine s_aaload (oe_t20 40 (q := (78, .aaload, 1)) rfl) s41 i43 i44 p46 ?_
            exact s_aret (oe_t20 41 (q := (79, .areturn, 1)) rfl) rfl vc
          · replace vc := vc.2 c35
            refine s_aload_n (oe_t20 30 (q := (58, .aload_n 0, 1)) rfl) rfl ?_
            refine s_getr (oe_t20 31 (q := (59, .getfield 51, 3)) rfl) s29 rfl rfl p31 ?_
            obtain ⟨q47, p48, vc⟩ := vc
            refine s_getr (oe_t20 32 (q := (62, .getfield 1001, 3)) rfl) s32 rfl rfl p48 ?_
            refine s_iload_n (oe_t20 33 (q := (65, .iload_n 2, 1)) rfl) rfl ?_
            obtain ⟨n50, s49, vc⟩ := vc
            obtain ⟨i51, i52, q53, p54, vc⟩ := vc
            refine s_aaload (oe_t20 34 (q := (66, .aaload, 1)) rfl) s49 i51 i52 p54 ?_
            refine s_goto (oe_t20 35 (q := (67, .goto 79, 3)) rfl) ?_
            exact s_aret (oe_t20 41 (q := (79, .areturn, 1)) rfl) rfl vc
        · replace vc := vc.2 c34
          refine s_null (oe_t20 26 (q := (52, .aconst_null, 1)) rfl) ?_
          exact vc.elim
  · replace vc := vc.2 c1
    refine s_aload_n (oe_t20 3 (q := (5, .aload_n 0, 1)) rfl) rfl ?_
    obtain ⟨s55, vc⟩ := vc
    refine s_geti (oe_t20 4 (q := (6, .getfield 92, 3)) rfl) s55 rfl (by decide) ?_
    refine s_if_eq (oe_t20 5 (q := (9, .ifCond .eq 19, 3)) rfl) (fun c56 => ?_) (fun c56 => ?_)
    · replace vc := vc.1 c56
      refine s_null (oe_t20 9 (q := (19, .aconst_null, 1)) rfl) ?_
      exact vc.elim
    · replace vc := vc.2 c56
      refine s_aload_n (oe_t20 6 (q := (12, .aload_n 0, 1)) rfl) rfl ?_
      obtain ⟨q57, p58, vc⟩ := vc
      refine s_getr (oe_t20 7 (q := (13, .getfield 81, 3)) rfl) s55 rfl rfl p58 ?_
      refine s_goto (oe_t20 8 (q := (16, .goto 20, 3)) rfl) ?_
      exact s_aret (oe_t20 10 (q := (20, .areturn, 1)) rfl) rfl vc
theorem oe_u21 : oe_c21.all (fun q => decide (oe_find oe_c21 q.1 = some q.2)) = true := by decide +kernel
theorem oe_t21 (k : Nat) {q : Nat × Jvm.ClassFile.Instr × Nat} (h : oe_c21[k]? = some q) : oe_find (oe_code 21) q.1 = some q.2 := oe_ft oe_u21 h
theorem g21 {d : Nat} {sh : List (Nat × Nat)} {g : Nat → Nat → Option Nat} {h : Nat → Nat → Int} {Q : oeQ} {v0 : Nat}
    (vc : sh[v0]? = some (5, 14) ∧ ((h v0 9) = 0 → Q (some (.inl 0)) (sh, g, h)) ∧ ((h v0 9) ≠ 0 → ∃ q3, g v0 8 = some q3 ∧ sh[q3]? = some (7, 2) ∧ oe_M (d + 1) 96 [.inr (.inl q3)] (sh, g, h) (fun r hp => ∃ (x5 : Int), r = some (.inl x5) ∧ hp = (sh, g, h) ∧ (x5 = 0 → Q (some (.inl 0)) (sh, g, h)) ∧ (x5 ≠ 0 → Q (some (.inl 1)) (sh, g, h))))) :
    oe_M (d + 2) 21 [.inr (.inl v0)] (sh, g, h) Q := by
  refine oe_M.of (by simp [oe_c1]) (Nat.le_of_ble_eq_true rfl) ?_
  show oe_V (oe_cost 21) 21 (oe_M (d + 1)) none Q 0 [some (.inr (.inl v0))] [] (sh, g, h) 0 0
  refine s_aload_n (oe_t21 0 (q := (0, .aload_n 0, 1)) rfl) rfl ?_
  obtain ⟨s1, vc⟩ := vc
  refine s_geti (oe_t21 1 (q := (1, .getfield 92, 3)) rfl) s1 rfl (by decide) ?_
  refine s_if_eq (oe_t21 2 (q := (4, .ifCond .eq 21, 3)) rfl) (fun c2 => ?_) (fun c2 => ?_)
  · replace vc := vc.1 c2
    refine s_iconst (oe_t21 9 (q := (21, .iconst 0, 1)) rfl) ?_
    exact s_iret (oe_t21 10 (q := (22, .ireturn, 1)) rfl) (Or.inr (Or.inl ⟨rfl, Or.inl rfl⟩)) vc
  · replace vc := vc.2 c2
    refine s_aload_n (oe_t21 3 (q := (7, .aload_n 0, 1)) rfl) rfl ?_
    obtain ⟨q3, p4, vc⟩ := vc
    refine s_getr (oe_t21 4 (q := (8, .getfield 81, 3)) rfl) s1 rfl rfl p4 ?_
    obtain ⟨s6, vc⟩ := vc
    refine s_callv (oe_t21 5 (q := (11, .invokevirtual 96020, 3)) rfl) rfl s6 rfl (Nat.le_of_ble_eq_true rfl) (Nat.le_of_ble_eq_true rfl) (Nat.le_of_ble_eq_true rfl) (Nat.le_of_ble_eq_true rfl) ?_
    refine oe_M_mono _ _ _ _ _ _ (fun r hp vq => ?_) vc
    obtain ⟨x5, rfl, rfl, vc⟩ := vq
    show oe_V (oe_cost 21) 21 (oe_M (d + 1)) none Q 14 [some (.inr (.inl v0))] [.inl x5] (sh, g, h) 0 0
    refine s_if_eq (oe_t21 6 (q := (14, .ifCond .eq 21, 3)) rfl) (fun c7 => ?_) (fun c7 => ?_)
    · replace vc := vc.1 c7
      refine s_iconst (oe_t21 9 (q := (21, .iconst 0, 1)) rfl) ?_
      exact s_iret (oe_t21 10 (q := (22, .ireturn, 1)) rfl) (Or.inr (Or.inl ⟨rfl, Or.inl rfl⟩)) vc
    · replace vc := vc.2 c7
      refine s_iconst (oe_t21 7 (q := (17, .iconst 1, 1)) rfl) ?_
      refine s_goto (oe_t21 8 (q := (18, .goto 22, 3)) rfl) ?_
      exact s_iret (oe_t21 10 (q := (22, .ireturn, 1)) rfl) (Or.inr (Or.inl ⟨rfl, Or.inr rfl⟩)) vc
theorem oe_u22 : oe_c22.all (fun q => decide (oe_find oe_c22 q.1 = some q.2)) = true := by decide +kernel
theorem oe_t22 (k : Nat) {q : Nat × Jvm.ClassFile.Instr × Nat} (h : oe_c22[k]? = some q) : oe_find (oe_code 22) q.1 = some q.2 := oe_ft oe_u22 h
theorem g22 {d : Nat} {sh : List (Nat × Nat)} {g : Nat → Nat → Option Nat} {h : Nat → Nat → Int} {Q : oeQ} {v0 : Nat} {v1 : Nat}
    (vc : sh[v0]? = some (5, 14) ∧ ∃ q2, g v0 5 = some q2 ∧ sh[v1]? = some (7, 2) ∧ ∃ q5, g v1 0 = some q5 ∧ sh[q2]? = some (6, 5) ∧ oe_M (d + 1) 88 [.inr (.inl q2), .inr (.inl q5)] (sh, g, h) (fun r hp => ∃ (x8 : Int) (h7 : Nat → Nat → Int), r = some (.inl x8) ∧ hp = (sh, g, h7) ∧ ∃ q10, g v1 1 = some q10 ∧ oe_M (d + 1) 88 [.inr (.inl q2), .inr (.inl q10)] (sh, g, h7) (fun r hp => ∃ (x13 : Int) (h12 : Nat → Nat → Int), r = some (.inl x13) ∧ hp = (sh, g, h12) ∧ Q none (sh, g, h12)))) :
    oe_M (d + 2) 22 [.inr (.inl v0), .inr (.inl v1)] (sh, g, h) Q := by
  refine oe_M.of (by simp [oe_c1]) (Nat.le_of_ble_eq_true rfl) ?_
  show oe_V (oe_cost 22) 22 (oe_M (d + 1)) none Q 0 [some (.inr (.inl v0)), some (.inr (.inl v1))] [] (sh, g, h) 0 0
  refine s_aload_n (oe_t22 0 (q := (0, .aload_n 0, 1)) rfl) rfl ?_
  obtain ⟨s1, vc⟩ := vc
  obtain ⟨q2, p3, vc⟩ := vc
  refine s_getr (oe_t22 1 (q := (1, .getfield 51, 3)) rfl) s1 rfl rfl p3 ?_
  refine s_aload_n (oe_t22 2 (q := (4, .aload_n 1, 1)) rfl) rfl ?_
  obtain ⟨s4, vc⟩ := vc
  obtain ⟨q5, p6, vc⟩ := vc
  refine s_getr (oe_t22 3 (q := (5, .getfield 2001, 3)) rfl) s4 rfl rfl p6 ?_
  obtain ⟨s9, vc⟩ := vc
  refine s_callv (oe_t22 4 (q := (8, .invokevirtual 88011, 3)) rfl) rfl s9 rfl (Nat.le_of_ble_eq_true rfl) (Nat.le_of_ble_eq_true rfl) (Nat.le_of_ble_eq_true rfl) (Nat.le_of_ble_eq_true rfl) ?_
  refine oe_M_mono _ _ _ _ _ _ (fun r hp vq => ?_) vc
  obtain ⟨x8, h7, rfl, rfl, vc⟩ := vq
  show oe_V (oe_cost 22) 22 (oe_M (d + 1)) none Q 11 [some (.inr (.inl v0)), some (.inr (.inl v1))] [.inl x8] (sh, g, h7) 0 0
  refine s_pop (oe_t22 5 (q := (11, .pop, 1)) rfl) trivial ?_
  refine s_aload_n (oe_t22 6 (q := (12, .aload_n 0, 1)) rfl) rfl ?_
  refine s_getr (oe_t22 7 (q := (13, .getfield 51, 3)) rfl) s1 rfl rfl p3 ?_
  refine s_aload_n (oe_t22 8 (q := (16, .aload_n 1, 1)) rfl) rfl ?_
  obtain ⟨q10, p11, vc⟩ := vc
  refine s_getr (oe_t22 9 (q := (17, .getfield 2011, 3)) rfl) s4 rfl rfl p11 ?_
  refine s_callv (oe_t22 10 (q := (20, .invokevirtual 88011, 3)) rfl) rfl s9 rfl (Nat.le_of_ble_eq_true rfl) (Nat.le_of_ble_eq_true rfl) (Nat.le_of_ble_eq_true rfl) (Nat.le_of_ble_eq_true rfl) ?_
  refine oe_M_mono _ _ _ _ _ _ (fun r hp vq => ?_) vc
  obtain ⟨x13, h12, rfl, rfl, vc⟩ := vq
  show oe_V (oe_cost 22) 22 (oe_M (d + 1)) none Q 23 [some (.inr (.inl v0)), some (.inr (.inl v1))] [.inl x13] (sh, g, h12) 0 0
  refine s_pop (oe_t22 11 (q := (23, .pop, 1)) rfl) trivial ?_
  exact s_ret (oe_t22 12 (q := (24, .return_, 1)) rfl) rfl vc
theorem oe_u23 : oe_c23.all (fun q => decide (oe_find oe_c23 q.1 = some q.2)) = true := by decide +kernel
theorem oe_t23 (k : Nat) {q : Nat × Jvm.ClassFile.Instr × Nat} (h : oe_c23[k]? = some q) : oe_find (oe_code 23) q.1 = some q.2 := oe_ft oe_u23 h
theorem g23 {d : Nat} {sh : List (Nat × Nat)} {g : Nat → Nat → Option Nat} {h : Nat → Nat → Int} {Q : oeQ} {v0 : Nat}
    (vc : sh[v0]? = some (5, 14) ∧ oe_M (d + 1) 21 [.inr (.inl v0)] (sh, g, h) (fun r hp => ∃ (x1 : Int), r = some (.inl x1) ∧ hp = (sh, g, h) ∧ (x1 = 0 → ∃ q4, g v0 4 = some q4 ∧ sh[q4]? = some (11, 2) ∧ ((h q4 1) ≠ 0 → ∃ q8, g v0 11 = some q8 ∧ oe_M (d + 1) 128 [.inr (.inl q4), .inr (.inl q8)] (sh, g, h) (fun r hp => ∃ (g11 : Nat → Nat → Option Nat) (h10 : Nat → Nat → Int), r = none ∧ hp = (sh, g11, h10) ∧ ∃ q12, g11 v0 11 = some q12 ∧ oe_M (d + 1) 22 [.inr (.inl v0), .inr (.inl q12)] (sh, g11, h10) (fun r hp => ∃ (h14 : Nat → Nat → Int), r = none ∧ hp = (sh, g11, h14) ∧ sh[q12]? = some (7, 2) ∧ oe_M (d + 1) 96 [.inr (.inl q12)] (sh, g11, h14) (fun r hp => ∃ (x15 : Int), r = some (.inl x15) ∧ hp = (sh, g11, h14) ∧ (x15 ≠ 0 → Q (some (.inl 3)) (sh, g11, h14)) ∧ (x15 = 0 → oe_M (d + 1) 94 [.inr (.inl q12)] (sh, g11, h14) (fun r hp => ∃ (x18 : Int), r = some (.inl x18) ∧ hp = (sh, g11, h14) ∧ (x18 ≤ 20 → oe_M (d + 1) 24 [.inr (.inl v0), .inr (.inl q12)] (sh, g11, h14) (fun r hp => ∃ (x21 : Int) (h20 : Nat → Nat → Int), r = some (.inl x21) ∧ hp = (sh, g11, h20) ∧ ∃ q22, g11 v0 5 = some q22 ∧ sh[q22]? = some (6, 5) ∧ ∃ q25, g11 q22 0 = some q25 ∧ oe_M (d + 1) 25 [.inr (.inl v0), .inr (.inl q25), .inl (h20 q22 1), .inr (.inl q12)] (sh, g11, h20) (fun r hp => ∃ (x28 : Int) (h27 : Nat → Nat → Int), r = some (.inl x28) ∧ hp = (sh, g11, h27) ∧ (x28 = 0 → oe_M (d + 1) 86 [.inr (.inl q22)] (sh, g11, h27) (fun r hp => ∃ (x30 : Int), r = some (.inl x30) ∧ hp = (sh, g11, h27) ∧ (x30 = 0 → oe_M (d + 1) 87 [.inr (.inl q22), .inr (.inl q12)] (sh, g11, h27) (fun r hp => ∃ (h32 : Nat → Nat → Int), r = none ∧ hp = (sh, g11, h32) ∧ oe_rg ((h32 q22 1) - 1) ∧ oe_M (d + 1) 26 [.inr (.inl v0), .inl ((h32 q22 1) - 1)] (sh, g11, h32) (fun r hp => ∃ (h34 : Nat → Nat → Int), r = none ∧ hp = (sh, g11, h34) ∧ ((h34 v0 9) = 0 → oe_M (d + 1) 21 [.inr (.inl v0)] (sh, g11, h34) (fun r hp => ∃ (x36 : Int), r = some (.inl x36) ∧ hp = (sh, g11, h34) ∧ (x36 = 0 → Q (some (.inl 2)) (sh, g11, h34)) ∧ (x36 ≠ 0 → Q (some (.inl 1)) (sh, g11, h34)))) ∧ ((h34 v0 9) ≠ 0 → ∃ q38, g11 v0 8 = some q38 ∧ oe_M (d + 1) 22 [.inr (.inl v0), .inr (.inl q38)] (sh, g11, h34) (fun r hp => ∃ (h40 : Nat → Nat → Int), r = none ∧ hp = (sh, g11, h40) ∧ oe_M (d + 1) 21 [.inr (.inl v0)] (sh, g11, h40) (fun r hp => ∃ (x41 : Int), r = some (.inl x41) ∧ hp = (sh, g11, h40) ∧ (x41 = 0 → Q (some (.inl 2)) (sh, g11, h40)) ∧ (x41 ≠ 0 → Q (some (.inl 1)) (sh, g11, h40)))))))) ∧ (x30 ≠ 0 → Q (some (.inl 4)) (sh, g11, h27)))) ∧ (x28 ≠ 0 → Q (some (.inl 3)) (sh, g11, h27))))) ∧ (20 < x18 → Q (some (.inl 3)) (sh, g11, h14)))))))) ∧ ((h q4 1) = 0 → Q (some (.inl 0)) (sh, g, h))) ∧ (x1 ≠ 0 → Q (some (.inl 1)) (sh, g, h)))) :
    oe_M (d + 2) 23 [.inr (.inl v0)] (sh, g, h) Q := by
  refine oe_M.of (by simp [oe_c1]) (Nat.le_of_ble_eq_true rfl) ?_
  show oe_V (oe_cost 23) 23 (oe_M (d + 1)) none Q 0 [some (.inr (.inl v0))] [] (sh, g, h) 0 0
  refine s_aload_n (oe_t23 0 (q := (0, .aload_n 0, 1)) rfl) rfl ?_
  obtain ⟨s2, vc⟩ := vc
  refine s_callv (oe_t23 1 (q := (1, .invokevirtual 21000, 3)) rfl) rfl s2 rfl (Nat.le_of_ble_eq_true rfl) (Nat.le_of_ble_eq_true rfl) (Nat.le_of_ble_eq_true rfl) (Nat.le_of_ble_eq_true rfl) ?_
  refine oe_M_mono _ _ _ _ _ _ (fun r hp vq => ?_) vc
  obtain ⟨x1, rfl, rfl, vc⟩ := vq
  show oe_V (oe_cost 23) 23 (oe_M (d + 1)) none Q 4 [some (.inr (.inl v0))] [.inl x1] (sh, g, h) 0 0
  refine s_if_eq (oe_t23 2 (q := (4, .ifCond .eq 9, 3)) rfl) (fun c3 => ?_) (fun c3 => ?_)
  · replace vc := vc.1 c3
    refine s_aload_n (oe_t23 5 (q := (9, .aload_n 0, 1)) rfl) rfl ?_
    obtain ⟨q4, p5, vc⟩ := vc
    refine s_getr (oe_t23 6 (q := (10, .getfield 41, 3)) rfl) s2 rfl rfl p5 ?_
    obtain ⟨s6, vc⟩ := vc
    refine s_geti (oe_t23 7 (q := (13, .getfield 6010, 3)) rfl) s6 rfl (by decide) ?_
    refine s_if_ne (oe_t23 8 (q := (16, .ifCond .ne 21, 3)) rfl) (fun c7 => ?_) (fun c7 => ?_)
    · replace vc := vc.1 c7
      refine s_aload_n (oe_t23 11 (q := (21, .aload_n 0, 1)) rfl) rfl ?_
      refine s_getr (oe_t23 12 (q := (22, .getfield 41, 3)) rfl) s2 rfl rfl p5 ?_
      refine s_aload_n (oe_t23 13 (q := (25, .aload_n 0, 1)) rfl) rfl ?_
      obtain ⟨q8, p9, vc⟩ := vc
      refine s_getr (oe_t23 14 (q := (26, .getfield 111, 3)) rfl) s2 rfl rfl p9 ?_
      refine s_callv (oe_t23 15 (q := (29, .invokevirtual 128061, 3)) rfl) rfl s6 rfl (Nat.le_of_ble_eq_true rfl) (Nat.le_of_ble_eq_true rfl) (Nat.le_of_ble_eq_true rfl) (Nat.le_of_ble_eq_true rfl) ?_
      refine oe_M_mono _ _ _ _ _ _ (fun r hp vq => ?_) vc
      obtain ⟨g11, h10, rfl, rfl, vc⟩ := vq
      show oe_V (oe_cost 23) 23 (oe_M (d + 1)) none Q 32 [some (.inr (.inl v0))] [] (sh, g11, h10) 0 0
      refine s_aload_n (oe_t23 16 (q := (32, .aload_n 0, 1)) rfl) rfl ?_
      refine s_aload_n (oe_t23 17 (q := (33, .aload_n 0, 1)) rfl) rfl ?_
      obtain ⟨q12, p13, vc⟩ := vc
      refine s_getr (oe_t23 18 (q := (34, .getfield 111, 3)) rfl) s2 rfl rfl p13 ?_
      refine s_callv (oe_t23 19 (q := (37, .invokevirtual 22001, 3)) rfl) rfl s2 rfl (Nat.le_of_ble_eq_true rfl) (Nat.le_of_ble_eq_true rfl) (Nat.le_of_ble_eq_true rfl) (Nat.le_of_ble_eq_true rfl) ?_
      refine oe_M_mono _ _ _ _ _ _ (fun r hp vq => ?_) vc
      obtain ⟨h14, rfl, rfl, vc⟩ := vq
      show oe_V (oe_cost 23) 23 (oe_M (d + 1)) none Q 40 [some (.inr (.inl v0))] [] (sh, g11, h14) 0 0
      refine s_aload_n (oe_t23 20 (q := (40, .aload_n 0, 1)) rfl) rfl ?_
      refine s_getr (oe_t23 21 (q := (41, .getfield 111, 3)) rfl) s2 rfl rfl p13 ?_
      obtain ⟨s16, vc⟩ := vc
      refine s_callv (oe_t23 22 (q := (44, .invokevirtual 96020, 3)) rfl) rfl s16 rfl (Nat.le_of_ble_eq_true rfl) (Nat.le_of_ble_eq_true rfl) (Nat.le_of_ble_eq_true rfl) (Nat.le_of_ble_eq_true rfl) ?_
      refine oe_M_mono _ _ _ _ _ _ (fun r hp vq => ?_) vc
      obtain ⟨x15, rfl, rfl, vc⟩ := vq
      show oe_V (oe_cost 23) 23 (oe_M (d + 1)) none Q 47 [some (.inr (.inl v0))] [.inl x15] (sh, g11, h14) 0 0
      refine s_if_ne (oe_t23 23 (q := (47, .ifCond .ne 62, 3)) rfl) (fun c17 => ?_) (fun c17 => ?_)
      · replace vc := vc.1 c17
        refine s_iconst (oe_t23 29 (q := (62, .iconst 3, 1)) rfl) ?_
        exact s_iret (oe_t23 30 (q := (63, .ireturn, 1)) rfl) (Or.inl rfl) vc
      · replace vc := vc.2 c17
        refine s_aload_n (oe_t23 24 (q := (50, .aload_n 0, 1)) rfl) rfl ?_
        refine s_getr (oe_t23 25 (q := (51, .getfield 111, 3)) rfl) s2 rfl rfl p13 ?_
        refine s_callv (oe_t23 26 (q := (54, .invokevirtual 94020, 3)) rfl) rfl s16 rfl (Nat.le_of_ble_eq_true rfl) (Nat.le_of_ble_eq_true rfl) (Nat.le_of_ble_eq_true rfl) (Nat.le_of_ble_eq_true rfl) ?_
        refine oe_M_mono _ _ _ _ _ _ (fun r hp vq => ?_) vc
        obtain ⟨x18, rfl, rfl, vc⟩ := vq
        show oe_V (oe_cost 23) 23 (oe_M (d + 1)) none Q 57 [some (.inr (.inl v0))] [.inl x18] (sh, g11, h14) 0 0
        refine s_bipush (oe_t23 27 (q := (57, .bipush 20, 2)) rfl) ?_
        refine s_ic_le (oe_t23 28 (q := (59, .if_icmp .le 64, 3)) rfl) (fun c19 => ?_) (fun c19 => ?_)
        · replace vc := vc.1 c19
          refine s_aload_n (oe_t23 31 (q := (64, .aload_n 0, 1)) rfl) rfl ?_
          refine s_aload_n (oe_t23 32 (q := (65, .aload_n 0, 1)) rfl) rfl ?_
          refine s_getr (oe_t23 33 (q := (66, .getfield 111, 3)) rfl) s2 rfl rfl p13 ?_
          refine s_callv (oe_t23 34 (q := (69, .invokevirtual 24001, 3)) rfl) rfl s2 rfl (Nat.le_of_ble_eq_true rfl) (Nat.le_of_ble_eq_true rfl) (Nat.le_of_ble_eq_true rfl) (Nat.le_of_ble_eq_true rfl) ?_
          refine oe_M_mono _ _ _ _ _ _ (fun r hp vq => ?_) vc
          obtain ⟨x21, h20, rfl, rfl, vc⟩ := vq
          show oe_V (oe_cost 23) 23 (oe_M (d + 1)) none Q 72 [some (.inr (.inl v0))] [.inl x21] (sh, g11, h20) 0 0
          refine s_pop (oe_t23 35 (q := (72, .pop, 1)) rfl) trivial ?_
          refine s_aload_n (oe_t23 36 (q := (73, .aload_n 0, 1)) rfl) rfl ?_
          refine s_aload_n (oe_t23 37 (q := (74, .aload_n 0, 1)) rfl) rfl ?_
          obtain ⟨q22, p23, vc⟩ := vc
          refine s_getr (oe_t23 38 (q := (75, .getfield 51, 3)) rfl) s2 rfl rfl p23 ?_
          obtain ⟨s24, vc⟩ := vc
          obtain ⟨q25, p26, vc⟩ := vc
          refine s_getr (oe_t23 39 (q := (78, .getfield 1001, 3)) rfl) s24 rfl rfl p26 ?_
          refine s_aload_n (oe_t23 40 (q := (81, .aload_n 0, 1)) rfl) rfl ?_
          refine s_getr (oe_t23 41 (q := (82, .getfield 51, 3)) rfl) s2 rfl rfl p23 ?_
          refine s_geti (oe_t23 42 (q := (85, .getfield 1010, 3)) rfl) s24 rfl (by decide) ?_
          refine s_aload_n (oe_t23 43 (q := (88, .aload_n 0, 1)) rfl) rfl ?_
          refine s_getr (oe_t23 44 (q := (89, .getfield 111, 3)) rfl) s2 rfl rfl p13 ?_
          refine s_callv (oe_t23 45 (q := (92, .invokevirtual 25003, 3)) rfl) rfl s2 rfl (Nat.le_of_ble_eq_true rfl) (Nat.le_of_ble_eq_true rfl) (Nat.le_of_ble_eq_true rfl) (Nat.le_of_ble_eq_true rfl) ?_
          refine oe_M_mono _ _ _ _ _ _ (fun r hp vq => ?_) vc
          obtain ⟨x28, h27, rfl, rfl, vc⟩ := vq
          show oe_V (oe_cost 23) 23 (oe_M (d + 1)) none Q 95 [some (.inr (.inl v0))] [.inl x28] (sh, g11, h27) 0 0
          refine s_if_eq (oe_t23 46 (q := (95, .ifCond .eq 100, 3)) rfl) (fun c29 => ?_) (fun c29 => ?_)
          · replace vc := vc.1 c29
            refine s_aload_n (oe_t23 49 (q := (100, .aload_n 0, 1)) rfl) rfl ?_
            refine s_getr (oe_t23 50 (q := (101, .getfield 51, 3)) rfl) s2 rfl rfl p23 ?_
            refine s_callv (oe_t23 51 (q := (104, .invokevirtual 86010, 3)) rfl) rfl s24 rfl (Nat.le_of_ble_eq_true rfl) (Nat.le_of_ble_eq_true rfl) (Nat.le_of_ble_eq_true rfl) (Nat.le_of_ble_eq_true rfl) ?_
            refine oe_M_mono _ _ _ _ _ _ (fun r hp vq => ?_) vc
            obtain ⟨x30, rfl, rfl, vc⟩ := vq
            show oe_V (oe_cost 23) 23 (oe_M (d + 1)) none Q 107 [some (.inr (.inl v0))] [.inl x30] (sh, g11, h27) 0 0
            refine s_if_eq (oe_t23 52 (q := (107, .ifCond .eq 112, 3)) rfl) (fun c31 => ?_) (fun c31 => ?_)
            · replace vc := vc.1 c31
              refine s_aload_n (oe_t23 55 (q := (112, .aload_n 0, 1)) rfl) rfl ?_
              refine s_getr (oe_t23 56 (q := (113, .getfield 51, 3)) rfl) s2 rfl rfl p23 ?_
              refine s_aload_n (oe_t23 57 (q := (116, .aload_n 0, 1)) rfl) rfl ?_
              refine s_getr (oe_t23 58 (q := (117, .getfield 111, 3)) rfl) s2 rfl rfl p13 ?_
              refine s_callv (oe_t23 59 (q := (120, .invokevirtual 87011, 3)) rfl) rfl s24 rfl (Nat.le_of_ble_eq_true rfl) (Nat.le_of_ble_eq_true rfl) (Nat.le_of_ble_eq_true rfl) (Nat.le_of_ble_eq_true rfl) ?_
              refine oe_M_mono _ _ _ _ _ _ (fun r hp vq => ?_) vc
              obtain ⟨h32, rfl, rfl, vc⟩ := vq
              show oe_V (oe_cost 23) 23 (oe_M (d + 1)) none Q 123 [some (.inr (.inl v0))] [] (sh, g11, h32) 0 0
              refine s_aload_n (oe_t23 60 (q := (123, .aload_n 0, 1)) rfl) rfl ?_
              refine s_aload_n (oe_t23 61 (q := (124, .aload_n 0, 1)) rfl) rfl ?_
              refine s_getr (oe_t23 62 (q := (125, .getfield 51, 3)) rfl) s2 rfl rfl p23 ?_
              refine s_geti (oe_t23 63 (q := (128, .getfield 1010, 3)) rfl) s24 rfl (by decide) ?_
              refine s_iconst (oe_t23 64 (q := (131, .iconst 1, 1)) rfl) ?_
              obtain ⟨r33, vc⟩ := vc
              refine s_isub (oe_t23 65 (q := (132, .isub, 1)) rfl) r33 ?_
              refine s_callv (oe_t23 66 (q := (133, .invokevirtual 26001, 3)) rfl) rfl s2 rfl (Nat.le_of_ble_eq_true rfl) (Nat.le_of_ble_eq_true rfl) (Nat.le_of_ble_eq_true rfl) (Nat.le_of_ble_eq_true rfl) ?_
              refine oe_M_mono _ _ _ _ _ _ (fun r hp vq => ?_) vc
              obtain ⟨h34, rfl, rfl, vc⟩ := vq
              show oe_V (oe_cost 23) 23 (oe_M (d + 1)) none Q 136 [some (.inr (.inl v0))] [] (sh, g11, h34) 0 0
              refine s_aload_n (oe_t23 67 (q := (136, .aload_n 0, 1)) rfl) rfl ?_
              refine s_geti (oe_t23 68 (q := (137, .getfield 92, 3)) rfl) s2 rfl (by decide) ?_
              refine s_if_eq (oe_t23 69 (q := (140, .ifCond .eq 151, 3)) rfl) (fun c35 => ?_) (fun c35 => ?_)
              · replace vc := vc.1 c35
                refine s_aload_n (oe_t23 74 (q := (151, .aload_n 0, 1)) rfl) rfl ?_
                refine s_callv (oe_t23 75 (q := (152, .invokevirtual 21000, 3)) rfl) rfl s2 rfl (Nat.le_of_ble_eq_true rfl) (Nat.le_of_ble_eq_true rfl) (Nat.le_of_ble_eq_true rfl) (Nat.le_of_ble_eq_true rfl) ?_
                refine oe_M_mono _ _ _ _ _ _ (fun r hp vq => ?_) vc
                obtain ⟨x36, rfl, rfl, vc⟩ := vq
                show oe_V (oe_cost 23) 23 (oe_M (d + 1)) none Q 155 [some (.inr (.inl v0))] [.inl x36] (sh, g11, h34) 0 0
                refine s_if_eq (oe_t23 76 (q := (155, .ifCond .eq 162, 3)) rfl) (fun c37 => ?_) (fun c37 => ?_)
                · replace vc := vc.1 c37
                  refine s_iconst (oe_t23 79 (q := (162, .iconst 2, 1)) rfl) ?_
                  exact s_iret (oe_t23 80 (q := (163, .ireturn, 1)) rfl) (Or.inl rfl) vc
                · replace vc := vc.2 c37
                  refine s_iconst (oe_t23 77 (q := (158, .iconst 1, 1)) rfl) ?_
                  refine s_goto (oe_t23 78 (q := (159, .goto 163, 3)) rfl) ?_
                  exact s_iret (oe_t23 80 (q := (163, .ireturn, 1)) rfl) (Or.inl rfl) vc
              · replace vc := vc.2 c35
                refine s_aload_n (oe_t23 70 (q := (143, .aload_n 0, 1)) rfl) rfl ?_
                refine s_aload_n (oe_t23 71 (q := (144, .aload_n 0, 1)) rfl) rfl ?_
                obtain ⟨q38, p39, vc⟩ := vc
                refine s_getr (oe_t23 72 (q := (145, .getfield 81, 3)) rfl) s2 rfl rfl p39 ?_
                refine s_callv (oe_t23 73 (q := (148, .invokevirtual 22001, 3)) rfl) rfl s2 rfl (Nat.le_of_ble_eq_true rfl) (Nat.le_of_ble_eq_true rfl) (Nat.le_of_ble_eq_true rfl) (Nat.le_of_ble_eq_true rfl) ?_
                refine oe_M_mono _ _ _ _ _ _ (fun r hp vq => ?_) vc
                obtain ⟨h40, rfl, rfl, vc⟩ := vq
                show oe_V (oe_cost 23) 23 (oe_M (d + 1)) none Q 151 [some (.inr (.inl v0))] [] (sh, g11, h40) 0 0
                refine s_aload_n (oe_t23 74 (q := (151, .aload_n 0, 1)) rfl) rfl ?_
                refine s_callv (oe_t23 75 (q := (152, .invokevirtual 21000, 3)) rfl) rfl s2 rfl (Nat.le_of_ble_eq_true rfl) (Nat.le_of_ble_eq_true rfl) (Nat.le_of_ble_eq_true rfl) (Nat.le_of_ble_eq_true rfl) ?_
                refine oe_M_mono _ _ _ _ _ _ (fun r hp vq => ?_) vc
                obtain ⟨x41, rfl, rfl, vc⟩ := vq
                show oe_V (oe_cost 23) 23 (oe_M (d + 1)) none Q 155 [some (.inr (.inl v0))] [.inl x41] (sh, g11, h40) 0 0
                refine s_if_eq (oe_t23 76 (q := (155, .ifCond .eq 162, 3)) rfl) (fun c42 => ?_) (fun c42 => ?_)
                · replace vc := vc.1 c42
                  refine s_iconst (oe_t23 79 (q := (162, .iconst 2, 1)) rfl) ?_
                  exact s_iret (oe_t23 80 (q := (163, .ireturn, 1)) rfl) (Or.inl rfl) vc
                · replace vc := vc.2 c42
                  refine s_iconst (oe_t23 77 (q := (158, .iconst 1, 1)) rfl) ?_
                  refine s_goto (oe_t23 78 (q := (159, .goto 163, 3)) rfl) ?_
                  exact s_iret (oe_t23 80 (q := (163, .ireturn, 1)) rfl) (Or.inl rfl) vc
            · replace vc := vc.2 c31
              refine s_iconst (oe_t23 53 (q := (110, .iconst 4, 1)) rfl) ?_
              exact s_iret (oe_t23 54 (q := (111, .ireturn, 1)) rfl) (Or.inl rfl) vc
          · replace vc := vc.2 c29
            refine s_iconst (oe_t23 47 (q := (98, .iconst 3, 1)) rfl) ?_
            exact s_iret (oe_t23 48 (q := (99, .ireturn, 1)) rfl) (Or.inl rfl) vc
        · replace vc := vc.2 c19
          refine s_iconst (oe_t23 29 (q := (62, .iconst 3, 1)) rfl) ?_
          exact s_iret (oe_t23 30 (q := (63, .ireturn, 1)) rfl) (Or.inl rfl) vc
    · replace vc := vc.2 c7
      refine s_iconst (oe_t23 9 (q := (19, .iconst 0, 1)) rfl) ?_
      exact s_iret (oe_t23 10 (q := (20, .ireturn, 1)) rfl) (Or.inl rfl) vc
  · replace vc := vc.2 c3
    refine s_iconst (oe_t23 3 (q := (7, .iconst 1, 1)) rfl) ?_
    exact s_iret (oe_t23 4 (q := (8, .ireturn, 1)) rfl) (Or.inl rfl) vc
theorem oe_u24 : oe_c24.all (fun q => decide (oe_find oe_c24 q.1 = some q.2)) = true := by decide +kernel
theorem oe_t24 (k : Nat) {q : Nat × Jvm.ClassFile.Instr × Nat} (h : oe_c24[k]? = some q) : oe_find (oe_code 24) q.1 = some q.2 := oe_ft oe_u24 h
theorem g24 {d : Nat} {sh : List (Nat × Nat)} {g : Nat → Nat → Option Nat} {h : Nat → Nat → Int} {Q : oeQ} {v0 : Nat} {v1 : Nat}
    (vc : sh[v0]? = some (5, 14) ∧ ∃ q2, g v0 13 = some q2 ∧ sh[v1]? = some (7, 2) ∧ oe_M (d + 1) 98 [.inr (.inl v1), .inr (.inl q2)] (sh, g, h) (fun r hp => ∃ (x5 : Int) (h4 : Nat → Nat → Int), r = some (.inl x5) ∧ hp = (sh, g, h4) ∧ ∃ q7, g v0 12 = some q7 ∧ ∃ q9, g v1 1 = some q9 ∧ ∃ q11, g v1 0 = some q11 ∧ sh[q7]? = some (7, 2) ∧ oe_M (d + 1) 95 [.inr (.inl q7), .inr (.inl q9), .inr (.inl q11)] (sh, g, h4) (fun r hp => ∃ (h13 : Nat → Nat → Int), r = none ∧ hp = (sh, g, h13) ∧ oe_M (d + 1) 98 [.inr (.inl q7), .inr (.inl q2)] (sh, g, h13) (fun r hp => ∃ (x16 : Int) (h15 : Nat → Nat → Int), r = some (.inl x16) ∧ hp = (sh, g, h15) ∧ Q (some (.inl x5)) (sh, g, h15))))) :
    oe_M (d + 2) 24 [.inr (.inl v0), .inr (.inl v1)] (sh, g, h) Q := by
  refine oe_M.of (by simp [oe_c1]) (Nat.le_of_ble_eq_true rfl) ?_
  show oe_V (oe_cost 24) 24 (oe_M (d + 1)) none Q 0 [some (.inr (.inl v0)), some (.inr (.inl v1)), none] [] (sh, g, h) 0 0
  refine s_aload_n (oe_t24 0 (q := (0, .aload_n 1, 1)) rfl) rfl ?_
  refine s_aload_n (oe_t24 1 (q := (1, .aload_n 0, 1)) rfl) rfl ?_
  obtain ⟨s1, vc⟩ := vc
  obtain ⟨q2, p3, vc⟩ := vc
  refine s_getr (oe_t24 2 (q := (2, .getfield 131, 3)) rfl) s1 rfl rfl p3 ?_
  obtain ⟨s6, vc⟩ := vc
  refine s_callv (oe_t24 3 (q := (5, .invokevirtual 98021, 3)) rfl) rfl s6 rfl (Nat.le_of_ble_eq_true rfl) (Nat.le_of_ble_eq_true rfl) (Nat.le_of_ble_eq_true rfl) (Nat.le_of_ble_eq_true rfl) ?_
  refine oe_M_mono _ _ _ _ _ _ (fun r hp vq => ?_) vc
  obtain ⟨x5, h4, rfl, rfl, vc⟩ := vq
  show oe_V (oe_cost 24) 24 (oe_M (d + 1)) none Q 8 [some (.inr (.inl v0)), some (.inr (.inl v1)), none] [.inl x5] (sh, g, h4) 0 0
  refine s_istore_n (oe_t24 4 (q := (8, .istore_n 2, 1)) rfl) ?_
  refine s_aload_n (oe_t24 5 (q := (9, .aload_n 0, 1)) rfl) rfl ?_
  obtain ⟨q7, p8, vc⟩ := vc
  refine s_getr (oe_t24 6 (q := (10, .getfield 121, 3)) rfl) s1 rfl rfl p8 ?_
  refine s_aload_n (oe_t24 7 (q := (13, .aload_n 1, 1)) rfl) rfl ?_
  obtain ⟨q9, p10, vc⟩ := vc
  refine s_getr (oe_t24 8 (q := (14, .getfield 2011, 3)) rfl) s6 rfl rfl p10 ?_
  refine s_aload_n (oe_t24 9 (q := (17, .aload_n 1, 1)) rfl) rfl ?_
  obtain ⟨q11, p12, vc⟩ := vc
  refine s_getr (oe_t24 10 (q := (18, .getfield 2001, 3)) rfl) s6 rfl rfl p12 ?_
  obtain ⟨s14, vc⟩ := vc
  refine s_callv (oe_t24 11 (q := (21, .invokevirtual 95022, 3)) rfl) rfl s14 rfl (Nat.le_of_ble_eq_true rfl) (Nat.le_of_ble_eq_true rfl) (Nat.le_of_ble_eq_true rfl) (Nat.le_of_ble_eq_true rfl) ?_
  refine oe_M_mono _ _ _ _ _ _ (fun r hp vq => ?_) vc
  obtain ⟨h13, rfl, rfl, vc⟩ := vq
  show oe_V (oe_cost 24) 24 (oe_M (d + 1)) none Q 24 [some (.inr (.inl v0)), some (.inr (.inl v1)), some (.inl x5)] [] (sh, g, h13) 0 0
  refine s_aload_n (oe_t24 12 (q := (24, .aload_n 0, 1)) rfl) rfl ?_
  refine s_getr (oe_t24 13 (q := (25, .getfield 121, 3)) rfl) s1 rfl rfl p8 ?_
  refine s_aload_n (oe_t24 14 (q := (28, .aload_n 0, 1)) rfl) rfl ?_
  refine s_getr (oe_t24 15 (q := (29, .getfield 131, 3)) rfl) s1 rfl rfl p3 ?_
  refine s_callv (oe_t24 16 (q := (32, .invokevirtual 98021, 3)) rfl) rfl s14 rfl (Nat.le_of_ble_eq_true rfl) (Nat.le_of_ble_eq_true rfl) (Nat.le_of_ble_eq_true rfl) (Nat.le_of_ble_eq_true rfl) ?_
  refine oe_M_mono _ _ _ _ _ _ (fun r hp vq => ?_) vc
  obtain ⟨x16, h15, rfl, rfl, vc⟩ := vq
  show oe_V (oe_cost 24) 24 (oe_M (d + 1)) none Q 35 [some (.inr (.inl v0)), some (.inr (.inl v1)), some (.inl x5)] [.inl x16] (sh, g, h15) 0 0
  refine s_pop (oe_t24 17 (q := (35, .pop, 1)) rfl) trivial ?_
  refine s_iload_n (oe_t24 18 (q := (36, .iload_n 2, 1)) rfl) rfl ?_
  exact s_iret (oe_t24 19 (q := (37, .ireturn, 1)) rfl) (Or.inl rfl) vc
theorem oe_u25 : oe_c25.all (fun q => decide (oe_find oe_c25 q.1 = some q.2)) = true := by decide +kernel
theorem oe_t25 (k : Nat) {q : Nat × Jvm.ClassFile.Instr × Nat} (h : oe_c25[k]? = some q) : oe_find (oe_code 25) q.1 = some q.2 := oe_ft oe_u25 h
theorem g25 {d : Nat} {sh : List (Nat × Nat)} {g : Nat → Nat → Option Nat} {h : Nat → Nat → Int} {Q : oeQ} {v0 : Nat} {v1 : Nat} {v2 : Int} {v3 : Nat}
    (vc : oe_V (oe_cost 25) 25 (oe_M (d + 1)) none Q 3 [some (.inr (.inl v0)), some (.inr (.inl v1)), some (.inl v2), some (.inr (.inl v3)), some (.inl 0)] [] (sh, g, h) 0 0) :
    oe_M (d + 2) 25 [.inr (.inl v0), .inr (.inl v1), .inl v2, .inr (.inl v3)] (sh, g, h) Q := by
  refine oe_M.of (by simp [oe_c1]) (Nat.le_of_ble_eq_true rfl) ?_
  show oe_V (oe_cost 25) 25 (oe_M (d + 1)) none Q 0 [some (.inr (.inl v0)), some (.inr (.inl v1)), some (.inl v2), some (.inr (.inl v3)), none] [] (sh, g, h) 0 0
  refine s_iconst (oe_t25 0 (q := (0, .iconst 0, 1)) rfl) ?_
  refine s_istore (oe_t25 1 (q := (1, .istore 4, 2)) rfl) ?_
  exact oe_V.fg (oe_M_mono _) (show oe_fg [some (.inr (.inl v0)), some (.inr (.inl v1)), some (.inl v2), some (.inr (.inl v3)), some (.inl 0)] _ from ⟨rfl, ⟨rfl, ⟨rfl, ⟨rfl, ⟨rfl, trivial⟩⟩⟩⟩⟩) vc
theorem g25_3 {d : Nat} {sh : List (Nat × Nat)} {g : Nat → Nat → Option Nat} {h : Nat → Nat → Int} {Q : oeQ} {v0 : Nat} {v1 : Nat} {v2 : Int} {v3 : Nat} {v4 : Int}
    (vc : (v2 ≤ v4 → Q (some (.inl 0)) (sh, g, h)) ∧ (v4 < v2 → ∃ n3, sh[v1]? = some (4, n3) ∧ (((n3 : Nat) : Int) ≤ v4 → Q (some (.inl 0)) (sh, g, h)) ∧ (v4 < ((n3 : Nat) : Int) → 0 ≤ v4 ∧ v4 < (n3 : Nat) ∧ ∃ q7, g v1 (v4 : Int).toNat = some q7 ∧ sh[q7]? = some (7, 2) ∧ oe_M (d + 1) 97 [.inr (.inl q7), .inr (.inl v3)] (sh, g, h) (fun r hp => ∃ (x9 : Int), r = some (.inl x9) ∧ hp = (sh, g, h) ∧ (x9 ≠ 0 → Q (some (.inl 1)) (sh, g, h)) ∧ (x9 = 0 → 0 ≤ v4 ∧ v4 < (n3 : Nat) ∧ ∃ q14, g v1 (v4 : Int).toNat = some q14 ∧ sh[v0]? = some (5, 14) ∧ ∃ q17, g v0 12 = some q17 ∧ sh[q14]? = some (7, 2) ∧ oe_M (d + 1) 97 [.inr (.inl q14), .inr (.inl q17)] (sh, g, h) (fun r hp => ∃ (x19 : Int), r = some (.inl x19) ∧ hp = (sh, g, h) ∧ (x19 = 0 → oe_rg (v4 + 1) ∧ oe_V (oe_cost 25) 25 (oe_M (d + 1)) none Q 3 [some (.inr (.inl v0)), some (.inr (.inl v1)), some (.inl v2), some (.inr (.inl v3)), some (.inl (v4 + 1))] [] (sh, g, h) 0 0) ∧ (x19 ≠ 0 → Q (some (.inl 1)) (sh, g, h)))))))) :
    oe_V (oe_cost 25) 25 (oe_M (d + 1)) none Q 3 [some (.inr (.inl v0)), some (.inr (.inl v1)), some (.inl v2), some (.inr (.inl v3)), some (.inl v4)] [] (sh, g, h) 0 0 := by
  refine s_iload (oe_t25 2 (q := (3, .iload 4, 2)) rfl) rfl ?_
  refine s_iload_n (oe_t25 3 (q := (5, .iload_n 2, 1)) rfl) rfl ?_
  refine s_ic_ge (oe_t25 4 (q := (6, .if_icmp .ge 49, 3)) rfl) (fun c1 => ?_) (fun c1 => ?_)
  · replace vc := vc.1 c1
    refine s_iconst (oe_t25 26 (q := (49, .iconst 0, 1)) rfl) ?_
    exact s_iret (oe_t25 27 (q := (50, .ireturn, 1)) rfl) (Or.inr (Or.inl ⟨rfl, Or.inl rfl⟩)) vc
  · replace vc := vc.2 c1
    refine s_iload (oe_t25 5 (q := (9, .iload 4, 2)) rfl) rfl ?_
    refine s_aload_n (oe_t25 6 (q := (11, .aload_n 1, 1)) rfl) rfl ?_
    obtain ⟨n3, s2, vc⟩ := vc
    refine s_alen (oe_t25 7 (q := (12, .arraylength, 1)) rfl) s2 (by decide) ?_
    refine s_ic_ge (oe_t25 8 (q := (13, .if_icmp .ge 49, 3)) rfl) (fun c4 => ?_) (fun c4 => ?_)
    · replace vc := vc.1 c4
      refine s_iconst (oe_t25 26 (q := (49, .iconst 0, 1)) rfl) ?_
      exact s_iret (oe_t25 27 (q := (50, .ireturn, 1)) rfl) (Or.inr (Or.inl ⟨rfl, Or.inl rfl⟩)) vc
    · replace vc := vc.2 c4
      refine s_aload_n (oe_t25 9 (q := (16, .aload_n 1, 1)) rfl) rfl ?_
      refine s_iload (oe_t25 10 (q := (17, .iload 4, 2)) rfl) rfl ?_
      obtain ⟨i5, i6, q7, p8, vc⟩ := vc
      refine s_aaload (oe_t25 11 (q := (19, .aaload, 1)) rfl) s2 i5 i6 p8 ?_
      refine s_aload_n (oe_t25 12 (q := (20, .aload_n 3, 1)) rfl) rfl ?_
      obtain ⟨s10, vc⟩ := vc
      refine s_callv (oe_t25 13 (q := (21, .invokevirtual 97021, 3)) rfl) rfl s10 rfl (Nat.le_of_ble_eq_true rfl) (Nat.le_of_ble_eq_true rfl) (Nat.le_of_ble_eq_true rfl) (Nat.le_of_ble_eq_true rfl) ?_
      refine oe_M_mono _ _ _ _ _ _ (fun r hp vq => ?_) vc
      obtain ⟨x9, rfl, rfl, vc⟩ := vq
      show oe_V (oe_cost 25) 25 (oe_M (d + 1)) none Q 24 [some (.inr (.inl v0)), some (.inr (.inl v1)), some (.inl v2), some (.inr (.inl v3)), some (.inl v4)] [.inl x9] (sh, g, h) 0 0
      refine s_if_ne (oe_t25 14 (q := (24, .ifCond .ne 41, 3)) rfl) (fun c11 => ?_) (fun c11 => ?_)
      · replace vc := vc.1 c11
        refine s_iconst (oe_t25 22 (q := (41, .iconst 1, 1)) rfl) ?_
        exact s_iret (oe_t25 23 (q := (42, .ireturn, 1)) rfl) (Or.inr (Or.inl ⟨rfl, Or.inr rfl⟩)) vc
      · replace vc := vc.2 c11
        refine s_aload_n (oe_t25 15 (q := (27, .aload_n 1, 1)) rfl) rfl ?_
        refine s_iload (oe_t25 16 (q := (28, .iload 4, 2)) rfl) rfl ?_
        obtain ⟨i12, i13, q14, p15, vc⟩ := vc
        refine s_aaload (oe_t25 17 (q := (30, .aaload, 1)) rfl) s2 i12 i13 p15 ?_
        refine s_aload_n (oe_t25 18 (q := (31, .aload_n 0, 1)) rfl) rfl ?_
        obtain ⟨s16, vc⟩ := vc
        obtain ⟨q17, p18, vc⟩ := vc
        refine s_getr (oe_t25 19 (q := (32, .getfield 121, 3)) rfl) s16 rfl rfl p18 ?_
        obtain ⟨s20, vc⟩ := vc
        refine s_callv (oe_t25 20 (q := (35, .invokevirtual 97021, 3)) rfl) rfl s20 rfl (Nat.le_of_ble_eq_true rfl) (Nat.le_of_ble_eq_true rfl) (Nat.le_of_ble_eq_true rfl) (Nat.le_of_ble_eq_true rfl) ?_
        refine oe_M_mono _ _ _ _ _ _ (fun r hp vq => ?_) vc
        obtain ⟨x19, rfl, rfl, vc⟩ := vq
        show oe_V (oe_cost 25) 25 (oe_M (d + 1)) none Q 38 [some (.inr (.inl v0)), some (.inr (.inl v1)), some (.inl v2), some (.inr (.inl v3)), some (.inl v4)] [.inl x19] (sh, g, h) 0 0
        refine s_if_eq (oe_t25 21 (q := (38, .ifCond .eq 43, 3)) rfl) (fun c21 => ?_) (fun c21 => ?_)
        · replace vc := vc.1 c21
          obtain ⟨r22, vc⟩ := vc
          refine s_iinc (oe_t25 24 (q := (43, .iinc 4 1, 3)) rfl) rfl r22 ?_
          refine s_goto (oe_t25 25 (q := (46, .goto 3, 3)) rfl) ?_
          exact oe_V.fg (oe_M_mono _) (show oe_fg [some (.inr (.inl v0)), some (.inr (.inl v1)), some (.inl v2), some (.inr (.inl v3)), some (.inl (v4 + 1))] _ from ⟨rfl, ⟨rfl, ⟨rfl, ⟨rfl, ⟨rfl, trivial⟩⟩⟩⟩⟩) vc
        · replace vc := vc.2 c21
          refine s_iconst (oe_t25 22 (q := (41, .iconst 1, 1)) rfl) ?_
          exact s_iret (oe_t25 23 (q := (42, .ireturn, 1)) rfl) (Or.inr (Or.inl ⟨rfl, Or.inr rfl⟩)) vc
theorem oe_u26 : oe_c26.all (fun q => decide (oe_find oe_c26 q.1 = some q.2)) = true := by decide +kernel
theorem oe_t26 (k : Nat) {q : Nat × Jvm.ClassFile.Instr × Nat} (h : oe_c26[k]? = some q) : oe_find (oe_code 26) q.1 = some q.2 := oe_ft oe_u26 h
theorem g26 {d : Nat} {sh : List (Nat × Nat)} {g : Nat → Nat → Option Nat} {h : Nat → Nat → Int} {Q : oeQ} {v0 : Nat} {v1 : Int}
    (vc : oe_V (oe_cost 26) 26 (oe_M (d + 1)) none Q 2 [some (.inr (.inl v0)), some (.inl v1), some (.inl 0), none, none, none, none, none, none, none, none, none] [] (sh, g, h) 0 0) :
    oe_M (d + 2) 26 [.inr (.inl v0), .inl v1] (sh, g, h) Q := by
  refine oe_M.of (by simp [oe_c1]) (Nat.le_of_ble_eq_true rfl) ?_
  show oe_V (oe_cost 26) 26 (oe_M (d + 1)) none Q 0 [some (.inr (.inl v0)), some (.inl v1), none, none, none, none, none, none, none, none, none, none] [] (sh, g, h) 0 0
  refine s_iconst (oe_t26 0 (q := (0, .iconst 0, 1)) rfl) ?_
  refine s_istore_n (oe_t26 1 (q := (1, .istore_n 2, 1)) rfl) ?_
  exact oe_V.fg (oe_M_mono _) (show oe_fg [some (.inr (.inl v0)), some (.inl v1), some (.inl 0), none, none, none, none, none, none, none, none, none] _ from ⟨rfl, ⟨rfl, ⟨rfl, trivial⟩⟩⟩) vc
theorem g26_2 {d : Nat} {sh : List (Nat × Nat)} {g : Nat → Nat → Option Nat} {h : Nat → Nat → Int} {Q : oeQ} {v0 : Nat} {v1 : Int} {v2 : Int}
    (vc : (v1 < v2 → Q none (sh, g, h)) ∧ (v2 ≤ v1 → (v2 ≠ v1 → oe_V (oe_cost 26) 26 (oe_M (d + 1)) none Q 22 [some (.inr (.inl v0)), some (.inl v1), some (.inl v2), some (.inl 8), some (.inl 0), none, none, none, none, none, none, none] [] (sh, g, h) 0 0) ∧ (v2 = v1 → oe_V (oe_cost 26) 26 (oe_M (d + 1)) none Q 22 [some (.inr (.inl v0)), some (.inl v1), some (.inl v2), some (.inl 4), some (.inl 0), none, none, none, none, none, none, none] [] (sh, g, h) 0 0))) :
    oe_V (oe_cost 26) 26 (oe_M (d + 1)) none Q 2 [some (.inr (.inl v0)), some (.inl v1), some (.inl v2), none, none, none, none, none, none, none, none, none] [] (sh, g, h) 0 0 := by
  refine s_iload_n (oe_t26 2 (q := (2, .iload_n 2, 1)) rfl) rfl ?_
  refine s_iload_n (oe_t26 3 (q := (3, .iload_n 1, 1)) rfl) rfl ?_
  refine s_ic_gt (oe_t26 4 (q := (4, .if_icmp .gt 167, 3)) rfl) (fun c1 => ?_) (fun c1 => ?_)
  · replace vc := vc.1 c1
    exact s_ret (oe_t26 85 (q := (167, .return_, 1)) rfl) rfl vc
  · replace vc := vc.2 c1
    refine s_iload_n (oe_t26 5 (q := (7, .iload_n 2, 1)) rfl) rfl ?_
    refine s_iload_n (oe_t26 6 (q := (8, .iload_n 1, 1)) rfl) rfl ?_
    refine s_ic_ne (oe_t26 7 (q := (9, .if_icmp .ne 16, 3)) rfl) (fun c2 => ?_) (fun c2 => ?_)
    · replace vc := vc.1 c2
      refine s_bipush (oe_t26 10 (q := (16, .bipush 8, 2)) rfl) ?_
      refine s_istore_n (oe_t26 11 (q := (18, .istore_n 3, 1)) rfl) ?_
      refine s_iconst (oe_t26 12 (q := (19, .iconst 0, 1)) rfl) ?_
      refine s_istore (oe_t26 13 (q := (20, .istore 4, 2)) rfl) ?_
      exact oe_V.fg (oe_M_mono _) (show oe_fg [some (.inr (.inl v0)), some (.inl v1), some (.inl v2), some (.inl 8), some (.inl 0), none, none, none, none, none, none, none] _ from ⟨rfl, ⟨rfl, ⟨rfl, ⟨rfl, ⟨rfl, trivial⟩⟩⟩⟩⟩) vc
    · replace vc := vc.2 c2
      refine s_iconst (oe_t26 8 (q := (12, .iconst 4, 1)) rfl) ?_
      refine s_goto (oe_t26 9 (q := (13, .goto 18, 3)) rfl) ?_
      refine s_istore_n (oe_t26 11 (q := (18, .istore_n 3, 1)) rfl) ?_
      refine s_iconst (oe_t26 12 (q := (19, .iconst 0, 1)) rfl) ?_
      refine s_istore (oe_t26 13 (q := (20, .istore 4, 2)) rfl) ?_
      exact oe_V.fg (oe_M_mono _) (show oe_fg [some (.inr (.inl v0)), some (.inl v1), some (.inl v2), some (.inl 4), some (.inl 0), none, none, none, none, none, none, none] _ from ⟨rfl, ⟨rfl, ⟨rfl, ⟨rfl, ⟨rfl, trivial⟩⟩⟩⟩⟩) vc
theorem g26_22 {d : Nat} {sh : List (Nat × Nat)} {g : Nat → Nat → Option Nat} {h : Nat → Nat → Int} {Q : oeQ} {v0 : Nat} {v1 : Int} {v2 : Int} {v3 : Int} {v4 : Int}
    (vc : (v3 ≤ v4 → oe_rg (v2 + 1) ∧ oe_V (oe_cost 26) 26 (oe_M (d + 1)) none Q 2 [some (.inr (.inl v0)), some (.inl v1), some (.inl (v2 + 1)), none, none, none, none, none, none, none, none, none] [] (sh, g, h) 0 0) ∧ (v4 < v3 → (4 ≤ v4 → (4 ≤ v4 → oe_V (oe_cost 26) 26 (oe_M (d + 1)) none Q 52 [some (.inr (.inl v0)), some (.inl v1), some (.inl v2), some (.inl v3), some (.inl v4), some (.inl v2), none, none, none, none, none, none] [.inl v1] (sh, g, h) 0 0) ∧ (v4 < 4 → oe_V (oe_cost 26) 26 (oe_M (d + 1)) none Q 52 [some (.inr (.inl v0)), some (.inl v1), some (.inl v2), some (.inl v3), some (.inl v4), some (.inl v2), none, none, none, none, none, none] [.inl v2] (sh, g, h) 0 0)) ∧ (v4 < 4 → (4 ≤ v4 → oe_V (oe_cost 26) 26 (oe_M (d + 1)) none Q 52 [some (.inr (.inl v0)), some (.inl v1), some (.inl v2), some (.inl v3), some (.inl v4), some (.inl v1), none, none, none, none, none, none] [.inl v1] (sh, g, h) 0 0) ∧ (v4 < 4 → oe_V (oe_cost 26) 26 (oe_M (d + 1)) none Q 52 [some (.inr (.inl v0)), some (.inl v1), some (.inl v2), some (.inl v3), some (.inl v4), some (.inl v1), none, none, none, none, none, none] [.inl v2] (sh, g, h) 0 0)))) :
    oe_V (oe_cost 26) 26 (oe_M (d + 1)) none Q 22 [some (.inr (.inl v0)), some (.inl v1), some (.inl v2), some (.inl v3), some (.inl v4), none, none, none, none, none, none, none] [] (sh, g, h) 0 0 := by
  refine s_iload (oe_t26 14 (q := (22, .iload 4, 2)) rfl) rfl ?_
  refine s_iload_n (oe_t26 15 (q := (24, .iload_n 3, 1)) rfl) rfl ?_
  refine s_ic_ge (oe_t26 16 (q := (25, .if_icmp .ge 161, 3)) rfl) (fun c3 => ?_) (fun c3 => ?_)
  · replace vc := vc.1 c3
    obtain ⟨r4, vc⟩ := vc
    refine s_iinc (oe_t26 83 (q := (161, .iinc 2 1, 3)) rfl) rfl r4 ?_
    refine s_goto (oe_t26 84 (q := (164, .goto 2, 3)) rfl) ?_
    exact oe_V.fg (oe_M_mono _) (show oe_fg [some (.inr (.inl v0)), some (.inl v1), some (.inl (v2 + 1)), none, none, none, none, none, none, none, none, none] _ from ⟨rfl, ⟨rfl, ⟨rfl, trivial⟩⟩⟩) vc
  · replace vc := vc.2 c3
    refine s_iload (oe_t26 17 (q := (28, .iload 4, 2)) rfl) rfl ?_
    refine s_iconst (oe_t26 18 (q := (30, .iconst 4, 1)) rfl) ?_
    refine s_ic_ge (oe_t26 19 (q := (31, .if_icmp .ge 38, 3)) rfl) (fun c5 => ?_) (fun c5 => ?_)
    · replace vc := vc.1 c5
      refine s_iload_n (oe_t26 22 (q := (38, .iload_n 2, 1)) rfl) rfl ?_
      refine s_istore (oe_t26 23 (q := (39, .istore 5, 2)) rfl) ?_
      refine s_iload (oe_t26 24 (q := (41, .iload 4, 2)) rfl) rfl ?_
      refine s_iconst (oe_t26 25 (q := (43, .iconst 4, 1)) rfl) ?_
      refine s_ic_ge (oe_t26 26 (q := (44, .if_icmp .ge 51, 3)) rfl) (fun c6 => ?_) (fun c6 => ?_)
      · replace vc := vc.1 c6
        refine s_iload_n (oe_t26 29 (q := (51, .iload_n 1, 1)) rfl) rfl ?_
        exact oe_V.fg (oe_M_mono _) (show oe_fg [some (.inr (.inl v0)), some (.inl v1), some (.inl v2), some (.inl v3), some (.inl v4), some (.inl v2), none, none, none, none, none, none] _ from ⟨rfl, ⟨rfl, ⟨rfl, ⟨rfl, ⟨rfl, ⟨rfl, trivial⟩⟩⟩⟩⟩⟩) vc
      · replace vc := vc.2 c6
        refine s_iload_n (oe_t26 27 (q := (47, .iload_n 2, 1)) rfl) rfl ?_
        refine s_goto (oe_t26 28 (q := (48, .goto 52, 3)) rfl) ?_
        exact oe_V.fg (oe_M_mono _) (show oe_fg [some (.inr (.inl v0)), some (.inl v1), some (.inl v2), some (.inl v3), some (.inl v4), some (.inl v2), none, none, none, none, none, none] _ from ⟨rfl, ⟨rfl, ⟨rfl, ⟨rfl, ⟨rfl, ⟨rfl, trivial⟩⟩⟩⟩⟩⟩) vc
    · replace vc := vc.2 c5
      refine s_iload_n (oe_t26 20 (q := (34, .iload_n 1, 1)) rfl) rfl ?_
      refine s_goto (oe_t26 21 (q := (35, .goto 39, 3)) rfl) ?_
      refine s_istore (oe_t26 23 (q := (39, .istore 5, 2)) rfl) ?_
      refine s_iload (oe_t26 24 (q := (41, .iload 4, 2)) rfl) rfl ?_
      refine s_iconst (oe_t26 25 (q := (43, .iconst 4, 1)) rfl) ?_
      refine s_ic_ge (oe_t26 26 (q := (44, .if_icmp .ge 51, 3)) rfl) (fun c7 => ?_) (fun c7 => ?_)
      · replace vc := vc.1 c7
        refine s_iload_n (oe_t26 29 (q := (51, .iload_n 1, 1)) rfl) rfl ?_
        exact oe_V.fg (oe_M_mono _) (show oe_fg [some (.inr (.inl v0)), some (.inl v1), some (.inl v2), some (.inl v3), some (.inl v4), some (.inl v1), none, none, none, none, none, none] _ from ⟨rfl, ⟨rfl, ⟨rfl, ⟨rfl, ⟨rfl, ⟨rfl, trivial⟩⟩⟩⟩⟩⟩) vc
      · replace vc := vc.2 c7
        refine s_iload_n (oe_t26 27 (q := (47, .iload_n 2, 1)) rfl) rfl ?_
        refine s_goto (oe_t26 28 (q := (48, .goto 52, 3)) rfl) ?_
        exact oe_V.fg (oe_M_mono _) (show oe_fg [some (.inr (.inl v0)), some (.inl v1), some (.inl v2), some (.inl v3), some (.inl v4), some (.inl v1), none, none, none, none, none, none] _ from ⟨rfl, ⟨rfl, ⟨rfl, ⟨rfl, ⟨rfl, ⟨rfl, trivial⟩⟩⟩⟩⟩⟩) vc
theorem g26_52 {d : Nat} {sh : List (Nat × Nat)} {g : Nat → Nat → Option Nat} {h : Nat → Nat → Int} {Q : oeQ} {v0 : Nat} {v1 : Int} {v2 : Int} {v3 : Int} {v4 : Int} {v5 : Int} {w0 : Int}
    (vc : 0 ≤ v4 ∧ 0 ≤ (v4 / 2) ∧ 0 ≤ v4 ∧ (v5 ≠ w0 → sh[v0]? = some (5, 14) ∧ ∃ q13, g v0 5 = some q13 ∧ sh[q13]? = some (6, 5) ∧ ∃ q16, g q13 0 = some q16 ∧ ∃ n19, sh[q16]? = some (4, n19) ∧ 0 ≤ w0 ∧ w0 < (n19 : Nat) ∧ ∃ q22, g q16 (w0 : Int).toNat = some q22 ∧ oe_V (oe_cost 26) 26 (oe_M (d + 1)) none Q 105 [some (.inr (.inl v0)), some (.inl v1), some (.inl v2), some (.inl v3), some (.inl v4), some (.inl v5), none, some (.inl ((v4 / 2) % 2)), some (.inl (v4 % 2)), none, some (.inr (.inl q22)), some (.inl 0)] [] (sh, g, h) 0 0) ∧ (v5 = w0 → (((v4 / 2) % 2) ≠ (v4 % 2) → sh[v0]? = some (5, 14) ∧ ∃ q26, g v0 5 = some q26 ∧ sh[q26]? = some (6, 5) ∧ ∃ q29, g q26 0 = some q29 ∧ ∃ n32, sh[q29]? = some (4, n32) ∧ 0 ≤ w0 ∧ w0 < (n32 : Nat) ∧ ∃ q35, g q29 (w0 : Int).toNat = some q35 ∧ oe_V (oe_cost 26) 26 (oe_M (d + 1)) none Q 105 [some (.inr (.inl v0)), some (.inl v1), some (.inl v2), some (.inl v3), some (.inl v4), some (.inl v5), none, some (.inl ((v4 / 2) % 2)), some (.inl (v4 % 2)), none, some (.inr (.inl q35)), some (.inl 0)] [] (sh, g, h) 0 0) ∧ (((v4 / 2) % 2) = (v4 % 2) → sh[v0]? = some (5, 14) ∧ ∃ q38, g v0 5 = some q38 ∧ sh[q38]? = some (6, 5) ∧ ∃ q41, g q38 0 = some q41 ∧ ∃ n44, sh[q41]? = some (4, n44) ∧ 0 ≤ w0 ∧ w0 < (n44 : Nat) ∧ ∃ q47, g q41 (w0 : Int).toNat = some q47 ∧ oe_V (oe_cost 26) 26 (oe_M (d + 1)) none Q 105 [some (.inr (.inl v0)), some (.inl v1), some (.inl v2), some (.inl v3), some (.inl v4), some (.inl v5), none, some (.inl ((v4 / 2) % 2)), some (.inl (v4 % 2)), none, some (.inr (.inl q47)), some (.inl 1)] [] (sh, g, h) 0 0))) :
    oe_V (oe_cost 26) 26 (oe_M (d + 1)) none Q 52 [some (.inr (.inl v0)), some (.inl v1), some (.inl v2), some (.inl v3), some (.inl v4), some (.inl v5), none, none, none, none, none, none] [.inl w0] (sh, g, h) 0 0 := by
  refine s_istore (oe_t26 30 (q := (52, .istore 6, 2)) rfl) ?_
  refine s_iload (oe_t26 31 (q := (54, .iload 4, 2)) rfl) rfl ?_
  refine s_iconst (oe_t26 32 (q := (56, .iconst 2, 1)) rfl) ?_
  obtain ⟨r8, vc⟩ := vc
  refine s_idiv (oe_t26 33 (q := (57, .idiv, 1)) rfl) r8 (by decide) ?_
  refine s_iconst (oe_t26 34 (q := (58, .iconst 2, 1)) rfl) ?_
  obtain ⟨r9, vc⟩ := vc
  refine s_irem (oe_t26 35 (q := (59, .irem, 1)) rfl) r9 (by decide) ?_
  refine s_istore (oe_t26 36 (q := (60, .istore 7, 2)) rfl) ?_
  refine s_iload (oe_t26 37 (q := (62, .iload 4, 2)) rfl) rfl ?_
  refine s_iconst (oe_t26 38 (q := (64, .iconst 2, 1)) rfl) ?_
  obtain ⟨r10, vc⟩ := vc
  refine s_irem (oe_t26 39 (q := (65, .irem, 1)) rfl) r10 (by decide) ?_
  refine s_istore (oe_t26 40 (q := (66, .istore 8, 2)) rfl) ?_
  refine s_iload (oe_t26 41 (q := (68, .iload 5, 2)) rfl) rfl ?_
  refine s_iload (oe_t26 42 (q := (70, .iload 6, 2)) rfl) rfl ?_
  refine s_ic_ne (oe_t26 43 (q := (72, .if_icmp .ne 86, 3)) rfl) (fun c11 => ?_) (fun c11 => ?_)
  · replace vc := vc.1 c11
    refine s_iconst (oe_t26 49 (q := (86, .iconst 0, 1)) rfl) ?_
    refine s_istore (oe_t26 50 (q := (87, .istore 9, 2)) rfl) ?_
    refine s_aload_n (oe_t26 51 (q := (89, .aload_n 0, 1)) rfl) rfl ?_
    obtain ⟨s12, vc⟩ := vc
    obtain ⟨q13, p14, vc⟩ := vc
    refine s_getr (oe_t26 52 (q := (90, .getfield 51, 3)) rfl) s12 rfl rfl p14 ?_
    obtain ⟨s15, vc⟩ := vc
    obtain ⟨q16, p17, vc⟩ := vc
    refine s_getr (oe_t26 53 (q := (93, .getfield 1001, 3)) rfl) s15 rfl rfl p17 ?_
    refine s_iload (oe_t26 54 (q := (96, .iload 6, 2)) rfl) rfl ?_
    obtain ⟨n19, s18, vc⟩ := vc
    obtain ⟨i20, i21, q22, p23, vc⟩ := vc
    refine s_aaload (oe_t26 55 (q := (98, .aaload, 1)) rfl) s18 i20 i21 p23 ?_
    refine s_astore (oe_t26 56 (q := (99, .astore 10, 2)) rfl) ?_
    refine s_iload (oe_t26 57 (q := (101, .iload 9, 2)) rfl) rfl ?_
    refine s_istore (oe_t26 58 (q := (103, .istore 11, 2)) rfl) ?_
    exact oe_V.fg (oe_M_mono _) (show oe_fg [some (.inr (.inl v0)), some (.inl v1), some (.inl v2), some (.inl v3), some (.inl v4), some (.inl v5), none, some (.inl ((v4 / 2) % 2)), some (.inl (v4 % 2)), none, some (.inr (.inl q22)), some (.inl 0)] _ from ⟨rfl, ⟨rfl, ⟨rfl, ⟨rfl, ⟨rfl, ⟨rfl, ⟨rfl, ⟨rfl, ⟨rfl, ⟨rfl, trivial⟩⟩⟩⟩⟩⟩⟩⟩⟩⟩) vc
  · replace vc := vc.2 c11
    refine s_iload (oe_t26 44 (q := (75, .iload 7, 2)) rfl) rfl ?_
    refine s_iload (oe_t26 45 (q := (77, .iload 8, 2)) rfl) rfl ?_
    refine s_ic_ne (oe_t26 46 (q := (79, .if_icmp .ne 86, 3)) rfl) (fun c24 => ?_) (fun c24 => ?_)
    · replace vc := vc.1 c24
      refine s_iconst (oe_t26 49 (q := (86, .iconst 0, 1)) rfl) ?_
      refine s_istore (oe_t26 50 (q := (87, .istore 9, 2)) rfl) ?_
      refine s_aload_n (oe_t26 51 (q := (89, .aload_n 0, 1)) rfl) rfl ?_
      obtain ⟨s25, vc⟩ := vc
      obtain ⟨q26, p27, vc⟩ := vc
      refine s_getr (oe_t26 52 (q := (90, .getfield 51, 3)) rfl) s25 rfl rfl p27 ?_
      obtain ⟨s28, vc⟩ := vc
      obtain ⟨q29, p30, vc⟩ := vc
      refine s_getr (oe_t26 53 (q := (93, .getfield 1001, 3)) rfl) s28 rfl rfl p30 ?_
      refine s_iload (oe_t26 54 (q := (96, .iload 6, 2)) rfl) rfl ?_
      obtain ⟨n32, s31, vc⟩ := vc
      obtain ⟨i33, i34, q35, p36, vc⟩ := vc
      refine s_aaload (oe_t26 55 (q := (98, .aaload, 1)) rfl) s31 i33 i34 p36 ?_
      refine s_astore (oe_t26 56 (q := (99, .astore 10, 2)) rfl) ?_
      refine s_iload (oe_t26 57 (q := (101, .iload 9, 2)) rfl) rfl ?_
      refine s_istore (oe_t26 58 (q := (103, .istore 11, 2)) rfl) ?_
      exact oe_V.fg (oe_M_mono _) (show oe_fg [some (.inr (.inl v0)), some (.inl v1), some (.inl v2), some (.inl v3), some (.inl v4), some (.inl v5), none, some (.inl ((v4 / 2) % 2)), some (.inl (v4 % 2)), none, some (.inr (.inl q35)), some (.inl 0)] _ from ⟨rfl, ⟨rfl, ⟨rfl, ⟨rfl, ⟨rfl, ⟨rfl, ⟨rfl, ⟨rfl, ⟨rfl, ⟨rfl, trivial⟩⟩⟩⟩⟩⟩⟩⟩⟩⟩) vc
    · replace vc := vc.2 c24
      refine s_iconst (oe_t26 47 (q := (82, .iconst 1, 1)) rfl) ?_
      refine s_goto (oe_t26 48 (q := (83, .goto 87, 3)) rfl) ?_
      refine s_istore (oe_t26 50 (q := (87, .istore 9, 2)) rfl) ?_
      refine s_aload_n (oe_t26 51 (q := (89, .aload_n 0, 1)) rfl) rfl ?_
      obtain ⟨s37, vc⟩ := vc
      obtain ⟨q38, p39, vc⟩ := vc
      refine s_getr (oe_t26 52 (q := (90, .getfield 51, 3)) rfl) s37 rfl rfl p39 ?_
      obtain ⟨s40, vc⟩ := vc
      obtain ⟨q41, p42, vc⟩ := vc
      refine s_getr (oe_t26 53 (q := (93, .getfield 1001, 3)) rfl) s40 rfl rfl p42 ?_
      refine s_iload (oe_t26 54 (q := (96, .iload 6, 2)) rfl) rfl ?_
      obtain ⟨n44, s43, vc⟩ := vc
      obtain ⟨i45, i46, q47, p48, vc⟩ := vc
      refine s_aaload (oe_t26 55 (q := (98, .aaload, 1)) rfl) s43 i45 i46 p48 ?_
      refine s_astore (oe_t26 56 (q := (99, .astore 10, 2)) rfl) ?_
      refine s_iload (oe_t26 57 (q := (101, .iload 9, 2)) rfl) rfl ?_
      refine s_istore (oe_t26 58 (q := (103, .istore 11, 2)) rfl) ?_
      exact oe_V.fg (oe_M_mono _) (show oe_fg [some (.inr (.inl v0)), some (.inl v1), some (.inl v2), some (.inl v3), some (.inl v4), some (.inl v5), none, some (.inl ((v4 / 2) % 2)), some (.inl (v4 % 2)), none, some (.inr (.inl q47)), some (.inl 1)] _ from ⟨rfl, ⟨rfl, ⟨rfl, ⟨rfl, ⟨rfl, ⟨rfl, ⟨rfl, ⟨rfl, ⟨rfl, ⟨rfl, trivial⟩⟩⟩⟩⟩⟩⟩⟩⟩⟩) vc
theorem g26_105 {d : Nat} {sh : List (Nat × Nat)} {g : Nat → Nat → Option Nat} {h : Nat → Nat → Int} {Q : oeQ} {v0 : Nat} {v1 : Int} {v2 : Int} {v3 : Int} {v4 : Int} {v5 : Int} {v7 : Int} {v8 : Int} {v10 : Nat} {v11 : Int}
    (vc : sh[v10]? = some (7, 2) ∧ oe_M (d + 1) 93 [.inr (.inl v10), .inl v8] (sh, g, h) (fun r hp => ∃ (q49 : Nat), r = some (.inr (.inl q49)) ∧ hp = (sh, g, h) ∧ sh[q49]? = some (8, 3) ∧ ((h q49 2) ≤ v11 → oe_rg (v4 + 1) ∧ oe_V (oe_cost 26) 26 (oe_M (d + 1)) none Q 22 [some (.inr (.inl v0)), some (.inl v1), some (.inl v2), some (.inl v3), some (.inl (v4 + 1)), none, none, none, none, none, none, none] [] (sh, g, h) 0 0) ∧ (v11 < (h q49 2) → sh[v0]? = some (5, 14) ∧ ∃ q55, g v0 6 = some q55 ∧ ∃ q57, g v0 5 = some q57 ∧ sh[q57]? = some (6, 5) ∧ ∃ q60, g q57 0 = some q60 ∧ ∃ n63, sh[q60]? = some (4, n63) ∧ 0 ≤ v5 ∧ v5 < (n63 : Nat) ∧ ∃ q66, g q60 (v5 : Int).toNat = some q66 ∧ sh[q55]? = some (9, 3) ∧ oe_M (d + 1) 112 [.inr (.inl q55), .inr (.inl q66), .inl v7, .inr (.inl v10), .inl v8, .inl v11] (sh, g, h) (fun r hp => ∃ (x69 : Int) (h68 : Nat → Nat → Int), r = some (.inl x69) ∧ hp = (sh, g, h68) ∧ oe_M (d + 1) 27 [.inr (.inl v0), .inl x69] (sh, g, h68) (fun r hp => ∃ (h71 : Nat → Nat → Int), r = none ∧ hp = (sh, g, h71) ∧ oe_rg (v11 + 1) ∧ oe_V (oe_cost 26) 26 (oe_M (d + 1)) none Q 105 [some (.inr (.inl v0)), some (.inl v1), some (.inl v2), some (.inl v3), some (.inl v4), some (.inl v5), none, some (.inl v7), some (.inl v8), none, some (.inr (.inl v10)), some (.inl (v11 + 1))] [] (sh, g, h71) 0 0))))) :
    oe_V (oe_cost 26) 26 (oe_M (d + 1)) none Q 105 [some (.inr (.inl v0)), some (.inl v1), some (.inl v2), some (.inl v3), some (.inl v4), some (.inl v5), none, some (.inl v7), some (.inl v8), none, some (.inr (.inl v10)), some (.inl v11)] [] (sh, g, h) 0 0 := by
  refine s_iload (oe_t26 59 (q := (105, .iload 11, 2)) rfl) rfl ?_
  refine s_aload (oe_t26 60 (q := (107, .aload 10, 2)) rfl) rfl ?_
  refine s_iload (oe_t26 61 (q := (109, .iload 8, 2)) rfl) rfl ?_
  obtain ⟨s50, vc⟩ := vc
  refine s_callv (oe_t26 62 (q := (111, .invokevirtual 93021, 3)) rfl) rfl s50 rfl (Nat.le_of_ble_eq_true rfl) (Nat.le_of_ble_eq_true rfl) (Nat.le_of_ble_eq_true rfl) (Nat.le_of_ble_eq_true rfl) ?_
  refine oe_M_mono _ _ _ _ _ _ (fun r hp vq => ?_) vc
  obtain ⟨q49, rfl, rfl, vc⟩ := vq
  show oe_V (oe_cost 26) 26 (oe_M (d + 1)) none Q 114 [some (.inr (.inl v0)), some (.inl v1), some (.inl v2), some (.inl v3), some (.inl v4), some (.inl v5), none, some (.inl v7), some (.inl v8), none, some (.inr (.inl v10)), some (.inl v11)] [.inr (.inl q49), .inl v11] (sh, g, h) 0 0
  obtain ⟨s51, vc⟩ := vc
  refine s_geti (oe_t26 63 (q := (114, .getfield 3020, 3)) rfl) s51 rfl (by decide) ?_
  refine s_ic_ge (oe_t26 64 (q := (117, .if_icmp .ge 155, 3)) rfl) (fun c52 => ?_) (fun c52 => ?_)
  · replace vc := vc.1 c52
    obtain ⟨r53, vc⟩ := vc
    refine s_iinc (oe_t26 81 (q := (155, .iinc 4 1, 3)) rfl) rfl r53 ?_
    refine s_goto (oe_t26 82 (q := (158, .goto 22, 3)) rfl) ?_
    exact oe_V.fg (oe_M_mono _) (show oe_fg [some (.inr (.inl v0)), some (.inl v1), some (.inl v2), some (.inl v3), some (.inl (v4 + 1)), none, none, none, none, none, none, none] _ from ⟨rfl, ⟨rfl, ⟨rfl, ⟨rfl, ⟨rfl, trivial⟩⟩⟩⟩⟩) vc
  · replace vc := vc.2 c52
    refine s_aload_n (oe_t26 65 (q := (120, .aload_n 0, 1)) rfl) rfl ?_
    refine s_aload_n (oe_t26 66 (q := (121, .aload_n 0, 1)) rfl) rfl ?_
    obtain ⟨s54, vc⟩ := vc
    obtain ⟨q55, p56, vc⟩ := vc
    refine s_getr (oe_t26 67 (q := (122, .getfield 61, 3)) rfl) s54 rfl rfl p56 ?_
    refine s_aload_n (oe_t26 68 (q := (125, .aload_n 0, 1)) rfl) rfl ?_
    obtain ⟨q57, p58, vc⟩ := vc
    refine s_getr (oe_t26 69 (q := (126, .getfield 51, 3)) rfl) s54 rfl rfl p58 ?_
    obtain ⟨s59, vc⟩ := vc
    obtain ⟨q60, p61, vc⟩ := vc
    refine s_getr (oe_t26 70 (q := (129, .getfield 1001, 3)) rfl) s59 rfl rfl p61 ?_
    refine s_iload (oe_t26 71 (q := (132, .iload 5, 2)) rfl) rfl ?_
    obtain ⟨n63, s62, vc⟩ := vc
    obtain ⟨i64, i65, q66, p67, vc⟩ := vc
    refine s_aaload (oe_t26 72 (q := (134, .aaload, 1)) rfl) s62 i64 i65 p67 ?_
    refine s_iload (oe_t26 73 (q := (135, .iload 7, 2)) rfl) rfl ?_
    refine s_aload (oe_t26 74 (q := (137, .aload 10, 2)) rfl) rfl ?_
    refine s_iload (oe_t26 75 (q := (139, .iload 8, 2)) rfl) rfl ?_
    refine s_iload (oe_t26 76 (q := (141, .iload 11, 2)) rfl) rfl ?_
    obtain ⟨s70, vc⟩ := vc
    refine s_callv (oe_t26 77 (q := (143, .invokevirtual 112045, 3)) rfl) rfl s70 rfl (Nat.le_of_ble_eq_true rfl) (Nat.le_of_ble_eq_true rfl) (Nat.le_of_ble_eq_true rfl) (Nat.le_of_ble_eq_true rfl) ?_
    refine oe_M_mono _ _ _ _ _ _ (fun r hp vq => ?_) vc
    obtain ⟨x69, h68, rfl, rfl, vc⟩ := vq
    show oe_V (oe_cost 26) 26 (oe_M (d + 1)) none Q 146 [some (.inr (.inl v0)), some (.inl v1), some (.inl v2), some (.inl v3), some (.inl v4), some (.inl v5), none, some (.inl v7), some (.inl v8), none, some (.inr (.inl v10)), some (.inl v11)] [.inl x69, .inr (.inl v0)] (sh, g, h68) 0 0
    refine s_callv (oe_t26 78 (q := (146, .invokevirtual 27001, 3)) rfl) rfl s54 rfl (Nat.le_of_ble_eq_true rfl) (Nat.le_of_ble_eq_true rfl) (Nat.le_of_ble_eq_true rfl) (Nat.le_of_ble_eq_true rfl) ?_
    refine oe_M_mono _ _ _ _ _ _ (fun r hp vq => ?_) vc
    obtain ⟨h71, rfl, rfl, vc⟩ := vq
    show oe_V (oe_cost 26) 26 (oe_M (d + 1)) none Q 149 [some (.inr (.inl v0)), some (.inl v1), some (.inl v2), some (.inl v3), some (.inl v4), some (.inl v5), none, some (.inl v7), some (.inl v8), none, some (.inr (.inl v10)), some (.inl v11)] [] (sh, g, h71) 0 0
    obtain ⟨r72, vc⟩ := vc
    refine s_iinc (oe_t26 79 (q := (149, .iinc 11 1, 3)) rfl) rfl r72 ?_
    refine s_goto (oe_t26 80 (q := (152, .goto 105, 3)) rfl) ?_
    exact oe_V.fg (oe_M_mono _) (show oe_fg [some (.inr (.inl v0)), some (.inl v1), some (.inl v2), some (.inl v3), some (.inl v4), some (.inl v5), none, some (.inl v7), some (.inl v8), none, some (.inr (.inl v10)), some (.inl (v11 + 1))] _ from ⟨rfl, ⟨rfl, ⟨rfl, ⟨rfl, ⟨rfl, ⟨rfl, ⟨rfl, ⟨rfl, ⟨rfl, ⟨rfl, trivial⟩⟩⟩⟩⟩⟩⟩⟩⟩⟩) vc
theorem oe_u27 : oe_c27.all (fun q => decide (oe_find oe_c27 q.1 = some q.2)) = true := by decide +kernel
theorem oe_t27 (k : Nat) {q : Nat × Jvm.ClassFile.Instr × Nat} (h : oe_c27[k]? = some q) : oe_find (oe_code 27) q.1 = some q.2 := oe_ft oe_u27 h
theorem g27 {d : Nat} {sh : List (Nat × Nat)} {g : Nat → Nat → Option Nat} {h : Nat → Nat → Int} {Q : oeQ} {v0 : Nat} {v1 : Int}
    (vc : (v1 ≠ 1 → oe_V (oe_cost 27) 27 (oe_M (d + 1)) none Q 15 [some (.inr (.inl v0)), some (.inl v1), none, none] [] (sh, g, h) 0 0) ∧ (v1 = 1 → sh[v0]? = some (5, 14) ∧ oe_rg ((h v0 7) + 1) ∧ ∀ h4, h4 = oe_up h v0 7 ((h v0 7) + 1) → oe_V (oe_cost 27) 27 (oe_M (d + 1)) none Q 15 [some (.inr (.inl v0)), some (.inl v1), none, none] [] (sh, g, h4) 0 0)) :
    oe_M (d + 2) 27 [.inr (.inl v0), .inl v1] (sh, g, h) Q := by
  refine oe_M.of (by simp [oe_c1]) (Nat.le_of_ble_eq_true rfl) ?_
  show oe_V (oe_cost 27) 27 (oe_M (d + 1)) none Q 0 [some (.inr (.inl v0)), some (.inl v1), none, none] [] (sh, g, h) 0 0
  refine s_iload_n (oe_t27 0 (q := (0, .iload_n 1, 1)) rfl) rfl ?_
  refine s_iconst (oe_t27 1 (q := (1, .iconst 1, 1)) rfl) ?_
  refine s_ic_ne (oe_t27 2 (q := (2, .if_icmp .ne 15, 3)) rfl) (fun c1 => ?_) (fun c1 => ?_)
  · replace vc := vc.1 c1
    exact oe_V.fg (oe_M_mono _) (show oe_fg [some (.inr (.inl v0)), some (.inl v1), none, none] _ from ⟨rfl, ⟨rfl, trivial⟩⟩) vc
  · replace vc := vc.2 c1
    refine s_aload_n (oe_t27 3 (q := (5, .aload_n 0, 1)) rfl) rfl ?_
    refine s_dup (oe_t27 4 (q := (6, .dup, 1)) rfl) trivial ?_
    obtain ⟨s2, vc⟩ := vc
    refine s_geti (oe_t27 5 (q := (7, .getfield 70, 3)) rfl) s2 rfl (by decide) ?_
    refine s_iconst (oe_t27 6 (q := (10, .iconst 1, 1)) rfl) ?_
    obtain ⟨r3, vc⟩ := vc
    refine s_iadd (oe_t27 7 (q := (11, .iadd, 1)) rfl) r3 ?_
    refine t_puti (oe_t27 8 (q := (12, .putfield 70, 3)) rfl) s2 rfl (Or.inl rfl) (fun h4 e5 => ?_)
    replace vc := vc h4 e5
    exact oe_V.fg (oe_M_mono _) (show oe_fg [some (.inr (.inl v0)), some (.inl v1), none, none] _ from ⟨rfl, ⟨rfl, trivial⟩⟩) vc
theorem g27_15 {d : Nat} {sh : List (Nat × Nat)} {g : Nat → Nat → Option Nat} {h : Nat → Nat → Int} {Q : oeQ} {v0 : Nat} {v1 : Int}
    (vc : (v1 = 2 → sh[v0]? = some (5, 14) ∧ ∃ q8, g v0 6 = some q8 ∧ sh[q8]? = some (9, 3) ∧ ∃ q11, g q8 1 = some q11 ∧ ∃ q13, g v0 5 = some q13 ∧ sh[q11]? = some (7, 2) ∧ ∃ q16, g q11 0 = some q16 ∧ sh[q13]? = some (6, 5) ∧ oe_M (d + 1) 88 [.inr (.inl q13), .inr (.inl q16)] (sh, g, h) (fun r hp => ∃ (x19 : Int) (h18 : Nat → Nat → Int), r = some (.inl x19) ∧ hp = (sh, g, h18) ∧ ∃ q21, g q11 1 = some q21 ∧ oe_M (d + 1) 88 [.inr (.inl q13), .inr (.inl q21)] (sh, g, h18) (fun r hp => ∃ (x24 : Int) (h23 : Nat → Nat → Int), r = some (.inl x24) ∧ hp = (sh, g, h23) ∧ oe_M (d + 1) 96 [.inr (.inl q11)] (sh, g, h23) (fun r hp => ∃ (x25 : Int), r = some (.inl x25) ∧ hp = (sh, g, h23) ∧ (x25 = 0 → oe_M (d + 1) 24 [.inr (.inl v0), .inr (.inl q11)] (sh, g, h23) (fun r hp => ∃ (x28 : Int) (h27 : Nat → Nat → Int), r = some (.inl x28) ∧ hp = (sh, g, h27) ∧ (6 < x28 → oe_rg ((h27 v0 7) + 1) ∧ ∀ h31, h31 = oe_up h27 v0 7 ((h27 v0 7) + 1) → Q none (sh, g, h31)) ∧ (x28 ≤ 6 → oe_M (d + 1) 94 [.inr (.inl q11)] (sh, g, h27) (fun r hp => ∃ (x33 : Int), r = some (.inl x33) ∧ hp = (sh, g, h27) ∧ (x33 ≤ 20 → ∃ q35, g q13 0 = some q35 ∧ oe_M (d + 1) 25 [.inr (.inl v0), .inr (.inl q35), .inl (h27 q13 1), .inr (.inl q11)] (sh, g, h27) (fun r hp => ∃ (x38 : Int) (h37 : Nat → Nat → Int), r = some (.inl x38) ∧ hp = (sh, g, h37) ∧ (x38 ≠ 0 → Q none (sh, g, h37)) ∧ (x38 = 0 → ∃ q40, g v0 4 = some q40 ∧ sh[q40]? = some (11, 2) ∧ ∃ q43, g q40 0 = some q43 ∧ oe_M (d + 1) 25 [.inr (.inl v0), .inr (.inl q43), .inl (h37 q40 1), .inr (.inl q11)] (sh, g, h37) (fun r hp => ∃ (x46 : Int) (h45 : Nat → Nat → Int), r = some (.inl x46) ∧ hp = (sh, g, h45) ∧ (x46 = 0 → oe_M (d + 1) 126 [.inr (.inl q40)] (sh, g, h45) (fun r hp => ∃ (x48 : Int), r = some (.inl x48) ∧ hp = (sh, g, h45) ∧ (x48 = 0 → oe_M (d + 1) 127 [.inr (.inl q40), .inr (.inl q11)] (sh, g, h45) (fun r hp => ∃ (h50 : Nat → Nat → Int), r = none ∧ hp = (sh, g, h50) ∧ Q none (sh, g, h50))) ∧ (x48 ≠ 0 → oe_rg ((h45 v0 7) + 1) ∧ ∀ h52, h52 = oe_up h45 v0 7 ((h45 v0 7) + 1) → Q none (sh, g, h52)))) ∧ (x46 ≠ 0 → Q none (sh, g, h45)))))) ∧ (20 < x33 → oe_rg ((h27 v0 7) + 1) ∧ ∀ h55, h55 = oe_up h27 v0 7 ((h27 v0 7) + 1) → Q none (sh, g, h55)))))) ∧ (x25 ≠ 0 → Q none (sh, g, h23)))))) ∧ (v1 ≠ 2 → Q none (sh, g, h))) :
    oe_V (oe_cost 27) 27 (oe_M (d + 1)) none Q 15 [some (.inr (.inl v0)), some (.inl v1), none, none] [] (sh, g, h) 0 0 := by
  refine s_iload_n (oe_t27 9 (q := (15, .iload_n 1, 1)) rfl) rfl ?_
  refine s_iconst (oe_t27 10 (q := (16, .iconst 2, 1)) rfl) ?_
  refine s_ic_eq (oe_t27 11 (q := (17, .if_icmp .eq 21, 3)) rfl) (fun c6 => ?_) (fun c6 => ?_)
  · replace vc := vc.1 c6
    refine s_aload_n (oe_t27 13 (q := (21, .aload_n 0, 1)) rfl) rfl ?_
    obtain ⟨s7, vc⟩ := vc
    obtain ⟨q8, p9, vc⟩ := vc
    refine s_getr (oe_t27 14 (q := (22, .getfield 61, 3)) rfl) s7 rfl rfl p9 ?_
    obtain ⟨s10, vc⟩ := vc
    obtain ⟨q11, p12, vc⟩ := vc
    refine s_getr (oe_t27 15 (q := (25, .getfield 4011, 3)) rfl) s10 rfl rfl p12 ?_
    refine s_astore_n (oe_t27 16 (q := (28, .astore_n 2, 1)) rfl) ?_
    refine s_aload_n (oe_t27 17 (q := (29, .aload_n 0, 1)) rfl) rfl ?_
    obtain ⟨q13, p14, vc⟩ := vc
    refine s_getr (oe_t27 18 (q := (30, .getfield 51, 3)) rfl) s7 rfl rfl p14 ?_
    refine s_aload_n (oe_t27 19 (q := (33, .aload_n 2, 1)) rfl) rfl ?_
    obtain ⟨s15, vc⟩ := vc
    obtain ⟨q16, p17, vc⟩ := vc
    refine s_getr (oe_t27 20 (q := (34, .getfield 2001, 3)) rfl) s15 rfl rfl p17 ?_
    obtain ⟨s20, vc⟩ := vc
    refine s_callv (oe_t27 21 (q := (37, .invokevirtual 88011, 3)) rfl) rfl s20 rfl (Nat.le_of_ble_eq_true rfl) (Nat.le_of_ble_eq_true rfl) (Nat.le_of_ble_eq_true rfl) (Nat.le_of_ble_eq_true rfl) ?_
    refine oe_M_mono _ _ _ _ _ _ (fun r hp vq => ?_) vc
    obtain ⟨x19, h18, rfl, rfl, vc⟩ := vq
    show oe_V (oe_cost 27) 27 (oe_M (d + 1)) none Q 40 [some (.inr (.inl v0)), some (.inl v1), some (.inr (.inl q11)), none] [.inl x19] (sh, g, h18) 0 0
    refine s_pop (oe_t27 22 (q := (40, .pop, 1)) rfl) trivial ?_
    refine s_aload_n (oe_t27 23 (q := (41, .aload_n 0, 1)) rfl) rfl ?_
    refine s_getr (oe_t27 24 (q := (42, .getfield 51, 3)) rfl) s7 rfl rfl p14 ?_
    refine s_aload_n (oe_t27 25 (q := (45, .aload_n 2, 1)) rfl) rfl ?_
    obtain ⟨q21, p22, vc⟩ := vc
    refine s_getr (oe_t27 26 (q := (46, .getfield 2011, 3)) rfl) s15 rfl rfl p22 ?_
    refine s_callv (oe_t27 27 (q := (49, .invokevirtual 88011, 3)) rfl) rfl s20 rfl (Nat.le_of_ble_eq_true rfl) (Nat.le_of_ble_eq_true rfl) (Nat.le_of_ble_eq_true rfl) (Nat.le_of_ble_eq_true rfl) ?_
    refine oe_M_mono _ _ _ _ _ _ (fun r hp vq => ?_) vc
    obtain ⟨x24, h23, rfl, rfl, vc⟩ := vq
    show oe_V (oe_cost 27) 27 (oe_M (d + 1)) none Q 52 [some (.inr (.inl v0)), some (.inl v1), some (.inr (.inl q11)), none] [.inl x24] (sh, g, h23) 0 0
    refine s_pop (oe_t27 28 (q := (52, .pop, 1)) rfl) trivial ?_
    refine s_aload_n (oe_t27 29 (q := (53, .aload_n 2, 1)) rfl) rfl ?_
    refine s_callv (oe_t27 30 (q := (54, .invokevirtual 96020, 3)) rfl) rfl s15 rfl (Nat.le_of_ble_eq_true rfl) (Nat.le_of_ble_eq_true rfl) (Nat.le_of_ble_eq_true rfl) (Nat.le_of_ble_eq_true rfl) ?_
    refine oe_M_mono _ _ _ _ _ _ (fun r hp vq => ?_) vc
    obtain ⟨x25, rfl, rfl, vc⟩ := vq
    show oe_V (oe_cost 27) 27 (oe_M (d + 1)) none Q 57 [some (.inr (.inl v0)), some (.inl v1), some (.inr (.inl q11)), none] [.inl x25] (sh, g, h23) 0 0
    refine s_if_eq (oe_t27 31 (q := (57, .ifCond .eq 61, 3)) rfl) (fun c26 => ?_) (fun c26 => ?_)
    · replace vc := vc.1 c26
      refine s_aload_n (oe_t27 33 (q := (61, .aload_n 0, 1)) rfl) rfl ?_
      refine s_aload_n (oe_t27 34 (q := (62, .aload_n 2, 1)) rfl) rfl ?_
      refine s_callv (oe_t27 35 (q := (63, .invokevirtual 24001, 3)) rfl) rfl s7 rfl (Nat.le_of_ble_eq_true rfl) (Nat.le_of_ble_eq_true rfl) (Nat.le_of_ble_eq_true rfl) (Nat.le_of_ble_eq_true rfl) ?_
      refine oe_M_mono _ _ _ _ _ _ (fun r hp vq => ?_) vc
      obtain ⟨x28, h27, rfl, rfl, vc⟩ := vq
      show oe_V (oe_cost 27) 27 (oe_M (d + 1)) none Q 66 [some (.inr (.inl v0)), some (.inl v1), some (.inr (.inl q11)), none] [.inl x28] (sh, g, h27) 0 0
      refine s_istore_n (oe_t27 36 (q := (66, .istore_n 3, 1)) rfl) ?_
      refine s_iload_n (oe_t27 37 (q := (67, .iload_n 3, 1)) rfl) rfl ?_
      refine s_bipush (oe_t27 38 (q := (68, .bipush 6, 2)) rfl) ?_
      refine s_ic_gt (oe_t27 39 (q := (70, .if_icmp .gt 82, 3)) rfl) (fun c29 => ?_) (fun c29 => ?_)
      · replace vc := vc.1 c29
        refine s_aload_n (oe_t27 44 (q := (82, .aload_n 0, 1)) rfl) rfl ?_
        refine s_dup (oe_t27 45 (q := (83, .dup, 1)) rfl) trivial ?_
        refine s_geti (oe_t27 46 (q := (84, .getfield 70, 3)) rfl) s7 rfl (by decide) ?_
        refine s_iconst (oe_t27 47 (q := (87, .iconst 1, 1)) rfl) ?_
        obtain ⟨r30, vc⟩ := vc
        refine s_iadd (oe_t27 48 (q := (88, .iadd, 1)) rfl) r30 ?_
        refine t_puti (oe_t27 49 (q := (89, .putfield 70, 3)) rfl) s7 rfl (Or.inl rfl) (fun h31 e32 => ?_)
        replace vc := vc h31 e32
        exact s_ret (oe_t27 50 (q := (92, .return_, 1)) rfl) rfl vc
      · replace vc := vc.2 c29
        refine s_aload_n (oe_t27 40 (q := (73, .aload_n 2, 1)) rfl) rfl ?_
        refine s_callv (oe_t27 41 (q := (74, .invokevirtual 94020, 3)) rfl) rfl s15 rfl (Nat.le_of_ble_eq_true rfl) (Nat.le_of_ble_eq_true rfl) (Nat.le_of_ble_eq_true rfl) (Nat.le_of_ble_eq_true rfl) ?_
        refine oe_M_mono _ _ _ _ _ _ (fun r hp vq => ?_) vc
        obtain ⟨x33, rfl, rfl, vc⟩ := vq
        show oe_V (oe_cost 27) 27 (oe_M (d + 1)) none Q 77 [some (.inr (.inl v0)), some (.inl v1), some (.inr (.inl q11)), some (.inl x28)] [.inl x33] (sh, g, h27) 0 0
        refine s_bipush (oe_t27 42 (q := (77, .bipush 20, 2)) rfl) ?_
        refine s_ic_le (oe_t27 43 (q := (79, .if_icmp .le 93, 3)) rfl) (fun c34 => ?_) (fun c34 => ?_)
        · replace vc := vc.1 c34
          refine s_aload_n (oe_t27 51 (q := (93, .aload_n 0, 1)) rfl) rfl ?_
          refine s_aload_n (oe_t27 52 (q := (94, .aload_n 0, 1)) rfl) rfl ?_
          refine s_getr (oe_t27 53 (q := (95, .getfield 51, 3)) rfl) s7 rfl rfl p14 ?_
          obtain ⟨q35, p36, vc⟩ := vc
          refine s_getr (oe_t27 54 (q := (98, .getfield 1001, 3)) rfl) s20 rfl rfl p36 ?_
          refine s_aload_n (oe_t27 55 (q := (101, .aload_n 0, 1)) rfl) rfl ?_
          refine s_getr (oe_t27 56 (q := (102, .getfield 51, 3)) rfl) s7 rfl rfl p14 ?_
          refine s_geti (oe_t27 57 (q := (105, .getfield 1010, 3)) rfl) s20 rfl (by decide) ?_
          refine s_aload_n (oe_t27 58 (q := (108, .aload_n 2, 1)) rfl) rfl ?_
          refine s_callv (oe_t27 59 (q := (109, .invokevirtual 25003, 3)) rfl) rfl s7 rfl (Nat.le_of_ble_eq_true rfl) (Nat.le_of_ble_eq_true rfl) (Nat.le_of_ble_eq_true rfl) (Nat.le_of_ble_eq_true rfl) ?_
          refine oe_M_mono _ _ _ _ _ _ (fun r hp vq => ?_) vc
          obtain ⟨x38, h37, rfl, rfl, vc⟩ := vq
          show oe_V (oe_cost 27) 27 (oe_M (d + 1)) none Q 112 [some (.inr (.inl v0)), some (.inl v1), some (.inr (.inl q11)), some (.inl x28)] [.inl x38] (sh, g, h37) 0 0
          refine s_if_ne (oe_t27 60 (q := (112, .ifCond .ne 137, 3)) rfl) (fun c39 => ?_) (fun c39 => ?_)
          · replace vc := vc.1 c39
            exact s_ret (oe_t27 71 (q := (137, .return_, 1)) rfl) rfl vc
          · replace vc := vc.2 c39
            refine s_aload_n (oe_t27 61 (q := (115, .aload_n 0, 1)) rfl) rfl ?_
            refine s_aload_n (oe_t27 62 (q := (116, .aload_n 0, 1)) rfl) rfl ?_
            obtain ⟨q40, p41, vc⟩ := vc
            refine s_getr (oe_t27 63 (q := (117, .getfield 41, 3)) rfl) s7 rfl rfl p41 ?_
            obtain ⟨s42, vc⟩ := vc
            obtain ⟨q43, p44, vc⟩ := vc
            refine s_getr (oe_t27 64 (q := (120, .getfield 6001, 3)) rfl) s42 rfl rfl p44 ?_
            refine s_aload_n (oe_t27 65 (q := (123, .aload_n 0, 1)) rfl) rfl ?_
            refine s_getr (oe_t27 66 (q := (124, .getfield 41, 3)) rfl) s7 rfl rfl p41 ?_
            refine s_geti (oe_t27 67 (q := (127, .getfield 6010, 3)) rfl) s42 rfl (by decide) ?_
            refine s_aload_n (oe_t27 68 (q := (130, .aload_n 2, 1)) rfl) rfl ?_
            refine s_callv (oe_t27 69 (q := (131, .invokevirtual 25003, 3)) rfl) rfl s7 rfl (Nat.le_of_ble_eq_true rfl) (Nat.le_of_ble_eq_true rfl) (Nat.le_of_ble_eq_true rfl) (Nat.le_of_ble_eq_true rfl) ?_
            refine oe_M_mono _ _ _ _ _ _ (fun r hp vq => ?_) vc
            obtain ⟨x46, h45, rfl, rfl, vc⟩ := vq
            show oe_V (oe_cost 27) 27 (oe_M (d + 1)) none Q 134 [some (.inr (.inl v0)), some (.inl v1), some (.inr (.inl q11)), some (.inl x28)] [.inl x46] (sh, g, h45) 0 0
            refine s_if_eq (oe_t27 70 (q := (134, .ifCond .eq 138, 3)) rfl) (fun c47 => ?_) (fun c47 => ?_)
            · replace vc := vc.1 c47
              refine s_aload_n (oe_t27 72 (q := (138, .aload_n 0, 1)) rfl) rfl ?_
              refine s_getr (oe_t27 73 (q := (139, .getfield 41, 3)) rfl) s7 rfl rfl p41 ?_
              refine s_callv (oe_t27 74 (q := (142, .invokevirtual 126060, 3)) rfl) rfl s42 rfl (Nat.le_of_ble_eq_true rfl) (Nat.le_of_ble_eq_true rfl) (Nat.le_of_ble_eq_true rfl) (Nat.le_of_ble_eq_true rfl) ?_
              refine oe_M_mono _ _ _ _ _ _ (fun r hp vq => ?_) vc
              obtain ⟨x48, rfl, rfl, vc⟩ := vq
              show oe_V (oe_cost 27) 27 (oe_M (d + 1)) none Q 145 [some (.inr (.inl v0)), some (.inl v1), some (.inr (.inl q11)), some (.inl x28)] [.inl x48] (sh, g, h45) 0 0
              refine s_if_eq (oe_t27 75 (q := (145, .ifCond .eq 159, 3)) rfl) (fun c49 => ?_) (fun c49 => ?_)
              · replace vc := vc.1 c49
                refine s_aload_n (oe_t27 83 (q := (159, .aload_n 0, 1)) rfl) rfl ?_
                refine s_getr (oe_t27 84 (q := (160, .getfield 41, 3)) rfl) s7 rfl rfl p41 ?_
                refine s_aload_n (oe_t27 85 (q := (163, .aload_n 2, 1)) rfl) rfl ?_
                refine s_callv (oe_t27 86 (q := (164, .invokevirtual 127061, 3)) rfl) rfl s42 rfl (Nat.le_of_ble_eq_true rfl) (Nat.le_of_ble_eq_true rfl) (Nat.le_of_ble_eq_true rfl) (Nat.le_of_ble_eq_true rfl) ?_
                refine oe_M_mono _ _ _ _ _ _ (fun r hp vq => ?_) vc
                obtain ⟨h50, rfl, rfl, vc⟩ := vq
                show oe_V (oe_cost 27) 27 (oe_M (d + 1)) none Q 167 [some (.inr (.inl v0)), some (.inl v1), some (.inr (.inl q11)), some (.inl x28)] [] (sh, g, h50) 0 0
                exact s_ret (oe_t27 87 (q := (167, .return_, 1)) rfl) rfl vc
              · replace vc := vc.2 c49
                refine s_aload_n (oe_t27 76 (q := (148, .aload_n 0, 1)) rfl) rfl ?_
                refine s_dup (oe_t27 77 (q := (149, .dup, 1)) rfl) trivial ?_
                refine s_geti (oe_t27 78 (q := (150, .getfield 70, 3)) rfl) s7 rfl (by decide) ?_
                refine s_iconst (oe_t27 79 (q := (153, .iconst 1, 1)) rfl) ?_
                obtain ⟨r51, vc⟩ := vc
                refine s_iadd (oe_t27 80 (q := (154, .iadd, 1)) rfl) r51 ?_
                refine t_puti (oe_t27 81 (q := (155, .putfield 70, 3)) rfl) s7 rfl (Or.inl rfl) (fun h52 e53 => ?_)
                replace vc := vc h52 e53
                exact s_ret (oe_t27 82 (q := (158, .return_, 1)) rfl) rfl vc
            · replace vc := vc.2 c47
              exact s_ret (oe_t27 71 (q := (137, .return_, 1)) rfl) rfl vc
        · replace vc := vc.2 c34
          refine s_aload_n (oe_t27 44 (q := (82, .aload_n 0, 1)) rfl) rfl ?_
          refine s_dup (oe_t27 45 (q := (83, .dup, 1)) rfl) trivial ?_
          refine s_geti (oe_t27 46 (q := (84, .getfield 70, 3)) rfl) s7 rfl (by decide) ?_
          refine s_iconst (oe_t27 47 (q := (87, .iconst 1, 1)) rfl) ?_
          obtain ⟨r54, vc⟩ := vc
          refine s_iadd (oe_t27 48 (q := (88, .iadd, 1)) rfl) r54 ?_
          refine t_puti (oe_t27 49 (q := (89, .putfield 70, 3)) rfl) s7 rfl (Or.inl rfl) (fun h55 e56 => ?_)
          replace vc := vc h55 e56
          exact s_ret (oe_t27 50 (q := (92, .return_, 1)) rfl) rfl vc
    · replace vc := vc.2 c26
      exact s_ret (oe_t27 32 (q := (60, .return_, 1)) rfl) rfl vc
  · replace vc := vc.2 c6
    exact s_ret (oe_t27 12 (q := (20, .return_, 1)) rfl) rfl vc
