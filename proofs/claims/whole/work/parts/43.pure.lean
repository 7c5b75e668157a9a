/-! Small methods that only ask a letter. -/
theorem oe_u16 : oe_c16.all (fun q => decide (oe_find oe_c16 q.1 = some q.2)) = true := by decide +kernel
theorem oe_t16 (k : Nat) {q : Nat × Jvm.ClassFile.Instr × Nat} (h : oe_c16[k]? = some q) : oe_find (oe_code 16) q.1 = some q.2 := oe_ft oe_u16 h
theorem g16 {d : Nat} {sh : List (Nat × Nat)} {g : Nat → Nat → Option Nat} {h : Nat → Nat → Int} {Q : oeQ} {v0 : Int}
    (vc : (12 ≤ v0 → Q (some (.inl 0)) (sh, g, h)) ∧ (v0 < 12 → Q (some (.inl 1)) (sh, g, h))) :
    oe_M (d + 1) 16 [.inl v0] (sh, g, h) Q := by
  refine oe_M.of (by simp [oe_c1]) (Nat.le_of_ble_eq_true rfl) ?_
  show oe_V (oe_cost 16) 16 (oe_M d) none Q 0 [some (.inl v0)] [] (sh, g, h) 0 0
  refine s_iload_n (oe_t16 0 (q := (0, .iload_n 0, 1)) rfl) rfl ?_
  refine s_bipush (oe_t16 1 (q := (1, .bipush 12, 2)) rfl) ?_
  refine s_ic_ge (oe_t16 2 (q := (3, .if_icmp .ge 10, 3)) rfl) (fun c1 => ?_) (fun c1 => ?_)
  · replace vc := vc.1 c1
    refine s_iconst (oe_t16 5 (q := (10, .iconst 0, 1)) rfl) ?_
    exact s_iret (oe_t16 6 (q := (11, .ireturn, 1)) rfl) (Or.inr (Or.inl ⟨rfl, Or.inl rfl⟩)) vc
  · replace vc := vc.2 c1
    refine s_iconst (oe_t16 3 (q := (6, .iconst 1, 1)) rfl) ?_
    refine s_goto (oe_t16 4 (q := (7, .goto 11, 3)) rfl) ?_
    exact s_iret (oe_t16 6 (q := (11, .ireturn, 1)) rfl) (Or.inr (Or.inl ⟨rfl, Or.inr rfl⟩)) vc
theorem oe_u35 : oe_c35.all (fun q => decide (oe_find oe_c35 q.1 = some q.2)) = true := by decide +kernel
theorem oe_t35 (k : Nat) {q : Nat × Jvm.ClassFile.Instr × Nat} (h : oe_c35[k]? = some q) : oe_find (oe_code 35) q.1 = some q.2 := oe_ft oe_u35 h
theorem g35 {d : Nat} {sh : List (Nat × Nat)} {g : Nat → Nat → Option Nat} {h : Nat → Nat → Int} {Q : oeQ} {v0 : Int}
    (vc : (20 ≤ v0 → Q (some (.inl 0)) (sh, g, h)) ∧ (v0 < 20 → Q (some (.inl 1)) (sh, g, h))) :
    oe_M (d + 1) 35 [.inl v0] (sh, g, h) Q := by
  refine oe_M.of (by simp [oe_c1]) (Nat.le_of_ble_eq_true rfl) ?_
  show oe_V (oe_cost 35) 35 (oe_M d) none Q 0 [some (.inl v0)] [] (sh, g, h) 0 0
  refine s_iload_n (oe_t35 0 (q := (0, .iload_n 0, 1)) rfl) rfl ?_
  refine s_bipush (oe_t35 1 (q := (1, .bipush 20, 2)) rfl) ?_
  refine s_ic_ge (oe_t35 2 (q := (3, .if_icmp .ge 10, 3)) rfl) (fun c1 => ?_) (fun c1 => ?_)
  · replace vc := vc.1 c1
    refine s_iconst (oe_t35 5 (q := (10, .iconst 0, 1)) rfl) ?_
    exact s_iret (oe_t35 6 (q := (11, .ireturn, 1)) rfl) (Or.inr (Or.inl ⟨rfl, Or.inl rfl⟩)) vc
  · replace vc := vc.2 c1
    refine s_iconst (oe_t35 3 (q := (6, .iconst 1, 1)) rfl) ?_
    refine s_goto (oe_t35 4 (q := (7, .goto 11, 3)) rfl) ?_
    exact s_iret (oe_t35 6 (q := (11, .ireturn, 1)) rfl) (Or.inr (Or.inl ⟨rfl, Or.inr rfl⟩)) vc
theorem oe_u17 : oe_c17.all (fun q => decide (oe_find oe_c17 q.1 = some q.2)) = true := by decide +kernel
theorem oe_t17 (k : Nat) {q : Nat × Jvm.ClassFile.Instr × Nat} (h : oe_c17[k]? = some q) : oe_find (oe_code 17) q.1 = some q.2 := oe_ft oe_u17 h
theorem g17 {d : Nat} {sh : List (Nat × Nat)} {g : Nat → Nat → Option Nat} {h : Nat → Nat → Int} {Q : oeQ} {v0 : Int}
    (vc : (v0 < 18 → (v0 < 16 → Q (some (.inl 0)) (sh, g, h)) ∧ (16 ≤ v0 → Q (some (.inl 1)) (sh, g, h))) ∧ (18 ≤ v0 → Q (some (.inl 2)) (sh, g, h))) :
    oe_M (d + 1) 17 [.inl v0] (sh, g, h) Q := by
  refine oe_M.of (by simp [oe_c1]) (Nat.le_of_ble_eq_true rfl) ?_
  show oe_V (oe_cost 17) 17 (oe_M d) none Q 0 [some (.inl v0)] [] (sh, g, h) 0 0
  refine s_iload_n (oe_t17 0 (q := (0, .iload_n 0, 1)) rfl) rfl ?_
  refine s_bipush (oe_t17 1 (q := (1, .bipush 18, 2)) rfl) ?_
  refine s_ic_lt (oe_t17 2 (q := (3, .if_icmp .lt 8, 3)) rfl) (fun c1 => ?_) (fun c1 => ?_)
  · replace vc := vc.1 c1
    refine s_iload_n (oe_t17 5 (q := (8, .iload_n 0, 1)) rfl) rfl ?_
    refine s_bipush (oe_t17 6 (q := (9, .bipush 16, 2)) rfl) ?_
    refine s_ic_lt (oe_t17 7 (q := (11, .if_icmp .lt 18, 3)) rfl) (fun c2 => ?_) (fun c2 => ?_)
    · replace vc := vc.1 c2
      refine s_iconst (oe_t17 10 (q := (18, .iconst 0, 1)) rfl) ?_
      exact s_iret (oe_t17 11 (q := (19, .ireturn, 1)) rfl) (Or.inl rfl) vc
    · replace vc := vc.2 c2
      refine s_iconst (oe_t17 8 (q := (14, .iconst 1, 1)) rfl) ?_
      refine s_goto (oe_t17 9 (q := (15, .goto 19, 3)) rfl) ?_
      exact s_iret (oe_t17 11 (q := (19, .ireturn, 1)) rfl) (Or.inl rfl) vc
  · replace vc := vc.2 c1
    refine s_iconst (oe_t17 3 (q := (6, .iconst 2, 1)) rfl) ?_
    exact s_iret (oe_t17 4 (q := (7, .ireturn, 1)) rfl) (Or.inl rfl) vc
theorem oe_u34 : oe_c34.all (fun q => decide (oe_find oe_c34 q.1 = some q.2)) = true := by decide +kernel
theorem oe_t34 (k : Nat) {q : Nat × Jvm.ClassFile.Instr × Nat} (h : oe_c34[k]? = some q) : oe_find (oe_code 34) q.1 = some q.2 := oe_ft oe_u34 h
theorem g34 {d : Nat} {sh : List (Nat × Nat)} {g : Nat → Nat → Option Nat} {h : Nat → Nat → Int} {Q : oeQ} {v0 : Int}
    (vc : (v0 < 20 → Q (some (.inl 0)) (sh, g, h)) ∧ (20 ≤ v0 → (v0 ≤ 23 → (22 ≤ v0 → Q (some (.inl 1)) (sh, g, h)) ∧ (v0 < 22 → Q (some (.inl 2)) (sh, g, h))) ∧ (23 < v0 → Q (some (.inl 0)) (sh, g, h)))) :
    oe_M (d + 1) 34 [.inl v0] (sh, g, h) Q := by
  refine oe_M.of (by simp [oe_c1]) (Nat.le_of_ble_eq_true rfl) ?_
  show oe_V (oe_cost 34) 34 (oe_M d) none Q 0 [some (.inl v0)] [] (sh, g, h) 0 0
  refine s_iload_n (oe_t34 0 (q := (0, .iload_n 0, 1)) rfl) rfl ?_
  refine s_bipush (oe_t34 1 (q := (1, .bipush 20, 2)) rfl) ?_
  refine s_ic_lt (oe_t34 2 (q := (3, .if_icmp .lt 12, 3)) rfl) (fun c1 => ?_) (fun c1 => ?_)
  · replace vc := vc.1 c1
    refine s_iconst (oe_t34 6 (q := (12, .iconst 0, 1)) rfl) ?_
    refine s_goto (oe_t34 7 (q := (13, .goto 27, 3)) rfl) ?_
    exact s_iret (oe_t34 14 (q := (27, .ireturn, 1)) rfl) (Or.inl rfl) vc
  · replace vc := vc.2 c1
    refine s_iload_n (oe_t34 3 (q := (6, .iload_n 0, 1)) rfl) rfl ?_
    refine s_bipush (oe_t34 4 (q := (7, .bipush 23, 2)) rfl) ?_
    refine s_ic_le (oe_t34 5 (q := (9, .if_icmp .le 16, 3)) rfl) (fun c2 => ?_) (fun c2 => ?_)
    · replace vc := vc.1 c2
      refine s_iload_n (oe_t34 8 (q := (16, .iload_n 0, 1)) rfl) rfl ?_
      refine s_bipush (oe_t34 9 (q := (17, .bipush 22, 2)) rfl) ?_
      refine s_ic_ge (oe_t34 10 (q := (19, .if_icmp .ge 26, 3)) rfl) (fun c3 => ?_) (fun c3 => ?_)
      · replace vc := vc.1 c3
        refine s_iconst (oe_t34 13 (q := (26, .iconst 1, 1)) rfl) ?_
        exact s_iret (oe_t34 14 (q := (27, .ireturn, 1)) rfl) (Or.inl rfl) vc
      · replace vc := vc.2 c3
        refine s_iconst (oe_t34 11 (q := (22, .iconst 2, 1)) rfl) ?_
        refine s_goto (oe_t34 12 (q := (23, .goto 27, 3)) rfl) ?_
        exact s_iret (oe_t34 14 (q := (27, .ireturn, 1)) rfl) (Or.inl rfl) vc
    · replace vc := vc.2 c2
      refine s_iconst (oe_t34 6 (q := (12, .iconst 0, 1)) rfl) ?_
      refine s_goto (oe_t34 7 (q := (13, .goto 27, 3)) rfl) ?_
      exact s_iret (oe_t34 14 (q := (27, .ireturn, 1)) rfl) (Or.inl rfl) vc
theorem sp_16 {d : Nat} {sh : List (Nat × Nat)} {g : Nat → Nat → Option Nat} {h : Nat → Nat → Int} {Q : oeQ} {x : Int} (kt : x < 12 → Q (some (.inl 1)) (sh, g, h)) (kf : 12 ≤ x → Q (some (.inl 0)) (sh, g, h)) : oe_M (d + 1) 16 [.inl x] (sh, g, h) Q := g16 ⟨kf, kt⟩
theorem sp_35 {d : Nat} {sh : List (Nat × Nat)} {g : Nat → Nat → Option Nat} {h : Nat → Nat → Int} {Q : oeQ} {x : Int} (kt : x < 20 → Q (some (.inl 1)) (sh, g, h)) (kf : 20 ≤ x → Q (some (.inl 0)) (sh, g, h)) : oe_M (d + 1) 35 [.inl x] (sh, g, h) Q := g35 ⟨kf, kt⟩
