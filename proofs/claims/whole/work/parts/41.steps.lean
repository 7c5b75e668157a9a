/-! Less may be known of the places; and steps, an instruction each. -/
def oe_fg : List (Option oeV) → List (Option oeV) → Prop
  | [], [] => True
  | none :: A, _ :: B => oe_fg A B
  | some v :: A, b :: B => b = some v ∧ oe_fg A B
  | _, _ => False
theorem oe_fg_at {v : oeV} : ∀ {A B : List (Option oeV)} {i : Nat}, oe_fg A B → A[i]? = some (some v) → B[i]? = some (some v)
  | [], _, i, _, h => by simp at h
  | none :: A, [], _, h, _ => h.elim
  | some _ :: A, [], _, h, _ => h.elim
  | none :: A, b :: B, 0, _, h => by simp at h
  | none :: A, b :: B, i + 1, h, g => by
    rw [List.getElem?_cons_succ] at g ⊢
    exact oe_fg_at (A := A) h g
  | some w :: A, b :: B, 0, h, g => by
    rw [List.getElem?_cons_zero] at g ⊢
    rw [h.1]; exact g
  | some w :: A, b :: B, i + 1, h, g => by
    rw [List.getElem?_cons_succ] at g ⊢
    exact oe_fg_at (A := A) h.2 g
theorem oe_fg_set {v : oeV} : ∀ {A B : List (Option oeV)} {i : Nat}, oe_fg A B → oe_fg (A.set i (some v)) (B.set i (some v))
  | [], [], _, _ => trivial
  | [], _ :: _, _, h => h.elim
  | none :: A, [], _, h => h.elim
  | some _ :: A, [], _, h => h.elim
  | none :: A, b :: B, 0, h => ⟨rfl, h⟩
  | none :: A, b :: B, i + 1, h => oe_fg_set (A := A) (B := B) (i := i) h
  | some w :: A, b :: B, 0, h => ⟨rfl, h.2⟩
  | some w :: A, b :: B, i + 1, h => ⟨h.1, oe_fg_set (A := A) (B := B) (i := i) h.2⟩
theorem oe_lo_of {L : List (Option oeV)} {i : Nat} {v : oeV} {f : oeV → Prop} (h : L[i]? = some (some v)) : oe_lo L i f = f v := by
  unfold oe_lo
  rw [h]
theorem oe_call_fg {lim : Nat × Nat} {C : oeC} {X X' : oeX} {j np N : Nat} {A B : List (Option oeV)} {S : List oeV} {hp : oeH} {k n : Nat} (hC : oe_Cm C) (hX : ∀ pc S hp k n, X pc A S hp k n → X' pc B S hp k n)
    (h : oe_call lim C X j np N A S hp k n) : oe_call lim C X' j np N B S hp k n :=
  ⟨h.1, h.2.1, h.2.2.1, h.2.2.2.1, hC _ _ _ _ _ (fun _ _ q => hX _ _ _ _ _ q) h.2.2.2.2⟩
set_option maxHeartbeats 4000000 in
theorem oe_ins_fg {lim : Nat × Nat} {rt : Nat} {C : oeC} {sc : Option (Nat × (Nat → Int))} {Q : oeQ} {X X' : oeX} {i : Jvm.ClassFile.Instr} {N : Nat} {A B : List (Option oeV)} {S : List oeV} {hp : oeH} {k n : Nat}
    (hC : oe_Cm C) (hF : oe_fg A B) (hX : ∀ pc S hp k n, X pc A S hp k n → X' pc B S hp k n) (hXs : ∀ pc i v S hp k n, X pc (A.set i (some v)) S hp k n → X' pc (B.set i (some v)) S hp k n) (h : oe_ins lim rt C sc Q X i N A S hp k n) : oe_ins lim rt C sc Q X' i N B S hp k n := by
  cases i
  case iconst => exact hX _ _ _ _ _ h
  case bipush => exact hX _ _ _ _ _ h
  case sipush => exact hX _ _ _ _ _ h
  case ldc r =>
    unfold oe_ins at h ⊢
    dsimp only at h ⊢
    split
    · rename_i e; rw [if_pos e] at h; exact hX _ _ _ _ _ h
    · rename_i e; rw [if_neg e] at h; exact hX _ _ _ _ _ h
  case aconst_null => exact hX _ _ _ _ _ h
  case iload =>
    unfold oe_ins at h ⊢
    dsimp only at h ⊢
    obtain ⟨v, hv, h1⟩ := oe_lo_ex h
    rw [oe_lo_of (oe_fg_at hF hv)]
    exact oe_il_mono (fun _ q => hX _ _ _ _ _ q) h1
  case iload_n =>
    unfold oe_ins at h ⊢
    dsimp only at h ⊢
    obtain ⟨v, hv, h1⟩ := oe_lo_ex h
    rw [oe_lo_of (oe_fg_at hF hv)]
    exact oe_il_mono (fun _ q => hX _ _ _ _ _ q) h1
  case aload =>
    unfold oe_ins at h ⊢
    dsimp only at h ⊢
    obtain ⟨v, hv, h1⟩ := oe_lo_ex h
    rw [oe_lo_of (oe_fg_at hF hv)]
    exact oe_rl_mono (fun q => hX _ _ _ _ _ q) h1
  case aload_n =>
    unfold oe_ins at h ⊢
    dsimp only at h ⊢
    obtain ⟨v, hv, h1⟩ := oe_lo_ex h
    rw [oe_lo_of (oe_fg_at hF hv)]
    exact oe_rl_mono (fun q => hX _ _ _ _ _ q) h1
  case istore =>
    unfold oe_ins at h ⊢
    dsimp only at h ⊢
    exact oe_i1_mono (fun _ _ q => hXs _ _ _ _ _ _ _ q) h
  case istore_n =>
    unfold oe_ins at h ⊢
    dsimp only at h ⊢
    exact oe_i1_mono (fun _ _ q => hXs _ _ _ _ _ _ _ q) h
  case astore =>
    unfold oe_ins at h ⊢
    dsimp only at h ⊢
    exact oe_r1_mono (fun _ _ q => hXs _ _ _ _ _ _ _ q) h
  case astore_n =>
    unfold oe_ins at h ⊢
    dsimp only at h ⊢
    exact oe_r1_mono (fun _ _ q => hXs _ _ _ _ _ _ _ q) h
  case iinc =>
    unfold oe_ins at h ⊢
    dsimp only at h ⊢
    obtain ⟨v, hv, h1⟩ := oe_lo_ex h
    rw [oe_lo_of (oe_fg_at hF hv)]
    exact oe_il_mono (fun _ q => ⟨q.1, hXs _ _ _ _ _ _ _ q.2⟩) h1
  case iadd => exact oe_i2_mono (fun _ _ _ q => ⟨q.1, hX _ _ _ _ _ q.2⟩) h
  case isub => exact oe_i2_mono (fun _ _ _ q => ⟨q.1, hX _ _ _ _ _ q.2⟩) h
  case imul => exact oe_i2_mono (fun _ _ _ q => ⟨q.1, hX _ _ _ _ _ q.2⟩) h
  case idiv => exact oe_i2_mono (fun _ _ _ q => ⟨q.1, q.2.1, hX _ _ _ _ _ q.2.2⟩) h
  case irem => exact oe_i2_mono (fun _ _ _ q => ⟨q.1, q.2.1, hX _ _ _ _ _ q.2.2⟩) h
  case iand => exact oe_i2_mono (fun _ _ _ q => ⟨q.1, hX _ _ _ _ _ q.2⟩) h
  case i2c => exact oe_i1_mono (fun _ _ q => hX _ _ _ _ _ q) h
  case i2l => exact oe_i1_mono (fun _ _ q => hX _ _ _ _ _ q) h
  case lcmp => exact oe_l2_mono (fun _ _ _ q => hX _ _ _ _ _ q) h
  case dup =>
    match S, h with
    | _ :: _, h => exact ⟨h.1, hX _ _ _ _ _ h.2⟩
  case dup_x1 =>
    match S, h with
    | _ :: _ :: _, h => exact ⟨h.1, h.2.1, hX _ _ _ _ _ h.2.2⟩
  case dup2 =>
    match S, h with
    | _ :: _ :: _, h => exact ⟨h.1, h.2.1, hX _ _ _ _ _ h.2.2⟩
  case pop =>
    match S, h with
    | _ :: _, h => exact ⟨h.1, hX _ _ _ _ _ h.2⟩
  case ifCond => exact oe_i1_mono (fun _ _ q => oe_br_mono (fun q => hX _ _ _ _ _ q) (fun q => hX _ _ _ _ _ q) q) h
  case if_icmp => exact oe_i2_mono (fun _ _ _ q => oe_br_mono (fun q => hX _ _ _ _ _ q) (fun q => hX _ _ _ _ _ q) q) h
  case ifnull =>
    unfold oe_ins at h ⊢
    dsimp only at h ⊢
    split at h
    · exact hX _ _ _ _ _ h
    · exact hX _ _ _ _ _ h
    · exact h.elim
  case ifnonnull =>
    unfold oe_ins at h ⊢
    dsimp only at h ⊢
    split at h
    · exact hX _ _ _ _ _ h
    · exact hX _ _ _ _ _ h
    · exact h.elim
  case goto => exact hX _ _ _ _ _ h
  case tableswitch => exact oe_i1_mono (fun _ _ q => ⟨fun z => hX _ _ _ _ _ (q.1 z), fun t a b c => hX _ _ _ _ _ (q.2 t a b c)⟩) h
  case lookupswitch => exact oe_i1_mono (fun _ _ q => hX _ _ _ _ _ q) h
  case getfield => exact oe_r1_mono (fun _ _ q => oe_gf_mono (fun _ q => hX _ _ _ _ _ q) q) h
  case putfield =>
    unfold oe_ins at h ⊢
    dsimp only at h ⊢
    exact oe_pf_mono (fun _ _ q => hX _ _ _ _ _ q) h
  case iaload =>
    unfold oe_ins at h ⊢
    dsimp only at h ⊢
    split at h
    · exact ⟨h.1, h.2.1, hX _ _ _ _ _ h.2.2⟩
    · refine oe_ald_mono ?_ h
      exact (fun _ _ _ q => hX _ _ _ _ _ q)
  case caload =>
    unfold oe_ins at h ⊢
    dsimp only at h ⊢
    exact oe_ald_mono (fun _ _ _ q => hX _ _ _ _ _ q) h
  case baload =>
    unfold oe_ins at h ⊢
    dsimp only at h ⊢
    exact oe_ald_mono (fun _ _ _ q => hX _ _ _ _ _ q) h
  case laload =>
    unfold oe_ins at h ⊢
    dsimp only at h ⊢
    exact oe_ald_mono (fun _ _ _ q => hX _ _ _ _ _ q) h
  case aaload =>
    unfold oe_ins at h ⊢
    dsimp only at h ⊢
    refine oe_ald_mono ?_ h
    intro a i T q
    split
    · rename_i w hw
      rw [hw] at q
      exact hX _ _ _ _ _ q
    · rename_i hw
      rw [hw] at q
      exact hX _ _ _ _ _ q
  case iastore =>
    unfold oe_ins at h ⊢
    dsimp only at h ⊢
    exact oe_ast_mono (fun _ _ _ _ q => hX _ _ _ _ _ q) h
  case castore =>
    unfold oe_ins at h ⊢
    dsimp only at h ⊢
    exact oe_ast_mono (fun _ _ _ _ q => ⟨q.1, q.2.1, hX _ _ _ _ _ q.2.2⟩) h
  case bastore =>
    unfold oe_ins at h ⊢
    dsimp only at h ⊢
    exact oe_ast_mono (fun _ _ _ _ q => ⟨q.1, hX _ _ _ _ _ q.2⟩) h
  case lastore =>
    obtain ⟨v, i, a, T, rfl, h2⟩ := oe_lir_ex h
    unfold oe_ins
    dsimp only
    unfold oe_lir
    exact oe_sh_mono (fun _ _ q => ⟨q.1, q.2.1, q.2.2.1, hX _ _ _ _ _ q.2.2.2⟩) h2
  case aastore =>
    obtain ⟨v, i, a, T, rfl, h2⟩ := oe_rir_ex h
    unfold oe_ins
    dsimp only
    unfold oe_rir
    exact ⟨h2.1, oe_sh_mono (fun _ _ q => ⟨q.1, q.2.1, q.2.2.1, hX _ _ _ _ _ q.2.2.2⟩) h2.2⟩
  case arraylength =>
    unfold oe_ins at h ⊢
    dsimp only at h ⊢
    split at h
    · exact hX _ _ _ _ _ h
    · exact oe_r1_mono (fun _ _ q => oe_sh_mono (fun _ _ q => ⟨q.1, hX _ _ _ _ _ q.2⟩) q) h
  case newarray => exact oe_i1_mono (fun _ _ q => ⟨q.1, q.2.1, q.2.2.1, q.2.2.2.1, hX _ _ _ _ _ q.2.2.2.2⟩) h
  case anewarray => exact oe_i1_mono (fun _ _ q => ⟨q.1, q.2.1, q.2.2.1, q.2.2.2.1, hX _ _ _ _ _ q.2.2.2.2⟩) h
  case new => exact ⟨h.1, h.2.1, hX _ _ _ _ _ h.2.2⟩
  case invokestatic r =>
    unfold oe_ins at h ⊢
    dsimp only at h ⊢
    split
    · rename_i e; rw [if_pos e] at h; exact oe_copy_mono (fun _ _ q => hX _ _ _ _ _ q) h
    · rename_i e; rw [if_neg e] at h; exact oe_call_fg hC hX h
  case invokespecial r =>
    unfold oe_ins at h ⊢
    dsimp only at h ⊢
    split
    · rename_i e; rw [if_pos e] at h; exact oe_r1_mono (fun _ _ q => ⟨q.1, hX _ _ _ _ _ q.2⟩) h
    · rename_i e
      rw [if_neg e] at h
      split at h
      · exact oe_call_fg hC hX h
      · exact h.elim
  case invokevirtual r =>
    unfold oe_ins at h ⊢
    dsimp only at h ⊢
    split at h
    · exact ⟨h.1, oe_call_fg hC hX h.2⟩
    · exact h.elim
  case ireturn =>
    unfold oe_ins at h ⊢
    dsimp only at h ⊢
    split at h
    · exact ⟨h.1, h.2⟩
    · exact h.elim
  case areturn =>
    unfold oe_ins at h ⊢
    dsimp only at h ⊢
    split at h
    · exact ⟨h.1, h.2⟩
    · exact h.elim
  case return_ => exact ⟨h.1, h.2.1, h.2.2⟩
  all_goals exact h.elim
theorem oe_V.fg {lim : Nat × Nat} {j : Nat} {C : oeC} {sc : Option (Nat × (Nat → Int))} {Q : oeQ} (hC : oe_Cm C) {pc : Nat} {A B : List (Option oeV)} {S : List oeV} {hp : oeH} {k n : Nat} (hF : oe_fg A B) (h : oe_V lim j C sc Q pc A S hp k n) : oe_V lim j C sc Q pc B S hp k n := by
  refine h (fun pc A S hp k n => ∀ B, oe_fg A B → oe_V lim j C sc Q pc B S hp k n) ?_ B hF
  intro pc A S hp k n h B hF
  refine oe_V.step hC ?_
  unfold oe_st at h ⊢
  split at h
  · exact oe_ins_fg hC hF (fun _ _ _ _ _ q => q B hF) (fun _ _ _ _ _ _ _ q => q _ (oe_fg_set hF)) h
  · exact h.elim
theorem s_0 {lim : Nat × Nat} {j d : Nat} {sc : Option (Nat × (Nat → Int))} {Q : oeQ} {pc len : Nat} {L : List (Option oeV)} {S : List oeV} {hp : oeH} {k n : Nat} {i : Jvm.ClassFile.Instr} (hf : oe_find (oe_code j) pc = some (i, len)) (h : oe_ins lim (oe_rt j) (oe_M d) sc Q (oe_V lim j (oe_M d) sc Q) i (pc + len) L S hp k n) : oe_V lim j (oe_M d) sc Q pc L S hp k n := by
  refine oe_V.step (oe_M_mono d) ?_
  unfold oe_st
  rw [hf]
  exact h
theorem s_iconst {lim : Nat × Nat} {j d : Nat} {sc : Option (Nat × (Nat → Int))} {Q : oeQ} {pc len : Nat} {L : List (Option oeV)} {S : List oeV} {sh : List (Nat × Nat)} {g : Nat → Nat → Option Nat} {h : Nat → Nat → Int} {k n : Nat} {v : Int} (hf : oe_find (oe_code j) pc = some (.iconst v, len)) (kk : oe_V lim j (oe_M d) sc Q (pc + len) L (.inl v :: S) (sh, g, h) k n) : oe_V lim j (oe_M d) sc Q pc L S (sh, g, h) k n := s_0 hf kk
theorem s_bipush {lim : Nat × Nat} {j d : Nat} {sc : Option (Nat × (Nat → Int))} {Q : oeQ} {pc len : Nat} {L : List (Option oeV)} {S : List oeV} {sh : List (Nat × Nat)} {g : Nat → Nat → Option Nat} {h : Nat → Nat → Int} {k n : Nat} {v : Int} (hf : oe_find (oe_code j) pc = some (.bipush v, len)) (kk : oe_V lim j (oe_M d) sc Q (pc + len) L (.inl v :: S) (sh, g, h) k n) : oe_V lim j (oe_M d) sc Q pc L S (sh, g, h) k n := s_0 hf kk
theorem s_sipush {lim : Nat × Nat} {j d : Nat} {sc : Option (Nat × (Nat → Int))} {Q : oeQ} {pc len : Nat} {L : List (Option oeV)} {S : List oeV} {sh : List (Nat × Nat)} {g : Nat → Nat → Option Nat} {h : Nat → Nat → Int} {k n : Nat} {v : Int} (hf : oe_find (oe_code j) pc = some (.sipush v, len)) (kk : oe_V lim j (oe_M d) sc Q (pc + len) L (.inl v :: S) (sh, g, h) k n) : oe_V lim j (oe_M d) sc Q pc L S (sh, g, h) k n := s_0 hf kk
theorem s_ldc {lim : Nat × Nat} {j d : Nat} {sc : Option (Nat × (Nat → Int))} {Q : oeQ} {pc len : Nat} {L : List (Option oeV)} {S : List oeV} {sh : List (Nat × Nat)} {g : Nat → Nat → Option Nat} {h : Nat → Nat → Int} {k n : Nat} {r : Nat} (hf : oe_find (oe_code j) pc = some (.ldc r, len)) (hr : r % 2 = 1) (kk : oe_V lim j (oe_M d) sc Q (pc + len) L (.inl (r / 2 : Nat) :: S) (sh, g, h) k n) : oe_V lim j (oe_M d) sc Q pc L S (sh, g, h) k n := s_0 hf (by unfold oe_ins; dsimp only; rw [if_pos hr]; exact kk)
theorem s_null {lim : Nat × Nat} {j d : Nat} {sc : Option (Nat × (Nat → Int))} {Q : oeQ} {pc len : Nat} {L : List (Option oeV)} {S : List oeV} {sh : List (Nat × Nat)} {g : Nat → Nat → Option Nat} {h : Nat → Nat → Int} {k n : Nat} (hf : oe_find (oe_code j) pc = some (.aconst_null, len)) (kk : oe_V lim j (oe_M d) sc Q (pc + len) L (.inr (.inr (1, 0)) :: S) (sh, g, h) k n) : oe_V lim j (oe_M d) sc Q pc L S (sh, g, h) k n := s_0 hf kk
theorem s_iload {lim : Nat × Nat} {j d : Nat} {sc : Option (Nat × (Nat → Int))} {Q : oeQ} {pc len : Nat} {L : List (Option oeV)} {S : List oeV} {sh : List (Nat × Nat)} {g : Nat → Nat → Option Nat} {h : Nat → Nat → Int} {k n : Nat} {i : Nat} {x : Int} (hf : oe_find (oe_code j) pc = some (.iload i, len)) (hl : L[i]? = some (some (.inl x))) (kk : oe_V lim j (oe_M d) sc Q (pc + len) L (.inl x :: S) (sh, g, h) k n) : oe_V lim j (oe_M d) sc Q pc L S (sh, g, h) k n := s_0 hf (by unfold oe_ins; dsimp only; rw [oe_lo_of hl]; exact kk)
theorem s_iload_n {lim : Nat × Nat} {j d : Nat} {sc : Option (Nat × (Nat → Int))} {Q : oeQ} {pc len : Nat} {L : List (Option oeV)} {S : List oeV} {sh : List (Nat × Nat)} {g : Nat → Nat → Option Nat} {h : Nat → Nat → Int} {k n : Nat} {i : Fin 4} {x : Int} (hf : oe_find (oe_code j) pc = some (.iload_n i, len)) (hl : L[(i : Nat)]? = some (some (.inl x))) (kk : oe_V lim j (oe_M d) sc Q (pc + len) L (.inl x :: S) (sh, g, h) k n) : oe_V lim j (oe_M d) sc Q pc L S (sh, g, h) k n := s_0 hf (by unfold oe_ins; dsimp only; rw [oe_lo_of hl]; exact kk)
theorem s_aload {lim : Nat × Nat} {j d : Nat} {sc : Option (Nat × (Nat → Int))} {Q : oeQ} {pc len : Nat} {L : List (Option oeV)} {S : List oeV} {sh : List (Nat × Nat)} {g : Nat → Nat → Option Nat} {h : Nat → Nat → Int} {k n : Nat} {i : Nat} {a : Nat} (hf : oe_find (oe_code j) pc = some (.aload i, len)) (hl : L[i]? = some (some (.inr (.inl a)))) (kk : oe_V lim j (oe_M d) sc Q (pc + len) L (.inr (.inl a) :: S) (sh, g, h) k n) : oe_V lim j (oe_M d) sc Q pc L S (sh, g, h) k n := s_0 hf (by unfold oe_ins; dsimp only; rw [oe_lo_of hl]; exact kk)
theorem s_aload_n {lim : Nat × Nat} {j d : Nat} {sc : Option (Nat × (Nat → Int))} {Q : oeQ} {pc len : Nat} {L : List (Option oeV)} {S : List oeV} {sh : List (Nat × Nat)} {g : Nat → Nat → Option Nat} {h : Nat → Nat → Int} {k n : Nat} {i : Fin 4} {a : Nat} (hf : oe_find (oe_code j) pc = some (.aload_n i, len)) (hl : L[(i : Nat)]? = some (some (.inr (.inl a)))) (kk : oe_V lim j (oe_M d) sc Q (pc + len) L (.inr (.inl a) :: S) (sh, g, h) k n) : oe_V lim j (oe_M d) sc Q pc L S (sh, g, h) k n := s_0 hf (by unfold oe_ins; dsimp only; rw [oe_lo_of hl]; exact kk)
theorem s_aload_s {lim : Nat × Nat} {j d : Nat} {sc : Option (Nat × (Nat → Int))} {Q : oeQ} {pc len : Nat} {L : List (Option oeV)} {S : List oeV} {sh : List (Nat × Nat)} {g : Nat → Nat → Option Nat} {h : Nat → Nat → Int} {k n : Nat} {i : Fin 4} {x : Int} (hf : oe_find (oe_code j) pc = some (.aload_n i, len)) (hl : L[(i : Nat)]? = some (some (.inr (.inr (3, x))))) (kk : oe_V lim j (oe_M d) sc Q (pc + len) L (.inr (.inr (3, x)) :: S) (sh, g, h) k n) : oe_V lim j (oe_M d) sc Q pc L S (sh, g, h) k n := s_0 hf (by unfold oe_ins; dsimp only; rw [oe_lo_of hl]; exact kk)
theorem s_istore {lim : Nat × Nat} {j d : Nat} {sc : Option (Nat × (Nat → Int))} {Q : oeQ} {pc len : Nat} {L : List (Option oeV)} {S : List oeV} {sh : List (Nat × Nat)} {g : Nat → Nat → Option Nat} {h : Nat → Nat → Int} {k n : Nat} {i : Nat} {x : Int} (hf : oe_find (oe_code j) pc = some (.istore i, len)) (kk : oe_V lim j (oe_M d) sc Q (pc + len) (L.set i (some (.inl x))) S (sh, g, h) k n) : oe_V lim j (oe_M d) sc Q pc L (.inl x :: S) (sh, g, h) k n := s_0 hf kk
theorem s_istore_n {lim : Nat × Nat} {j d : Nat} {sc : Option (Nat × (Nat → Int))} {Q : oeQ} {pc len : Nat} {L : List (Option oeV)} {S : List oeV} {sh : List (Nat × Nat)} {g : Nat → Nat → Option Nat} {h : Nat → Nat → Int} {k n : Nat} {i : Fin 4} {x : Int} (hf : oe_find (oe_code j) pc = some (.istore_n i, len)) (kk : oe_V lim j (oe_M d) sc Q (pc + len) (L.set (i : Nat) (some (.inl x))) S (sh, g, h) k n) : oe_V lim j (oe_M d) sc Q pc L (.inl x :: S) (sh, g, h) k n := s_0 hf kk
theorem s_astore {lim : Nat × Nat} {j d : Nat} {sc : Option (Nat × (Nat → Int))} {Q : oeQ} {pc len : Nat} {L : List (Option oeV)} {S : List oeV} {sh : List (Nat × Nat)} {g : Nat → Nat → Option Nat} {h : Nat → Nat → Int} {k n : Nat} {i : Nat} {a : Nat} (hf : oe_find (oe_code j) pc = some (.astore i, len)) (kk : oe_V lim j (oe_M d) sc Q (pc + len) (L.set i (some (.inr (.inl a)))) S (sh, g, h) k n) : oe_V lim j (oe_M d) sc Q pc L (.inr (.inl a) :: S) (sh, g, h) k n := s_0 hf kk
theorem s_astore_n {lim : Nat × Nat} {j d : Nat} {sc : Option (Nat × (Nat → Int))} {Q : oeQ} {pc len : Nat} {L : List (Option oeV)} {S : List oeV} {sh : List (Nat × Nat)} {g : Nat → Nat → Option Nat} {h : Nat → Nat → Int} {k n : Nat} {i : Fin 4} {a : Nat} (hf : oe_find (oe_code j) pc = some (.astore_n i, len)) (kk : oe_V lim j (oe_M d) sc Q (pc + len) (L.set (i : Nat) (some (.inr (.inl a)))) S (sh, g, h) k n) : oe_V lim j (oe_M d) sc Q pc L (.inr (.inl a) :: S) (sh, g, h) k n := s_0 hf kk
theorem s_iinc {lim : Nat × Nat} {j d : Nat} {sc : Option (Nat × (Nat → Int))} {Q : oeQ} {pc len : Nat} {L : List (Option oeV)} {S : List oeV} {sh : List (Nat × Nat)} {g : Nat → Nat → Option Nat} {h : Nat → Nat → Int} {k n : Nat} {i : Nat} {x v : Int} (hf : oe_find (oe_code j) pc = some (.iinc i v, len)) (hl : L[i]? = some (some (.inl x))) (hr : oe_rg (x + v)) (kk : oe_V lim j (oe_M d) sc Q (pc + len) (L.set i (some (.inl (x + v)))) S (sh, g, h) k n) : oe_V lim j (oe_M d) sc Q pc L S (sh, g, h) k n := s_0 hf (by unfold oe_ins; dsimp only; rw [oe_lo_of hl]; exact ⟨hr, kk⟩)
theorem s_iadd {lim : Nat × Nat} {j d : Nat} {sc : Option (Nat × (Nat → Int))} {Q : oeQ} {pc len : Nat} {L : List (Option oeV)} {S : List oeV} {sh : List (Nat × Nat)} {g : Nat → Nat → Option Nat} {h : Nat → Nat → Int} {k n : Nat} {x y : Int} (hf : oe_find (oe_code j) pc = some (.iadd, len)) (hr : oe_rg (x + y)) (kk : oe_V lim j (oe_M d) sc Q (pc + len) L (.inl (x + y) :: S) (sh, g, h) k n) : oe_V lim j (oe_M d) sc Q pc L (.inl y :: .inl x :: S) (sh, g, h) k n := s_0 hf ⟨hr, kk⟩
theorem s_isub {lim : Nat × Nat} {j d : Nat} {sc : Option (Nat × (Nat → Int))} {Q : oeQ} {pc len : Nat} {L : List (Option oeV)} {S : List oeV} {sh : List (Nat × Nat)} {g : Nat → Nat → Option Nat} {h : Nat → Nat → Int} {k n : Nat} {x y : Int} (hf : oe_find (oe_code j) pc = some (.isub, len)) (hr : oe_rg (x - y)) (kk : oe_V lim j (oe_M d) sc Q (pc + len) L (.inl (x - y) :: S) (sh, g, h) k n) : oe_V lim j (oe_M d) sc Q pc L (.inl y :: .inl x :: S) (sh, g, h) k n := s_0 hf ⟨hr, kk⟩
theorem s_imul {lim : Nat × Nat} {j d : Nat} {sc : Option (Nat × (Nat → Int))} {Q : oeQ} {pc len : Nat} {L : List (Option oeV)} {S : List oeV} {sh : List (Nat × Nat)} {g : Nat → Nat → Option Nat} {h : Nat → Nat → Int} {k n : Nat} {x y : Int} (hf : oe_find (oe_code j) pc = some (.imul, len)) (hr : oe_rg (x * y)) (kk : oe_V lim j (oe_M d) sc Q (pc + len) L (.inl (x * y) :: S) (sh, g, h) k n) : oe_V lim j (oe_M d) sc Q pc L (.inl y :: .inl x :: S) (sh, g, h) k n := s_0 hf ⟨hr, kk⟩
theorem s_idiv {lim : Nat × Nat} {j d : Nat} {sc : Option (Nat × (Nat → Int))} {Q : oeQ} {pc len : Nat} {L : List (Option oeV)} {S : List oeV} {sh : List (Nat × Nat)} {g : Nat → Nat → Option Nat} {h : Nat → Nat → Int} {k n : Nat} {x y : Int} (hf : oe_find (oe_code j) pc = some (.idiv, len)) (h0 : 0 ≤ x) (h1 : 0 < y) (kk : oe_V lim j (oe_M d) sc Q (pc + len) L (.inl (x / y) :: S) (sh, g, h) k n) : oe_V lim j (oe_M d) sc Q pc L (.inl y :: .inl x :: S) (sh, g, h) k n := s_0 hf ⟨h0, h1, kk⟩
theorem s_irem {lim : Nat × Nat} {j d : Nat} {sc : Option (Nat × (Nat → Int))} {Q : oeQ} {pc len : Nat} {L : List (Option oeV)} {S : List oeV} {sh : List (Nat × Nat)} {g : Nat → Nat → Option Nat} {h : Nat → Nat → Int} {k n : Nat} {x y : Int} (hf : oe_find (oe_code j) pc = some (.irem, len)) (h0 : 0 ≤ x) (h1 : 0 < y) (kk : oe_V lim j (oe_M d) sc Q (pc + len) L (.inl (x % y) :: S) (sh, g, h) k n) : oe_V lim j (oe_M d) sc Q pc L (.inl y :: .inl x :: S) (sh, g, h) k n := s_0 hf ⟨h0, h1, kk⟩
theorem s_iand {lim : Nat × Nat} {j d : Nat} {sc : Option (Nat × (Nat → Int))} {Q : oeQ} {pc len : Nat} {L : List (Option oeV)} {S : List oeV} {sh : List (Nat × Nat)} {g : Nat → Nat → Option Nat} {h : Nat → Nat → Int} {k n : Nat} {x : Int} (hf : oe_find (oe_code j) pc = some (.iand, len)) (kk : oe_V lim j (oe_M d) sc Q (pc + len) L (.inl (x % 16) :: S) (sh, g, h) k n) : oe_V lim j (oe_M d) sc Q pc L (.inl 15 :: .inl x :: S) (sh, g, h) k n := s_0 hf ⟨rfl, kk⟩
theorem s_i2c {lim : Nat × Nat} {j d : Nat} {sc : Option (Nat × (Nat → Int))} {Q : oeQ} {pc len : Nat} {L : List (Option oeV)} {S : List oeV} {sh : List (Nat × Nat)} {g : Nat → Nat → Option Nat} {h : Nat → Nat → Int} {k n : Nat} {x : Int} (hf : oe_find (oe_code j) pc = some (.i2c, len)) (kk : oe_V lim j (oe_M d) sc Q (pc + len) L (.inl (x % 65536) :: S) (sh, g, h) k n) : oe_V lim j (oe_M d) sc Q pc L (.inl x :: S) (sh, g, h) k n := s_0 hf kk
theorem s_i2l {lim : Nat × Nat} {j d : Nat} {sc : Option (Nat × (Nat → Int))} {Q : oeQ} {pc len : Nat} {L : List (Option oeV)} {S : List oeV} {sh : List (Nat × Nat)} {g : Nat → Nat → Option Nat} {h : Nat → Nat → Int} {k n : Nat} {x : Int} (hf : oe_find (oe_code j) pc = some (.i2l, len)) (kk : oe_V lim j (oe_M d) sc Q (pc + len) L (.inr (.inr (0, x)) :: S) (sh, g, h) k n) : oe_V lim j (oe_M d) sc Q pc L (.inl x :: S) (sh, g, h) k n := s_0 hf kk
theorem s_lcmp {lim : Nat × Nat} {j d : Nat} {sc : Option (Nat × (Nat → Int))} {Q : oeQ} {pc len : Nat} {L : List (Option oeV)} {S : List oeV} {sh : List (Nat × Nat)} {g : Nat → Nat → Option Nat} {h : Nat → Nat → Int} {k n : Nat} {x y : Int} (hf : oe_find (oe_code j) pc = some (.lcmp, len)) (kk : oe_V lim j (oe_M d) sc Q (pc + len) L (.inl (if y < x then 1 else if x = y then 0 else -1) :: S) (sh, g, h) k n) : oe_V lim j (oe_M d) sc Q pc L (.inr (.inr (0, y)) :: .inr (.inr (0, x)) :: S) (sh, g, h) k n := s_0 hf kk
theorem s_dup {lim : Nat × Nat} {j d : Nat} {sc : Option (Nat × (Nat → Int))} {Q : oeQ} {pc len : Nat} {L : List (Option oeV)} {S : List oeV} {sh : List (Nat × Nat)} {g : Nat → Nat → Option Nat} {h : Nat → Nat → Int} {k n : Nat} {v : oeV} (hf : oe_find (oe_code j) pc = some (.dup, len)) (hv : oe_c1 v) (kk : oe_V lim j (oe_M d) sc Q (pc + len) L (v :: v :: S) (sh, g, h) k n) : oe_V lim j (oe_M d) sc Q pc L (v :: S) (sh, g, h) k n := s_0 hf ⟨hv, kk⟩
theorem s_dup2 {lim : Nat × Nat} {j d : Nat} {sc : Option (Nat × (Nat → Int))} {Q : oeQ} {pc len : Nat} {L : List (Option oeV)} {S : List oeV} {sh : List (Nat × Nat)} {g : Nat → Nat → Option Nat} {h : Nat → Nat → Int} {k n : Nat} {v w : oeV} (hf : oe_find (oe_code j) pc = some (.dup2, len)) (hv : oe_c1 v) (hw : oe_c1 w) (kk : oe_V lim j (oe_M d) sc Q (pc + len) L (v :: w :: v :: w :: S) (sh, g, h) k n) : oe_V lim j (oe_M d) sc Q pc L (v :: w :: S) (sh, g, h) k n := s_0 hf ⟨hv, hw, kk⟩
theorem s_pop {lim : Nat × Nat} {j d : Nat} {sc : Option (Nat × (Nat → Int))} {Q : oeQ} {pc len : Nat} {L : List (Option oeV)} {S : List oeV} {sh : List (Nat × Nat)} {g : Nat → Nat → Option Nat} {h : Nat → Nat → Int} {k n : Nat} {v : oeV} (hf : oe_find (oe_code j) pc = some (.pop, len)) (hv : oe_c1 v) (kk : oe_V lim j (oe_M d) sc Q (pc + len) L S (sh, g, h) k n) : oe_V lim j (oe_M d) sc Q pc L (v :: S) (sh, g, h) k n := s_0 hf ⟨hv, kk⟩
theorem s_if_eq {lim : Nat × Nat} {j d : Nat} {sc : Option (Nat × (Nat → Int))} {Q : oeQ} {pc len : Nat} {L : List (Option oeV)} {S : List oeV} {sh : List (Nat × Nat)} {g : Nat → Nat → Option Nat} {h : Nat → Nat → Int} {k n : Nat} {x t : Int} (hf : oe_find (oe_code j) pc = some (.ifCond .eq t, len)) (kt : x = 0 → oe_V lim j (oe_M d) sc Q t.toNat L S (sh, g, h) k n) (kf : x ≠ 0 → oe_V lim j (oe_M d) sc Q (pc + len) L S (sh, g, h) k n) : oe_V lim j (oe_M d) sc Q pc L (.inl x :: S) (sh, g, h) k n := s_0 hf ⟨kt, kf⟩
theorem s_ic_eq {lim : Nat × Nat} {j d : Nat} {sc : Option (Nat × (Nat → Int))} {Q : oeQ} {pc len : Nat} {L : List (Option oeV)} {S : List oeV} {sh : List (Nat × Nat)} {g : Nat → Nat → Option Nat} {h : Nat → Nat → Int} {k n : Nat} {x y t : Int} (hf : oe_find (oe_code j) pc = some (.if_icmp .eq t, len)) (kt : x = y → oe_V lim j (oe_M d) sc Q t.toNat L S (sh, g, h) k n) (kf : x ≠ y → oe_V lim j (oe_M d) sc Q (pc + len) L S (sh, g, h) k n) : oe_V lim j (oe_M d) sc Q pc L (.inl y :: .inl x :: S) (sh, g, h) k n := s_0 hf ⟨kt, kf⟩
theorem s_if_ne {lim : Nat × Nat} {j d : Nat} {sc : Option (Nat × (Nat → Int))} {Q : oeQ} {pc len : Nat} {L : List (Option oeV)} {S : List oeV} {sh : List (Nat × Nat)} {g : Nat → Nat → Option Nat} {h : Nat → Nat → Int} {k n : Nat} {x t : Int} (hf : oe_find (oe_code j) pc = some (.ifCond .ne t, len)) (kt : x ≠ 0 → oe_V lim j (oe_M d) sc Q t.toNat L S (sh, g, h) k n) (kf : x = 0 → oe_V lim j (oe_M d) sc Q (pc + len) L S (sh, g, h) k n) : oe_V lim j (oe_M d) sc Q pc L (.inl x :: S) (sh, g, h) k n := s_0 hf ⟨kt, kf⟩
theorem s_ic_ne {lim : Nat × Nat} {j d : Nat} {sc : Option (Nat × (Nat → Int))} {Q : oeQ} {pc len : Nat} {L : List (Option oeV)} {S : List oeV} {sh : List (Nat × Nat)} {g : Nat → Nat → Option Nat} {h : Nat → Nat → Int} {k n : Nat} {x y t : Int} (hf : oe_find (oe_code j) pc = some (.if_icmp .ne t, len)) (kt : x ≠ y → oe_V lim j (oe_M d) sc Q t.toNat L S (sh, g, h) k n) (kf : x = y → oe_V lim j (oe_M d) sc Q (pc + len) L S (sh, g, h) k n) : oe_V lim j (oe_M d) sc Q pc L (.inl y :: .inl x :: S) (sh, g, h) k n := s_0 hf ⟨kt, kf⟩
theorem s_if_lt {lim : Nat × Nat} {j d : Nat} {sc : Option (Nat × (Nat → Int))} {Q : oeQ} {pc len : Nat} {L : List (Option oeV)} {S : List oeV} {sh : List (Nat × Nat)} {g : Nat → Nat → Option Nat} {h : Nat → Nat → Int} {k n : Nat} {x t : Int} (hf : oe_find (oe_code j) pc = some (.ifCond .lt t, len)) (kt : x < 0 → oe_V lim j (oe_M d) sc Q t.toNat L S (sh, g, h) k n) (kf : 0 ≤ x → oe_V lim j (oe_M d) sc Q (pc + len) L S (sh, g, h) k n) : oe_V lim j (oe_M d) sc Q pc L (.inl x :: S) (sh, g, h) k n := s_0 hf ⟨kt, kf⟩
theorem s_ic_lt {lim : Nat × Nat} {j d : Nat} {sc : Option (Nat × (Nat → Int))} {Q : oeQ} {pc len : Nat} {L : List (Option oeV)} {S : List oeV} {sh : List (Nat × Nat)} {g : Nat → Nat → Option Nat} {h : Nat → Nat → Int} {k n : Nat} {x y t : Int} (hf : oe_find (oe_code j) pc = some (.if_icmp .lt t, len)) (kt : x < y → oe_V lim j (oe_M d) sc Q t.toNat L S (sh, g, h) k n) (kf : y ≤ x → oe_V lim j (oe_M d) sc Q (pc + len) L S (sh, g, h) k n) : oe_V lim j (oe_M d) sc Q pc L (.inl y :: .inl x :: S) (sh, g, h) k n := s_0 hf ⟨kt, kf⟩
theorem s_if_ge {lim : Nat × Nat} {j d : Nat} {sc : Option (Nat × (Nat → Int))} {Q : oeQ} {pc len : Nat} {L : List (Option oeV)} {S : List oeV} {sh : List (Nat × Nat)} {g : Nat → Nat → Option Nat} {h : Nat → Nat → Int} {k n : Nat} {x t : Int} (hf : oe_find (oe_code j) pc = some (.ifCond .ge t, len)) (kt : 0 ≤ x → oe_V lim j (oe_M d) sc Q t.toNat L S (sh, g, h) k n) (kf : x < 0 → oe_V lim j (oe_M d) sc Q (pc + len) L S (sh, g, h) k n) : oe_V lim j (oe_M d) sc Q pc L (.inl x :: S) (sh, g, h) k n := s_0 hf ⟨kt, kf⟩
theorem s_ic_ge {lim : Nat × Nat} {j d : Nat} {sc : Option (Nat × (Nat → Int))} {Q : oeQ} {pc len : Nat} {L : List (Option oeV)} {S : List oeV} {sh : List (Nat × Nat)} {g : Nat → Nat → Option Nat} {h : Nat → Nat → Int} {k n : Nat} {x y t : Int} (hf : oe_find (oe_code j) pc = some (.if_icmp .ge t, len)) (kt : y ≤ x → oe_V lim j (oe_M d) sc Q t.toNat L S (sh, g, h) k n) (kf : x < y → oe_V lim j (oe_M d) sc Q (pc + len) L S (sh, g, h) k n) : oe_V lim j (oe_M d) sc Q pc L (.inl y :: .inl x :: S) (sh, g, h) k n := s_0 hf ⟨kt, kf⟩
theorem s_if_gt {lim : Nat × Nat} {j d : Nat} {sc : Option (Nat × (Nat → Int))} {Q : oeQ} {pc len : Nat} {L : List (Option oeV)} {S : List oeV} {sh : List (Nat × Nat)} {g : Nat → Nat → Option Nat} {h : Nat → Nat → Int} {k n : Nat} {x t : Int} (hf : oe_find (oe_code j) pc = some (.ifCond .gt t, len)) (kt : 0 < x → oe_V lim j (oe_M d) sc Q t.toNat L S (sh, g, h) k n) (kf : x ≤ 0 → oe_V lim j (oe_M d) sc Q (pc + len) L S (sh, g, h) k n) : oe_V lim j (oe_M d) sc Q pc L (.inl x :: S) (sh, g, h) k n := s_0 hf ⟨kt, kf⟩
theorem s_ic_gt {lim : Nat × Nat} {j d : Nat} {sc : Option (Nat × (Nat → Int))} {Q : oeQ} {pc len : Nat} {L : List (Option oeV)} {S : List oeV} {sh : List (Nat × Nat)} {g : Nat → Nat → Option Nat} {h : Nat → Nat → Int} {k n : Nat} {x y t : Int} (hf : oe_find (oe_code j) pc = some (.if_icmp .gt t, len)) (kt : y < x → oe_V lim j (oe_M d) sc Q t.toNat L S (sh, g, h) k n) (kf : x ≤ y → oe_V lim j (oe_M d) sc Q (pc + len) L S (sh, g, h) k n) : oe_V lim j (oe_M d) sc Q pc L (.inl y :: .inl x :: S) (sh, g, h) k n := s_0 hf ⟨kt, kf⟩
theorem s_if_le {lim : Nat × Nat} {j d : Nat} {sc : Option (Nat × (Nat → Int))} {Q : oeQ} {pc len : Nat} {L : List (Option oeV)} {S : List oeV} {sh : List (Nat × Nat)} {g : Nat → Nat → Option Nat} {h : Nat → Nat → Int} {k n : Nat} {x t : Int} (hf : oe_find (oe_code j) pc = some (.ifCond .le t, len)) (kt : x ≤ 0 → oe_V lim j (oe_M d) sc Q t.toNat L S (sh, g, h) k n) (kf : 0 < x → oe_V lim j (oe_M d) sc Q (pc + len) L S (sh, g, h) k n) : oe_V lim j (oe_M d) sc Q pc L (.inl x :: S) (sh, g, h) k n := s_0 hf ⟨kt, kf⟩
theorem s_ic_le {lim : Nat × Nat} {j d : Nat} {sc : Option (Nat × (Nat → Int))} {Q : oeQ} {pc len : Nat} {L : List (Option oeV)} {S : List oeV} {sh : List (Nat × Nat)} {g : Nat → Nat → Option Nat} {h : Nat → Nat → Int} {k n : Nat} {x y t : Int} (hf : oe_find (oe_code j) pc = some (.if_icmp .le t, len)) (kt : x ≤ y → oe_V lim j (oe_M d) sc Q t.toNat L S (sh, g, h) k n) (kf : y < x → oe_V lim j (oe_M d) sc Q (pc + len) L S (sh, g, h) k n) : oe_V lim j (oe_M d) sc Q pc L (.inl y :: .inl x :: S) (sh, g, h) k n := s_0 hf ⟨kt, kf⟩
theorem s_nn_r {lim : Nat × Nat} {j d : Nat} {sc : Option (Nat × (Nat → Int))} {Q : oeQ} {pc len : Nat} {L : List (Option oeV)} {S : List oeV} {sh : List (Nat × Nat)} {g : Nat → Nat → Option Nat} {h : Nat → Nat → Int} {k n : Nat} {t : Int} {a : Nat} (hf : oe_find (oe_code j) pc = some (.ifnonnull t, len)) (kk : oe_V lim j (oe_M d) sc Q t.toNat L S (sh, g, h) k n) : oe_V lim j (oe_M d) sc Q pc L (.inr (.inl a) :: S) (sh, g, h) k n := s_0 hf kk
theorem s_goto {lim : Nat × Nat} {j d : Nat} {sc : Option (Nat × (Nat → Int))} {Q : oeQ} {pc len : Nat} {L : List (Option oeV)} {S : List oeV} {sh : List (Nat × Nat)} {g : Nat → Nat → Option Nat} {h : Nat → Nat → Int} {k n : Nat} {t : Int} (hf : oe_find (oe_code j) pc = some (.goto t, len)) (kk : oe_V lim j (oe_M d) sc Q t.toNat L S (sh, g, h) k n) : oe_V lim j (oe_M d) sc Q pc L S (sh, g, h) k n := s_0 hf kk
theorem s_getr {lim : Nat × Nat} {j d : Nat} {sc : Option (Nat × (Nat → Int))} {Q : oeQ} {pc len : Nat} {L : List (Option oeV)} {S : List oeV} {sh : List (Nat × Nat)} {g : Nat → Nat → Option Nat} {h : Nat → Nat → Int} {k n : Nat} {r a u N q : Nat} (hf : oe_find (oe_code j) pc = some (.getfield r, len)) (hs : sh[a]? = some (u, N)) (hu : u = r / 1000 + 5) (hr : r % 10 = 1) (hg : g a (r / 10 % 100) = some q) (kk : oe_V lim j (oe_M d) sc Q (pc + len) L (.inr (.inl q) :: S) (sh, g, h) k n) : oe_V lim j (oe_M d) sc Q pc L (.inr (.inl a) :: S) (sh, g, h) k n := s_0 hf (by unfold oe_ins; dsimp only; unfold oe_r1; dsimp only; unfold oe_gf; dsimp only; rw [oe_sh_of hs, if_pos hr, hg]; exact ⟨hu, kk⟩)
theorem s_geti {lim : Nat × Nat} {j d : Nat} {sc : Option (Nat × (Nat → Int))} {Q : oeQ} {pc len : Nat} {L : List (Option oeV)} {S : List oeV} {sh : List (Nat × Nat)} {g : Nat → Nat → Option Nat} {h : Nat → Nat → Int} {k n : Nat} {r a u N : Nat} (hf : oe_find (oe_code j) pc = some (.getfield r, len)) (hs : sh[a]? = some (u, N)) (hu : u = r / 1000 + 5) (hr : r % 10 ≠ 1) (kk : oe_V lim j (oe_M d) sc Q (pc + len) L (.inl (h a (r / 10 % 100)) :: S) (sh, g, h) k n) : oe_V lim j (oe_M d) sc Q pc L (.inr (.inl a) :: S) (sh, g, h) k n := s_0 hf (by unfold oe_ins; dsimp only; unfold oe_r1; dsimp only; unfold oe_gf; dsimp only; rw [oe_sh_of hs, if_neg hr]; exact ⟨hu, kk⟩)
theorem s_puti {lim : Nat × Nat} {j d : Nat} {sc : Option (Nat × (Nat → Int))} {Q : oeQ} {pc len : Nat} {L : List (Option oeV)} {S : List oeV} {sh : List (Nat × Nat)} {g : Nat → Nat → Option Nat} {h : Nat → Nat → Int} {k n : Nat} {r a u N : Nat} {v : Int} (hf : oe_find (oe_code j) pc = some (.putfield r, len)) (hs : sh[a]? = some (u, N)) (hu : u = r / 1000 + 5) (hr : r % 10 = 0 ∨ (r % 10 = 2 ∧ (v = 0 ∨ v = 1))) (kk : oe_V lim j (oe_M d) sc Q (pc + len) L S (sh, g, oe_up h a (r / 10 % 100) v) k n) : oe_V lim j (oe_M d) sc Q pc L (.inl v :: .inr (.inl a) :: S) (sh, g, h) k n := s_0 hf (by unfold oe_ins; dsimp only; unfold oe_pf; dsimp only; rw [oe_sh_of hs]; exact ⟨hu, hr, kk⟩)
theorem s_iaload {lim : Nat × Nat} {j d : Nat} {sc : Option (Nat × (Nat → Int))} {Q : oeQ} {pc len : Nat} {L : List (Option oeV)} {S : List oeV} {sh : List (Nat × Nat)} {g : Nat → Nat → Option Nat} {h : Nat → Nat → Int} {k n : Nat} {a N : Nat} {i : Int} (hf : oe_find (oe_code j) pc = some (.iaload, len)) (hs : sh[a]? = some (0, N)) (h0 : 0 ≤ i) (h1 : i < N) (kk : oe_V lim j (oe_M d) sc Q (pc + len) L (.inl (h a i.toNat) :: S) (sh, g, h) k n) : oe_V lim j (oe_M d) sc Q pc L (.inl i :: .inr (.inl a) :: S) (sh, g, h) k n := s_0 hf (by unfold oe_ins; dsimp only; unfold oe_ald oe_ir; dsimp only; rw [oe_sh_of hs]; exact ⟨rfl, h0, h1, kk⟩)
theorem s_caload {lim : Nat × Nat} {j d : Nat} {sc : Option (Nat × (Nat → Int))} {Q : oeQ} {pc len : Nat} {L : List (Option oeV)} {S : List oeV} {sh : List (Nat × Nat)} {g : Nat → Nat → Option Nat} {h : Nat → Nat → Int} {k n : Nat} {a N : Nat} {i : Int} (hf : oe_find (oe_code j) pc = some (.caload, len)) (hs : sh[a]? = some (1, N)) (h0 : 0 ≤ i) (h1 : i < N) (kk : oe_V lim j (oe_M d) sc Q (pc + len) L (.inl (h a i.toNat) :: S) (sh, g, h) k n) : oe_V lim j (oe_M d) sc Q pc L (.inl i :: .inr (.inl a) :: S) (sh, g, h) k n := s_0 hf (by unfold oe_ins; dsimp only; unfold oe_ald oe_ir; dsimp only; rw [oe_sh_of hs]; exact ⟨rfl, h0, h1, kk⟩)
theorem s_baload {lim : Nat × Nat} {j d : Nat} {sc : Option (Nat × (Nat → Int))} {Q : oeQ} {pc len : Nat} {L : List (Option oeV)} {S : List oeV} {sh : List (Nat × Nat)} {g : Nat → Nat → Option Nat} {h : Nat → Nat → Int} {k n : Nat} {a N : Nat} {i : Int} (hf : oe_find (oe_code j) pc = some (.baload, len)) (hs : sh[a]? = some (2, N)) (h0 : 0 ≤ i) (h1 : i < N) (kk : oe_V lim j (oe_M d) sc Q (pc + len) L (.inl (h a i.toNat) :: S) (sh, g, h) k n) : oe_V lim j (oe_M d) sc Q pc L (.inl i :: .inr (.inl a) :: S) (sh, g, h) k n := s_0 hf (by unfold oe_ins; dsimp only; unfold oe_ald oe_ir; dsimp only; rw [oe_sh_of hs]; exact ⟨rfl, h0, h1, kk⟩)
theorem s_aaload {lim : Nat × Nat} {j d : Nat} {sc : Option (Nat × (Nat → Int))} {Q : oeQ} {pc len : Nat} {L : List (Option oeV)} {S : List oeV} {sh : List (Nat × Nat)} {g : Nat → Nat → Option Nat} {h : Nat → Nat → Int} {k n : Nat} {a N q : Nat} {i : Int} (hf : oe_find (oe_code j) pc = some (.aaload, len)) (hs : sh[a]? = some (4, N)) (h0 : 0 ≤ i) (h1 : i < N) (hg : g a i.toNat = some q) (kk : oe_V lim j (oe_M d) sc Q (pc + len) L (.inr (.inl q) :: S) (sh, g, h) k n) : oe_V lim j (oe_M d) sc Q pc L (.inl i :: .inr (.inl a) :: S) (sh, g, h) k n := s_0 hf (by unfold oe_ins; dsimp only; unfold oe_ald oe_ir; dsimp only; rw [oe_sh_of hs]; refine ⟨rfl, h0, h1, ?_⟩; rw [hg]; exact kk)
theorem s_laload {lim : Nat × Nat} {j d : Nat} {sc : Option (Nat × (Nat → Int))} {Q : oeQ} {pc len : Nat} {L : List (Option oeV)} {S : List oeV} {sh : List (Nat × Nat)} {g : Nat → Nat → Option Nat} {h : Nat → Nat → Int} {k n : Nat} {a N : Nat} {i : Int} (hf : oe_find (oe_code j) pc = some (.laload, len)) (hs : sh[a]? = some (3, N)) (h0 : 0 ≤ i) (h1 : i < N) (kk : oe_V lim j (oe_M d) sc Q (pc + len) L (.inr (.inr (0, h a i.toNat)) :: S) (sh, g, h) k n) : oe_V lim j (oe_M d) sc Q pc L (.inl i :: .inr (.inl a) :: S) (sh, g, h) k n := s_0 hf (by unfold oe_ins; dsimp only; unfold oe_ald oe_ir; dsimp only; rw [oe_sh_of hs]; exact ⟨rfl, h0, h1, kk⟩)
theorem s_iastore {lim : Nat × Nat} {j d : Nat} {sc : Option (Nat × (Nat → Int))} {Q : oeQ} {pc len : Nat} {L : List (Option oeV)} {S : List oeV} {sh : List (Nat × Nat)} {g : Nat → Nat → Option Nat} {h : Nat → Nat → Int} {k n : Nat} {a N : Nat} {i v : Int} (hf : oe_find (oe_code j) pc = some (.iastore, len)) (hs : sh[a]? = some (0, N)) (h0 : 0 ≤ i) (h1 : i < N) (kk : oe_V lim j (oe_M d) sc Q (pc + len) L S (sh, g, oe_up h a i.toNat v) k n) : oe_V lim j (oe_M d) sc Q pc L (.inl v :: .inl i :: .inr (.inl a) :: S) (sh, g, h) k n := s_0 hf (by unfold oe_ins; dsimp only; unfold oe_ast oe_iir; dsimp only; rw [oe_sh_of hs]; exact ⟨rfl, h0, h1, kk⟩)
theorem s_castore {lim : Nat × Nat} {j d : Nat} {sc : Option (Nat × (Nat → Int))} {Q : oeQ} {pc len : Nat} {L : List (Option oeV)} {S : List oeV} {sh : List (Nat × Nat)} {g : Nat → Nat → Option Nat} {h : Nat → Nat → Int} {k n : Nat} {a N : Nat} {i v : Int} (hf : oe_find (oe_code j) pc = some (.castore, len)) (hs : sh[a]? = some (1, N)) (h0 : 0 ≤ i) (h1 : i < N) (h2 : 0 ≤ v) (h3 : v < 65536) (kk : oe_V lim j (oe_M d) sc Q (pc + len) L S (sh, g, oe_up h a i.toNat v) k n) : oe_V lim j (oe_M d) sc Q pc L (.inl v :: .inl i :: .inr (.inl a) :: S) (sh, g, h) k n := s_0 hf (by unfold oe_ins; dsimp only; unfold oe_ast oe_iir; dsimp only; rw [oe_sh_of hs]; exact ⟨rfl, h0, h1, h2, h3, kk⟩)
theorem s_bastore {lim : Nat × Nat} {j d : Nat} {sc : Option (Nat × (Nat → Int))} {Q : oeQ} {pc len : Nat} {L : List (Option oeV)} {S : List oeV} {sh : List (Nat × Nat)} {g : Nat → Nat → Option Nat} {h : Nat → Nat → Int} {k n : Nat} {a N : Nat} {i v : Int} (hf : oe_find (oe_code j) pc = some (.bastore, len)) (hs : sh[a]? = some (2, N)) (h0 : 0 ≤ i) (h1 : i < N) (h2 : v = 0 ∨ v = 1) (kk : oe_V lim j (oe_M d) sc Q (pc + len) L S (sh, g, oe_up h a i.toNat v) k n) : oe_V lim j (oe_M d) sc Q pc L (.inl v :: .inl i :: .inr (.inl a) :: S) (sh, g, h) k n := s_0 hf (by unfold oe_ins; dsimp only; unfold oe_ast oe_iir; dsimp only; rw [oe_sh_of hs]; exact ⟨rfl, h0, h1, h2, kk⟩)
theorem s_lastore {lim : Nat × Nat} {j d : Nat} {sc : Option (Nat × (Nat → Int))} {Q : oeQ} {pc len : Nat} {L : List (Option oeV)} {S : List oeV} {sh : List (Nat × Nat)} {g : Nat → Nat → Option Nat} {h : Nat → Nat → Int} {k n : Nat} {a N : Nat} {i v : Int} (hf : oe_find (oe_code j) pc = some (.lastore, len)) (hs : sh[a]? = some (3, N)) (h0 : 0 ≤ i) (h1 : i < N) (kk : oe_V lim j (oe_M d) sc Q (pc + len) L S (sh, g, oe_up h a i.toNat v) k n) : oe_V lim j (oe_M d) sc Q pc L (.inr (.inr (0, v)) :: .inl i :: .inr (.inl a) :: S) (sh, g, h) k n := s_0 hf (by unfold oe_ins; dsimp only; unfold oe_lir; show oe_sh sh a _; rw [oe_sh_of hs]; exact ⟨rfl, h0, h1, kk⟩)
theorem s_aastore {lim : Nat × Nat} {j d : Nat} {sc : Option (Nat × (Nat → Int))} {Q : oeQ} {pc len : Nat} {L : List (Option oeV)} {S : List oeV} {sh : List (Nat × Nat)} {g : Nat → Nat → Option Nat} {h : Nat → Nat → Int} {k n : Nat} {a N v M : Nat} {i : Int} (hf : oe_find (oe_code j) pc = some (.aastore, len)) (hv : sh[v]? = some (oe_eqc + 5, M)) (hs : sh[a]? = some (4, N)) (h0 : 0 ≤ i) (h1 : i < N) (kk : oe_V lim j (oe_M d) sc Q (pc + len) L S (sh, oe_up g a i.toNat (some v), h) k n) : oe_V lim j (oe_M d) sc Q pc L (.inr (.inl v) :: .inl i :: .inr (.inl a) :: S) (sh, g, h) k n := s_0 hf (by unfold oe_ins; dsimp only; unfold oe_rir; dsimp only; rw [oe_sh_of hs, oe_sh_of hv]; exact ⟨rfl, rfl, h0, h1, kk⟩)
theorem s_alen {lim : Nat × Nat} {j d : Nat} {sc : Option (Nat × (Nat → Int))} {Q : oeQ} {pc len : Nat} {L : List (Option oeV)} {S : List oeV} {sh : List (Nat × Nat)} {g : Nat → Nat → Option Nat} {h : Nat → Nat → Int} {k n : Nat} {a u N : Nat} (hf : oe_find (oe_code j) pc = some (.arraylength, len)) (hs : sh[a]? = some (u, N)) (hu : u ≤ 4) (kk : oe_V lim j (oe_M d) sc Q (pc + len) L (.inl (N : Nat) :: S) (sh, g, h) k n) : oe_V lim j (oe_M d) sc Q pc L (.inr (.inl a) :: S) (sh, g, h) k n := s_0 hf (by unfold oe_ins; dsimp only; unfold oe_r1; dsimp only; rw [oe_sh_of hs]; exact ⟨hu, kk⟩)
theorem s_copy {lim : Nat × Nat} {j d : Nat} {sc : Option (Nat × (Nat → Int))} {Q : oeQ} {pc len : Nat} {L : List (Option oeV)} {S : List oeV} {sh : List (Nat × Nat)} {g : Nat → Nat → Option Nat} {h : Nat → Nat → Int} {k n : Nat} {r a b na nb : Nat} {sp dp c : Int} (hf : oe_find (oe_code j) pc = some (.invokestatic r, len)) (hr : r / 1000 = 1) (ha : sh[a]? = some (0, na)) (hb : sh[b]? = some (0, nb)) (h0 : 0 ≤ c) (h1 : 0 ≤ dp) (h2 : 0 ≤ sp) (h3 : sp + c ≤ na) (h4 : dp + c ≤ nb) (h5 : S.length ≤ 4) (kk : oe_V lim j (oe_M d) sc Q (pc + len) L S (sh, g, oe_cpy h a sp.toNat b dp.toNat c.toNat) k n) : oe_V lim j (oe_M d) sc Q pc L (.inl c :: .inl dp :: .inr (.inl b) :: .inl sp :: .inr (.inl a) :: S) (sh, g, h) k n := s_0 hf (by unfold oe_ins; dsimp only; rw [if_pos hr]; unfold oe_copy; dsimp only; rw [oe_sh_of ha, oe_sh_of hb]; exact ⟨rfl, rfl, h0, h1, h2, h3, h4, h5, kk⟩)
theorem s_calls {lim : Nat × Nat} {j d : Nat} {sc : Option (Nat × (Nat → Int))} {Q : oeQ} {pc len : Nat} {L : List (Option oeV)} {sh : List (Nat × Nat)} {g : Nat → Nat → Option Nat} {h : Nat → Nat → Int} {k n : Nat} {r : Nat} {T : List oeV} (hf : oe_find (oe_code j) pc = some (.invokestatic r, len)) (hr : r / 1000 ≠ 1) (h1 : r % 10 ≤ T.length) (h2 : T.length ≤ r % 10 + 4) (h3 : k + (oe_cost (r / 1000)).1 ≤ lim.1) (h4 : n + (oe_cost (r / 1000)).2 ≤ lim.2) (kk : oe_M d (r / 1000) (T.take (r % 10)).reverse (sh, g, h) (fun v hp => oe_V lim j (oe_M d) sc Q (pc + len) L (v.toList ++ T.drop (r % 10)) hp (k + (oe_cost (r / 1000)).1) (n + (oe_cost (r / 1000)).2))) : oe_V lim j (oe_M d) sc Q pc L T (sh, g, h) k n := s_0 hf (by unfold oe_ins; dsimp only; rw [if_neg hr]; exact ⟨h1, h2, h3, h4, kk⟩)
theorem s_callv {lim : Nat × Nat} {j d : Nat} {sc : Option (Nat × (Nat → Int))} {Q : oeQ} {pc len : Nat} {L : List (Option oeV)} {sh : List (Nat × Nat)} {g : Nat → Nat → Option Nat} {h : Nat → Nat → Int} {k n : Nat} {r b u N : Nat} {T U : List oeV} (hf : oe_find (oe_code j) pc = some (.invokevirtual r, len)) (hd : T.drop (r % 10) = .inr (.inl b) :: U) (hs : sh[b]? = some (u, N)) (hu : u = r / 10 % 100 + 5) (h1 : r % 10 + 1 ≤ T.length) (h2 : T.length ≤ r % 10 + 1 + 4) (h3 : k + (oe_cost (r / 1000)).1 ≤ lim.1) (h4 : n + (oe_cost (r / 1000)).2 ≤ lim.2) (kk : oe_M d (r / 1000) (T.take (r % 10 + 1)).reverse (sh, g, h) (fun v hp => oe_V lim j (oe_M d) sc Q (pc + len) L (v.toList ++ T.drop (r % 10 + 1)) hp (k + (oe_cost (r / 1000)).1) (n + (oe_cost (r / 1000)).2))) : oe_V lim j (oe_M d) sc Q pc L T (sh, g, h) k n := s_0 hf (by unfold oe_ins; dsimp only; rw [hd]; dsimp only; rw [oe_sh_of hs]; exact ⟨hu, h1, h2, h3, h4, kk⟩)
theorem s_calli {lim : Nat × Nat} {j d : Nat} {sc : Option (Nat × (Nat → Int))} {Q : oeQ} {pc len : Nat} {L : List (Option oeV)} {sh : List (Nat × Nat)} {g : Nat → Nat → Option Nat} {h : Nat → Nat → Int} {k n : Nat} {r b : Nat} {T U : List oeV} (hf : oe_find (oe_code j) pc = some (.invokespecial r, len)) (hr : r / 1000 ≠ 0) (hd : T.drop (r % 10) = .inr (.inl b) :: U) (h1 : r % 10 + 1 ≤ T.length) (h2 : T.length ≤ r % 10 + 1 + 4) (h3 : k + (oe_cost (r / 1000)).1 ≤ lim.1) (h4 : n + (oe_cost (r / 1000)).2 ≤ lim.2) (kk : oe_M d (r / 1000) (T.take (r % 10 + 1)).reverse (sh, g, h) (fun v hp => oe_V lim j (oe_M d) sc Q (pc + len) L (v.toList ++ T.drop (r % 10 + 1)) hp (k + (oe_cost (r / 1000)).1) (n + (oe_cost (r / 1000)).2))) : oe_V lim j (oe_M d) sc Q pc L T (sh, g, h) k n := s_0 hf (by unfold oe_ins; dsimp only; rw [if_neg hr, hd]; exact ⟨h1, h2, h3, h4, kk⟩)
theorem s_iret {lim : Nat × Nat} {j d : Nat} {sc : Option (Nat × (Nat → Int))} {Q : oeQ} {pc len : Nat} {L : List (Option oeV)} {sh : List (Nat × Nat)} {g : Nat → Nat → Option Nat} {h : Nat → Nat → Int} {k n : Nat} {x : Int} (hf : oe_find (oe_code j) pc = some (.ireturn, len)) (hr : oe_rt j = 1 ∨ (oe_rt j = 2 ∧ (x = 0 ∨ x = 1)) ∨ (oe_rt j = 3 ∧ 0 ≤ x ∧ x < 65536)) (kk : Q (some (.inl x)) (sh, g, h)) : oe_V lim j (oe_M d) sc Q pc L [.inl x] (sh, g, h) k n := s_0 hf ⟨hr, kk⟩
theorem s_aret {lim : Nat × Nat} {j d : Nat} {sc : Option (Nat × (Nat → Int))} {Q : oeQ} {pc len : Nat} {L : List (Option oeV)} {sh : List (Nat × Nat)} {g : Nat → Nat → Option Nat} {h : Nat → Nat → Int} {k n : Nat} {a : Nat} (hf : oe_find (oe_code j) pc = some (.areturn, len)) (hr : oe_rt j = 4) (kk : Q (some (.inr (.inl a))) (sh, g, h)) : oe_V lim j (oe_M d) sc Q pc L [.inr (.inl a)] (sh, g, h) k n := s_0 hf ⟨hr, kk⟩
theorem s_ret {lim : Nat × Nat} {j d : Nat} {sc : Option (Nat × (Nat → Int))} {Q : oeQ} {pc len : Nat} {L : List (Option oeV)} {sh : List (Nat × Nat)} {g : Nat → Nat → Option Nat} {h : Nat → Nat → Int} {k n : Nat} (hf : oe_find (oe_code j) pc = some (.return_, len)) (hr : oe_rt j = 0) (kk : Q none (sh, g, h)) : oe_V lim j (oe_M d) sc Q pc L [] (sh, g, h) k n := s_0 hf ⟨rfl, hr, kk⟩
