/-! What the small machine does goes over from one aim to a wider one. -/
theorem oe_i1_ex {S : List oeV} {f : Int → List oeV → Prop} (h : oe_i1 S f) : ∃ x T, S = .inl x :: T ∧ f x T := by
  unfold oe_i1 at h
  split at h
  · exact ⟨_, _, rfl, h⟩
  · exact h.elim
theorem oe_i2_ex {S : List oeV} {f : Int → Int → List oeV → Prop} (h : oe_i2 S f) : ∃ x y T, S = .inl y :: .inl x :: T ∧ f x y T := by
  unfold oe_i2 at h
  split at h
  · exact ⟨_, _, _, rfl, h⟩
  · exact h.elim
theorem oe_r1_ex {S : List oeV} {f : Nat → List oeV → Prop} (h : oe_r1 S f) : ∃ a T, S = .inr (.inl a) :: T ∧ f a T := by
  unfold oe_r1 at h
  split at h
  · exact ⟨_, _, rfl, h⟩
  · exact h.elim
theorem oe_l2_ex {S : List oeV} {f : Int → Int → List oeV → Prop} (h : oe_l2 S f) : ∃ x y T, S = .inr (.inr (0, y)) :: .inr (.inr (0, x)) :: T ∧ f x y T := by
  unfold oe_l2 at h
  split at h
  · exact ⟨_, _, _, rfl, h⟩
  · exact h.elim
theorem oe_ir_ex {S : List oeV} {f : Int → Nat → List oeV → Prop} (h : oe_ir S f) : ∃ i a T, S = .inl i :: .inr (.inl a) :: T ∧ f i a T := by
  unfold oe_ir at h
  split at h
  · exact ⟨_, _, _, rfl, h⟩
  · exact h.elim
theorem oe_iir_ex {S : List oeV} {f : Int → Int → Nat → List oeV → Prop} (h : oe_iir S f) : ∃ v i a T, S = .inl v :: .inl i :: .inr (.inl a) :: T ∧ f v i a T := by
  unfold oe_iir at h
  split at h
  · exact ⟨_, _, _, _, rfl, h⟩
  · exact h.elim
theorem oe_rir_ex {S : List oeV} {f : Nat → Int → Nat → List oeV → Prop} (h : oe_rir S f) : ∃ v i a T, S = .inr (.inl v) :: .inl i :: .inr (.inl a) :: T ∧ f v i a T := by
  unfold oe_rir at h
  split at h
  · exact ⟨_, _, _, _, rfl, h⟩
  · exact h.elim
theorem oe_lir_ex {S : List oeV} {f : Int → Int → Nat → List oeV → Prop} (h : oe_lir S f) : ∃ v i a T, S = .inr (.inr (0, v)) :: .inl i :: .inr (.inl a) :: T ∧ f v i a T := by
  unfold oe_lir at h
  split at h
  · exact ⟨_, _, _, _, rfl, h⟩
  · exact h.elim
theorem oe_sh_ex {sh : List (Nat × Nat)} {a : Nat} {f : Nat → Nat → Prop} (h : oe_sh sh a f) : ∃ t n, sh[a]? = some (t, n) ∧ f t n := by
  unfold oe_sh at h
  split at h
  · rename_i q hq
    exact ⟨q.1, q.2, hq, h⟩
  · exact h.elim
theorem oe_sh_of {sh : List (Nat × Nat)} {a t n : Nat} {f : Nat → Nat → Prop} (h : sh[a]? = some (t, n)) : oe_sh sh a f = f t n := by
  unfold oe_sh
  rw [h]
theorem oe_lo_ex {L : List (Option oeV)} {i : Nat} {f : oeV → Prop} (h : oe_lo L i f) : ∃ v, L[i]? = some (some v) ∧ f v := by
  unfold oe_lo at h
  split at h
  · rename_i v hv
    exact ⟨v, hv, h⟩
  · exact h.elim
theorem oe_il_ex {v : oeV} {f : Int → Prop} (h : oe_il v f) : ∃ x, v = .inl x ∧ f x := by
  unfold oe_il at h
  split at h
  · exact ⟨_, rfl, h⟩
  · exact h.elim
theorem oe_rl_ex {v : oeV} {A : Prop} (h : oe_rl v A) : ((∃ a, v = .inr (.inl a)) ∨ ∃ x, v = .inr (.inr (3, x))) ∧ A := by
  unfold oe_rl at h
  split at h
  · exact ⟨Or.inl ⟨_, rfl⟩, h⟩
  · exact ⟨Or.inr ⟨_, rfl⟩, h⟩
  · exact h.elim
theorem oe_br_mono {c : Jvm.ClassFile.Cond} {x y : Int} {A B A' B' : Prop} (ha : A → A') (hb : B → B') (h : oe_br c x y A B) : oe_br c x y A' B' := by
  cases c <;> exact ⟨fun q => ha (h.1 q), fun q => hb (h.2 q)⟩
theorem oe_i1_mono {S : List oeV} {f g : Int → List oeV → Prop} (hf : ∀ x T, f x T → g x T) (h : oe_i1 S f) : oe_i1 S g := by
  obtain ⟨x, T, rfl, h⟩ := oe_i1_ex h
  exact hf _ _ h
theorem oe_i2_mono {S : List oeV} {f g : Int → Int → List oeV → Prop} (hf : ∀ x y T, f x y T → g x y T) (h : oe_i2 S f) : oe_i2 S g := by
  obtain ⟨x, y, T, rfl, h⟩ := oe_i2_ex h
  exact hf _ _ _ h
theorem oe_r1_mono {S : List oeV} {f g : Nat → List oeV → Prop} (hf : ∀ x T, f x T → g x T) (h : oe_r1 S f) : oe_r1 S g := by
  obtain ⟨x, T, rfl, h⟩ := oe_r1_ex h
  exact hf _ _ h
theorem oe_l2_mono {S : List oeV} {f g : Int → Int → List oeV → Prop} (hf : ∀ x y T, f x y T → g x y T) (h : oe_l2 S f) : oe_l2 S g := by
  obtain ⟨x, y, T, rfl, h⟩ := oe_l2_ex h
  exact hf _ _ _ h
theorem oe_sh_mono {sh : List (Nat × Nat)} {a : Nat} {f g : Nat → Nat → Prop} (hf : ∀ t n, f t n → g t n) (h : oe_sh sh a f) : oe_sh sh a g := by
  obtain ⟨t, n, h1, h2⟩ := oe_sh_ex h
  rw [oe_sh_of h1]
  exact hf _ _ h2
theorem oe_lo_mono {L : List (Option oeV)} {i : Nat} {f g : oeV → Prop} (hf : ∀ v, f v → g v) (h : oe_lo L i f) : oe_lo L i g := by
  obtain ⟨v, h1, h2⟩ := oe_lo_ex h
  unfold oe_lo
  rw [h1]
  exact hf _ h2
theorem oe_il_mono {v : oeV} {f g : Int → Prop} (hf : ∀ v, f v → g v) (h : oe_il v f) : oe_il v g := by
  obtain ⟨x, rfl, h⟩ := oe_il_ex h
  exact hf _ h
theorem oe_rl_mono {v : oeV} {f g : Prop} (hf : f → g) (h : oe_rl v f) : oe_rl v g := by
  obtain ⟨⟨a, rfl⟩ | ⟨x, rfl⟩, h⟩ := oe_rl_ex h
  · exact hf h
  · exact hf h
theorem oe_ald_mono {S : List oeV} {hp : oeH} {t : Nat} {f g : Nat → Nat → List oeV → Prop} (hf : ∀ a i T, f a i T → g a i T) (h : oe_ald S hp t f) : oe_ald S hp t g := by
  obtain ⟨i, a, T, rfl, h2⟩ := oe_ir_ex h
  unfold oe_ald oe_ir
  exact oe_sh_mono (fun _ _ q => ⟨q.1, q.2.1, q.2.2.1, hf _ _ _ q.2.2.2⟩) h2
theorem oe_ast_mono {S : List oeV} {hp : oeH} {t : Nat} {f g : Int → Nat → Nat → List oeV → Prop} (hf : ∀ v a i T, f v a i T → g v a i T) (h : oe_ast S hp t f) : oe_ast S hp t g := by
  obtain ⟨v, i, a, T, rfl, h2⟩ := oe_iir_ex h
  unfold oe_ast oe_iir
  exact oe_sh_mono (fun _ _ q => ⟨q.1, q.2.1, q.2.2.1, hf _ _ _ _ q.2.2.2⟩) h2
theorem oe_gf_mono {hp : oeH} {a r : Nat} {f g : oeV → Prop} (hf : ∀ v, f v → g v) (h : oe_gf hp a r f) : oe_gf hp a r g := by
  refine oe_sh_mono (fun _ _ q => ⟨q.1, ?_⟩) h
  have q2 := q.2
  split
  · rename_i e
    rw [if_pos e] at q2
    split
    · rename_i w hw
      rw [hw] at q2
      exact hf _ q2
    · rename_i hw
      rw [hw] at q2
      exact hf _ q2
  · rename_i e
    rw [if_neg e] at q2
    exact hf _ q2
theorem oe_pf_mono {S : List oeV} {hp : oeH} {r : Nat} {f g : List oeV → oeH → Prop} (hf : ∀ T q, f T q → g T q) (h : oe_pf S hp r f) : oe_pf S hp r g := by
  unfold oe_pf at h ⊢
  split at h
  · exact oe_sh_mono (fun _ _ q => ⟨q.1, q.2.1, hf _ _ q.2.2⟩) h
  · exact oe_sh_mono (fun _ _ q => ⟨q.1, q.2.1, hf _ _ q.2.2⟩) h
  · exact h.elim
theorem oe_copy_mono {S : List oeV} {hp : oeH} {f g : List oeV → oeH → Prop} (hf : ∀ T q, f T q → g T q) (h : oe_copy S hp f) : oe_copy S hp g := by
  unfold oe_copy at h ⊢
  split at h
  · refine oe_sh_mono (fun _ _ q => ⟨q.1, ?_⟩) h
    exact oe_sh_mono (fun _ _ q => ⟨q.1, q.2.1, q.2.2.1, q.2.2.2.1, q.2.2.2.2.1, q.2.2.2.2.2.1, q.2.2.2.2.2.2.1, hf _ _ q.2.2.2.2.2.2.2⟩) q.2
  · exact h.elim
def oe_Cm (C : oeC) : Prop := ∀ j a hp Q Q', (∀ r hp, Q r hp → Q' r hp) → C j a hp Q → C j a hp Q'
theorem oe_call_mono {lim : Nat × Nat} {C : oeC} {X X' : oeX} {j np N : Nat} {L : List (Option oeV)} {S : List oeV} {hp : oeH} {k n : Nat} (hC : oe_Cm C) (hX : ∀ pc L S hp k n, X pc L S hp k n → X' pc L S hp k n)
    (h : oe_call lim C X j np N L S hp k n) : oe_call lim C X' j np N L S hp k n :=
  ⟨h.1, h.2.1, h.2.2.1, h.2.2.2.1, hC _ _ _ _ _ (fun _ _ q => hX _ _ _ _ _ _ q) h.2.2.2.2⟩
set_option maxHeartbeats 4000000 in
theorem oe_ins_mono {lim : Nat × Nat} {rt : Nat} {C : oeC} {sc : Option (Nat × (Nat → Int))} {Q Q' : oeQ} {X X' : oeX} {i : Jvm.ClassFile.Instr} {N : Nat} {L : List (Option oeV)} {S : List oeV} {hp : oeH} {k n : Nat}
    (hC : oe_Cm C) (hQ : ∀ r hp, Q r hp → Q' r hp) (hX : ∀ pc L S hp k n, X pc L S hp k n → X' pc L S hp k n) (h : oe_ins lim rt C sc Q X i N L S hp k n) : oe_ins lim rt C sc Q' X' i N L S hp k n := by
  cases i
  case iconst => exact hX _ _ _ _ _ _ h
  case bipush => exact hX _ _ _ _ _ _ h
  case sipush => exact hX _ _ _ _ _ _ h
  case ldc r =>
    unfold oe_ins at h ⊢
    dsimp only at h ⊢
    split
    · rename_i e; rw [if_pos e] at h; exact hX _ _ _ _ _ _ h
    · rename_i e; rw [if_neg e] at h; exact hX _ _ _ _ _ _ h
  case aconst_null => exact hX _ _ _ _ _ _ h
  case iload => exact oe_lo_mono (fun _ q => oe_il_mono (fun _ q => hX _ _ _ _ _ _ q) q) h
  case iload_n => exact oe_lo_mono (fun _ q => oe_il_mono (fun _ q => hX _ _ _ _ _ _ q) q) h
  case aload => exact oe_lo_mono (fun _ q => oe_rl_mono (fun q => hX _ _ _ _ _ _ q) q) h
  case aload_n => exact oe_lo_mono (fun _ q => oe_rl_mono (fun q => hX _ _ _ _ _ _ q) q) h
  case istore => exact oe_i1_mono (fun _ _ q => hX _ _ _ _ _ _ q) h
  case istore_n => exact oe_i1_mono (fun _ _ q => hX _ _ _ _ _ _ q) h
  case astore => exact oe_r1_mono (fun _ _ q => hX _ _ _ _ _ _ q) h
  case astore_n => exact oe_r1_mono (fun _ _ q => hX _ _ _ _ _ _ q) h
  case iinc => exact oe_lo_mono (fun _ q => oe_il_mono (fun _ q => ⟨q.1, hX _ _ _ _ _ _ q.2⟩) q) h
  case iadd => exact oe_i2_mono (fun _ _ _ q => ⟨q.1, hX _ _ _ _ _ _ q.2⟩) h
  case isub => exact oe_i2_mono (fun _ _ _ q => ⟨q.1, hX _ _ _ _ _ _ q.2⟩) h
  case imul => exact oe_i2_mono (fun _ _ _ q => ⟨q.1, hX _ _ _ _ _ _ q.2⟩) h
  case idiv => exact oe_i2_mono (fun _ _ _ q => ⟨q.1, q.2.1, hX _ _ _ _ _ _ q.2.2⟩) h
  case irem => exact oe_i2_mono (fun _ _ _ q => ⟨q.1, q.2.1, hX _ _ _ _ _ _ q.2.2⟩) h
  case iand => exact oe_i2_mono (fun _ _ _ q => ⟨q.1, hX _ _ _ _ _ _ q.2⟩) h
  case i2c => exact oe_i1_mono (fun _ _ q => hX _ _ _ _ _ _ q) h
  case i2l => exact oe_i1_mono (fun _ _ q => hX _ _ _ _ _ _ q) h
  case lcmp => exact oe_l2_mono (fun _ _ _ q => hX _ _ _ _ _ _ q) h
  case dup =>
    match S, h with
    | _ :: _, h => exact ⟨h.1, hX _ _ _ _ _ _ h.2⟩
  case dup_x1 =>
    match S, h with
    | _ :: _ :: _, h => exact ⟨h.1, h.2.1, hX _ _ _ _ _ _ h.2.2⟩
  case dup2 =>
    match S, h with
    | _ :: _ :: _, h => exact ⟨h.1, h.2.1, hX _ _ _ _ _ _ h.2.2⟩
  case pop =>
    match S, h with
    | _ :: _, h => exact ⟨h.1, hX _ _ _ _ _ _ h.2⟩
  case ifCond => exact oe_i1_mono (fun _ _ q => oe_br_mono (fun q => hX _ _ _ _ _ _ q) (fun q => hX _ _ _ _ _ _ q) q) h
  case if_icmp => exact oe_i2_mono (fun _ _ _ q => oe_br_mono (fun q => hX _ _ _ _ _ _ q) (fun q => hX _ _ _ _ _ _ q) q) h
  case ifnull =>
    unfold oe_ins at h ⊢
    dsimp only at h ⊢
    split at h
    · exact hX _ _ _ _ _ _ h
    · exact hX _ _ _ _ _ _ h
    · exact h.elim
  case ifnonnull =>
    unfold oe_ins at h ⊢
    dsimp only at h ⊢
    split at h
    · exact hX _ _ _ _ _ _ h
    · exact hX _ _ _ _ _ _ h
    · exact h.elim
  case goto => exact hX _ _ _ _ _ _ h
  case tableswitch => exact oe_i1_mono (fun _ _ q => ⟨fun z => hX _ _ _ _ _ _ (q.1 z), fun t a b c => hX _ _ _ _ _ _ (q.2 t a b c)⟩) h
  case lookupswitch => exact oe_i1_mono (fun _ _ q => hX _ _ _ _ _ _ q) h
  case getfield => exact oe_r1_mono (fun _ _ q => oe_gf_mono (fun _ q => hX _ _ _ _ _ _ q) q) h
  case putfield =>
    unfold oe_ins at h ⊢
    dsimp only at h ⊢
    exact oe_pf_mono (fun _ _ q => hX _ _ _ _ _ _ q) h
  case iaload =>
    unfold oe_ins at h ⊢
    dsimp only at h ⊢
    split at h
    · exact ⟨h.1, h.2.1, hX _ _ _ _ _ _ h.2.2⟩
    · refine oe_ald_mono ?_ h
      exact (fun _ _ _ q => hX _ _ _ _ _ _ q)
  case caload =>
    unfold oe_ins at h ⊢
    dsimp only at h ⊢
    exact oe_ald_mono (fun _ _ _ q => hX _ _ _ _ _ _ q) h
  case baload =>
    unfold oe_ins at h ⊢
    dsimp only at h ⊢
    exact oe_ald_mono (fun _ _ _ q => hX _ _ _ _ _ _ q) h
  case laload =>
    unfold oe_ins at h ⊢
    dsimp only at h ⊢
    exact oe_ald_mono (fun _ _ _ q => hX _ _ _ _ _ _ q) h
  case aaload =>
    unfold oe_ins at h ⊢
    dsimp only at h ⊢
    refine oe_ald_mono ?_ h
    intro a i T q
    split
    · rename_i w hw
      rw [hw] at q
      exact hX _ _ _ _ _ _ q
    · rename_i hw
      rw [hw] at q
      exact hX _ _ _ _ _ _ q
  case iastore =>
    unfold oe_ins at h ⊢
    dsimp only at h ⊢
    exact oe_ast_mono (fun _ _ _ _ q => hX _ _ _ _ _ _ q) h
  case castore =>
    unfold oe_ins at h ⊢
    dsimp only at h ⊢
    exact oe_ast_mono (fun _ _ _ _ q => ⟨q.1, q.2.1, hX _ _ _ _ _ _ q.2.2⟩) h
  case bastore =>
    unfold oe_ins at h ⊢
    dsimp only at h ⊢
    exact oe_ast_mono (fun _ _ _ _ q => ⟨q.1, hX _ _ _ _ _ _ q.2⟩) h
  case lastore =>
    obtain ⟨v, i, a, T, rfl, h2⟩ := oe_lir_ex h
    unfold oe_ins
    dsimp only
    unfold oe_lir
    exact oe_sh_mono (fun _ _ q => ⟨q.1, q.2.1, q.2.2.1, hX _ _ _ _ _ _ q.2.2.2⟩) h2
  case aastore =>
    obtain ⟨v, i, a, T, rfl, h2⟩ := oe_rir_ex h
    unfold oe_ins
    dsimp only
    unfold oe_rir
    exact ⟨h2.1, oe_sh_mono (fun _ _ q => ⟨q.1, q.2.1, q.2.2.1, hX _ _ _ _ _ _ q.2.2.2⟩) h2.2⟩
  case arraylength =>
    unfold oe_ins at h ⊢
    dsimp only at h ⊢
    split at h
    · exact hX _ _ _ _ _ _ h
    · exact oe_r1_mono (fun _ _ q => oe_sh_mono (fun _ _ q => ⟨q.1, hX _ _ _ _ _ _ q.2⟩) q) h
  case newarray => exact oe_i1_mono (fun _ _ q => ⟨q.1, q.2.1, q.2.2.1, q.2.2.2.1, hX _ _ _ _ _ _ q.2.2.2.2⟩) h
  case anewarray => exact oe_i1_mono (fun _ _ q => ⟨q.1, q.2.1, q.2.2.1, q.2.2.2.1, hX _ _ _ _ _ _ q.2.2.2.2⟩) h
  case new => exact ⟨h.1, h.2.1, hX _ _ _ _ _ _ h.2.2⟩
  case invokestatic r =>
    unfold oe_ins at h ⊢
    dsimp only at h ⊢
    split
    · rename_i e; rw [if_pos e] at h; exact oe_copy_mono (fun _ _ q => hX _ _ _ _ _ _ q) h
    · rename_i e; rw [if_neg e] at h; exact oe_call_mono hC hX h
  case invokespecial r =>
    unfold oe_ins at h ⊢
    dsimp only at h ⊢
    split
    · rename_i e; rw [if_pos e] at h; exact oe_r1_mono (fun _ _ q => ⟨q.1, hX _ _ _ _ _ _ q.2⟩) h
    · rename_i e
      rw [if_neg e] at h
      split at h
      · exact oe_call_mono hC hX h
      · exact h.elim
  case invokevirtual r =>
    unfold oe_ins at h ⊢
    dsimp only at h ⊢
    split at h
    · exact ⟨h.1, oe_call_mono hC hX h.2⟩
    · exact h.elim
  case ireturn =>
    unfold oe_ins at h ⊢
    dsimp only at h ⊢
    split at h
    · exact ⟨h.1, hQ _ _ h.2⟩
    · exact h.elim
  case areturn =>
    unfold oe_ins at h ⊢
    dsimp only at h ⊢
    split at h
    · exact ⟨h.1, hQ _ _ h.2⟩
    · exact h.elim
  case return_ => exact ⟨h.1, h.2.1, hQ _ _ h.2.2⟩
  all_goals exact h.elim
theorem oe_st_mono {lim : Nat × Nat} {j : Nat} {C : oeC} {sc : Option (Nat × (Nat → Int))} {Q Q' : oeQ} {X X' : oeX} {pc : Nat} {L : List (Option oeV)} {S : List oeV} {hp : oeH} {k n : Nat}
    (hC : oe_Cm C) (hQ : ∀ r hp, Q r hp → Q' r hp) (hX : ∀ pc L S hp k n, X pc L S hp k n → X' pc L S hp k n) (h : oe_st lim j C sc Q X pc L S hp k n) : oe_st lim j C sc Q' X' pc L S hp k n := by
  unfold oe_st at h ⊢
  split at h
  · exact oe_ins_mono hC hQ hX h
  · exact h.elim
theorem oe_V.step {lim : Nat × Nat} {j : Nat} {C : oeC} {sc : Option (Nat × (Nat → Int))} {Q : oeQ} {pc : Nat} {L : List (Option oeV)} {S : List oeV} {hp : oeH} {k n : Nat} (hC : oe_Cm C)
    (h : oe_st lim j C sc Q (oe_V lim j C sc Q) pc L S hp k n) : oe_V lim j C sc Q pc L S hp k n := fun X hX => hX _ _ _ _ _ _ (oe_st_mono hC (fun _ _ q => q) (fun _ _ _ _ _ _ q => q X hX) h)
theorem oe_V.mono {lim : Nat × Nat} {j : Nat} {C : oeC} {sc : Option (Nat × (Nat → Int))} {Q Q' : oeQ} {pc : Nat} {L : List (Option oeV)} {S : List oeV} {hp : oeH} {k n : Nat} (hC : oe_Cm C) (hQ : ∀ r hp, Q r hp → Q' r hp)
    (h : oe_V lim j C sc Q pc L S hp k n) : oe_V lim j C sc Q' pc L S hp k n := fun X hX => h X (fun _ _ _ _ _ _ q => hX _ _ _ _ _ _ (oe_st_mono hC hQ (fun _ _ _ _ _ _ q => q) q))
theorem oe_bi_mono {j : Nat} {as : List oeV} {hp : oeH} {Q Q' : oeQ} (hQ : ∀ r hp, Q r hp → Q' r hp) (h : oe_bi j as hp Q) : oe_bi j as hp Q' := by
  unfold oe_bi at h ⊢
  split at h
  · exact ⟨h.1, h.2.1, hQ _ _ h.2.2⟩
  · exact ⟨h.1, h.2.1, hQ _ _ h.2.2⟩
  · exact h.elim
theorem oe_M_mono : ∀ d, oe_Cm (oe_M d)
  | 0 => fun _ _ _ _ _ _ h => h
  | d + 1 => fun _ _ _ _ _ hQ h => h.elim (fun q => Or.inl ⟨q.1, oe_bi_mono hQ q.2⟩) (fun q => Or.inr ⟨q.1, q.2.1, oe_V.mono (oe_M_mono d) hQ q.2.2⟩)
