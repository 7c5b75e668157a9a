/-! Instruction by instruction. -/
def oe_rti (rt : Nat) (r : Option oeV) (i : Jvm.ClassFile.Instr) : Prop := match r with
  | none => i = .return_ ∧ rt = 0
  | some (.inl x) => i = .ireturn ∧ (rt = 1 ∨ (rt = 2 ∧ (x = 0 ∨ x = 1)) ∨ (rt = 3 ∧ 0 ≤ x ∧ x < 65536))
  | some (.inr (.inl _)) => i = .areturn ∧ rt = 4
  | _ => False
set_option maxHeartbeats 8000000 in
theorem oe_main {p : Program} {l : Launch} {e : Env} {R : Room} {s : State} {m : MethodId} {args : Array Value} {below : List Frame} {meth : Method} {c : Code} {Qp : State → Prop} {j d : Nat} {D : va_G} {cA : Nat → ClassId} {z : Nat → Int → Nat} {A : Nat → Prop} {ad0 : List Nat} {lim : Nat × Nat} {Z : (Nat → Prop) → State → Heap → Prop}
    {C : oeC} {sc : Option (Nat × (Nat → Int))} {Q : oeQ} (hZc : oe_Zc Z) (hFx : oe_Fx p R s m args meth c j d D cA A lim Z)
    (hsc : ∀ q, sc = some q → (∀ i, oe_rg (q.2 i)) ∧ q.1 < 2147483648 ∧ ∀ x, z 3 x < s.heap.size ∧ ¬ A (z 3 x) ∧ va_X (z 3 x) q.1 (fun i => Int32.ofInt (q.2 i)) s s.heap)
    (hret : ∀ pc i ls ad H locs k n hp r, oe_GH D cA A s ad0 hp ad H locs → Q r hp → (∀ v, r = some v → oe_vv hp.1.length v) → k ≤ lim.1 → n ≤ lim.2 → decode (oe_by j) pc = .ok (i, 1) → oe_rti (oe_rt j) r i → W p l e R s m args below meth c H locs k n Qp (F0 m pc ls (r.map (oe_val ad z)).toList))
    (hcall : ∀ j' as hp Q', C j' as hp Q' → oe_Met l D cA z Z d j' as hp Q')
    (pc : Nat) (L : List (Option oeV)) (S : List oeV) (hp : oeH) (k n : Nat) (h : oe_st lim j C sc Q (oe_X p l e R s m args below meth c Qp j D cA z A ad0 lim) pc L S hp k n) : oe_X p l e R s m args below meth c Qp j D cA z A ad0 lim pc L S hp k n := by
  obtain ⟨hx, hb, hml, hown, hts, hK, hin, hA, hRc, hRs, hRf, hRl, hN, hZ⟩ := hFx
  intro hk hn ad H ls locs hG hF
  have hP := hG.1
  have hD := hG.2.1
  have hS := hG.2.2.1
  have hlen := hG.2.2.2.1
  have hhv := hG.2.2.2.2.1
  have hSv := hF.2.2.2
  have go : ∀ {N : Nat} {S' : List oeV}, oe_X p l e R s m args below meth c Qp j D cA z A ad0 lim N L S' hp k n → (∀ v ∈ S', oe_vv hp.1.length v) → W p l e R s m args below meth c H locs k n Qp (F0 m N ls (S'.map (oe_val ad z))) :=
    fun h1 h2 => h1 hk hn ad H ls locs hG ⟨hF.1, hF.2.1, hF.2.2.1, h2⟩
  unfold oe_st at h
  split at h
  case h_2 => exact h.elim
  rename_i i len hfi
  obtain ⟨hd, hs⟩ := oe_dec j pc i len hfi
  have hw := oe_lwm j pc i len hfi
  cases i
  case iconst v =>
    simp only [oe_sta, Bool.and_eq_true, decide_eq_true_eq] at hs
    obtain ⟨rfl, h1, h2⟩ := hs
    exact lv_iconst hx hb hd rfl (go h (oe_vv_cons (show oe_rg v from ⟨by omega, by omega⟩) hSv))
  case bipush v =>
    simp only [oe_sta, Bool.and_eq_true, decide_eq_true_eq] at hs
    obtain ⟨rfl, h1, h2⟩ := hs
    have hr : oe_rg v := ⟨by omega, by omega⟩
    refine lv_bipush hx hb hd (v := Int32.ofInt v) ?_ (go h (oe_vv_cons hr hSv))
    rw [← Int32.toInt_inj, Int8.toInt_toInt32, Int8.toInt_ofInt_of_le (by omega) (by omega), oe_toInt hr]
  case sipush v =>
    simp only [oe_sta, Bool.and_eq_true, decide_eq_true_eq] at hs
    obtain ⟨rfl, h1, h2⟩ := hs
    have hr : oe_rg v := ⟨by omega, by omega⟩
    refine lv_sipush hx hb hd (v := Int32.ofInt v) ?_ (go h (oe_vv_cons hr hSv))
    rw [← Int32.toInt_inj, Int16.toInt_toInt32, Int16.toInt_ofInt_of_le (by omega) (by omega), oe_toInt hr]
  case iload i =>
    simp only [oe_sta, Bool.and_eq_true, decide_eq_true_eq] at hs
    subst hs
    obtain ⟨v, hv, h9⟩ := oe_lo_ex h
    replace h := h9
    obtain ⟨x, rfl, h9⟩ := oe_il_ex h
    replace h := h9
    exact lv_iload hx hb hd (oe_lv_at hF.1 hv) (go h (oe_vv_cons (hF.2.2.1 _ (List.mem_of_getElem? hv)).1 hSv))
  case iload_n i =>
    simp only [oe_sta, Bool.and_eq_true, decide_eq_true_eq] at hs
    subst hs
    obtain ⟨v, hv, h9⟩ := oe_lo_ex h
    replace h := h9
    obtain ⟨x, rfl, h9⟩ := oe_il_ex h
    replace h := h9
    exact lv_iload_n hx hb hd rfl (oe_lv_at hF.1 hv) (go h (oe_vv_cons (hF.2.2.1 _ (List.mem_of_getElem? hv)).1 hSv))
  case aload i =>
    simp only [oe_sta, Bool.and_eq_true, decide_eq_true_eq] at hs
    subst hs
    obtain ⟨v, hv, h9⟩ := oe_lo_ex h
    replace h := h9
    have hvv := (hF.2.2.1 _ (List.mem_of_getElem? hv)).1
    have hat := oe_lv_at hF.1 hv
    obtain ⟨⟨a, rfl⟩ | ⟨x, rfl⟩, h9⟩ := oe_rl_ex h
    replace h := h9
    · exact lv_aload hx hb hd hat (go h (oe_vv_cons hvv hSv))
    · exact lv_aload hx hb hd hat (go h (oe_vv_cons hvv hSv))
  case aload_n i =>
    simp only [oe_sta, Bool.and_eq_true, decide_eq_true_eq] at hs
    subst hs
    obtain ⟨v, hv, h9⟩ := oe_lo_ex h
    replace h := h9
    have hvv := (hF.2.2.1 _ (List.mem_of_getElem? hv)).1
    have hat := oe_lv_at hF.1 hv
    obtain ⟨⟨a, rfl⟩ | ⟨x, rfl⟩, h9⟩ := oe_rl_ex h
    replace h := h9
    · exact lv_aload_n hx hb hd rfl hat (go h (oe_vv_cons hvv hSv))
    · exact lv_aload_n hx hb hd rfl hat (go h (oe_vv_cons hvv hSv))
  case istore i =>
    simp only [oe_sta, Bool.and_eq_true, decide_eq_true_eq] at hs
    obtain ⟨rfl, hi⟩ := hs
    obtain ⟨x, T, rfl, h9⟩ := oe_i1_ex h
    replace h := h9
    have hT := fun v hv => hSv v (List.mem_cons_of_mem _ hv)
    exact lv_istore hx hb hd hF.1 hi rfl (fun ls' hl => h hk hn ad H ls' locs hG (hF.set (hSv _ List.mem_cons_self) trivial hT hl))
  case istore_n i =>
    simp only [oe_sta, Bool.and_eq_true, decide_eq_true_eq] at hs
    obtain ⟨rfl, hi⟩ := hs
    obtain ⟨x, T, rfl, h9⟩ := oe_i1_ex h
    replace h := h9
    have hT := fun v hv => hSv v (List.mem_cons_of_mem _ hv)
    exact lv_istore_n hx hb hd rfl hF.1 hi rfl (fun ls' hl => h hk hn ad H ls' locs hG (hF.set (hSv _ List.mem_cons_self) trivial hT hl))
  case astore i =>
    simp only [oe_sta, Bool.and_eq_true, decide_eq_true_eq] at hs
    obtain ⟨rfl, hi⟩ := hs
    obtain ⟨x, T, rfl, h9⟩ := oe_r1_ex h
    replace h := h9
    have hT := fun v hv => hSv v (List.mem_cons_of_mem _ hv)
    exact lv_astore hx hb hd hF.1 hi rfl (fun ls' hl => h hk hn ad H ls' locs hG (hF.set (hSv _ List.mem_cons_self) trivial hT hl))
  case astore_n i =>
    simp only [oe_sta, Bool.and_eq_true, decide_eq_true_eq] at hs
    obtain ⟨rfl, hi⟩ := hs
    obtain ⟨x, T, rfl, h9⟩ := oe_r1_ex h
    replace h := h9
    have hT := fun v hv => hSv v (List.mem_cons_of_mem _ hv)
    exact lv_astore_n hx hb hd rfl hF.1 hi rfl (fun ls' hl => h hk hn ad H ls' locs hG (hF.set (hSv _ List.mem_cons_self) trivial hT hl))
  case iinc i v =>
    simp only [oe_sta, Bool.and_eq_true, decide_eq_true_eq] at hs
    obtain ⟨rfl, hi⟩ := hs
    obtain ⟨w, hv, h9⟩ := oe_lo_ex h
    replace h := h9
    obtain ⟨x, rfl, hr, h9⟩ := oe_il_ex h
    replace h := h9
    obtain ⟨q, hq⟩ := List.getElem?_of_mem (oe_lv_mem.mpr ⟨_, hv, rfl⟩ : (i, oe_val ad z (.inl x)) ∈ oe_lv ad z L)
    exact lv_iinc hx hb hd hF.1 hq (Int32.ofInt_add x v).symm hi rfl (fun ls' hl => h hk hn ad H ls' locs hG (hF.set (v := .inl (x + v)) hr trivial hSv hl))
  case iadd =>
    simp only [oe_sta, decide_eq_true_eq] at hs
    subst hs
    obtain ⟨x, y, T, rfl, hr, h9⟩ := oe_i2_ex h
    replace h := h9
    have hT := fun v hv => hSv v (List.mem_cons_of_mem _ (List.mem_cons_of_mem _ hv))
    refine lv_iadd hx hb hd ?_
    rw [← Int32.ofInt_add]
    exact go h (oe_vv_cons hr hT)
  case isub =>
    simp only [oe_sta, decide_eq_true_eq] at hs
    subst hs
    obtain ⟨x, y, T, rfl, hr, h9⟩ := oe_i2_ex h
    replace h := h9
    have hT := fun v hv => hSv v (List.mem_cons_of_mem _ (List.mem_cons_of_mem _ hv))
    refine lv_isub hx hb hd ?_
    rw [← Int32.ofInt_sub]
    exact go h (oe_vv_cons hr hT)
  case imul =>
    simp only [oe_sta, decide_eq_true_eq] at hs
    subst hs
    obtain ⟨x, y, T, rfl, hr, h9⟩ := oe_i2_ex h
    replace h := h9
    have hT := fun v hv => hSv v (List.mem_cons_of_mem _ (List.mem_cons_of_mem _ hv))
    refine lv_imul hx hb hd ?_
    rw [← Int32.ofInt_mul]
    exact go h (oe_vv_cons hr hT)
  case idiv =>
    simp only [oe_sta, decide_eq_true_eq] at hs
    subst hs
    obtain ⟨x, y, T, rfl, h0, g0, h9⟩ := oe_i2_ex h
    replace h := h9
    have hT := fun v hv => hSv v (List.mem_cons_of_mem _ (List.mem_cons_of_mem _ hv))
    have hy : oe_rg y := hSv (.inl y) List.mem_cons_self
    have hx' : oe_rg x := hSv (.inl x) (List.mem_cons_of_mem _ List.mem_cons_self)
    refine lv_idiv hx hb hd (fun q => ?_) ?_
    · rw [oe_zero, oe_eq hy oe_rg0] at q; omega
    · rw [oe_div hx' hy h0 g0]
      exact go h (oe_vv_cons (oe_div_rg hx' h0 g0) hT)
  case irem =>
    simp only [oe_sta, decide_eq_true_eq] at hs
    subst hs
    obtain ⟨x, y, T, rfl, h0, g0, h9⟩ := oe_i2_ex h
    replace h := h9
    have hT := fun v hv => hSv v (List.mem_cons_of_mem _ (List.mem_cons_of_mem _ hv))
    have hy : oe_rg y := hSv (.inl y) List.mem_cons_self
    have hx' : oe_rg x := hSv (.inl x) (List.mem_cons_of_mem _ List.mem_cons_self)
    refine lv_irem hx hb hd (fun q => ?_) ?_
    · rw [oe_zero, oe_eq hy oe_rg0] at q; omega
    · rw [oe_rem hx' hy h0 g0]
      exact go h (oe_vv_cons (oe_rem_rg hx' hy h0 g0) hT)
  case iand =>
    simp only [oe_sta, decide_eq_true_eq] at hs
    subst hs
    obtain ⟨x, y, T, rfl, rfl, h9⟩ := oe_i2_ex h
    replace h := h9
    have hT := fun v hv => hSv v (List.mem_cons_of_mem _ (List.mem_cons_of_mem _ hv))
    refine lv_iand hx hb hd ?_
    rw [oe_and]
    exact go h (oe_vv_cons (show oe_rg (x % 16) from ⟨by omega, by omega⟩) hT)
  case i2c =>
    simp only [oe_sta, decide_eq_true_eq] at hs
    subst hs
    obtain ⟨x, T, rfl, h9⟩ := oe_i1_ex h
    replace h := h9
    have hT := fun v hv => hSv v (List.mem_cons_of_mem _ hv)
    exact lv_i2c hx hb hd (oe_chr x) (go h (oe_vv_cons (show oe_rg (x % 65536) from ⟨by omega, by omega⟩) hT))
  case i2l =>
    simp only [oe_sta, decide_eq_true_eq] at hs
    subst hs
    obtain ⟨x, T, rfl, h9⟩ := oe_i1_ex h
    replace h := h9
    have hT := fun v hv => hSv v (List.mem_cons_of_mem _ hv)
    have hx' : oe_rg x := hSv (.inl x) List.mem_cons_self
    exact lv_i2l hx hb hd (oe_i2l hx') (go h (oe_vv_cons (v := .inr (.inr (0, x))) hx' hT))
  case lcmp =>
    simp only [oe_sta, decide_eq_true_eq] at hs
    subst hs
    obtain ⟨x, y, T, rfl, h9⟩ := oe_l2_ex h
    replace h := h9
    have hT := fun v hv => hSv v (List.mem_cons_of_mem _ (List.mem_cons_of_mem _ hv))
    have hy : oe_rg y := hSv (.inr (.inr (0, y))) List.mem_cons_self
    have hx' : oe_rg x := hSv (.inr (.inr (0, x))) (List.mem_cons_of_mem _ List.mem_cons_self)
    refine W.lcmp hx hb hd ?_
    rw [oe_lcmp hx' hy]
    refine go h (oe_vv_cons (v := .inl _) ?_ hT)
    show oe_rg _
    split
    · exact ⟨by omega, by omega⟩
    · split
      · exact ⟨by omega, by omega⟩
      · exact ⟨by omega, by omega⟩
  case dup =>
    simp only [oe_sta, decide_eq_true_eq] at hs
    subst hs
    match S, h, hSv with
    | v :: T, h, hSv => exact lv_dup hx hb hd (oe_c1_cat h.1) (go h.2 (oe_vv_cons (hSv _ List.mem_cons_self) hSv))
  case dup_x1 =>
    simp only [oe_sta, decide_eq_true_eq] at hs
    subst hs
    match S, h, hSv with
    | v :: w :: T, h, hSv => exact lv_dup_x1 hx hb hd (oe_c1_cat h.1) (oe_c1_cat h.2.1) (go h.2.2 (oe_vv_cons (hSv _ List.mem_cons_self) (oe_vv_cons (hSv _ (List.mem_cons_of_mem _ List.mem_cons_self)) (oe_vv_cons (hSv _ List.mem_cons_self) (fun v hv => hSv v (List.mem_cons_of_mem _ (List.mem_cons_of_mem _ hv)))))))
  case dup2 =>
    simp only [oe_sta, decide_eq_true_eq] at hs
    subst hs
    match S, h, hSv with
    | v :: w :: T, h, hSv => exact lv_dup2_11 hx hb hd (oe_c1_cat h.1) (oe_c1_cat h.2.1) (go h.2.2 (oe_vv_cons (hSv _ List.mem_cons_self) (oe_vv_cons (hSv _ (List.mem_cons_of_mem _ List.mem_cons_self)) hSv)))
  case pop =>
    simp only [oe_sta, decide_eq_true_eq] at hs
    subst hs
    match S, h, hSv with
    | v :: T, h, hSv => exact lv_pop hx hb hd (oe_c1_cat h.1) (go h.2 (fun v hv => hSv v (List.mem_cons_of_mem _ hv)))
  case ifCond cd t =>
    simp only [oe_sta, Bool.and_eq_true, decide_eq_true_eq] at hs
    obtain ⟨rfl, ht⟩ := hs
    obtain ⟨x, T, rfl, h9⟩ := oe_i1_ex h
    replace h := h9
    have hT := fun v hv => hSv v (List.mem_cons_of_mem _ hv)
    have hx' : oe_rg x := hSv (.inl x) List.mem_cons_self
    have htg : (pc : Int) + (t - pc) = (t.toNat : Int) := by omega
    cases cd
    · exact lv_if_eq hx hb hd htg (fun q => go (h.1 ((oe_eq hx' oe_rg0).mp q)) hT) (fun q => go (h.2 (fun w => q ((oe_eq hx' oe_rg0).mpr w))) hT)
    · exact lv_if_ne hx hb hd htg (fun q => go (h.1 (fun w => q ((oe_eq hx' oe_rg0).mpr w))) hT) (fun q => go (h.2 ((oe_eq hx' oe_rg0).mp q)) hT)
    · exact lv_if_lt hx hb hd htg (fun q => go (h.1 ((oe_lt hx' oe_rg0).mp q)) hT) (fun q => go (h.2 (Int.not_lt.mp (fun w => q ((oe_lt hx' oe_rg0).mpr w)))) hT)
    · exact lv_if_ge hx hb hd htg (fun q => go (h.1 ((oe_le oe_rg0 hx').mp q)) hT) (fun q => go (h.2 (Int.not_le.mp (fun w => q ((oe_le oe_rg0 hx').mpr w)))) hT)
    · exact lv_if_gt hx hb hd htg (fun q => go (h.1 ((oe_lt oe_rg0 hx').mp q)) hT) (fun q => go (h.2 (Int.not_lt.mp (fun w => q ((oe_lt oe_rg0 hx').mpr w)))) hT)
    · exact lv_if_le hx hb hd htg (fun q => go (h.1 ((oe_le hx' oe_rg0).mp q)) hT) (fun q => go (h.2 (Int.not_le.mp (fun w => q ((oe_le hx' oe_rg0).mpr w)))) hT)
  case if_icmp cd t =>
    simp only [oe_sta, Bool.and_eq_true, decide_eq_true_eq] at hs
    obtain ⟨rfl, ht⟩ := hs
    obtain ⟨x, y, T, rfl, h9⟩ := oe_i2_ex h
    replace h := h9
    have hT := fun v hv => hSv v (List.mem_cons_of_mem _ (List.mem_cons_of_mem _ hv))
    have hy : oe_rg y := hSv (.inl y) List.mem_cons_self
    have hx' : oe_rg x := hSv (.inl x) (List.mem_cons_of_mem _ List.mem_cons_self)
    have htg : (pc : Int) + (t - pc) = (t.toNat : Int) := by omega
    cases cd
    · exact lv_icmp_eq hx hb hd htg (fun q => go (h.1 ((oe_eq hx' hy).mp q)) hT) (fun q => go (h.2 (fun w => q ((oe_eq hx' hy).mpr w))) hT)
    · exact lv_icmp_ne hx hb hd htg (fun q => go (h.1 (fun w => q ((oe_eq hx' hy).mpr w))) hT) (fun q => go (h.2 ((oe_eq hx' hy).mp q)) hT)
    · exact lv_icmp_lt hx hb hd htg (fun q => go (h.1 ((oe_lt hx' hy).mp q)) hT) (fun q => go (h.2 (Int.not_lt.mp (fun w => q ((oe_lt hx' hy).mpr w)))) hT)
    · exact lv_icmp_ge hx hb hd htg (fun q => go (h.1 ((oe_le hy hx').mp q)) hT) (fun q => go (h.2 (Int.not_le.mp (fun w => q ((oe_le hy hx').mpr w)))) hT)
    · exact lv_icmp_gt hx hb hd htg (fun q => go (h.1 ((oe_lt hy hx').mp q)) hT) (fun q => go (h.2 (Int.not_lt.mp (fun w => q ((oe_lt hy hx').mpr w)))) hT)
    · exact lv_icmp_le hx hb hd htg (fun q => go (h.1 ((oe_le hx' hy).mp q)) hT) (fun q => go (h.2 (Int.not_le.mp (fun w => q ((oe_le hx' hy).mpr w)))) hT)
  case goto t =>
    simp only [oe_sta, Bool.and_eq_true, decide_eq_true_eq] at hs
    obtain ⟨rfl, ht⟩ := hs
    have htg : (pc : Int) + (t - pc) = (t.toNat : Int) := by omega
    exact lv_goto hx hb hd htg (go h hSv)
  case ifnull t =>
    simp only [oe_sta, Bool.and_eq_true, decide_eq_true_eq] at hs
    obtain ⟨rfl, ht⟩ := hs
    have htg : (pc : Int) + (t - pc) = (t.toNat : Int) := by omega
    unfold oe_ins at h
    dsimp only at h
    split at h
    · exact lv_ifnull hx hb hd (go h (fun v hv => hSv v (List.mem_cons_of_mem _ hv)))
    · exact lv_ifnullN hx hb hd htg (go h (fun v hv => hSv v (List.mem_cons_of_mem _ hv)))
    · exact h.elim
  case ifnonnull t =>
    simp only [oe_sta, Bool.and_eq_true, decide_eq_true_eq] at hs
    obtain ⟨rfl, ht⟩ := hs
    have htg : (pc : Int) + (t - pc) = (t.toNat : Int) := by omega
    unfold oe_ins at h
    dsimp only at h
    split at h
    · exact lv_ifnonnull hx hb hd htg (go h (fun v hv => hSv v (List.mem_cons_of_mem _ hv)))
    · exact lv_ifnonnullN hx hb hd (go h (fun v hv => hSv v (List.mem_cons_of_mem _ hv)))
    · exact h.elim
  case aconst_null =>
    simp only [oe_sta, decide_eq_true_eq] at hs
    subst hs
    exact lv_null hx hb hd (go h (oe_vv_cons (v := .inr (.inr (1, 0))) trivial hSv))
  case caload =>
    simp only [oe_sta, decide_eq_true_eq] at hs
    subst hs
    obtain ⟨i, a, T, rfl, h9⟩ := oe_ir_ex h
    replace h := h9
    obtain ⟨u, N', hsh, rfl, h0, h1, h9⟩ := oe_sh_ex h
    replace h := h9
    have hi : oe_rg i := hSv (.inl i) List.mem_cons_self
    have hT := fun v hv => hSv v (List.mem_cons_of_mem _ (List.mem_cons_of_mem _ hv))
    refine va_cald hx hb hK hP a 1 (oe_ws_get hsh) rfl (oe_vpin hi h0 h1) hd ?_
    rw [oe_clamp hi]
    exact go h (oe_vv_cons (v := .inl _) (hhv.2.1 _ _) hT)
  case baload =>
    simp only [oe_sta, decide_eq_true_eq] at hs
    subst hs
    obtain ⟨i, a, T, rfl, h9⟩ := oe_ir_ex h
    replace h := h9
    obtain ⟨u, N', hsh, rfl, h0, h1, h9⟩ := oe_sh_ex h
    replace h := h9
    have hi : oe_rg i := hSv (.inl i) List.mem_cons_self
    have hT := fun v hv => hSv v (List.mem_cons_of_mem _ (List.mem_cons_of_mem _ hv))
    refine va_zald hx hb hK hP a 2 (oe_ws_get hsh) rfl (oe_vpin hi h0 h1) hd ?_
    rw [oe_clamp hi]
    exact go h (oe_vv_cons (v := .inl _) (hhv.2.1 _ _) hT)
  case laload =>
    simp only [oe_sta, decide_eq_true_eq] at hs
    subst hs
    obtain ⟨i, a, T, rfl, h9⟩ := oe_ir_ex h
    replace h := h9
    obtain ⟨u, N', hsh, rfl, h0, h1, h9⟩ := oe_sh_ex h
    replace h := h9
    have hi : oe_rg i := hSv (.inl i) List.mem_cons_self
    have hT := fun v hv => hSv v (List.mem_cons_of_mem _ (List.mem_cons_of_mem _ hv))
    refine va_lald hx hb hK hP a 3 (oe_ws_get hsh) rfl (oe_vpin hi h0 h1) hd ?_
    rw [oe_clamp hi]
    exact go h (oe_vv_cons (v := .inr (.inr (0, _))) (hhv.2.1 _ _) hT)
  case aaload =>
    simp only [oe_sta, decide_eq_true_eq] at hs
    subst hs
    obtain ⟨i, a, T, rfl, h9⟩ := oe_ir_ex h
    replace h := h9
    obtain ⟨u, N', hsh, rfl, h0, h1, h9⟩ := oe_sh_ex h
    replace h := h9
    have hi : oe_rg i := hSv (.inl i) List.mem_cons_self
    have hT := fun v hv => hSv v (List.mem_cons_of_mem _ (List.mem_cons_of_mem _ hv))
    refine va_aldq hx hb hK hP a 4 (oe_ws_get hsh) rfl (oe_vpin hi h0 h1) hd ?_
    rw [oe_clamp hi]
    cases hg : hp.2.1 a i.toNat with
    | none =>
      rw [hg] at h
      exact go h (oe_vv_cons (v := .inr (.inr (1, 0))) trivial hT)
    | some q =>
      rw [hg] at h
      exact go h (oe_vv_cons (v := .inr (.inl q)) (hhv.1 _ _ _ hg) hT)
  case iaload =>
    simp only [oe_sta, decide_eq_true_eq] at hs
    subst hs
    unfold oe_ins at h
    dsimp only at h
    split at h
    · rename_i i x T q
      obtain ⟨hr, hq, hz⟩ := hsc q rfl
      have hi : oe_rg i := hSv (.inl i) List.mem_cons_self
      have hT := fun v hv => hSv v (List.mem_cons_of_mem _ (List.mem_cons_of_mem _ hv))
      refine va_sld hx hb (hz x).2.2 (hz x).1 (hz x).2.1 hS (oe_vpin hi h.1 h.2.1) hd ?_
      rw [oe_clamp hi]
      exact go h.2.2 (oe_vv_cons (v := .inl _) (hr _) hT)
    · obtain ⟨i, a, T, rfl, h9⟩ := oe_ir_ex h
      replace h := h9
      obtain ⟨u, N', hsh, rfl, h0, h1, h9⟩ := oe_sh_ex h
      replace h := h9
      have hi : oe_rg i := hSv (.inl i) List.mem_cons_self
      have hT := fun v hv => hSv v (List.mem_cons_of_mem _ (List.mem_cons_of_mem _ hv))
      refine va_iald hx hb hK hP a 0 (oe_ws_get hsh) rfl (oe_vpin hi h0 h1) hd ?_
      rw [oe_clamp hi]
      exact go h (oe_vv_cons (v := .inl _) (hhv.2.1 _ _) hT)
  case iastore =>
    simp only [oe_sta, decide_eq_true_eq] at hs
    subst hs
    obtain ⟨v, i, a, T, rfl, h9⟩ := oe_iir_ex h
    replace h := h9
    obtain ⟨u, N', hsh, rfl, h0, h1, h9⟩ := oe_sh_ex h
    replace h := h9
    have hv : oe_rg v := hSv (.inl v) List.mem_cons_self
    have hi : oe_rg i := hSv (.inl i) (List.mem_cons_of_mem _ List.mem_cons_self)
    have hT := fun v hv => hSv v (List.mem_cons_of_mem _ (List.mem_cons_of_mem _ (List.mem_cons_of_mem _ hv)))
    refine va_iast hx hb hK hP hD hS a 0 (oe_ws_get hsh) rfl (oe_vpin hi h0 h1) hd (fun H1 locs1 hP1 hD1 hS1 => ?_)
    rw [oe_clamp hi, oe_upd] at hP1 hD1
    exact h hk hn ad H1 ls locs1 (hG.num hsh hv hP1 hD1 hS1) ⟨hF.1, hF.2.1, hF.2.2.1, hT⟩
  case castore =>
    simp only [oe_sta, decide_eq_true_eq] at hs
    subst hs
    obtain ⟨v, i, a, T, rfl, h9⟩ := oe_iir_ex h
    replace h := h9
    obtain ⟨u, N', hsh, rfl, h0, h1, h2, h3, h9⟩ := oe_sh_ex h
    replace h := h9
    have hv : oe_rg v := hSv (.inl v) List.mem_cons_self
    have hi : oe_rg i := hSv (.inl i) (List.mem_cons_of_mem _ List.mem_cons_self)
    have hT := fun v hv => hSv v (List.mem_cons_of_mem _ (List.mem_cons_of_mem _ (List.mem_cons_of_mem _ hv)))
    refine va_cast hx hb hK hP hD hS a 1 (oe_ws_get hsh) rfl (oe_vpin hi h0 h1) hd (fun H1 locs1 hP1 hD1 hS1 => ?_)
    rw [oe_clamp hi, oe_narc h2 h3, oe_upd] at hP1 hD1
    exact h hk hn ad H1 ls locs1 (hG.num hsh hv hP1 hD1 hS1) ⟨hF.1, hF.2.1, hF.2.2.1, hT⟩
  case bastore =>
    simp only [oe_sta, decide_eq_true_eq] at hs
    subst hs
    obtain ⟨v, i, a, T, rfl, h9⟩ := oe_iir_ex h
    replace h := h9
    obtain ⟨u, N', hsh, rfl, h0, h1, h2, h9⟩ := oe_sh_ex h
    replace h := h9
    have hv : oe_rg v := hSv (.inl v) List.mem_cons_self
    have hi : oe_rg i := hSv (.inl i) (List.mem_cons_of_mem _ List.mem_cons_self)
    have hT := fun v hv => hSv v (List.mem_cons_of_mem _ (List.mem_cons_of_mem _ (List.mem_cons_of_mem _ hv)))
    refine va_zast hx hb hK hP hD hS a 2 (oe_ws_get hsh) rfl (oe_vpin hi h0 h1) hd (fun H1 locs1 hP1 hD1 hS1 => ?_)
    rw [oe_clamp hi, oe_narb h2, oe_upd] at hP1 hD1
    exact h hk hn ad H1 ls locs1 (hG.num hsh hv hP1 hD1 hS1) ⟨hF.1, hF.2.1, hF.2.2.1, hT⟩
  case lastore =>
    simp only [oe_sta, decide_eq_true_eq] at hs
    subst hs
    obtain ⟨v, i, a, T, rfl, h9⟩ := oe_lir_ex h
    replace h := h9
    obtain ⟨u, N', hsh, rfl, h0, h1, h9⟩ := oe_sh_ex h
    replace h := h9
    have hv : oe_rg v := hSv (.inr (.inr (0, v))) List.mem_cons_self
    have hi : oe_rg i := hSv (.inl i) (List.mem_cons_of_mem _ List.mem_cons_self)
    have hT := fun v hv => hSv v (List.mem_cons_of_mem _ (List.mem_cons_of_mem _ (List.mem_cons_of_mem _ hv)))
    refine va_last hx hb hK hP hD hS a 3 (oe_ws_get hsh) rfl (oe_vpin hi h0 h1) hd (fun H1 locs1 hP1 hD1 hS1 => ?_)
    rw [oe_clamp hi, oe_updL] at hP1 hD1
    exact h hk hn ad H1 ls locs1 (hG.num hsh hv hP1 hD1 hS1) ⟨hF.1, hF.2.1, hF.2.2.1, hT⟩
  case aastore =>
    simp only [oe_sta, decide_eq_true_eq] at hs
    subst hs
    obtain ⟨v, i, a, T, rfl, hv, h9⟩ := oe_rir_ex h
    replace h := h9
    obtain ⟨u, N', hsh, rfl, h0, h1, h9⟩ := oe_sh_ex h
    replace h := h9
    obtain ⟨u, Nv, hshv, rfl⟩ := oe_sh_ex hv
    have hvl : v < hp.1.length := hSv (.inr (.inl v)) List.mem_cons_self
    have hi : oe_rg i := hSv (.inl i) (List.mem_cons_of_mem _ List.mem_cons_self)
    have hT := fun v hv => hSv v (List.mem_cons_of_mem _ (List.mem_cons_of_mem _ (List.mem_cons_of_mem _ hv)))
    obtain ⟨rq, hrq, hre⟩ := oe_eqc_ok
    refine va_astq (r := rq) hx hb hK hP hD hS a 4 v oe_eqc (oe_ws_get hsh) (by rw [hre]; rfl) (oe_ws_get hshv) hrq (oe_vpin hi h0 h1) hd (fun H1 locs1 hP1 hD1 hS1 => ?_)
    rw [oe_clamp hi, oe_updR] at hP1 hD1
    exact h hk hn ad H1 ls locs1 (hG.ref hsh hvl hP1 hD1 hS1) ⟨hF.1, hF.2.1, hF.2.2.1, hT⟩
  case arraylength =>
    simp only [oe_sta, decide_eq_true_eq] at hs
    subst hs
    unfold oe_ins at h
    dsimp only at h
    split at h
    · rename_i x T q
      obtain ⟨hr, hq, hz⟩ := hsc q rfl
      have hT := fun v hv => hSv v (List.mem_cons_of_mem _ hv)
      refine va_slen hx hb (hz x).2.2 (hz x).1 (hz x).2.1 hS hd ?_
      rw [← Int32.ofInt_eq_ofNat]
      exact go h (oe_vv_cons (v := .inl _) (show oe_rg _ from ⟨by omega, by omega⟩) hT)
    · obtain ⟨a, T, rfl, h9⟩ := oe_r1_ex h
      replace h := h9
      obtain ⟨u, N', hsh, hu, h9⟩ := oe_sh_ex h
      replace h := h9
      have hT := fun v hv => hSv v (List.mem_cons_of_mem _ hv)
      have hN' := hhv.2.2.2 a u N' hsh
      have hvv : ∀ w ∈ (.inl (N' : Int) :: T : List oeV), oe_vv hp.1.length w := oe_vv_cons (v := .inl _) (show oe_rg _ from ⟨by omega, by omega⟩) hT
      match u, hu, hsh with
      | 0, _, hsh => exact va_alen hx hb hK hP a 0 (oe_ws_get hsh) rfl (Int32.ofInt_eq_ofNat).symm hd (go h hvv)
      | 1, _, hsh => exact va_alen hx hb hK hP a 1 (oe_ws_get hsh) rfl (Int32.ofInt_eq_ofNat).symm hd (go h hvv)
      | 2, _, hsh => exact va_alen hx hb hK hP a 2 (oe_ws_get hsh) rfl (Int32.ofInt_eq_ofNat).symm hd (go h hvv)
      | 3, _, hsh => exact va_alen hx hb hK hP a 3 (oe_ws_get hsh) rfl (Int32.ofInt_eq_ofNat).symm hd (go h hvv)
      | 4, _, hsh => exact va_alen hx hb hK hP a 4 (oe_ws_get hsh) rfl (Int32.ofInt_eq_ofNat).symm hd (go h hvv)
  case ireturn =>
    simp only [oe_sta, decide_eq_true_eq] at hs
    subst hs
    unfold oe_ins at h
    dsimp only at h
    split at h
    · rename_i x
      exact hret pc _ ls ad H locs k n hp (some (.inl x)) hG h.2 (fun v hv => by cases hv; exact hSv _ List.mem_cons_self) hk hn hd ⟨rfl, h.1⟩
    · exact h.elim
  case areturn =>
    simp only [oe_sta, decide_eq_true_eq] at hs
    subst hs
    unfold oe_ins at h
    dsimp only at h
    split at h
    · rename_i x
      exact hret pc _ ls ad H locs k n hp (some (.inr (.inl x))) hG h.2 (fun v hv => by cases hv; exact hSv _ List.mem_cons_self) hk hn hd ⟨rfl, h.1⟩
    · exact h.elim
  case return_ =>
    simp only [oe_sta, decide_eq_true_eq] at hs
    subst hs
    obtain ⟨rfl, h1, h2⟩ := h
    exact hret pc _ ls ad H locs k n hp none hG h2 (fun v hv => by cases hv) hk hn hd ⟨rfl, h1⟩
  case newarray ty =>
    obtain ⟨x, T, rfl, h0, h1, h2, h3, h9⟩ := oe_i1_ex h
    replace h := h9
    have hx' : oe_rg x := hSv (.inl x) List.mem_cons_self
    have hT := fun v hv => hSv v (List.mem_cons_of_mem _ hv)
    have hneg : ¬ Int32.ofInt x < 0 := by rw [oe_zero, oe_lt hx' oe_rg0]; omega
    have harr : (Cond.arrayClass (newarray.typeOf ty)).before args s = true := hts _ (hw _ List.mem_cons_self)
    have hfin : ∀ (t : Nat) (q : Nat) (H1 : Heap), t ≤ 3 → va_P D oe_cl (oe_ws cA ad hp ++ [(q, oe_cell cA (ad ++ [q]) (t, x.toNat) (fun _ => none) (fun _ => 0))]) H1 → va_D A (oe_ws cA ad hp ++ [(q, oe_cell cA (ad ++ [q]) (t, x.toNat) (fun _ => none) (fun _ => 0))]) → va_S A s.heap H1 locs →
        oe_X p l e R s m args below meth c Qp j D cA z A ad0 lim (pc + 2) L (.inr (.inl hp.1.length) :: T) (oe_new hp (t, x.toNat)) (k + 1) (n + x.toNat) → W p l e R s m args below meth c H1 locs (k + 1) (n + x.toNat) Qp (F0 m (pc + 2) ls (.ref q :: T.map (oe_val ad z))) := by
      intro t q H1 ht hP1 hD1 hS1 hX
      have e1 := hX h2 h3 (ad ++ [q]) H1 ls locs (hG.new (fun c hc => by simp at hc; omega) (by show x.toNat < _; omega) hP1 hD1 hS1) (hF.new hlen hT)
      rw [List.map_cons, oe_map_app hlen hT] at e1
      have e2 : oe_val (ad ++ [q]) z (.inr (.inl hp.1.length)) = .ref q := by
        show Value.ref ((ad ++ [q]).getD hp.1.length 0) = _
        rw [List.getD_eq_getElem?_getD, List.getElem?_append_right (by omega), hlen, Nat.sub_self]; rfl
      rw [e2] at e1
      exact e1
    cases ty
    case int =>
      simp only [oe_sta, decide_eq_true_eq] at hs
      subst hs
      refine va_newa hx hb harr (ty := .int) rfl hK hP hD hS hA (N' := x.toNat) (a0 := (x.toNat, .inl (fun _ => Int32.ofInt 0))) (fun _ => rfl) hneg (oe_clamp hx') (by show x.toNat * 4 ≤ _; omega) (by omega) (by omega) hd (fun q cA' H1 hK1 hP1 hD1 hS1 => ?_)
      have hc : cA' = cA 0 := Option.some.inj ((hK1.2 5 (cA', .int) rfl).2.symm.trans (hK.2 0 (cA 0, .int) rfl).2)
      subst hc
      exact hfin 0 q H1 (by omega) hP1 hD1 hS1 h
    case char =>
      simp only [oe_sta, decide_eq_true_eq] at hs
      subst hs
      refine va_newa hx hb harr (ty := .char) rfl hK hP hD hS hA (N' := x.toNat) (a0 := (x.toNat, .inl (fun _ => Int32.ofInt 0))) (fun _ => rfl) hneg (oe_clamp hx') (by show x.toNat * 2 ≤ _; omega) (by omega) (by omega) hd (fun q cA' H1 hK1 hP1 hD1 hS1 => ?_)
      have hc : cA' = cA 1 := Option.some.inj ((hK1.2 5 (cA', .char) rfl).2.symm.trans (hK.2 1 (cA 1, .char) rfl).2)
      subst hc
      exact hfin 1 q H1 (by omega) hP1 hD1 hS1 h
    case boolean =>
      simp only [oe_sta, decide_eq_true_eq] at hs
      subst hs
      refine va_newa hx hb harr (ty := .boolean) rfl hK hP hD hS hA (N' := x.toNat) (a0 := (x.toNat, .inl (fun _ => Int32.ofInt 0))) (fun _ => rfl) hneg (oe_clamp hx') (by show x.toNat * 1 ≤ _; omega) (by omega) (by omega) hd (fun q cA' H1 hK1 hP1 hD1 hS1 => ?_)
      have hc : cA' = cA 2 := Option.some.inj ((hK1.2 5 (cA', .boolean) rfl).2.symm.trans (hK.2 2 (cA 2, .boolean) rfl).2)
      subst hc
      exact hfin 2 q H1 (by omega) hP1 hD1 hS1 h
    case long =>
      simp only [oe_sta, decide_eq_true_eq] at hs
      subst hs
      refine va_newa hx hb harr (ty := .long) rfl hK hP hD hS hA (N' := x.toNat) (a0 := (x.toNat, .inr (.inl (fun _ => Int64.ofInt 0)))) (fun _ => rfl) hneg (oe_clamp hx') (by show x.toNat * 8 ≤ _; omega) (by omega) (by omega) hd (fun q cA' H1 hK1 hP1 hD1 hS1 => ?_)
      have hc : cA' = cA 3 := Option.some.inj ((hK1.2 5 (cA', .long) rfl).2.symm.trans (hK.2 3 (cA 3, .long) rfl).2)
      subst hc
      exact hfin 3 q H1 (by omega) hP1 hD1 hS1 h
    all_goals simp [oe_sta] at hs
  case anewarray r =>
    simp only [oe_sta, decide_eq_true_eq] at hs
    subst hs
    obtain ⟨x, T, rfl, h0, h1, h2, h3, h9⟩ := oe_i1_ex h
    replace h := h9
    have hx' : oe_rg x := hSv (.inl x) List.mem_cons_self
    have hT := fun v hv => hSv v (List.mem_cons_of_mem _ hv)
    have hneg : ¬ Int32.ofInt x < 0 := by rw [oe_zero, oe_lt hx' oe_rg0]; omega
    refine va_newq hx hb hown (hts _ (hw _ List.mem_cons_self)) hN.2 hK hP hD hS hA (N' := x.toNat) hneg (oe_clamp hx') (by omega) (by omega) (by omega) hd (fun q cA' H1 hK1 hP1 hD1 hS1 => ?_)
    have hc : cA' = cA 4 := by
      obtain ⟨k1, c1, a1, a2, a3, a4⟩ := (hK1.2 5 (cA', .object oe_eqn) rfl).2
      obtain ⟨k2, c2, b1, b2, b3, b4⟩ := (hK.2 4 (cA 4, .object oe_eqn) rfl).2
      exact Option.some.inj (a4.symm.trans b4)
    subst hc
    have e1 := h h2 h3 (ad ++ [q]) H1 ls locs (hG.new (t := (4, x.toNat)) (fun c hc => by have e9 : 4 = c + 5 := hc; omega) (by show x.toNat < _; omega) hP1 hD1 hS1) (hF.new hlen hT)
    rw [List.map_cons, oe_map_app hlen hT] at e1
    have e2 : oe_val (ad ++ [q]) z (.inr (.inl hp.1.length)) = .ref q := by
      show Value.ref ((ad ++ [q]).getD hp.1.length 0) = _
      rw [List.getD_eq_getElem?_getD, List.getElem?_append_right (by omega), hlen, Nat.sub_self]; rfl
    rw [e2] at e1
    exact e1
  case new r =>
    simp only [oe_sta, Bool.and_eq_true, decide_eq_true_eq] at hs
    obtain ⟨rfl, hs⟩ := hs
    obtain ⟨h1, h2, h⟩ := h
    obtain ⟨q0, hq0, hN0⟩ := oe_nok_ex hs
    have hw2 : ∀ w ∈ oe_lwn j (oe_cpi j pc) q0, w ∈ oe_W := by
      intro w h9
      apply hw
      show w ∈ (match oe_cl[r]? with
        | some q => oe_lwn j (oe_cpi j pc) q
        | none => [])
      rw [hq0]
      exact h9
    refine va_new (ci := r) (C := q0.1) (T := q0.2.1) (N := q0.2.2) (fs := (List.range q0.2.2).map (fun k => oe_fv (ad ++ [0]) (fun _ => none) (fun _ => 0) (oe_fk r k) k)) hx hb hts (oe_clw r q0 hq0) (oe_ty r) (oe_tyok r q0 hq0) hown (hts _ (hw2 _ List.mem_cons_self)) (hts _ (hw2 _ (List.mem_cons_of_mem _ List.mem_cons_self))) (hts _ (hw2 _ (List.mem_cons_of_mem _ (List.mem_cons_of_mem _ List.mem_cons_self)))) hK hP hD hS hA hq0 (fun i hi => ?_) (by omega) (by omega) hd (fun q H1 hP1 hD1 hS1 => ?_)
    · rw [vp_V, List.getD_eq_getElem?_getD, List.getElem?_map, List.getElem?_range hi]
      exact oe_dflt r q0 hq0 i hi
    · have ec : oe_cell cA (ad ++ [q]) (r + 5, oe_nf r) (fun _ => none) (fun _ => 0) = .inr (r, (List.range q0.2.2).map (fun k => oe_fv (ad ++ [0]) (fun _ => none) (fun _ => 0) (oe_fk r k) k)) := by
        rw [hN0]; rfl
      have hnfc : ∀ c', (r + 5, oe_nf r).1 = c' + 5 → (r + 5, oe_nf r).2 = oe_nf c' := by
        intro c' hc
        have e3 : r + 5 = c' + 5 := hc
        have e4 : r = c' := by omega
        rw [e4]
      have e1 := h h1 h2 (ad ++ [q]) H1 ls locs (hG.new (t := (r + 5, oe_nf r)) hnfc (oe_nf_lt r) (by rw [ec]; exact hP1) (by rw [ec]; exact hD1) hS1) (hF.new hlen hSv)
      rw [List.map_cons, oe_map_app hlen hSv] at e1
      have e2 : oe_val (ad ++ [q]) z (.inr (.inl hp.1.length)) = .ref q := by
        show Value.ref ((ad ++ [q]).getD hp.1.length 0) = _
        rw [List.getD_eq_getElem?_getD, List.getElem?_append_right (by omega), hlen, Nat.sub_self]; rfl
      rw [e2] at e1
      rw [hN0] at e1
      exact e1
  case getfield r =>
    simp only [oe_sta, Bool.and_eq_true, decide_eq_true_eq] at hs
    obtain ⟨rfl, hs⟩ := hs
    obtain ⟨a, T, rfl, h9⟩ := oe_r1_ex h
    replace h := h9
    obtain ⟨u, N', hsh, rfl, h9⟩ := oe_sh_ex h
    replace h := h9
    have hT := fun v hv => hSv v (List.mem_cons_of_mem _ hv)
    obtain ⟨q0, hq0, hk1, hk2, hk3, hk4⟩ := oe_fok_ex hs
    have hN' := hhv.2.2.1 a _ _ hsh
    have hv : ((List.range N').map (fun k => oe_fv ad (hp.2.1 a) (hp.2.2 a) (oe_fk (r / 1000) k) k))[r / 10 % 100]? = some (oe_fv ad (hp.2.1 a) (hp.2.2 a) (oe_fk (r / 1000) (r / 10 % 100)) (r / 10 % 100)) := by
      rw [List.getElem?_map, List.getElem?_range (by omega)]; rfl
    refine va_get (D := D) (ci := r / 1000) (C := q0.1) (T := q0.2.1) (N := q0.2.2) hx hb hts (oe_clw _ q0 hq0) hown hK hP a (oe_ws_get hsh) hq0 (r / 10 % 100) hk1 (hts _ (hw _ ?_)) (fun _ h9 => h9) hv hd ?_
    · show _ ∈ (match oe_cl[r / 1000]? with
        | some q => [Cond.fieldLink (oe_ow j) (oe_cpi j pc) (q.2.1 (r / 10 % 100)).1 (q.2.1 (r / 10 % 100)).2.1 (q.2.1 (r / 10 % 100)).2.2.1]
        | none => [])
      rw [hq0]
      exact List.mem_cons_self
    · rw [hk3]
      unfold oe_fv
      by_cases e : r % 10 = 1
      · rw [if_pos e] at h ⊢
        cases hg : hp.2.1 a (r / 10 % 100) with
        | none =>
          rw [hg] at h
          exact go h (oe_vv_cons (v := .inr (.inr (1, 0))) trivial hT)
        | some q =>
          rw [hg] at h
          exact go h (oe_vv_cons (v := .inr (.inl q)) (hhv.1 _ _ _ hg) hT)
      · rw [if_neg e] at h ⊢
        exact go h (oe_vv_cons (v := .inl _) (hhv.2.1 _ _) hT)
  case putfield r =>
    simp only [oe_sta, Bool.and_eq_true, decide_eq_true_eq] at hs
    obtain ⟨⟨rfl, hs⟩, hs2⟩ := hs
    obtain ⟨q0, hq0, hk1, hk2, hk3, hk4⟩ := oe_fok_ex hs
    have hlk : (Cond.fieldLink (oe_ow j) (oe_cpi j pc) (q0.2.1 (r / 10 % 100)).1 (q0.2.1 (r / 10 % 100)).2.1 (q0.2.1 (r / 10 % 100)).2.2.1).before args s = true := by
      apply hts
      apply hw
      show _ ∈ (match oe_cl[r / 1000]? with
        | some q => [Cond.fieldLink (oe_ow j) (oe_cpi j pc) (q.2.1 (r / 10 % 100)).1 (q.2.1 (r / 10 % 100)).2.1 (q.2.1 (r / 10 % 100)).2.2.1]
        | none => [])
      rw [hq0]
      exact List.mem_cons_self
    have hput : ∀ (vv : Value) (a N' : Nat) (T : List oeV), hp.1[a]? = some (r / 1000 + 5, N') → narrow (oe_ty (r / 1000) (r / 10 % 100)) vv = vv → fits (oe_ty (r / 1000) (r / 10 % 100)) vv = true →
        (∀ (H1 : Heap) (locs1 : List Loc), va_P D oe_cl ((oe_ws cA ad hp).set a (ad.getD a 0, .inr (r / 1000, ((List.range N').map (fun k => oe_fv ad (hp.2.1 a) (hp.2.2 a) (oe_fk (r / 1000) k) k)).set (r / 10 % 100) vv))) H1 → va_D A ((oe_ws cA ad hp).set a (ad.getD a 0, .inr (r / 1000, ((List.range N').map (fun k => oe_fv ad (hp.2.1 a) (hp.2.2 a) (oe_fk (r / 1000) k) k)).set (r / 10 % 100) vv))) → va_S A s.heap H1 locs1 → W p l e R s m args below meth c H1 locs1 k n Qp (F0 m (pc + 3) ls (T.map (oe_val ad z)))) →
        W p l e R s m args below meth c H locs k n Qp (F0 m pc ls (vv :: .ref (ad.getD a 0) :: T.map (oe_val ad z))) := by
      intro vv a N' T hsh hnar hfit kk
      have hN' := hhv.2.2.1 a _ _ hsh
      have hll : r / 10 % 100 < ((List.range N').map (fun k => oe_fv ad (hp.2.1 a) (hp.2.2 a) (oe_fk (r / 1000) k) k)).length := by
        rw [List.length_map, List.length_range]; omega
      rcases oe_pok_ex hq0 hs2 with hf | ⟨hf, hi, hc⟩
      · exact va_put (D := D) (ci := r / 1000) (C := q0.1) (T := q0.2.1) (N := q0.2.2) hx hb hts (oe_clw _ q0 hq0) (oe_ty (r / 1000)) (oe_tyok _ q0 hq0) (oe_tynm _ q0 hq0) hown hK hP hD hS a (oe_ws_get hsh) hq0 (r / 10 % 100) hk1 hlk (fun _ h9 => h9) hf (oe_tyok _ q0 hq0 _ hk1) hnar hfit hll hd kk
      · exact va_putF (D := D) (ci := r / 1000) (C := q0.1) (T := q0.2.1) (N := q0.2.2) hx hb hts (oe_clw _ q0 hq0) (oe_ty (r / 1000)) (oe_tyok _ q0 hq0) (oe_tynm _ q0 hq0) hown hK hP hD hS a (oe_ws_get hsh) hq0 (r / 10 % 100) hk1 hlk (fun _ h9 => h9) hf (hin hi) hc (oe_tyok _ q0 hq0 _ hk1) hnar hfit hll hd kk
    unfold oe_ins at h
    dsimp only at h
    unfold oe_pf at h
    split at h
    · rename_i v a T
      obtain ⟨u, N', hsh, rfl, hkd, h9⟩ := oe_sh_ex h
      replace h := h9
      have hv : oe_rg v := hSv (.inl v) List.mem_cons_self
      have hT := fun v hv => hSv v (List.mem_cons_of_mem _ (List.mem_cons_of_mem _ hv))
      have hne : oe_fk (r / 1000) (r / 10 % 100) ≠ 1 := by rw [hk3]; omega
      have hty : narrow (oe_ty (r / 1000) (r / 10 % 100)) (.int (Int32.ofInt v)) = .int (Int32.ofInt v) ∧ fits (oe_ty (r / 1000) (r / 10 % 100)) (.int (Int32.ofInt v)) = true := by
        rcases hkd with q | ⟨q, q2⟩
        · rw [q] at hk4
          rw [oe_tk_0 hk4]
          exact ⟨rfl, rfl⟩
        · rw [q] at hk4
          rw [oe_tk_2 hk4]
          rcases q2 with rfl | rfl
          · exact ⟨rfl, rfl⟩
          · exact ⟨rfl, rfl⟩
      refine hput (.int (Int32.ofInt v)) a N' T hsh hty.1 hty.2 (fun H1 locs1 hP1 hD1 hS1 => ?_)
      rw [oe_fs_num (t := oe_fk (r / 1000)) hne] at hP1 hD1
      exact h hk hn ad H1 ls locs1 (hG.num hsh hv hP1 hD1 hS1) ⟨hF.1, hF.2.1, hF.2.2.1, hT⟩
    · rename_i w a T
      obtain ⟨u, N', hsh, rfl, hkd, h9⟩ := oe_sh_ex h
      replace h := h9
      have hv : w < hp.1.length := hSv (.inr (.inl w)) List.mem_cons_self
      have hT := fun v hv => hSv v (List.mem_cons_of_mem _ (List.mem_cons_of_mem _ hv))
      have hne : oe_fk (r / 1000) (r / 10 % 100) = 1 := by rw [hk3]; omega
      rw [hkd] at hk4
      have hty : narrow (oe_ty (r / 1000) (r / 10 % 100)) (.ref (ad.getD w 0)) = .ref (ad.getD w 0) ∧ fits (oe_ty (r / 1000) (r / 10 % 100)) (.ref (ad.getD w 0)) = true := by
        rcases oe_tk_1 hk4 with ⟨q, e⟩ | ⟨q, e⟩
        · rw [e]; exact ⟨rfl, rfl⟩
        · rw [e]; exact ⟨rfl, rfl⟩
      refine hput (.ref (ad.getD w 0)) a N' T hsh hty.1 hty.2 (fun H1 locs1 hP1 hD1 hS1 => ?_)
      rw [oe_fs_ref (t := oe_fk (r / 1000)) hne] at hP1 hD1
      exact h hk hn ad H1 ls locs1 (hG.ref hsh hv hP1 hD1 hS1) ⟨hF.1, hF.2.1, hF.2.2.1, hT⟩
    · exact h.elim
  case tableswitch dd lo hi offs =>
    simp only [oe_sta, Bool.and_eq_true, decide_eq_true_eq, List.all_eq_true] at hs
    obtain ⟨⟨ht, hal⟩, hsz⟩ := hs
    obtain ⟨x, T, rfl, h9⟩ := oe_i1_ex h
    replace h := h9
    have hT := fun v hv => hSv v (List.mem_cons_of_mem _ hv)
    have hx' : oe_rg x := hSv (.inl x) List.mem_cons_self
    have htg : (pc : Int) + (dd - pc) = (dd.toNat : Int) := by omega
    by_cases hout : x < lo ∨ hi < x
    · exact lv_tableOut hx hb hd (by rw [oe_toInt hx']; exact hout) htg (go (h.1 hout) hT)
    · have h1 : ¬ x < lo := fun q => hout (Or.inl q)
      have h2 : ¬ hi < x := fun q => hout (Or.inr q)
      have hlt : (x - lo).toNat < offs.toList.length := by omega
      have hget : offs.toList[(x - lo).toNat]? = some offs.toList[(x - lo).toNat] := List.getElem?_eq_getElem hlt
      have hmem : offs.toList[(x - lo).toNat] ∈ offs.toList := List.getElem_mem hlt
      have h0 := hal _ hmem
      generalize offs.toList[(x - lo).toNat] = t at hget h0
      have hX := h.2 t (by omega) (by omega) hget
      refine lv_tableIn hx hb hd (by rw [oe_toInt hx']; exact h1) (by rw [oe_toInt hx']; exact h2) (off := t - pc) ?_ (tgt := t.toNat) (by omega) (go hX hT)
      rw [oe_toInt hx', Array.getElem?_map, ← Array.getElem?_toList, hget]
      rfl
  case lookupswitch dd ps =>
    simp only [oe_sta, Bool.and_eq_true, decide_eq_true_eq, List.all_eq_true] at hs
    obtain ⟨⟨ht, hal⟩, hsrt⟩ := hs
    obtain ⟨x, T, rfl, h9⟩ := oe_i1_ex h
    replace h := h9
    have hT := fun v hv => hSv v (List.mem_cons_of_mem _ hv)
    have hx' : oe_rg x := hSv (.inl x) List.mem_cons_self
    have h0 : 0 ≤ Op.lookupswitch.offset ps.toList dd x := oe_lsw_0 ht hal
    refine lv_lookup hx hb hd (List.all_eq_true.mpr (fun x hx => decide_eq_true (hsrt x hx))) (off := Op.lookupswitch.offset ps.toList dd x - pc) ?_ (tgt := (Op.lookupswitch.offset ps.toList dd x).toNat) (by omega) (go h hT)
    rw [oe_toInt hx', Array.toList_map]
    exact oe_lsw_m ps.toList dd x pc
  case ldc r =>
    simp only [oe_sta, Bool.and_eq_true, decide_eq_true_eq] at hs
    obtain ⟨⟨rfl, hr⟩, hr2⟩ := hs
    unfold oe_ins at h
    dsimp only at h
    rw [if_pos hr] at h
    refine lv_ldc hx hb hown (v := Int32.ofInt (r / 2 : Nat)) (hts _ (hw _ List.mem_cons_self)) hd (go h (oe_vv_cons (v := .inl _) (show oe_rg _ from ⟨by omega, by omega⟩) hSv))
  case invokestatic r =>
    unfold oe_ins at h
    dsimp only at h
    by_cases e1 : r / 1000 = 1
    · rw [if_pos e1] at h
      simp only [oe_sta, Bool.and_eq_true, decide_eq_true_eq, if_pos e1] at hs
      obtain ⟨rfl, -⟩ := hs
      have hw2 : ∀ w ∈ [Cond.methodLink (oe_ow j) (oe_cpi j pc) arraycopyName, .native arraycopyName, .static arraycopyName, .initialized "java/lang/System"], w ∈ oe_W := by
        intro w h9
        apply hw
        show w ∈ (if r / 1000 = 1 then _ else _)
        rw [if_pos e1]
        exact h9
      have hd : decode (oe_by j) pc = .ok (.invokestatic (oe_cpi j pc), 3) := hd
      unfold oe_copy at h
      split at h
      · rename_i nn dp b sp a T
        obtain ⟨u, na, hsa, rfl, h9⟩ := oe_sh_ex h
        replace h := h9
        obtain ⟨u, nb, hsb, rfl, h0, h1, h2, h3, h4, h5, h9⟩ := oe_sh_ex h
        replace h := h9
        have hT := fun v hv => hSv v (List.mem_cons_of_mem _ (List.mem_cons_of_mem _ (List.mem_cons_of_mem _ (List.mem_cons_of_mem _ (List.mem_cons_of_mem _ hv)))))
        have rn : oe_rg nn := hSv (.inl nn) List.mem_cons_self
        have rd : oe_rg dp := hSv (.inl dp) (List.mem_cons_of_mem _ List.mem_cons_self)
        have rs : oe_rg sp := hSv (.inl sp) (List.mem_cons_of_mem _ (List.mem_cons_of_mem _ (List.mem_cons_of_mem _ List.mem_cons_self)))
        refine va_copyi hx hb (by rw [hml]; exact hF.1.1.symm) hown (hts _ (hw2 _ List.mem_cons_self)) (hts _ (hw2 _ (List.mem_cons_of_mem _ List.mem_cons_self))) (hts _ (hw2 _ (List.mem_cons_of_mem _ (List.mem_cons_of_mem _ List.mem_cons_self)))) (hts _ (hw2 _ (List.mem_cons_of_mem _ (List.mem_cons_of_mem _ (List.mem_cons_of_mem _ List.mem_cons_self))))) hK hP hD hS a b 0 0 (oe_ws_get hsa) (oe_ws_get hsb) rfl rfl rfl
          (by rw [oe_zero, oe_lt rs oe_rg0]; omega) (by rw [oe_zero, oe_lt rd oe_rg0]; omega) (by rw [oe_zero, oe_lt rn oe_rg0]; omega) (by rw [oe_clamp rs, oe_clamp rn]; omega) (by rw [oe_clamp rd, oe_clamp rn]; omega) (fun _ _ => rfl) (by omega) ?_ hd (fun H1 locs1 hP1 hD1 hS1 => ?_)
        · have := oe_cat_sum (ad := ad) (z := z) T
          have hnf : nativeFrameWords "java/lang/System" "arraycopy" 5 ≤ 40 := by decide
          omega
        · rw [oe_clamp rs, oe_clamp rd, oe_clamp rn, oe_cpy_i] at hP1 hD1
          exact h hk hn ad H1 ls locs1 (hG.cpy hsb hP1 hD1 hS1) ⟨hF.1, hF.2.1, hF.2.2.1, hT⟩
      · exact h.elim
    · rw [if_neg e1] at h
      simp only [oe_sta, Bool.and_eq_true, decide_eq_true_eq, if_neg e1] at hs
      obtain ⟨rfl, hs⟩ := hs
      obtain ⟨c1, c2, c3, c4⟩ := oe_cok_ex hs
      obtain ⟨hnp, hlen4, hkc, hnc, hC⟩ := h
      have hd : decode (oe_by j) pc = .ok (.invokestatic (oe_cpi j pc), 3) := hd
      have hw2 : ∀ w ∈ oe_lws j pc (r / 1000), w ∈ oe_W := by
        intro w h9
        apply hw
        show w ∈ (if r / 1000 = 1 then _ else _)
        rw [if_neg e1]
        exact h9
      have hvt : ∀ v ∈ (S.take (r % 10)).reverse, oe_vv hp.1.length v := fun v hv => hSv v (List.mem_of_mem_take (List.mem_reverse.mp hv))
      have hM := hcall _ _ _ _ hC ad H.size hlen hhv hvt
      have hT : ∀ v ∈ S.drop (r % 10), oe_vv hp.1.length v := fun v hv => hSv v (List.mem_of_mem_drop hv)
      have hst : S.map (oe_val ad z) = (((S.take (r % 10)).reverse).map (oe_val ad z)).reverse ++ (S.drop (r % 10)).map (oe_val ad z) := by
        rw [List.map_reverse, List.reverse_reverse, ← List.map_append, List.take_append_drop]
      have hrm : 2 * (F0 m pc ls (S.map (oe_val ad z))).monitorRoom + (((S.drop (r % 10)).map (oe_val ad z)).map fun v => v.category).sum ≤ 8 := by
        refine lv_room ?_
        have := oe_cat_sum (ad := ad) (z := z) (S.drop (r % 10))
        rw [List.length_drop] at this
        omega
      have hRR : (oe_rm d (r / 1000)).frames + 1 ≤ R.frames ∧ 8 + (oe_ml (r / 1000) + 11) + (oe_rm d (r / 1000)).locals ≤ R.locals := by
        constructor
        · show d + 1 + 1 ≤ _; omega
        · show 8 + (oe_ml (r / 1000) + 11) + 64 * (d + 1) ≤ _; omega
      have hcd : Cond.code (oe_y (r / 1000)) (oe_by (r / 1000)) (oe_ml (r / 1000)) (oe_ret (r / 1000)) ∈ oe_W := hw2 _ List.mem_cons_self
      have hgd := oe_good (r / 1000) hcd
      have hini := hts _ (hw2 _ (List.mem_cons_of_mem _ List.mem_cons_self))
      have hsta := hts _ (hw2 _ (List.mem_cons_of_mem _ (List.mem_cons_of_mem _ List.mem_cons_self)))
      have hfl : k + (oe_cost (r / 1000)).1 ≤ R.cells ∧ n + (oe_cost (r / 1000)).2 ≤ R.slots := ⟨by rw [hRc]; exact hkc, by rw [hRs]; exact hnc⟩
      have hln : (((S.take (r % 10)).reverse).map (oe_val ad z)).length = r % 10 := by
        rw [List.length_map, List.length_reverse, List.length_take]; omega
      cases hnh : oe_nh j pc with
      | none =>
        have hlk : (Cond.methodLink (oe_ow j) (oe_cpi j pc) (oe_y (r / 1000))).before args s = true := by
          apply hts
          apply hw2
          refine List.mem_cons_of_mem _ (List.mem_cons_of_mem _ (List.mem_cons_of_mem _ ?_))
          rw [hnh]
          exact List.mem_cons_self
        exact oe_after (T := S.drop (r % 10)) (va_runS ⟨hx, hb, hml, hown, hts⟩ hM ⟨callB_of (r % 10) hts hgd rfl rfl rfl hini hlk ⟨c2, c3, c1⟩ hRR, hsta⟩ (oe_pre hZc hG hK hN hZ hA) rfl hln hF.1.1 hst hrm hd hfl) hG hF hT hA hkc hnc (fun r hp' q => q)
      | some host =>
        have hnl := hN.1 _ (oe_nst_in j pc _ _ hfi host hnh (r / 1000) (Or.inl ⟨r, rfl, rfl⟩))
        exact oe_after (T := S.drop (r % 10)) (va_runSN ⟨hx, hb, hml, hown, hts⟩ hM ⟨va_cnB (r % 10) hts hgd rfl rfl rfl hnl hini ⟨c2, c3, c1⟩ hRR, hsta, trivial⟩ (oe_pre hZc hG hK hN hZ hA) rfl hln hF.1.1 hst hrm hd hfl) hG hF hT hA hkc hnc (fun r hp' q => q)
  case invokespecial r =>
    unfold oe_ins at h
    dsimp only at h
    by_cases e1 : r / 1000 = 0
    · rw [if_pos e1] at h
      simp only [oe_sta, Bool.and_eq_true, decide_eq_true_eq, if_pos e1] at hs
      obtain ⟨rfl, -⟩ := hs
      have hd : decode (oe_by j) pc = .ok (.invokespecial (oe_cpi j pc), 3) := hd
      have hw2 : ∀ w ∈ [Cond.methodLink (oe_ow j) (oe_cpi j pc) objectInit, .instanceMethod objectInit, .code objectInit ⟨#[0xb1]⟩ 1 none], w ∈ oe_W := by
        intro w h9
        apply hw
        show w ∈ (if r / 1000 = 0 then _ else _)
        rw [if_pos e1]
        exact h9
      obtain ⟨a, T, rfl, h4, h9⟩ := oe_r1_ex h
      replace h := h9
      have hT := fun v hv => hSv v (List.mem_cons_of_mem _ hv)
      have hcs := oe_cat_sum (ad := ad) (z := z) T
      refine W.objInit hx hb hown (hts _ (hw2 _ List.mem_cons_self)) (hts _ (hw2 _ (List.mem_cons_of_mem _ List.mem_cons_self))) (hts _ (hw2 _ (List.mem_cons_of_mem _ (List.mem_cons_of_mem _ List.mem_cons_self)))) rfl (by rw [hml]; exact hF.1.1) rfl hd (by omega) ?_ (go h hT)
      have := lv_room (m := m) (pc := pc) (ls := ls) (rest := (Value.ref (ad.getD a 0) :: T.map (oe_val ad z))) (st := T.map (oe_val ad z)) (by omega)
      refine Nat.le_trans (Nat.add_le_add_right this 12) ?_
      omega
    · rw [if_neg e1] at h
      simp only [oe_sta, Bool.and_eq_true, decide_eq_true_eq, if_neg e1] at hs
      obtain ⟨rfl, ⟨hs, hsn⟩, hsr⟩ := hs
      obtain ⟨c1, c2, c3, c4⟩ := oe_cok_ex hs
      have hd : decode (oe_by j) pc = .ok (.invokespecial (oe_cpi j pc), 3) := hd
      have hw2 : ∀ w ∈ oe_lwi j pc (r / 1000), w ∈ oe_W := by
        intro w h9
        apply hw
        show w ∈ (if r / 1000 = 0 then _ else _)
        rw [if_neg e1]
        exact h9
      split at h
      case h_2 => exact h.elim
      rename_i b T hdr
      obtain ⟨hnp, hlen4, hkc, hnc, hC⟩ := h
      obtain ⟨hS1, hS2⟩ := oe_split hdr
      rw [hS2] at hC
      have hvt : ∀ v ∈ (.inr (.inl b) :: (S.take (r % 10)).reverse : List oeV), oe_vv hp.1.length v := by
        refine oe_vv_cons (hSv _ (by rw [hS1]; simp)) (fun v hv => hSv v (List.mem_of_mem_take (List.mem_reverse.mp hv)))
      have hM := hcall _ _ _ _ hC ad H.size hlen hhv hvt
      have hdT : S.drop (r % 10 + 1) = T := by rw [← List.drop_drop, hdr]; rfl
      rw [hdT] at hM
      have hT : ∀ v ∈ T, oe_vv hp.1.length v := fun v hv => hSv v (by rw [hS1]; simp [hv])
      have hst : S.map (oe_val ad z) = (((S.take (r % 10)).reverse).map (oe_val ad z)).reverse ++ .ref (ad.getD b 0) :: T.map (oe_val ad z) := by
        rw [List.map_reverse, List.reverse_reverse]
        conv => lhs; rw [hS1]
        rw [List.map_append]; rfl
      have hrm : 2 * (F0 m pc ls (S.map (oe_val ad z))).monitorRoom + ((T.map (oe_val ad z)).map fun v => v.category).sum ≤ 8 := by
        refine lv_room ?_
        have := oe_cat_sum (ad := ad) (z := z) T
        have : S.length = r % 10 + 1 + T.length := by rw [← hdT, List.length_drop]; omega
        omega
      have hRR : (oe_rm d (r / 1000)).frames + 1 ≤ R.frames ∧ 8 + (oe_ml (r / 1000) + 11) + (oe_rm d (r / 1000)).locals ≤ R.locals := by
        constructor
        · show d + 1 + 1 ≤ _; omega
        · show 8 + (oe_ml (r / 1000) + 11) + 64 * (d + 1) ≤ _; omega
      have hcd : Cond.code (oe_y (r / 1000)) (oe_by (r / 1000)) (oe_ml (r / 1000)) (oe_ret (r / 1000)) ∈ oe_W := hw2 _ List.mem_cons_self
      have hgd := oe_good (r / 1000) hcd
      have hini := hts _ (hw2 _ (List.mem_cons_of_mem _ List.mem_cons_self))
      have hsta := hts _ (hw2 _ (List.mem_cons_of_mem _ (List.mem_cons_of_mem _ List.mem_cons_self)))
      have hfl : k + (oe_cost (r / 1000)).1 ≤ R.cells ∧ n + (oe_cost (r / 1000)).2 ≤ R.slots := ⟨by rw [hRc]; exact hkc, by rw [hRs]; exact hnc⟩
      have hln : (((S.take (r % 10)).reverse).map (oe_val ad z)).length = r % 10 := by
        rw [List.length_map, List.length_reverse, List.length_take]; omega
      cases hnh : oe_nh j pc with
      | none =>
        have hlk : (Cond.methodLink (oe_ow j) (oe_cpi j pc) (oe_y (r / 1000))).before args s = true := by
          apply hts
          apply hw2
          refine List.mem_cons_of_mem _ (List.mem_cons_of_mem _ (List.mem_cons_of_mem _ ?_))
          rw [hnh]
          exact List.mem_cons_self
        exact oe_after (T := T) (va_runI ⟨hx, hb, hml, hown, hts⟩ hM ⟨callB_of (r % 10) hts hgd (by unfold oe_wj; rw [hsr]) rfl rfl hini hlk ⟨c2, c3, c1⟩ hRR, hsn, hsta⟩ (oe_pre hZc hG hK hN hZ hA) rfl hln hF.1.1 hst hrm hd hfl) hG hF hT hA hkc hnc (fun r hp' q => q)
      | some host =>
        have hnl := hN.1 _ (oe_nst_in j pc _ _ hfi host hnh (r / 1000) (Or.inr ⟨r, rfl, rfl⟩))
        exact oe_after (T := T) (va_runIN ⟨hx, hb, hml, hown, hts⟩ hM ⟨va_cnB (r % 10) hts hgd (by unfold oe_wj; rw [hsr]) rfl rfl hnl hini ⟨c2, c3, c1⟩ hRR, hsn, hsta⟩ (oe_pre hZc hG hK hN hZ hA) rfl hln hF.1.1 hst hrm hd hfl) hG hF hT hA hkc hnc (fun r hp' q => q)
  case invokevirtual r =>
    unfold oe_ins at h
    dsimp only at h
    simp only [oe_sta, Bool.and_eq_true, decide_eq_true_eq] at hs
    obtain ⟨⟨rfl, hs⟩, hsc2⟩ := hs
    obtain ⟨c1, c2, c3, c4⟩ := oe_cok_ex hs
    obtain ⟨q0, hq0, hqn⟩ := oe_vok_ex hsc2
    have hd : decode (oe_by j) pc = .ok (.invokevirtual (oe_cpi j pc), 3) := hd
    have hw2 : ∀ w ∈ oe_lwv j pc (r / 1000), w ∈ oe_W := hw
    split at h
    case h_2 => exact h.elim
    rename_i b T hdr
    obtain ⟨hcl, hnp, hlen4, hkc, hnc, hC⟩ := h
    obtain ⟨u, Nb, hsb, rfl⟩ := oe_sh_ex hcl
    obtain ⟨hS1, hS2⟩ := oe_split hdr
    rw [hS2] at hC
    have hvt : ∀ v ∈ (.inr (.inl b) :: (S.take (r % 10)).reverse : List oeV), oe_vv hp.1.length v := by
      refine oe_vv_cons (hSv _ (by rw [hS1]; simp)) (fun v hv => hSv v (List.mem_of_mem_take (List.mem_reverse.mp hv)))
    have hM := hcall _ _ _ _ hC ad H.size hlen hhv hvt
    have hdT : S.drop (r % 10 + 1) = T := by rw [← List.drop_drop, hdr]; rfl
    rw [hdT] at hM
    have hT : ∀ v ∈ T, oe_vv hp.1.length v := fun v hv => hSv v (by rw [hS1]; simp [hv])
    have hst : S.map (oe_val ad z) = (((S.take (r % 10)).reverse).map (oe_val ad z)).reverse ++ .ref (ad.getD b 0) :: T.map (oe_val ad z) := by
      rw [List.map_reverse, List.reverse_reverse]
      conv => lhs; rw [hS1]
      rw [List.map_append]; rfl
    have hrm : 2 * (F0 m pc ls (S.map (oe_val ad z))).monitorRoom + ((T.map (oe_val ad z)).map fun v => v.category).sum ≤ 8 := by
      refine lv_room ?_
      have := oe_cat_sum (ad := ad) (z := z) T
      have : S.length = r % 10 + 1 + T.length := by rw [← hdT, List.length_drop]; omega
      omega
    have hRR : (oe_rm d (r / 1000)).frames + 1 ≤ R.frames ∧ 8 + (oe_ml (r / 1000) + 11) + (oe_rm d (r / 1000)).locals ≤ R.locals := by
      constructor
      · show d + 1 + 1 ≤ _; omega
      · show 8 + (oe_ml (r / 1000) + 11) + 64 * (d + 1) ≤ _; omega
    have hcd : Cond.code (oe_y (r / 1000)) (oe_by (r / 1000)) (oe_ml (r / 1000)) (oe_ret (r / 1000)) ∈ oe_W := hw2 _ List.mem_cons_self
    have hgd := oe_good (r / 1000) hcd
    have hini := hts _ (hw2 _ (List.mem_cons_of_mem _ List.mem_cons_self))
    have hsta := hts _ (hw2 _ (List.mem_cons_of_mem _ (List.mem_cons_of_mem _ List.mem_cons_self)))
    have hsel := hts _ (hw2 _ (List.mem_cons_of_mem _ (List.mem_cons_of_mem _ (List.mem_cons_of_mem _ List.mem_cons_self))))
    have hlk := hts _ (hw2 _ (List.mem_cons_of_mem _ (List.mem_cons_of_mem _ (List.mem_cons_of_mem _ (List.mem_cons_of_mem _ List.mem_cons_self)))))
    have hfl : k + (oe_cost (r / 1000)).1 ≤ R.cells ∧ n + (oe_cost (r / 1000)).2 ≤ R.slots := ⟨by rw [hRc]; exact hkc, by rw [hRs]; exact hnc⟩
    have hln : (((S.take (r % 10)).reverse).map (oe_val ad z)).length = r % 10 := by
      rw [List.length_map, List.length_reverse, List.length_take]; omega
    have hrec := va_recv hK hP hq0 (oe_ws_get hsb)
    rw [hqn] at hrec
    have hpr := oe_pre (Z := Z) (As := .ref (ad.getD b 0) :: ((S.take (r % 10)).reverse).map (oe_val ad z)) hZc hG hK hN hZ hA
    exact oe_after (T := T) (va_runV ⟨hx, hb, hml, hown, hts⟩ hM ⟨callB_of (r % 10) hts hgd rfl rfl rfl hini hlk ⟨c2, c3, c1⟩ hRR, hsta, hsel⟩ ⟨hpr.1, hrec, hpr.2⟩ rfl hln hF.1.1 hst hrm hd hfl) hG hF hT hA hkc hnc (fun r hp' q => q)
  all_goals exact h.elim
