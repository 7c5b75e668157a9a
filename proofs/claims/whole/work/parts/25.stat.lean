/-! What can be seen of the code without running it. -/
def oe_cpi (j pc : Nat) : Nat := ((oe_cps j).lookup pc).getD 0
def oe_nh (j pc : Nat) : Option String := (oe_nhs j).lookup pc
def oe_rel (cp pc : Nat) (i : Jvm.ClassFile.Instr) : Jvm.ClassFile.Instr := match i with
  | .ifCond c t => .ifCond c (t - pc)
  | .if_icmp c t => .if_icmp c (t - pc)
  | .ifnull t => .ifnull (t - pc)
  | .ifnonnull t => .ifnonnull (t - pc)
  | .goto t => .goto (t - pc)
  | .tableswitch d lo hi o => .tableswitch (d - pc) lo hi (o.map (fun t => t - pc))
  | .lookupswitch d ps => .lookupswitch (d - pc) (ps.map (fun q => (q.1, q.2 - pc)))
  | .getfield _ => .getfield cp
  | .putfield _ => .putfield cp
  | .new _ => .new cp
  | .anewarray _ => .anewarray cp
  | .invokestatic _ => .invokestatic cp
  | .invokespecial _ => .invokespecial cp
  | .invokevirtual _ => .invokevirtual cp
  | .ldc _ => .ldc cp
  | i => i
def oe_tk (t : Nat) (ty : FieldType) : Bool := match t, ty with
  | 0, .int => true
  | 2, .boolean => true
  | 1, .object _ => true
  | 1, .array _ => true
  | _, _ => false
theorem oe_tk_0 {ty : FieldType} (h : oe_tk 0 ty = true) : ty = .int := by cases ty <;> first | rfl | cases h
theorem oe_tk_2 {ty : FieldType} (h : oe_tk 2 ty = true) : ty = .boolean := by cases ty <;> first | rfl | cases h
theorem oe_tk_1 {ty : FieldType} (h : oe_tk 1 ty = true) : (∃ n, ty = .object n) ∨ ∃ t, ty = .array t := by
  cases ty <;> first | exact Or.inl ⟨_, rfl⟩ | exact Or.inr ⟨_, rfl⟩ | cases h
def oe_fok (r : Nat) : Bool := match oe_cl[r / 1000]? with
  | some q => decide (r / 10 % 100 < q.2.2) && (decide (q.2.2 = oe_nf (r / 1000)) && (decide (oe_fk (r / 1000) (r / 10 % 100) = r % 10) && oe_tk (r % 10) (oe_ty (r / 1000) (r / 10 % 100))))
  | none => false
theorem oe_fok_ex {r : Nat} (h : oe_fok r = true) : ∃ q, oe_cl[r / 1000]? = some q ∧ r / 10 % 100 < q.2.2 ∧ q.2.2 = oe_nf (r / 1000) ∧ oe_fk (r / 1000) (r / 10 % 100) = r % 10 ∧ oe_tk (r % 10) (oe_ty (r / 1000) (r / 10 % 100)) = true := by
  unfold oe_fok at h
  split at h
  · rename_i q hq
    simp only [Bool.and_eq_true, decide_eq_true_eq] at h
    exact ⟨q, hq, h.1, h.2.1, h.2.2.1, h.2.2.2⟩
  · cases h
def oe_pok (j r : Nat) : Bool := match oe_cl[r / 1000]? with
  | some q => (q.2.1 (r / 10 % 100)).2.2.2 == false || ((q.2.1 (r / 10 % 100)).2.2.2 == true && (oe_ini j && decide ((q.2.1 (r / 10 % 100)).1 = oe_ow j)))
  | none => false
theorem oe_pok_ex {j r : Nat} {q : vw_C} (hq : oe_cl[r / 1000]? = some q) (h : oe_pok j r = true) : (q.2.1 (r / 10 % 100)).2.2.2 = false ∨ ((q.2.1 (r / 10 % 100)).2.2.2 = true ∧ oe_ini j = true ∧ (q.2.1 (r / 10 % 100)).1 = oe_ow j) := by
  unfold oe_pok at h
  rw [hq] at h
  simp only [Bool.or_eq_true, Bool.and_eq_true, decide_eq_true_eq, beq_iff_eq] at h
  rcases h with h | ⟨h1, h2, h3⟩
  · exact Or.inl h
  · exact Or.inr ⟨h1, h2, h3⟩
def oe_nok (r : Nat) : Bool := match oe_cl[r]? with
  | some q => decide (q.2.2 = oe_nf r)
  | none => false
theorem oe_nok_ex {r : Nat} (h : oe_nok r = true) : ∃ q, oe_cl[r]? = some q ∧ oe_nf r = q.2.2 := by
  unfold oe_nok at h
  split at h
  · rename_i q hq
    exact ⟨q, hq, (of_decide_eq_true h).symm⟩
  · cases h
def oe_cok (j np : Nat) : Bool := decide ((parseMethodDescriptor (oe_y j).desc).map (fun d => d.parameters.length) = some np) && (decide ((oe_y j).cls ≠ "java/lang/invoke/MethodHandle") && (decide ((oe_y j).cls ≠ "java/lang/invoke/VarHandle") && decide (oe_ml j ≤ 45)))
theorem oe_cok_ex {j np : Nat} (h : oe_cok j np = true) : (parseMethodDescriptor (oe_y j).desc).map (fun d => d.parameters.length) = some np ∧ (oe_y j).cls ≠ "java/lang/invoke/MethodHandle" ∧ (oe_y j).cls ≠ "java/lang/invoke/VarHandle" ∧ oe_ml j ≤ 45 := by
  unfold oe_cok at h
  simp only [Bool.and_eq_true, decide_eq_true_eq] at h
  exact h
def oe_vok (r : Nat) : Bool := match oe_cl[r / 10 % 100]? with
  | some q => decide (q.1 = (oe_y (r / 1000)).cls)
  | none => false
theorem oe_vok_ex {r : Nat} (h : oe_vok r = true) : ∃ q, oe_cl[r / 10 % 100]? = some q ∧ q.1 = (oe_y (r / 1000)).cls := by
  unfold oe_vok at h
  split at h
  · rename_i q hq
    exact ⟨q, hq, of_decide_eq_true h⟩
  · cases h
def oe_sta (j pc : Nat) (i : Jvm.ClassFile.Instr) (len : Nat) : Bool := match i with
  | .iconst v => decide (len = 1) && (decide (-1 ≤ v) && decide (v ≤ 5))
  | .bipush v => decide (len = 2) && (decide (-128 ≤ v) && decide (v < 128))
  | .sipush v => decide (len = 3) && (decide (-32768 ≤ v) && decide (v < 32768))
  | .iload _ => decide (len = 2)
  | .aload _ => decide (len = 2)
  | .istore i => decide (len = 2) && decide (i < oe_ml j)
  | .astore i => decide (len = 2) && decide (i < oe_ml j)
  | .istore_n i => decide (len = 1) && decide ((i : Nat) < oe_ml j)
  | .astore_n i => decide (len = 1) && decide ((i : Nat) < oe_ml j)
  | .iinc i _ => decide (len = 3) && decide (i < oe_ml j)
  | .ifCond _ t => decide (len = 3) && decide (0 ≤ t)
  | .if_icmp _ t => decide (len = 3) && decide (0 ≤ t)
  | .ifnull t => decide (len = 3) && decide (0 ≤ t)
  | .ifnonnull t => decide (len = 3) && decide (0 ≤ t)
  | .goto t => decide (len = 3) && decide (0 ≤ t)
  | .tableswitch d lo hi o => (decide (0 ≤ d) && o.toList.all (fun t => decide (0 ≤ t))) && decide ((o.toList.length : Int) = hi - lo + 1)
  | .lookupswitch d ps => (decide (0 ≤ d) && ps.toList.all (fun q => decide (0 ≤ q.2))) && (((ps.map (fun q => (q.1, q.2 - (pc : Int)))).toList.zip ((ps.map (fun q => (q.1, q.2 - (pc : Int)))).toList.drop 1)).all (fun (a, next) => a.1 < next.1))
  | .getfield r => decide (len = 3) && oe_fok r
  | .putfield r => (decide (len = 3) && oe_fok r) && oe_pok j r
  | .new r => decide (len = 3) && oe_nok r
  | .anewarray _ => decide (len = 3)
  | .newarray .int => decide (len = 2)
  | .newarray .char => decide (len = 2)
  | .newarray .boolean => decide (len = 2)
  | .newarray .long => decide (len = 2)
  | .newarray _ => false
  | .ldc r => (decide (len = 2) && decide (r % 2 = 1)) && decide (r / 2 < 2147483648)
  | .invokestatic r => decide (len = 3) && (if r / 1000 = 1 then true else oe_cok (r / 1000) (r % 10))
  | .invokespecial r => decide (len = 3) && (if r / 1000 = 0 then true else ((oe_cok (r / 1000) (r % 10) && decide ((oe_y (r / 1000)).name = "<init>")) && decide (oe_ret (r / 1000) = none)))
  | .invokevirtual r => (decide (len = 3) && oe_cok (r / 1000) (r % 10)) && oe_vok r
  | _ => decide (len = 1)
def oe_lws (j pc t : Nat) : List Cond := .code (oe_y t) (oe_by t) (oe_ml t) (oe_ret t) :: .initialized (oe_y t).cls :: .static (oe_y t) :: (match oe_nh j pc with
  | none => [.methodLink (oe_ow j) (oe_cpi j pc) (oe_y t)]
  | some _ => [])
def oe_lwi (j pc t : Nat) : List Cond := .code (oe_y t) (oe_by t) (oe_ml t) (oe_ret t) :: .initialized (oe_y t).cls :: .instanceMethod (oe_y t) :: (match oe_nh j pc with
  | none => [.methodLink (oe_ow j) (oe_cpi j pc) (oe_y t)]
  | some _ => [])
def oe_lwv (j pc t : Nat) : List Cond := [.code (oe_y t) (oe_by t) (oe_ml t) (oe_ret t), .initialized (oe_y t).cls, .instanceMethod (oe_y t), .selects (oe_y t).cls (oe_y t) (oe_y t), .methodLink (oe_ow j) (oe_cpi j pc) (oe_y t)]
def oe_lwn (j cp : Nat) (q : vw_C) : List Cond := [.classLink (oe_ow j) cp q.1, .instantiable q.1 q.2.2, .initialized q.1]
def oe_lw (j pc : Nat) (i : Jvm.ClassFile.Instr) : List Cond := match i with
  | .getfield r => (match oe_cl[r / 1000]? with
    | some q => [.fieldLink (oe_ow j) (oe_cpi j pc) (q.2.1 (r / 10 % 100)).1 (q.2.1 (r / 10 % 100)).2.1 (q.2.1 (r / 10 % 100)).2.2.1]
    | none => [])
  | .putfield r => (match oe_cl[r / 1000]? with
    | some q => [.fieldLink (oe_ow j) (oe_cpi j pc) (q.2.1 (r / 10 % 100)).1 (q.2.1 (r / 10 % 100)).2.1 (q.2.1 (r / 10 % 100)).2.2.1]
    | none => [])
  | .new r => (match oe_cl[r]? with
    | some q => oe_lwn j (oe_cpi j pc) q
    | none => [])
  | .anewarray _ => [.classLink (oe_ow j) (oe_cpi j pc) oe_eqn]
  | .newarray ty => [.arrayClass (newarray.typeOf ty)]
  | .ldc r => [.constant (oe_ow j) (oe_cpi j pc) (Int32.ofInt (r / 2 : Nat))]
  | .invokestatic r => if r / 1000 = 1 then [.methodLink (oe_ow j) (oe_cpi j pc) arraycopyName, .native arraycopyName, .static arraycopyName, .initialized "java/lang/System"] else oe_lws j pc (r / 1000)
  | .invokespecial r => if r / 1000 = 0 then [.methodLink (oe_ow j) (oe_cpi j pc) objectInit, .instanceMethod objectInit, .code objectInit ⟨#[0xb1]⟩ 1 none] else oe_lwi j pc (r / 1000)
  | .invokevirtual r => oe_lwv j pc (r / 1000)
  | _ => []
def oe_W : List Cond := (List.range oe_nM).flatMap (fun j => (oe_code j).flatMap (fun q => oe_lw j q.1 q.2.1)) ++ oe_cl.flatMap (fun q => u_ws q.1 q.2.1 q.2.2)
def oe_nsq (j : Nat) (q : Nat × Jvm.ClassFile.Instr × Nat) : List (String × Nat × MethodName × String) := match oe_nh j q.1, q.2.1 with
  | some h, .invokestatic r => [(oe_ow j, oe_cpi j q.1, oe_y (r / 1000), h)]
  | some h, .invokespecial r => [(oe_ow j, oe_cpi j q.1, oe_y (r / 1000), h)]
  | _, _ => []
def oe_nest : List (String × Nat × MethodName × String) := (List.range oe_nM).flatMap (fun j => (oe_code j).flatMap (oe_nsq j))
theorem oe_find_mem {pc : Nat} {q : Jvm.ClassFile.Instr × Nat} : ∀ {c : List (Nat × Jvm.ClassFile.Instr × Nat)}, oe_find c pc = some q → (pc, q) ∈ c
  | [], h => by cases h
  | x :: c, h => by
    unfold oe_find at h
    split at h
    · rename_i e
      cases h
      rw [← e]
      exact List.mem_cons_self
    · exact List.mem_cons_of_mem _ (oe_find_mem h)
theorem oe_in_range {j pc : Nat} {q : Jvm.ClassFile.Instr × Nat} (h : oe_find (oe_code j) pc = some q) : j < oe_nM := by
  rcases Nat.lt_or_ge j oe_nM with e | e
  · exact e
  · rw [oe_code_out j e] at h
    cases h
theorem oe_lwm (j pc : Nat) (i : Jvm.ClassFile.Instr) (len : Nat) (h : oe_find (oe_code j) pc = some (i, len)) : ∀ w ∈ oe_lw j pc i, w ∈ oe_W := fun w hw =>
  List.mem_append_left _ (List.mem_flatMap.mpr ⟨j, List.mem_range.mpr (oe_in_range h), List.mem_flatMap.mpr ⟨(pc, i, len), oe_find_mem h, hw⟩⟩)
theorem oe_clw (ci : Nat) (q : vw_C) (h : oe_cl[ci]? = some q) : ∀ w ∈ u_ws q.1 q.2.1 q.2.2, w ∈ oe_W := fun w hw =>
  List.mem_append_right _ (List.mem_flatMap.mpr ⟨q, List.mem_of_getElem? h, hw⟩)
theorem oe_nst_in (j pc : Nat) (i : Jvm.ClassFile.Instr) (len : Nat) (h : oe_find (oe_code j) pc = some (i, len)) (host : String) (hn : oe_nh j pc = some host) (t : Nat) (ht : (∃ r, i = .invokestatic r ∧ t = r / 1000) ∨ ∃ r, i = .invokespecial r ∧ t = r / 1000) : (oe_ow j, oe_cpi j pc, oe_y t, host) ∈ oe_nest := by
  rcases ht with ⟨r, rfl, rfl⟩ | ⟨r, rfl, rfl⟩
  · refine List.mem_flatMap.mpr ⟨j, List.mem_range.mpr (oe_in_range h), List.mem_flatMap.mpr ⟨(pc, .invokestatic r, len), oe_find_mem h, ?_⟩⟩
    unfold oe_nsq
    simp only [hn]
    exact List.mem_cons_self
  · refine List.mem_flatMap.mpr ⟨j, List.mem_range.mpr (oe_in_range h), List.mem_flatMap.mpr ⟨(pc, .invokespecial r, len), oe_find_mem h, ?_⟩⟩
    unfold oe_nsq
    simp only [hn]
    exact List.mem_cons_self
def oe_chk (j : Nat) (q : Nat × Jvm.ClassFile.Instr × Nat) : Bool := decide (decode (oe_by j) q.1 = .ok (oe_rel (oe_cpi j q.1) q.1 q.2.1, q.2.2)) && oe_sta j q.1 q.2.1 q.2.2
def oe_wj (j : Nat) : List Cond := .code (oe_y j) (oe_by j) (oe_ml j) (oe_ret j) :: oe_W
