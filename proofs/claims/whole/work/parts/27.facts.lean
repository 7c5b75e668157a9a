/-! What the tables say. -/
theorem oe_tyok (ci : Nat) (q : vw_C) (h : oe_cl[ci]? = some q) : ∀ k, k < q.2.2 → parseFieldDescriptor (q.2.1 k).2.2.1 = some (oe_ty ci k) := by
  have a : ∀ i, i < 8 → ∀ q, oe_cl[i]? = some q → ∀ k, k < q.2.2 → parseFieldDescriptor (q.2.1 k).2.2.1 = some (oe_ty i k) := by
    intro i hi q hq
    match i, hi, hq with
    | 0, _, hq => cases hq; exact (by decide +kernel : ∀ k, k < 14 → parseFieldDescriptor (oe_T0 k).2.2.1 = some (oe_ty 0 k))
    | 1, _, hq => cases hq; exact (by decide +kernel : ∀ k, k < 5 → parseFieldDescriptor (oe_T1 k).2.2.1 = some (oe_ty 1 k))
    | 2, _, hq => cases hq; exact (by decide +kernel : ∀ k, k < 2 → parseFieldDescriptor (oe_T2 k).2.2.1 = some (oe_ty 2 k))
    | 3, _, hq => cases hq; exact (by decide +kernel : ∀ k, k < 3 → parseFieldDescriptor (oe_T3 k).2.2.1 = some (oe_ty 3 k))
    | 4, _, hq => cases hq; exact (by decide +kernel : ∀ k, k < 3 → parseFieldDescriptor (oe_T4 k).2.2.1 = some (oe_ty 4 k))
    | 5, _, hq => cases hq; exact (by decide +kernel : ∀ k, k < 8 → parseFieldDescriptor (oe_T5 k).2.2.1 = some (oe_ty 5 k))
    | 6, _, hq => cases hq; exact (by decide +kernel : ∀ k, k < 2 → parseFieldDescriptor (oe_T6 k).2.2.1 = some (oe_ty 6 k))
    | 7, _, hq => cases hq; exact (by decide +kernel : ∀ k, k < 45 → parseFieldDescriptor (oe_T7 k).2.2.1 = some (oe_ty 7 k))
  have hi : ci < 8 := (List.getElem?_eq_some_iff.mp h).1
  exact a ci hi q h
theorem oe_tynm (ci : Nat) (q : vw_C) (h : oe_cl[ci]? = some q) : ∀ a, a < q.2.2 → ∀ b, b < q.2.2 → a ≠ b → (q.2.1 a).2.1 ≠ (q.2.1 b).2.1 := by
  have hi : ci < 8 := (List.getElem?_eq_some_iff.mp h).1
  match ci, hi, h with
  | 0, _, hq => cases hq; exact (by decide +kernel : ∀ a, a < 14 → ∀ b, b < 14 → a ≠ b → (oe_T0 a).2.1 ≠ (oe_T0 b).2.1)
  | 1, _, hq => cases hq; exact (by decide +kernel : ∀ a, a < 5 → ∀ b, b < 5 → a ≠ b → (oe_T1 a).2.1 ≠ (oe_T1 b).2.1)
  | 2, _, hq => cases hq; exact (by decide +kernel : ∀ a, a < 2 → ∀ b, b < 2 → a ≠ b → (oe_T2 a).2.1 ≠ (oe_T2 b).2.1)
  | 3, _, hq => cases hq; exact (by decide +kernel : ∀ a, a < 3 → ∀ b, b < 3 → a ≠ b → (oe_T3 a).2.1 ≠ (oe_T3 b).2.1)
  | 4, _, hq => cases hq; exact (by decide +kernel : ∀ a, a < 3 → ∀ b, b < 3 → a ≠ b → (oe_T4 a).2.1 ≠ (oe_T4 b).2.1)
  | 5, _, hq => cases hq; exact (by decide +kernel : ∀ a, a < 8 → ∀ b, b < 8 → a ≠ b → (oe_T5 a).2.1 ≠ (oe_T5 b).2.1)
  | 6, _, hq => cases hq; exact (by decide +kernel : ∀ a, a < 2 → ∀ b, b < 2 → a ≠ b → (oe_T6 a).2.1 ≠ (oe_T6 b).2.1)
  | 7, _, hq => cases hq; exact (by decide +kernel : ∀ a, a < 45 → ∀ b, b < 45 → a ≠ b → (oe_T7 a).2.1 ≠ (oe_T7 b).2.1)
theorem oe_eqc_ok : ∃ r : vw_C, oe_cl[oe_eqc]? = some r ∧ r.1 = oe_eqn := ⟨("OrderedEquations$Equation", oe_T2, 2), rfl, rfl⟩
theorem oe_nf_lt (r : Nat) : oe_nf r < 2147483648 := by
  unfold oe_nf
  split <;> decide
theorem oe_ow_y (j : Nat) : oe_ow j = (oe_y j).cls := rfl
theorem oe_ini_y (j : Nat) (h : oe_ini j = true) : (oe_y j).name = "<init>" := by
  unfold oe_ini at h
  exact eq_of_beq h
theorem oe_plain (j : Nat) : plainName (oe_y j).cls = true := by
  unfold oe_y
  split <;> decide +kernel
theorem oe_rt_0 (j : Nat) (h : oe_rt j = 0) : oe_ret j = none := by
  unfold oe_rt at h
  unfold oe_ret
  split at h <;> first | rfl | cases h
theorem oe_rt_1 (j : Nat) (h : oe_rt j = 1) : oe_ret j = some .int := by
  unfold oe_rt at h
  unfold oe_ret
  split at h <;> first | rfl | cases h
theorem oe_rt_2 (j : Nat) (h : oe_rt j = 2) : oe_ret j = some .boolean := by
  unfold oe_rt at h
  unfold oe_ret
  split at h <;> first | rfl | cases h
theorem oe_rt_3 (j : Nat) (h : oe_rt j = 3) : oe_ret j = some .char := by
  unfold oe_rt at h
  unfold oe_ret
  split at h <;> first | rfl | cases h
theorem oe_rt_4 (j : Nat) (h : oe_rt j = 4) : ∃ rt, oe_ret j = some rt ∧ ((∃ n, rt = .object n) ∨ ∃ t, rt = .array t) := by
  unfold oe_rt at h
  unfold oe_ret
  split at h <;> first | exact ⟨_, rfl, Or.inl ⟨_, rfl⟩⟩ | cases h
set_option maxRecDepth 100000 in
theorem oe_goodW : oe_W.all goodWord = true := by decide +kernel
theorem oe_good (t : Nat) (h : Cond.code (oe_y t) (oe_by t) (oe_ml t) (oe_ret t) ∈ oe_W) : GoodIn oe_W (oe_wj t) := by
  intro w hw
  have hin : w ∈ oe_W := by
    rcases List.mem_cons.mp hw with q | q
    · rw [q]; exact h
    · exact q
  exact ⟨hin, good_of_word (List.all_eq_true.mp oe_goodW w hin)⟩
