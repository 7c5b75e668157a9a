/-! What holds at the law's start: classes, arrays, texts, statics. -/
theorem st_ins : ew_ok (oe_cl.map (fun q => Cond.instantiable q.1 q.2.2)) [82, 156, 97, 103, 185, 191, 90, 803] = true := by decide +kernel
section ST
variable {s : State} {args : Array Value}
theorem st_K (hts : ∀ w ∈ lw_tbl, w.before args s = true) : ∃ (D : va_G) (cA : Nat → ClassId), va_K D oe_cl (oe_tys cA) s := by
  have h1 : ∀ c : Nat, ∃ f : ClassId × (Nat → Nat), ∀ q, oe_cl[c]? = some q → u_Kn s q.1 q.2.1 q.2.2 f.1 f.2 := by
    intro c
    cases hq : oe_cl[c]? with
    | none => exact ⟨((0 : Nat), fun _ => 0), fun q h => by cases h⟩
    | some q =>
      obtain ⟨cC, iS, h⟩ := u_known (ws := lw_tbl) (args := args) (C := q.1) (T := q.2.1) (N := q.2.2) (n := q.2.2) hts (fun w hw => ew_W w (oe_clw c q hq w hw)) (hts _ (ew_mem _ _ st_ins _ (List.mem_map.mpr ⟨q, List.mem_of_getElem? hq, rfl⟩)))
      exact ⟨(cC, iS), fun q' h' => by cases h'; exact h⟩
  obtain ⟨c0, k0, p0, a0, b0, d0⟩ := Cond.arrayClass_spec (hts (.arrayClass .int) (ew_s1 (List.mem_of_getElem? (i := 72) rfl)))
  obtain ⟨c1, k1, p1, a1, b1, d1⟩ := Cond.arrayClass_spec (hts (.arrayClass .char) (ew_s1 (List.mem_of_getElem? (i := 71) rfl)))
  obtain ⟨c2, k2, p2, a2, b2, d2⟩ := Cond.arrayClass_spec (hts (.arrayClass .boolean) (ew_s1 (List.mem_of_getElem? (i := 125) rfl)))
  obtain ⟨c3, k3, p3, a3, b3, d3⟩ := Cond.arrayClass_spec (hts (.arrayClass .long) (ew_s5 (List.mem_of_getElem? (i := 146) rfl)))
  obtain ⟨p4, c4, k4, e1, e2, e3, e4, e5⟩ := Cond.arrayOver_spec (hts (.arrayOver (.object "OrderedEquations$Equation")) (ew_s1 (List.mem_of_getElem? (i := 38) rfl)))
  refine ⟨(fun c => (Classical.choose (h1 c)).1, fun c => (Classical.choose (h1 c)).2), fun k => [c0, c1, c2, c3, c4].getD k c0, fun c q hq => Classical.choose_spec (h1 c) q hq, fun k q hq => ?_⟩
  match k, hq with
  | 0, hq => cases hq; exact ⟨fun n z => ⟨fun k h => (by cases h), k0, b0, p0, d0⟩, a0⟩
  | 1, hq => cases hq; exact ⟨fun n z => ⟨fun k h => (by cases h), k1, b1, p1, d1⟩, a1⟩
  | 2, hq => cases hq; exact ⟨fun n z => ⟨fun k h => (by cases h), k2, b2, p2, d2⟩, a2⟩
  | 3, hq => cases hq; exact ⟨fun n z => ⟨fun k h => (by cases h), k3, b3, p3, d3⟩, a3⟩
  | 4, hq => cases hq; exact ⟨fun n z => ⟨fun k h => (by cases h), k4, e3, p4, e4⟩, ⟨k4, p4, e3, e4, e1, e5⟩⟩
  | k + 5, hq => cases hq
theorem st_N (hts : ∀ w ∈ lw_tbl, w.before args s = true) : oe_N s :=
  ⟨fun q hq => va_any rfl (hts _ (ew_mem _ _ ew_ne _ (List.mem_map.mpr ⟨q, hq, rfl⟩))), va_AO.of (A := args) (hts _ (ew_s1 (List.mem_of_getElem? (i := 38) rfl)))⟩
def st_t (i : Nat) : Term := if i = 0 then .string "OrderedEquations" 179 else .string "OrderedEquations" 187
def st_v (i : Nat) : Term := .field (st_t i) "java/lang/String" "value" "[B"
def st_F : List Cond := flatC (Cond.and given_1 narrow_1)
theorem st_1 : ∀ i, i < 2 → (Cond.exactly (st_t i) "java/lang/String") ∈ st_F := by decide +kernel
theorem st_2 : ∀ i, i < 2 → (Cond.eq (.field (st_t i) "java/lang/String" "coder" "B") (.int 0)) ∈ st_F := by decide +kernel
theorem st_3 : ∀ i, i < 2 → (Cond.arrayOf (st_v i) .byte) ∈ st_F := by decide +kernel
theorem st_4 : ∀ i, i < 2 → (Cond.eq (.length (st_v i)) (.int (Int32.ofNat (sw_lens.getD i 0)))) ∈ st_F := by decide +kernel
theorem st_5 : ∀ i, i < 2 → ∀ j, j < sw_lens.getD i 0 → (Cond.eq (.elem (st_v i) (.int (Int32.ofNat j))) (.int ((sw_byt.getD i []).getD j 0))) ∈ st_F := by decide +kernel
theorem st_6 : Cond.not (Cond.eq (st_t 0) (st_t 1)) ∈ st_F := by decide +kernel
theorem st_7 : Cond.eq (.static "java/lang/String" "COMPACT_STRINGS" "Z") (.int 1) ∈ st_F := by decide +kernel
theorem st_8 : Cond.isRef (.static "jdk/internal/util/Preconditions" "SIOOBE_FORMATTER" "Ljava/util/function/BiFunction;") ∈ st_F := by decide +kernel
theorem st_9 : Cond.isRef (.static "java/lang/Throwable" "UNASSIGNED_STACK" "[Ljava/lang/StackTraceElement;") ∈ st_F := by decide +kernel
theorem st_10 : Cond.isRef (.static "java/lang/Throwable" "SUPPRESSED_SENTINEL" "Ljava/util/List;") ∈ st_F := by decide +kernel
theorem st_11 : Cond.not (Cond.castable tw_IOE tw_IAE) ∈ st_F := by decide +kernel
theorem st_Z (hts : ∀ w ∈ lw_tbl, w.before args s = true) (hgv : (Cond.and given_1 narrow_1).before args s = true) {A : Nat → Prop} (hA : ∀ a : Nat, a < s.heap.size → ¬ A a) : ∃ zK zV za : Nat → Nat, lz_Z zK zV za A s s.heap := by
  have hf : ∀ w ∈ st_F, w.before args s = true := flat_of_before _ hgv
  obtain ⟨zK, zV, hS, hev⟩ := vk_Sof (args := args) (s := s) (N := 2) (tm := st_t) (len := sw_lens) (byt := sw_byt) (A := A) (by decide) (fun i hi => hf _ (st_1 i hi)) (fun i hi => hf _ (st_2 i hi)) (fun i hi => hf _ (st_3 i hi)) (fun i hi => hf _ (st_4 i hi)) (fun i hi j hj => hf _ (st_5 i hi j hj)) (fun i j hi hj hij => by
    match i, j, hi, hj, hij with
    | 0, 1, _, _, _ => exact Or.inl (hf _ st_6)
    | 1, 0, _, _, _ => exact Or.inr (hf _ st_6)
    | 0, 0, _, _, h => exact absurd rfl h
    | 1, 1, _, _, h => exact absurd rfl h) hA
  obtain ⟨cO, -, hfO, -⟩ := Cond.instantiable_spec (hts (.instantiable "OrderedEquations" 14) (ew_s1 (List.mem_of_getElem? (i := 24) rfl)))
  have w79 := hts (.stringRef "OrderedEquations" 79 "30 equations wait") (ew_s3 (List.mem_of_getElem? (i := 178) rfl))
  have w129 := hts (.stringRef "OrderedEquations" 129 "not 1 .. 20 steps") (ew_s3 (List.mem_of_getElem? (i := 221) rfl))
  have w133 := hts (.stringRef "OrderedEquations" 133 "not 0 .. 2") (ew_s3 (List.mem_of_getElem? (i := 235) rfl))
  have w141 := hts (.stringRef "OrderedEquations" 141 "there is none such") (ew_s4 (List.mem_of_getElem? (i := 17) rfl))
  obtain ⟨-, -, -, a0, -, -, -, -, -, v0⟩ := Cond.stringRef_spec hfO w79
  obtain ⟨-, -, -, a1, -, -, -, -, -, v1⟩ := Cond.stringRef_spec hfO w129
  obtain ⟨-, -, -, a2, -, -, -, -, -, v2⟩ := Cond.stringRef_spec hfO w133
  obtain ⟨-, -, -, a3, -, -, -, -, -, v3⟩ := Cond.stringRef_spec hfO w141
  have y1 := hts (.laysStatic "java/lang/Throwable" "UNASSIGNED_STACK" "[Ljava/lang/StackTraceElement;") (ew_s3 (List.mem_of_getElem? (i := 164) rfl))
  have y2 := hts (.laysStatic "java/lang/Throwable" "SUPPRESSED_SENTINEL" "Ljava/util/List;") (ew_s3 (List.mem_of_getElem? (i := 166) rfl))
  have yT := hts (.initialized "java/lang/Throwable") (ew_s1 (List.mem_of_getElem? (i := 9) rfl))
  refine ⟨zK, zV, fun i => [a0, a1, a2, a3].getD i 0, ⟨⟨hS, ?_, ?_⟩, ?_, ?_, fun w hw a => ?_⟩, ⟨?_, ?_, ⟨tw_Y.of y1 hA, tw_Y.of y2 hA⟩, vk_R.of w79 v0, vk_R.of w129 v1, vk_R.of w133 v2, vk_R.of w141 v3⟩, fun w hw a => ?_, ?_⟩
  · exact va_Zof (hts (.laysStatic "java/lang/String" "COMPACT_STRINGS" "Z") (ew_s2 (List.mem_of_getElem? (i := 21) rfl))) (hts (.initialized "java/lang/String") (ew_s1 (List.mem_of_getElem? (i := 13) rfl))) (va_eqi (hf _ st_7)) hA
  · exact va_Zqof (hts (.laysStatic "jdk/internal/util/Preconditions" "SIOOBE_FORMATTER" "Ljava/util/function/BiFunction;") (ew_s2 (List.mem_of_getElem? (i := 64) rfl))) (hts (.initialized "jdk/internal/util/Preconditions") (ew_s1 (List.mem_of_getElem? (i := 17) rfl))) (hf _ st_8) hA
  · exact vk_R.of (hts (.stringRef "OrderedEquations" 179 "uvwxyz") (ew_s2 (List.mem_of_getElem? (i := 7) rfl))) (hev 0 (by decide))
  · exact vk_R.of (hts (.stringRef "OrderedEquations" 187 "dcbagfqp") (ew_s2 (List.mem_of_getElem? (i := 94) rfl))) (hev 1 (by decide))
  · have q := sw_ok w hw
    rw [Bool.and_eq_true] at q
    exact va_any q.1 (hts w (ew_sw w hw))
  · exact va_Zqof y1 yT (hf _ st_9) hA
  · exact va_Zqof y2 yT (hf _ st_10) hA
  · refine va_any ?_ (hts w (ew_tw w hw))
    have q := tw_ok w hw
    rw [Bool.or_eq_true, Bool.and_eq_true] at q
    rcases q with q | q
    · exact q.1
    · unfold tw_d at q
      split at q
      · rfl
      · rfl
      · cases q
  · intro cN cC h1 h2 h3
    have hno := hf _ st_11
    simp [Cond.before, Cond.holds, Cond.value, h1, h2, h3] at hno
end ST
