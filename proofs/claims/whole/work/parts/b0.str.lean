/-! The texts of letters: the words of String's own methods, and what is known of the two texts. -/
def sy_ix1 : MethodName := ⟨"java/lang/String", "indexOf", "(I)I"⟩
def sy_ix2 : MethodName := ⟨"java/lang/String", "indexOf", "(II)I"⟩
def sy_isl : MethodName := ⟨"java/lang/String", "isLatin1", "()Z"⟩
def sy_len : MethodName := ⟨"java/lang/String", "length", "()I"⟩
def sy_cod : MethodName := ⟨"java/lang/String", "coder", "()B"⟩
def sy_lix : MethodName := ⟨"java/lang/StringLatin1", "indexOf", "([BIII)I"⟩
def sy_can : MethodName := ⟨"java/lang/StringLatin1", "canEncode", "(I)Z"⟩
def sy_lic : MethodName := ⟨"java/lang/StringLatin1", "indexOfChar", "([BIII)I"⟩
def sy_cha : MethodName := ⟨"java/lang/String", "charAt", "(I)C"⟩
def sy_lch : MethodName := ⟨"java/lang/StringLatin1", "charAt", "([BI)C"⟩
def sy_chk : MethodName := ⟨"java/lang/String", "checkIndex", "(II)V"⟩
def sy_pch : MethodName := ⟨"jdk/internal/util/Preconditions", "checkIndex", "(IILjava/util/function/BiFunction;)I"⟩
def sy_isv : MethodName := ⟨"OrderedEquations", "isVariable", "(I)Z"⟩
theorem sp_ix1 : (parseMethodDescriptor sy_ix1.desc).map (fun d => d.parameters.length) = some 1 := by decide +kernel
theorem sq_ix1 : sy_ix1.cls ≠ "java/lang/invoke/MethodHandle" ∧ sy_ix1.cls ≠ "java/lang/invoke/VarHandle" ∧ (parseMethodDescriptor sy_ix1.desc).map (fun d => d.parameters.length) = some 1 := ⟨by decide, by decide, sp_ix1⟩
theorem sp_ix2 : (parseMethodDescriptor sy_ix2.desc).map (fun d => d.parameters.length) = some 2 := by decide +kernel
theorem sq_ix2 : sy_ix2.cls ≠ "java/lang/invoke/MethodHandle" ∧ sy_ix2.cls ≠ "java/lang/invoke/VarHandle" ∧ (parseMethodDescriptor sy_ix2.desc).map (fun d => d.parameters.length) = some 2 := ⟨by decide, by decide, sp_ix2⟩
theorem sp_isl : (parseMethodDescriptor sy_isl.desc).map (fun d => d.parameters.length) = some 0 := by decide +kernel
theorem sq_isl : sy_isl.cls ≠ "java/lang/invoke/MethodHandle" ∧ sy_isl.cls ≠ "java/lang/invoke/VarHandle" ∧ (parseMethodDescriptor sy_isl.desc).map (fun d => d.parameters.length) = some 0 := ⟨by decide, by decide, sp_isl⟩
theorem sp_len : (parseMethodDescriptor sy_len.desc).map (fun d => d.parameters.length) = some 0 := by decide +kernel
theorem sq_len : sy_len.cls ≠ "java/lang/invoke/MethodHandle" ∧ sy_len.cls ≠ "java/lang/invoke/VarHandle" ∧ (parseMethodDescriptor sy_len.desc).map (fun d => d.parameters.length) = some 0 := ⟨by decide, by decide, sp_len⟩
theorem sp_cod : (parseMethodDescriptor sy_cod.desc).map (fun d => d.parameters.length) = some 0 := by decide +kernel
theorem sq_cod : sy_cod.cls ≠ "java/lang/invoke/MethodHandle" ∧ sy_cod.cls ≠ "java/lang/invoke/VarHandle" ∧ (parseMethodDescriptor sy_cod.desc).map (fun d => d.parameters.length) = some 0 := ⟨by decide, by decide, sp_cod⟩
theorem sp_lix : (parseMethodDescriptor sy_lix.desc).map (fun d => d.parameters.length) = some 4 := by decide +kernel
theorem sq_lix : sy_lix.cls ≠ "java/lang/invoke/MethodHandle" ∧ sy_lix.cls ≠ "java/lang/invoke/VarHandle" ∧ (parseMethodDescriptor sy_lix.desc).map (fun d => d.parameters.length) = some 4 := ⟨by decide, by decide, sp_lix⟩
theorem sp_can : (parseMethodDescriptor sy_can.desc).map (fun d => d.parameters.length) = some 1 := by decide +kernel
theorem sq_can : sy_can.cls ≠ "java/lang/invoke/MethodHandle" ∧ sy_can.cls ≠ "java/lang/invoke/VarHandle" ∧ (parseMethodDescriptor sy_can.desc).map (fun d => d.parameters.length) = some 1 := ⟨by decide, by decide, sp_can⟩
theorem sp_lic : (parseMethodDescriptor sy_lic.desc).map (fun d => d.parameters.length) = some 4 := by decide +kernel
theorem sq_lic : sy_lic.cls ≠ "java/lang/invoke/MethodHandle" ∧ sy_lic.cls ≠ "java/lang/invoke/VarHandle" ∧ (parseMethodDescriptor sy_lic.desc).map (fun d => d.parameters.length) = some 4 := ⟨by decide, by decide, sp_lic⟩
theorem sp_cha : (parseMethodDescriptor sy_cha.desc).map (fun d => d.parameters.length) = some 1 := by decide +kernel
theorem sq_cha : sy_cha.cls ≠ "java/lang/invoke/MethodHandle" ∧ sy_cha.cls ≠ "java/lang/invoke/VarHandle" ∧ (parseMethodDescriptor sy_cha.desc).map (fun d => d.parameters.length) = some 1 := ⟨by decide, by decide, sp_cha⟩
theorem sp_lch : (parseMethodDescriptor sy_lch.desc).map (fun d => d.parameters.length) = some 2 := by decide +kernel
theorem sq_lch : sy_lch.cls ≠ "java/lang/invoke/MethodHandle" ∧ sy_lch.cls ≠ "java/lang/invoke/VarHandle" ∧ (parseMethodDescriptor sy_lch.desc).map (fun d => d.parameters.length) = some 2 := ⟨by decide, by decide, sp_lch⟩
theorem sp_chk : (parseMethodDescriptor sy_chk.desc).map (fun d => d.parameters.length) = some 2 := by decide +kernel
theorem sq_chk : sy_chk.cls ≠ "java/lang/invoke/MethodHandle" ∧ sy_chk.cls ≠ "java/lang/invoke/VarHandle" ∧ (parseMethodDescriptor sy_chk.desc).map (fun d => d.parameters.length) = some 2 := ⟨by decide, by decide, sp_chk⟩
theorem sp_pch : (parseMethodDescriptor sy_pch.desc).map (fun d => d.parameters.length) = some 3 := by decide +kernel
theorem sq_pch : sy_pch.cls ≠ "java/lang/invoke/MethodHandle" ∧ sy_pch.cls ≠ "java/lang/invoke/VarHandle" ∧ (parseMethodDescriptor sy_pch.desc).map (fun d => d.parameters.length) = some 3 := ⟨by decide, by decide, sp_pch⟩
theorem sp_isv : (parseMethodDescriptor sy_isv.desc).map (fun d => d.parameters.length) = some 1 := by decide +kernel
theorem sq_isv : sy_isv.cls ≠ "java/lang/invoke/MethodHandle" ∧ sy_isv.cls ≠ "java/lang/invoke/VarHandle" ∧ (parseMethodDescriptor sy_isv.desc).map (fun d => d.parameters.length) = some 1 := ⟨by decide, by decide, sp_isv⟩
def sw_W : List Cond := [.initialized "java/lang/String",
  .initialized "java/lang/StringLatin1",
  .initialized "jdk/internal/util/Preconditions",
  .initialized "OrderedEquations",
  .initialized "java/lang/Math",
  .code sy_ix1 prog_17_method_79_code 2 (some .int),
  .code sy_ix2 prog_17_method_80_code 3 (some .int),
  .code sy_isl prog_17_method_154_code 1 (some .boolean),
  .code sy_len prog_17_method_54_code 1 (some .int),
  .code sy_cod prog_17_method_152_code 1 (some .byte),
  .code sy_lix prog_18_method_22_code 4 (some .int),
  .code sy_can prog_18_method_4_code 1 (some .boolean),
  .code sy_lic prog_18_method_23_code 6 (some .int),
  .code sy_cha prog_17_method_56_code 2 (some .char),
  .code sy_lch prog_18_method_2_code 2 (some .char),
  .code sy_chk prog_17_method_155_code 2 none,
  .code sy_pch prog_23_method_11_code 3 (some .int),
  .code sy_isv prog_1_method_15_code 1 (some .boolean),
  .methodLink "OrderedEquations" 181 sy_ix1,
  .instanceMethod sy_ix1,
  .selects "java/lang/String" sy_ix1 sy_ix1,
  .methodLink "java/lang/String" 633 sy_ix2,
  .instanceMethod sy_ix2,
  .selects "java/lang/String" sy_ix2 sy_ix2,
  .methodLink "java/lang/String" 492 sy_isl,
  .instanceMethod sy_isl,
  .selects "java/lang/String" sy_isl sy_isl,
  .methodLink "java/lang/String" 505 sy_len,
  .instanceMethod sy_len,
  .selects "java/lang/String" sy_len sy_len,
  .methodLink "java/lang/String" 335 sy_cod,
  .instanceMethod sy_cod,
  .selects "java/lang/String" sy_cod sy_cod,
  .methodLink "OrderedEquations" 193 sy_cha,
  .instanceMethod sy_cha,
  .selects "java/lang/String" sy_cha sy_cha,
  .methodLink "java/lang/String" 637 sy_lix,
  .static sy_lix,
  .methodLink "java/lang/StringLatin1" 88 sy_can,
  .static sy_can,
  .methodLink "java/lang/StringLatin1" 95 sy_lic,
  .static sy_lic,
  .methodLink "java/lang/String" 495 sy_lch,
  .static sy_lch,
  .methodLink "java/lang/StringLatin1" 9 sy_chk,
  .static sy_chk,
  .methodLink "java/lang/String" 1059 sy_pch,
  .static sy_pch,
  .methodLink "OrderedEquations" 189 sy_isv,
  .static sy_isv,
  .methodLink "java/lang/StringLatin1" 92 Lib.Math.max.name,
  .static Lib.Math.max.name,
  .code Lib.Math.max.name Lib.Math.max.code 2 (some .int),
  .methodLink "java/lang/StringLatin1" 38 Lib.Math.min.name,
  .static Lib.Math.min.name,
  .code Lib.Math.min.name Lib.Math.min.code 2 (some .int),
  .fieldLink "java/lang/String" 38 "java/lang/String" "COMPACT_STRINGS" "Z",
  .fieldLink "java/lang/String" 15 "java/lang/String" "coder" "B",
  .fieldLink "java/lang/String" 9 "java/lang/String" "value" "[B",
  .fieldLink "java/lang/String" 1053 "jdk/internal/util/Preconditions" "SIOOBE_FORMATTER" "Ljava/util/function/BiFunction;"]
theorem sw_m (k : Nat) {w : Cond} (h : sw_W[k]? = some w) : w ∈ sw_W := List.mem_of_getElem? h
theorem sw_ok : ∀ w ∈ sw_W, (w.onTables && w.keeps) = true := by
  have h : sw_W.all (fun w => w.onTables && w.keeps) = true := by decide +kernel
  exact List.all_eq_true.mp h
def sw_l (i : Nat) : List Int := match i with
  | 0 => oe_cdl
  | _ => oe_sgl
def sw_byt : List (List Int32) := [oe_cdl.map Int32.ofInt, oe_sgl.map Int32.ofInt]
def sw_lens : List Nat := [6, 8]
theorem sw_at {i : Nat} (hi : i < 2) (k : Nat) : (sw_byt.getD i []).getD k 0 = Int32.ofInt ((sw_l i).getD k 0) := by
  have key : ∀ l : List Int, (l.map Int32.ofInt).getD k 0 = Int32.ofInt (l.getD k 0) := by
    intro l
    rw [List.getD_eq_getElem?_getD, List.getElem?_map, List.getD_eq_getElem?_getD]
    cases l[k]? <;> rfl
  match i, hi with
  | 0, _ => exact key oe_cdl
  | 1, _ => exact key oe_sgl
theorem sw_ln {i : Nat} (hi : i < 2) : sw_lens.getD i 0 = (sw_l i).length := by
  match i, hi with
  | 0, _ => rfl
  | 1, _ => rfl
theorem sw_lnb {i : Nat} (hi : i < 2) : (sw_l i).length ≤ 8 := by
  match i, hi with
  | 0, _ => decide
  | 1, _ => decide
theorem sw_lnp {i : Nat} (hi : i < 2) : 0 < (sw_l i).length := by
  match i, hi with
  | 0, _ => decide
  | 1, _ => decide
theorem sw_in {i : Nat} (hi : i < 2) : ∀ b ∈ sw_l i, b ∈ oe_cdl ++ oe_sgl := by
  match i, hi with
  | 0, _ => exact fun b h => List.mem_append_left _ h
  | 1, _ => exact fun b h => List.mem_append_right _ h
theorem sw_n256 : ∀ n, n < 256 → ∀ b ∈ oe_cdl ++ oe_sgl, (Int32.ofInt b = (Int32.ofInt (n : Nat)).toInt8.toInt32 ↔ b = (n : Int)) := by decide +kernel
theorem sw_eq {c b : Int} (h0 : 0 ≤ c) (h1 : c < 256) (hb : b ∈ oe_cdl ++ oe_sgl) : Int32.ofInt b = (Int32.ofInt c).toInt8.toInt32 ↔ b = c := by
  obtain ⟨n, rfl⟩ := Int.eq_ofNat_of_zero_le h0
  exact sw_n256 n (by omega) b hb
theorem sw_ch : ∀ b ∈ oe_cdl ++ oe_sgl, ((Int32.ofInt b &&& 255).toUInt32 % 65536).toInt32 = Int32.ofInt b ∧ narrow .char (.int (Int32.ofInt b)) = .int (Int32.ofInt b) := by
  have h : ∀ b ∈ oe_cdl ++ oe_sgl, ((Int32.ofInt b &&& 255).toUInt32 % 65536).toInt32 = Int32.ofInt b ∧ 0 ≤ b ∧ b < 65536 := by decide +kernel
  intro b hb
  obtain ⟨h1, h2, h3⟩ := h b hb
  refine ⟨h1, ?_⟩
  have e := oe_narc h2 h3
  unfold vp_nar at e
  exact congrArg Value.int e
def sw_ix (c : Int) (l : List Int) (k : Nat) : Int32 := match oe_ixf c l k with
  | some j => Int32.ofInt (j : Int)
  | none => -1
theorem sw_ix_out {c : Int} (hc : ¬ c < 256) : ∀ (l : List Int) (k : Nat), (∀ b ∈ l, b < 256) → sw_ix c l k = -1
  | [], _, _ => rfl
  | b :: l, k, h => by
    have hb : ¬ b = c := by have := h b List.mem_cons_self; omega
    unfold sw_ix oe_ixf
    rw [if_neg hb]
    exact sw_ix_out hc l (k + 1) (fun b hb => h b (List.mem_cons_of_mem _ hb))
theorem sw_small : ∀ b ∈ oe_cdl ++ oe_sgl, b < 256 := by decide
def sw_S (zK zV : Nat → Nat) (A : Nat → Prop) (U : State) (H : Heap) : Prop := vk_S 2 sw_lens sw_byt zK zV A U H ∧ va_Z "java/lang/String" "COMPACT_STRINGS" "Z" (.int 1) A U H ∧ va_Zq "jdk/internal/util/Preconditions" "SIOOBE_FORMATTER" "Ljava/util/function/BiFunction;" A U H
def sw_B (zK zV : Nat → Nat) (U : State) : Prop := sw_S zK zV (fun _ => False) U U.heap
theorem sw_S.moved {zK zV : Nat → Nat} {A : Nat → Prop} {u U : State} {H : Heap} (h : u.vm.Alike U.vm) (q : sw_S zK zV A u H) : sw_S zK zV A U H := ⟨vk_S.moved h q.1, va_Z.moved h q.2.1, va_Zq.moved h q.2.2⟩
theorem sw_S.kept {zK zV : Nat → Nat} {A : Nat → Prop} {U : State} {H H1 : Heap} (q : sw_S zK zV A U H) (h : ∀ a : Nat, a < H.size → ¬ A a → H1[a]? = H[a]?) : sw_S zK zV A U H1 := ⟨q.1.kept h, q.2.1.kept h, q.2.2.kept h⟩
theorem sw_S.narrow {zK zV : Nat → Nat} {A B : Nat → Prop} {U : State} {H : Heap} (q : sw_S zK zV A U H) (h : ∀ a, B a → A a) : sw_S zK zV B U H := ⟨q.1.narrow h, q.2.1.narrow h, q.2.2.narrow h⟩
theorem sw_B.same {zK zV : Nat → Nat} {u U : State} (hv : u.vm = U.vm) (hh : u.heap = U.heap) (q : sw_B zK zV u) : sw_B zK zV U := by
  unfold sw_B
  rw [← hh]
  exact sw_S.moved (by rw [hv]; exact Vm.Alike.refl _) q
theorem sw_B.warm {zK zV : Nat → Nat} {u U : State} (hW : u.WarmedH U.vm) (hh : U.heap = u.heap) (q : sw_B zK zV u) : sw_B zK zV U := by
  unfold sw_B
  rw [hh]
  exact sw_S.moved hW.alike q
def sw_rm (k : Nat) : Room := { frames := k, cells := 0, slots := 0, locals := 40 * k }
theorem sw_good {w : Cond} (h : w ∈ sw_W) : GoodIn sw_W (w :: sw_W) := by
  intro x hx
  rcases List.mem_cons.mp hx with rfl | q
  · exact ⟨h, Or.inl (sw_ok _ h)⟩
  · exact ⟨q, Or.inl (sw_ok _ q)⟩
section SW
variable {p : Program} {l : Launch} {e : Env} {R : Room} {s : State} {m : MethodId} {args : Array Value} {below : List Frame} {meth : Method} {c : Code} {locs : List Loc} {cells slots : Nat} {Q : State → Prop}
variable {own : String} {index nL maxL k pc : Nat} {y : MethodName} {bytes cc : ByteArray} {ret : Option FieldType} {st As rest : List Value} {ls : Array Slot} {post : Int32 → Prop} {zK zV : Nat → Nat}
theorem sw_V {i : Nat} (hi : i < 2) (hM : Met l y (.code y bytes maxL ret :: sw_W) (sw_rm k) (va_Pc (.ref (zK i) :: As) (sw_B zK zV)) (vp_Si post) 0 0 (fun _ => False)) (hx : p.tables.exec = Jvm.exec) (hb : c.code = cc) (hml : c.maxLocals = nL) (hown : s.vm.findClass own = some m.cls) (hw : ∀ w ∈ sw_W, w.before args s = true) (hB : sw_B zK zV s) (hls : ls.size = nL)
    (hC : y.cls = "java/lang/String") (hlink : Cond.methodLink own index y ∈ sw_W) (hin : Cond.instanceMethod y ∈ sw_W) (hsel : Cond.selects "java/lang/String" y y ∈ sw_W) (hcode : Cond.code y bytes maxL ret ∈ sw_W) (hn : (parseMethodDescriptor y.desc).map (fun d => d.parameters.length) = some As.length)
    (hR1 : k + 1 ≤ R.frames) (hR2 : 8 + (maxL + 11) + 40 * k ≤ R.locals) (hdg : decode cc pc = .ok (.invokevirtual index, 3)) (hst : st = As.reverse ++ .ref (zK i) :: rest) (hrest : (rest.map fun v => v.category).sum ≤ 8) (hf : cells ≤ R.cells ∧ slots ≤ R.slots)
    (kk : ∀ r : Int32, post r → W p l e R s m args below meth c s.heap locs cells slots Q (F0 m (pc + 3) ls (.int r :: rest))) : W p l e R s m args below meth c s.heap locs cells slots Q (F0 m pc ls st) := by
  have hd : y.cls ≠ "java/lang/invoke/MethodHandle" ∧ y.cls ≠ "java/lang/invoke/VarHandle" ∧ (parseMethodDescriptor y.desc).map (fun d => d.parameters.length) = some As.length := by
    rw [hC]
    exact ⟨by decide, by decide, hn⟩
  refine vp_callSi (W.runV (b := zK i) (As := As) (C := "java/lang/String") (own := own) (Ts := sw_W) ⟨hx, hb, hml, hown, hw⟩ hM ⟨callB_of As.length hw (sw_good hcode) rfl rfl rfl (by rw [hC]; exact hw _ (sw_m 0 rfl)) (hw _ hlink) hd ⟨hR1, hR2⟩, hw _ hin, hw _ hsel⟩ ⟨fun a U g mk q => ⟨q.1, sw_B.same rfl rfl q.2⟩, vk_recv hB.1 hi va_S.rf, fun U hU hW => ⟨rfl, sw_B.warm hW hU hB⟩⟩ rfl rfl hls hst (lv_room hrest) hdg hf) kk
theorem sw_T (hM : Met l y (.code y bytes maxL ret :: sw_W) (sw_rm k) (va_Pc As (sw_B zK zV)) (vp_Si post) 0 0 (fun _ => False)) (hx : p.tables.exec = Jvm.exec) (hb : c.code = cc) (hml : c.maxLocals = nL) (hown : s.vm.findClass own = some m.cls) (hw : ∀ w ∈ sw_W, w.before args s = true) (hB : sw_B zK zV s) (hls : ls.size = nL)
    (hini : Cond.initialized y.cls ∈ sw_W) (hlink : Cond.methodLink own index y ∈ sw_W) (hsta : Cond.static y ∈ sw_W) (hcode : Cond.code y bytes maxL ret ∈ sw_W) (hd : y.cls ≠ "java/lang/invoke/MethodHandle" ∧ y.cls ≠ "java/lang/invoke/VarHandle" ∧ (parseMethodDescriptor y.desc).map (fun d => d.parameters.length) = some As.length)
    (hR1 : k + 1 ≤ R.frames) (hR2 : 8 + (maxL + 11) + 40 * k ≤ R.locals) (hdg : decode cc pc = .ok (.invokestatic index, 3)) (hst : st = As.reverse ++ rest) (hrest : (rest.map fun v => v.category).sum ≤ 8) (hf : cells ≤ R.cells ∧ slots ≤ R.slots)
    (kk : ∀ r : Int32, post r → W p l e R s m args below meth c s.heap locs cells slots Q (F0 m (pc + 3) ls (.int r :: rest))) : W p l e R s m args below meth c s.heap locs cells slots Q (F0 m pc ls st) := by
  refine vp_callSi (va_Run.run (va_runS (As := As) (own := own) (Ts := sw_W) ⟨hx, hb, hml, hown, hw⟩ hM ⟨callB_of As.length hw (sw_good hcode) rfl rfl rfl (hw _ hini) (hw _ hlink) hd ⟨hR1, hR2⟩, hw _ hsta⟩ ⟨fun a U g mk q => ⟨q.1, sw_B.same rfl rfl q.2⟩, fun U hU hW => ⟨rfl, sw_B.warm hW hU hB⟩⟩ rfl rfl hls hst (lv_room hrest) hdg hf)) kk
theorem sw_Tv {qost : Unit → Prop} (hM : Met l y (.code y bytes maxL ret :: sw_W) (sw_rm k) (va_Pc As (sw_B zK zV)) (va_Sv qost) 0 0 (fun _ => False)) (hx : p.tables.exec = Jvm.exec) (hb : c.code = cc) (hml : c.maxLocals = nL) (hown : s.vm.findClass own = some m.cls) (hw : ∀ w ∈ sw_W, w.before args s = true) (hB : sw_B zK zV s) (hls : ls.size = nL)
    (hini : Cond.initialized y.cls ∈ sw_W) (hlink : Cond.methodLink own index y ∈ sw_W) (hsta : Cond.static y ∈ sw_W) (hcode : Cond.code y bytes maxL ret ∈ sw_W) (hd : y.cls ≠ "java/lang/invoke/MethodHandle" ∧ y.cls ≠ "java/lang/invoke/VarHandle" ∧ (parseMethodDescriptor y.desc).map (fun d => d.parameters.length) = some As.length)
    (hR1 : k + 1 ≤ R.frames) (hR2 : 8 + (maxL + 11) + 40 * k ≤ R.locals) (hdg : decode cc pc = .ok (.invokestatic index, 3)) (hst : st = As.reverse ++ rest) (hrest : (rest.map fun v => v.category).sum ≤ 8) (hf : cells ≤ R.cells ∧ slots ≤ R.slots)
    (kk : qost () → W p l e R s m args below meth c s.heap locs cells slots Q (F0 m (pc + 3) ls rest)) : W p l e R s m args below meth c s.heap locs cells slots Q (F0 m pc ls st) := by
  refine va_csv (va_Run.run (va_runS (As := As) (own := own) (Ts := sw_W) ⟨hx, hb, hml, hown, hw⟩ hM ⟨callB_of As.length hw (sw_good hcode) rfl rfl rfl (hw _ hini) (hw _ hlink) hd ⟨hR1, hR2⟩, hw _ hsta⟩ ⟨fun a U g mk q => ⟨q.1, sw_B.same rfl rfl q.2⟩, fun U hU hW => ⟨rfl, sw_B.warm hW hU hB⟩⟩ rfl rfl hls hst (lv_room hrest) hdg hf)) kk
end SW
