/-! The law's four helpers: a call of the class under a handler. -/
def hax_y : MethodName := ⟨"OrderedEquationsLaw", "axiom", "(LOrderedEquations;[J)I"⟩
def hst_y : MethodName := ⟨"OrderedEquationsLaw", "steps", "(LOrderedEquations;I[J)I"⟩
def hct_y : MethodName := ⟨"OrderedEquationsLaw", "count", "(LOrderedEquations;I[J)I"⟩
def hsh_y : MethodName := ⟨"OrderedEquationsLaw", "show", "(LOrderedEquations;II[J)I"⟩
def hm_W : List Cond := [.initialized "OrderedEquations",
  .code (oe_y 5) (oe_by 5) (oe_ml 5) (oe_ret 5),
  .instanceMethod (oe_y 5),
  .selects "OrderedEquations" (oe_y 5) (oe_y 5),
  .methodLink "OrderedEquationsLaw" 7 (oe_y 5),
  .code (oe_y 8) (oe_by 8) (oe_ml 8) (oe_ret 8),
  .instanceMethod (oe_y 8),
  .selects "OrderedEquations" (oe_y 8) (oe_y 8),
  .methodLink "OrderedEquationsLaw" 15 (oe_y 8),
  .code (oe_y 9) (oe_by 9) (oe_ml 9) (oe_ret 9),
  .instanceMethod (oe_y 9),
  .selects "OrderedEquations" (oe_y 9) (oe_y 9),
  .methodLink "OrderedEquationsLaw" 21 (oe_y 9),
  .code (oe_y 10) (oe_by 10) (oe_ml 10) (oe_ret 10),
  .instanceMethod (oe_y 10),
  .selects "OrderedEquations" (oe_y 10) (oe_y 10),
  .methodLink "OrderedEquationsLaw" 24 (oe_y 10),
  .classLink "OrderedEquationsLaw" 13 tw_ISE,
  .classLink "OrderedEquationsLaw" 19 tw_IAE,
  .classLink "OrderedEquationsLaw" 28 tw_IOE]
theorem hm_m (k : Nat) {w : Cond} (h : hm_W[k]? = some w) : w ∈ hm_W := List.mem_of_getElem? h
theorem hm_ok : ∀ w ∈ hm_W, (w.onTables && w.keeps) = true := by
  have h : hm_W.all (fun w => w.onTables && w.keeps) = true := by decide +kernel
  exact List.all_eq_true.mp h
/-- what lasts, for the whole law -/
def lz_N (U : State) : Prop := ∀ cN cC, U.vm.findClass tw_IOE = some cN → U.vm.findClass tw_IAE = some cC → ¬ U.vm.assignable cN cC = true
theorem lz_N.moved {u U : State} (h : u.vm.Alike U.vm) (q : lz_N u) : lz_N U := by
  intro cN cC h1 h2 h3
  rw [h.findClass] at h1 h2
  rw [h.assignable] at h3
  exact q cN cC h1 h2 h3
def lz_Z (zK zV za : Nat → Nat) : (Nat → Prop) → State → Heap → Prop := fun A U H => sw_Z zK zV A U H ∧ tw_S za A U H ∧ (∀ w ∈ tw_W, ∀ a : Array Value, w.before a U = true) ∧ lz_N U
theorem lz_Zc (zK zV za : Nat → Nat) : oe_Zc (lz_Z zK zV za) :=
  ⟨fun A u U H hW h => ⟨(sw_Zc zK zV).1 A u U H hW h.1, h.2.1.warm hW, fun w hw a => tw_at hW (tw_ok w hw) (h.2.2.1 w hw #[]), h.2.2.2.moved hW.alike⟩,
   fun A u U H hv h => ⟨(sw_Zc zK zV).2.1 A u U H hv h.1, h.2.1.same hv, fun w hw a => va_tabs (by
      have q := tw_ok w hw
      rw [Bool.or_eq_true, Bool.and_eq_true] at q
      rcases q with q | q
      · exact q.1
      · unfold tw_d at q
        split at q
        · rfl
        · rfl
        · cases q) hv (h.2.2.1 w hw #[]), h.2.2.2.moved (by rw [hv]; exact Vm.Alike.refl _)⟩,
   fun A U H H1 hq h => ⟨(sw_Zc zK zV).2.2.1 A U H H1 hq h.1, h.2.1.kept hq, h.2.2⟩,
   fun A B U H hAB h => ⟨(sw_Zc zK zV).2.2.2 A B U H hAB h.1, h.2.1.narrow hAB, h.2.2⟩⟩
theorem lz_sound {l : Launch} {D : va_G} {cA : Nat → ClassId} {z : Nat → Int → Nat} {zK zV za : Nat → Nat} (d j : Nat) (as : List oeV) (hp : oeH) (Q : oeQ) (h : oe_M d j as hp Q) : oe_Met l D cA z (lz_Z zK zV za) d j as hp Q := by
  intro ad sz h1 h2 h3
  have hM := sw_sound (l := l) (D := D) (cA := cA) (z := z) (zK := zK) (zV := zV) d j as hp Q h ad sz h1 h2 h3
  intro p e ha hc hk s m args below hf happ hP hK
  exact hM p e ha hc hk s m args below hf happ ⟨hP.1, hP.2.1, hP.2.2.1, hP.2.2.2.1, hP.2.2.2.2.1, hP.2.2.2.2.2.1, hP.2.2.2.2.2.2.1⟩ hK
def hm_rm (d : Nat) : Room := { frames := d + 2, cells := 1, slots := 6, locals := 64 * (d + 2) }
/-- the call ends well: its number goes to the cell o -/
def hm_Q (o : Nat) (Q : oeQ) : oeQ := fun r hp' => ∃ v : Int, r = some (.inl v) ∧ hp'.1[o]? = some (3, 1) ∧ Q (some (.inl 0)) (hp'.1, hp'.2.1, oe_up hp'.2.2 o 0 v)
section HM
variable {p : Program} {l : Launch} {e : Env} {s : State} {m : MethodId} {args : Array Value} {below : List Frame} {meth : Method} {c : Code} {cc : ByteArray} {pc T index d j o : Nat} {off : Int} {ls : Array Slot} {D : va_G} {cA : Nat → ClassId} {z : Nat → Int → Nat} {ad : List Nat} {hp : oeH} {Q : oeQ} {zK zV za : Nat → Nat} {R : Room} {as : List oeV} {st : List Value}
theorem hm_norm (hx : p.tables.exec = Jvm.exec) (hb : c.code = cc) (hml : c.maxLocals = ls.size) (hr : meth.sig.returnType = some .int) (hlocks : meth.locks = false) (hown : s.vm.findClass "OrderedEquationsLaw" = some m.cls) (hts : ∀ w ∈ oe_W, w.before args s = true) (hwm : ∀ w ∈ hm_W, w.before args s = true)
    (hB : oe_B D cA (lz_Z zK zV za) s.heap.size ad hp s) (hlen : ad.length = hp.1.length) (hhv : oe_hv hp) (h0 : hp.1[0]? = some (5, 14)) (has : ∀ v ∈ as, oe_vv hp.1.length v) (hasl : (parseMethodDescriptor (oe_y j).desc).map (fun d => d.parameters.length) = some as.length) (hyc : (oe_y j).cls = "OrderedEquations") (hco : oe_cost j = (0, 0)) (hmj : oe_ml j ≤ 45)
    (hcode : Cond.code (oe_y j) (oe_by j) (oe_ml j) (oe_ret j) ∈ hm_W) (hins : Cond.instanceMethod (oe_y j) ∈ hm_W) (hsel : Cond.selects "OrderedEquations" (oe_y j) (oe_y j) ∈ hm_W) (hlk : Cond.methodLink "OrderedEquationsLaw" index (oe_y j) ∈ hm_W)
    (hM : oe_M d j (.inr (.inl 0) :: as) hp (hm_Q o Q)) (hRf : d + 2 ≤ R.frames) (hRl : 64 * (d + 2) ≤ R.locals) (hst : st = (as.map (oe_val ad z)).reverse ++ [.ref (ad.getD 0 0), .int (Int32.ofInt 0), .ref (ad.getD o 0)]) (ho : o < hp.1.length)
    (dI : decode cc pc = .ok (.invokevirtual index, 3)) (d1 : decode cc (pc + 3) = .ok (.i2l, 1)) (d2 : decode cc (pc + 4) = .ok (.lastore, 1)) (d3 : decode cc (pc + 5) = .ok (.goto off, 3)) (hT : ((pc + 5 : Nat) : Int) + off = (T : Int)) (d4 : decode cc T = .ok (.iconst 0, 1)) (d5 : decode cc (T + 1) = .ok (.ireturn, 1)) :
    W p l e R s m args below meth c s.heap [] 0 0 (MQ below (oe_Qc D cA z ad Q (va_A (oe_ws cA ad hp) s.heap.size)) args s 1 6 (va_A (oe_ws cA ad hp) s.heap.size)) (F0 m pc ls st) := by
  obtain ⟨-, hP, hK, hD0, hN, hZ⟩ := hB
  have hD := hD0.self (sz := s.heap.size)
  have hM2 := lz_sound (l := l) (D := D) (cA := cA) (z := z) (zK := zK) (zV := zV) (za := za) d j _ hp _ hM ad s.heap.size hlen hhv (oe_vv_cons (v := .inr (.inl 0)) (show 0 < hp.1.length from (List.getElem?_eq_some_iff.mp h0).1) has)
  obtain ⟨q0, hq0, hqn⟩ : ∃ q, oe_cl[0]? = some q ∧ q.1 = "OrderedEquations" := ⟨_, rfl, rfl⟩
  have hrec := va_recv hK hP hq0 (oe_ws_get h0)
  rw [hqn] at hrec
  have hgd : GoodIn (hm_W ++ oe_W) (oe_wj j) := by
    intro w hw
    rcases List.mem_cons.mp hw with q | q
    · rw [q]; exact ⟨List.mem_append_left _ hcode, Or.inl (hm_ok _ hcode)⟩
    · have h5 : GoodIn oe_W (oe_wj 126) := oe_good 126 (oe_lwm 5 4 (.invokevirtual 126060) 3 sf_5_4 _ List.mem_cons_self)
      exact ⟨List.mem_append_right _ q, (h5 w (List.mem_cons_of_mem _ q)).2⟩
  have htt : ∀ w ∈ hm_W ++ oe_W, w.before args s = true := fun w h => (List.mem_append.mp h).elim (hwm w) (hts w)
  have hG : oe_GH D cA (va_A (oe_ws cA ad hp) s.heap.size) s ad hp ad s.heap [] := ⟨hP, hD, va_S.rf, hlen, hhv, ⟨[], (List.append_nil _).symm⟩⟩
  have hA : ∀ q : Nat, s.heap.size ≤ q → va_A (oe_ws cA ad hp) s.heap.size q := fun q h => Or.inr h
  have hpr := oe_pre (Z := lz_Z zK zV za) (As := .ref (ad.getD 0 0) :: as.map (oe_val ad z)) (lz_Zc zK zV za) hG hK hN (by
    exact hZ) hA
  have hd : (oe_y j).cls ≠ "java/lang/invoke/MethodHandle" ∧ (oe_y j).cls ≠ "java/lang/invoke/VarHandle" ∧ (parseMethodDescriptor (oe_y j).desc).map (fun d => d.parameters.length) = some as.length := by
    rw [hyc]
    exact ⟨by decide, by decide, hasl⟩
  have hini : (Cond.initialized (oe_y j).cls).before args s = true := by rw [hyc]; exact hwm _ (hm_m 0 rfl)
  have hrun := va_runV (l := l) (e := e) (below := below) (meth := meth) (H := s.heap) (locs := []) (cells := 0) (slots := 0) (g := F0 m pc ls st) (rest := [.int (Int32.ofInt 0), .ref (ad.getD o 0)]) (R := R) (C := "OrderedEquations") (As := as.map (oe_val ad z)) (n := as.length) (own := "OrderedEquationsLaw") (Ts := hm_W ++ oe_W) (nL := ls.size) ⟨hx, hb, hml, hown, htt⟩ hM2
    ⟨callB_of as.length htt hgd rfl rfl rfl hini (hwm _ hlk) hd ⟨by show d + 1 + 1 ≤ _; omega, by show 8 + (oe_ml j + 11) + 64 * (d + 1) ≤ _; omega⟩, hwm _ hins, hwm _ hsel⟩ ⟨hpr.1, hrec, hpr.2⟩ rfl (List.length_map ..) rfl hst (lv_room (Nat.le_of_ble_eq_true rfl)) dI ⟨by rw [hco]; exact Nat.zero_le _, by rw [hco]; exact Nat.zero_le _⟩
  rw [hco] at hrun
  intro U hU X
  obtain ⟨v, st₀, t, T', Lc, e0, X', hL, e1, e2, ⟨⟨r, hp', ad', hv, ⟨n, hrn, hso, hQ⟩, ⟨ex, rfl⟩, hlen', hhv', hvr, hP', hD'⟩, hz, hkp⟩, stp⟩ := hrun U hU X
  subst hrn
  cases hv
  rw [e0] at hz hkp
  have hrg : oe_rg n := hvr _ rfl
  have hS' : va_S (va_A (oe_ws cA ad hp) s.heap.size) s.heap T'.heap ([] ++ Lc) := ⟨by rw [e1]; exact hz, fun q h1 h2 => by rw [e1]; exact hkp q h1 h2, fun q hq => hL q (by simpa using hq)⟩
  have hoad : (ad ++ ex).getD o 0 = ad.getD o 0 := oe_getD_app (by rw [hlen]; exact ho)
  have K : W p l e R s m args below meth c T'.heap ([] ++ Lc) 0 0 (MQ below (oe_Qc D cA z ad Q (va_A (oe_ws cA ad hp) s.heap.size)) args s 1 6 (va_A (oe_ws cA ad hp) s.heap.size)) (F0 m (pc + 3) ls [.int (Int32.ofInt n), .int (Int32.ofInt 0), .ref (ad.getD o 0)]) := by
    refine lv_i2l (v := Int64.ofInt n) hx hb d1 (oe_i2l hrg) ?_
    rw [← hoad]
    refine va_last (D := D) (cl := oe_cl) (ws := oe_ws cA (ad ++ ex) hp') (tys := oe_tys cA) (A := va_A (oe_ws cA ad hp) s.heap.size) hx hb hK (by rw [e1]; exact hP') hD' hS' o 3 (oe_ws_get hso) rfl (oe_vpin oe_rg0 (Int.le_refl 0) (by omega)) d2 (fun H1 locs1 hP1 hD1 hS1 => ?_)
    rw [oe_clamp oe_rg0, oe_updL] at hP1 hD1
    have hG1 : oe_GH D cA (va_A (oe_ws cA ad hp) s.heap.size) s ad (hp'.1, hp'.2.1, oe_up hp'.2.2 o 0 n) (ad ++ ex) H1 locs1 := oe_GH.num (locs := [] ++ Lc) (H := T'.heap) ⟨by rw [e1]; exact hP', hD', hS', hlen', hhv', ⟨ex, rfl⟩⟩ hso hrg hP1 hD1 hS1
    refine lv_goto hx hb d3 hT ?_
    refine lv_iconst (v := Int32.ofInt 0) hx hb d4 rfl ?_
    refine W.widen (k := 1) (n := 6) (Nat.zero_le _) (Nat.zero_le _) ?_
    exact W.iret hx hb hr (fun t ht hW => ⟨⟨some (.inl 0), _, _, rfl, hQ, ⟨ex, rfl⟩, hG1.2.2.2.1, hG1.2.2.2.2.1, fun v hv => by cases hv; exact oe_rg0, by rw [ht]; exact hG1.1, hG1.2.1⟩, hG1.2.2.1.F ht⟩) hG1.2.2.1.2.2 d5
  obtain ⟨t2, a1, b1⟩ := K T' rfl X'
  exact ⟨t2, stp t2 a1, b1⟩
theorem hm_thrown {XN : String} {hpc k : Nat} {rv : Int} {lv : List (Nat × Value)} (hx : p.tables.exec = Jvm.exec) (hb : c.code = cc) (hl : lv_has ls (c.maxLocals) lv) (hr : meth.sig.returnType = some .int) (hlocks : meth.locks = false) (hown : s.vm.findClass "OrderedEquationsLaw" = some m.cls) (hts : ∀ w ∈ oe_W, w.before args s = true) (hwm : ∀ w ∈ hm_W, w.before args s = true)
    (hB : oe_B D cA (lz_Z zK zV za) s.heap.size ad hp s) (hlen : ad.length = hp.1.length) (hhv : oe_hv hp) (h0 : hp.1[0]? = some (5, 14)) (hasl : (parseMethodDescriptor (oe_y j).desc).map (fun d => d.parameters.length) = some as.length) (hyc : (oe_y j).cls = "OrderedEquations") (hmj : oe_ml j ≤ 45)
    (hcode : Cond.code (oe_y j) (oe_by j) (oe_ml j) (oe_ret j) ∈ hm_W) (hins : Cond.instanceMethod (oe_y j) ∈ hm_W) (hsel : Cond.selects "OrderedEquations" (oe_y j) (oe_y j) ∈ hm_W) (hlk : Cond.methodLink "OrderedEquationsLaw" index (oe_y j) ∈ hm_W)
    (hM : MetFree l (oe_y j) (headSpec (tw_ws j) tw_rm) (va_Pc (.ref (ad.getD 0 0) :: as.map (oe_val ad z)) (tw_B za D cA ad hp)) (fun _ _ _ _ _ => True) (th_Q XN)) (hQ : Q (some (.inl rv)) hp) (hrv : oe_rg rv) (hRf : 12 ≤ R.frames) (hRl : 400 ≤ R.locals) (hRc : R.cells = 1) (hRs : R.slots = 6) (hst : st = (as.map (oe_val ad z)).reverse ++ [.ref (ad.getD 0 0), .int (Int32.ofInt 0), .ref (ad.getD o 0)])
    (dI : decode cc pc = .ok (.invokevirtual index, 3))
    (hfind : ∀ (U' : State) (q : Addr) (ce : Cell), Stand p l e R s m args below meth c U' [] (0 + 1) (0 + 6) → U'.heap[q]? = some ce → ce.vm = .none → s.vm.findClass XN = some ce.cls → ∃ vm', s.WarmedH vm' ∧ th_F e ((U'.setTop (F0 m pc ls [.int (Int32.ofInt 0), .ref (ad.getD o 0)])).pushFrame (.throwing q)) (F0 m pc ls [.int (Int32.ofInt 0), .ref (ad.getD o 0)]) q (.found hpc) (((U'.setTop (F0 m pc ls [.int (Int32.ofInt 0), .ref (ad.getD o 0)])).pushFrame (.throwing q)).setVm vm'))
    (hstore : ∀ (q : Addr) (H1 : Heap) (Qp : State → Prop), (∀ ls' : Array Slot, W p l e R s m args below meth c H1 [] 1 6 Qp (F0 m (hpc + k) ls' [])) → W p l e R s m args below meth c H1 [] 1 6 Qp (F0 m hpc ls [.ref q]))
    (d4 : decode cc (hpc + k) = .ok (.iconst rv, 1)) (d5 : decode cc (hpc + k + 1) = .ok (.ireturn, 1)) :
    W p l e R s m args below meth c s.heap [] 0 0 (MQ below (oe_Qc D cA z ad Q (va_A (oe_ws cA ad hp) s.heap.size)) args s 1 6 (va_A (oe_ws cA ad hp) s.heap.size)) (F0 m pc ls st) := by
  obtain ⟨-, hP, hK, hD0, hN, hZ⟩ := hB
  have hD := hD0.self (sz := s.heap.size)
  obtain ⟨q0, hq0, hqn⟩ : ∃ q, oe_cl[0]? = some q ∧ q.1 = "OrderedEquations" := ⟨_, rfl, rfl⟩
  have hrec := va_recv hK hP hq0 (oe_ws_get h0)
  rw [hqn] at hrec
  have hyn : (oe_y j).cls ≠ "java/lang/invoke/MethodHandle" ∧ (oe_y j).cls ≠ "java/lang/invoke/VarHandle" := by
    rw [hyc]
    exact ⟨by decide, by decide⟩
  have hini : (Cond.initialized (oe_y j).cls).before args s = true := by rw [hyc]; exact hwm _ (hm_m 0 rfl)
  have h5 : GoodIn oe_W (oe_wj 126) := oe_good 126 (oe_lwm 5 4 (.invokevirtual 126060) 3 sf_5_4 _ List.mem_cons_self)
  have hws : ∀ w ∈ tw_ws j, ∀ (a' : Array Value) (U : State), s.WarmedH U.vm → w.before a' U = true := by
    intro w hw a' U hW
    rcases List.mem_cons.mp hw with q | q
    · rw [q]; exact word_at hW (Or.inl (hm_ok _ hcode)) (hwm _ hcode)
    · rcases List.mem_append.mp q with q | q
      · exact word_at hW (h5 w (List.mem_cons_of_mem _ q)).2 (hts w q)
      · exact tw_at hW (tw_ok w q) (hZ.2.2.1 w q #[])
  have hpre : PreV s s.heap "OrderedEquations" (ad.getD 0 0) (va_Pc (.ref (ad.getD 0 0) :: as.map (oe_val ad z)) (tw_B za D cA ad hp)) (as.map (oe_val ad z)) :=
    ⟨tw_blind, hrec, fun U hU hW => ⟨rfl, ⟨by rw [hU]; exact hP, va_K.moved hW.alike hK⟩, by rw [hU]; exact (hZ.2.1.narrow (fun _ q => q.elim)).warm hW⟩⟩
  refine th_V (C := "OrderedEquations") (As := as.map (oe_val ad z)) (rest := [.int (Int32.ofInt 0), .ref (ad.getD o 0)]) (XN := XN) (hpc := hpc) hx hb hl.1.symm hown (hwm _ hlk) (hwm _ hins) (hwm _ hsel) (hwm _ hcode) hini hyn (fun sig h => ?_) hws hM (by show 10 + 1 ≤ _; omega) (by show 8 + (oe_ml j + 11) + 300 ≤ _; omega) (by rw [hRc]; exact Nat.le_refl 1) (by rw [hRs]; exact Nat.le_refl 6) hpre hst (Nat.le_of_ble_eq_true rfl) dI hfind (fun q H1 hz hk => ?_)
  · rw [h] at hasl
    rw [List.length_map]
    exact (Option.some.inj hasl).symm
  · have hP1 : va_P D oe_cl (oe_ws cA ad hp) H1 := hP.kept (fun i x hx => hk x.1 (hP i x hx).lt)
    have hS1 : va_S (va_A (oe_ws cA ad hp) s.heap.size) s.heap H1 [] := ⟨hz, fun q h1 _ => hk q h1, fun l hl => by cases hl⟩
    refine hstore q H1 _ (fun ls' => ?_)
    refine lv_iconst (v := Int32.ofInt rv) hx hb d4 rfl ?_
    exact W.iret hx hb hr (fun t ht hW => ⟨⟨some (.inl rv), hp, ad, rfl, hQ, ⟨[], (List.append_nil _).symm⟩, hlen, hhv, fun v hv => by cases hv; exact hrv, by rw [ht]; exact hP1, hD⟩, hS1.F ht⟩) hS1.2.2 d5
end HM
