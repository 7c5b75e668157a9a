/-! Calls: of a method with handlers; of a method that throws, under a handler. -/
section CW
variable {p : Program} {l : Launch} {e : Env} {R : Room} {s : State} {m : MethodId} {args : Array Value} {below : List Frame} {meth : Method} {c : Code} {H : Heap} {locs : List Loc} {cells slots : Nat} {Q : State → Prop} {cc : ByteArray} {pc : Nat} {ls : Array Slot}
variable {y : MethodName} {bytes : ByteArray} {maxL nL mc ms n index : Nat} {ret : Option FieldType} {ws : List Cond} {rm : Room} {Pc : Array Value → State → Prop} {Qc : Array Value → State → Outcome → State → Prop} {free : Addr → Prop} {Ts : List Cond} {own C : String} {b : Addr} {As rest st : List Value} {g : JFrame}
theorem cw_runS {hh : List (Nat × Nat × Nat × Nat)} (S : CallFix p m c cc nL s args Ts own) (hM : Met l y ws rm Pc Qc mc ms free) (hrc : rm.cells = mc) (hrs : rm.slots = ms) (hfr : rm.frames + 1 ≤ R.frames) (hlo : 8 + (maxL + 11) + rm.locals ≤ R.locals)
    (hws : ∀ w ∈ ws, ∀ (a' : Array Value) (U : State), s.WarmedH U.vm → w.before a' U = true) (hcw : Cond.codeWith y bytes maxL ret hh ∈ ws) (hcode : (Cond.codeWith y bytes maxL ret hh).before args s = true) (hini : (Cond.initialized y.cls).before args s = true)
    (hy : y.cls ≠ "java/lang/invoke/MethodHandle" ∧ y.cls ≠ "java/lang/invoke/VarHandle") (hlen : ∀ sig, parseMethodDescriptor y.desc = some sig → n = sig.parameters.length) (hl : (Cond.methodLink own index y).before args s = true) (hstt : (Cond.static y).before args s = true) (hp : PreS s H Pc As)
    (hg : g.method = m) (hn : As.length = n) (hsize : g.locals.size = nL) (hstack : g.stack = As.reverse ++ rest) (hW : 2 * g.monitorRoom + (rest.map fun v => v.category).sum ≤ 8) (hdg : decode cc g.pc = .ok (.invokestatic index, 3)) (hf : cells + mc ≤ R.cells ∧ slots + ms ≤ R.slots) :
    va_Run p l e R s m args below meth c H locs cells slots mc ms g rest (Qc As.toArray) free := by
  have hK : Back l R p e below s args y 3 8 (PreOf R mc ms Pc) (PostOf Qc mc ms free) := va_backW (hh := hh) (bytes := bytes) (maxL := maxL) (ret := ret) hM hp.1 hrc hrs hfr hlo hws hcw (fun a' U hW => word_at hW (Or.inl (by first | rfl | simp [Cond.onTables, Cond.keeps, Cond.steady])) hini)
  obtain ⟨hx, hb, hml, ho, -⟩ := S
  intro T hT X
  obtain ⟨mk, methM, cM, hnamed, hmethM, -, -, -, -, -, -, hsigM⟩ := Cond.codeWith_spec hcode
  have hstatic : methM.isStatic = true := Cond.static_spec hnamed hmethM hstt
  obtain ⟨kP, hkP, -⟩ := className_of_methodNamed hnamed
  have hinitP : kP.init = .initialized := Cond.initialized_spec (findClass_of_methodNamed hnamed) hkP hini
  obtain ⟨vm₁, X₁, hstep₁⟩ := X.invokestatic hx ho hl hnamed hmethM hstatic hkP hinitP hy (g := g) hg (argsL := As) (rest := rest) (hn.trans (hlen _ hsigM)) hstack (by rw [hb]; exact hdg)
  obtain ⟨v, ⟨U', l2, c2, s2⟩, X', ⟨g', mk', t, L, e1, e2, hq, h1, hL, h2, h3⟩, hsteps⟩ := hK m meth c ⟨T.setVm vm₁, locs, cells, slots⟩ { g with stack := rest } (.invokestatic index) mk As.toArray X₁ hg (hsize.trans hml.symm) (by rw [hb]; exact hdg) hW (X₁.named hnamed) ⟨hf.1, hf.2, hp.2 (T.setVm vm₁) hT X₁.warmed⟩
  dsimp only [Pt.U, Pt.locs, Pt.cells, Pt.slots] at X' e1 e2 h1 h2 h3 hsteps
  subst h1; subst h2; subst h3
  exact ⟨v, (T.setVm vm₁).calling g' mk' As.toArray, t, U', L, hT, X', hL, e1, e2, hq, fun target h => hstep₁ _ fun acts => by rw [doInvoke_state]; exact hsteps.trans h⟩
theorem th_V {XN : String} {hpc : Nat} (hx : p.tables.exec = Jvm.exec) (hb : c.code = cc) (hml : c.maxLocals = ls.size) (hown : s.vm.findClass own = some m.cls) (hlink : (Cond.methodLink own index y).before args s = true) (hinst : (Cond.instanceMethod y).before args s = true) (hsel : (Cond.selects C y y).before args s = true) (hcode : (Cond.code y bytes maxL ret).before args s = true) (hini : (Cond.initialized y.cls).before args s = true)
    (hy : y.cls ≠ "java/lang/invoke/MethodHandle" ∧ y.cls ≠ "java/lang/invoke/VarHandle") (hlen : ∀ sig, parseMethodDescriptor y.desc = some sig → As.length = sig.parameters.length)
    (hws : ∀ w ∈ ws, ∀ (a' : Array Value) (U : State), s.WarmedH U.vm → w.before a' U = true) (hM : MetFree l y (headSpec ws rm) Pc (fun _ _ _ _ _ => True) (th_Q XN)) (hframes : rm.frames + 1 ≤ R.frames) (hlocals : 8 + (maxL + 11) + rm.locals ≤ R.locals) (h4 : cells + rm.cells ≤ R.cells) (h5 : slots + rm.slots ≤ R.slots) (hp : PreV s H C b Pc As)
    (hst : st = As.reverse ++ .ref b :: rest) (hrest : (rest.map fun v => v.category).sum ≤ 8) (hdg : decode cc pc = .ok (.invokevirtual index, 3))
    (hfind : ∀ (U' : State) (q : Addr) (ce : Cell), Stand p l e R s m args below meth c U' locs (cells + 1) (slots + 6) → U'.heap[q]? = some ce → ce.vm = .none → s.vm.findClass XN = some ce.cls → ∃ vm', s.WarmedH vm' ∧ th_F e ((U'.setTop (F0 m pc ls rest)).pushFrame (.throwing q)) (F0 m pc ls rest) q (.found hpc) (((U'.setTop (F0 m pc ls rest)).pushFrame (.throwing q)).setVm vm'))
    (kk : ∀ (q : Addr) (H1 : Heap), H.size ≤ H1.size → (∀ b : Nat, b < H.size → H1[b]? = H[b]?) → W p l e R s m args below meth c H1 locs (cells + 1) (slots + 6) Q (F0 m hpc ls [.ref q])) :
    W p l e R s m args below meth c H locs cells slots Q (F0 m pc ls st) := by
  obtain ⟨hbl, ⟨cellB, hcB, hoB, hclB⟩, hPc⟩ := hp
  intro T hT X
  obtain ⟨mk, methM, hnamed, hmethM, hstM, habM⟩ := Cond.instanceMethod_spec hinst
  obtain ⟨methM', cM, hmethM', -, -, -, -, -, -, hsigM⟩ := Cond.code_spec hnamed hcode
  cases hmethM.symm.trans hmethM'
  obtain ⟨c2, r2, m2, q1, q2, q3, q4, kP, hkP, hkPi⟩ := Cond.selects_spec hsel
  cases hclB.symm.trans q1
  cases (State.methodFound?_of_named hnamed hy).symm.trans q2
  cases hnamed.symm.trans q3
  have hselP : selectMethod e.platform s.vm cellB.cls mk = .method mk := by rw [Launch.admits_selectMethod X.admits]; exact q4
  obtain ⟨vm₁, X₁, hstep₁⟩ := X.invokevirtual hx hown hlink hnamed hmethM hstM hkP hkPi hy (a := b) (cell := cellB) (by rw [hT]; exact hcB)
    (fun z h => by rw [h] at hoB; cases hoB) hselP hmethM habM hkP hkPi (g := F0 m pc ls st) rfl (argsL := As) (rest := rest) (hlen _ hsigM) hst (by rw [hb]; exact hdg)
  have tr : ∀ w : Cond, (w.onTables && w.keeps) = true → w.before args s = true → w.before (Value.ref b :: As).toArray (T.setVm vm₁) = true := fun w h1 h2 => word_at (U := T.setVm vm₁) X₁.warmed (Or.inl h1) h2
  obtain ⟨q, ce, U', X', hW', hnew, hce, hcv, hcc, hsz, hkp, hsteps⟩ := th_call (g := F0 m pc ls rest) (a := (Value.ref b :: As).toArray) X₁ rfl hml.symm (by rw [hb]; exact hdg) (lv_room (pc := pc) hrest) (X₁.named hnamed) hM hframes hlocals
    (atoms_intro fun w hw => hws w hw _ _ X₁.warmed) (tr _ (by first | rfl | simp [Cond.onTables, Cond.keeps, Cond.steady]) hcode) (tr _ (by first | rfl | simp [Cond.onTables, Cond.keeps, Cond.steady]) hini) h4 h5 (hbl _ _ _ _ (hPc (T.setVm vm₁) hT X₁.warmed))
  have hcc' : s.vm.findClass XN = some ce.cls := by rw [← X₁.warmed.alike.findClass]; exact hcc
  obtain ⟨vm', hw2, hf⟩ := hfind U' q ce X' hce hcv hcc'
  have hHT : (T.setVm vm₁).heap = H := hT
  obtain ⟨t, a1, b1⟩ := kk q U'.heap (by rw [← hHT]; exact hsz) (fun b hb => by rw [← hHT] at hb ⊢; exact hkp b hb) (U'.setVm vm') rfl (X'.noted hw2)
  exact ⟨t, hstep₁ _ fun acts => by rw [doInvoke_state]; exact hsteps.trans (th_caught X'.here hf a1), b1⟩
theorem cw_tab {c : Code} {x : Nat × Nat × Nat × Nat} {r : List (Nat × Nat × Nat × Nat)} (h : c.exceptionTable.toList.map (fun h => (h.startPc, h.endPc, h.handlerPc, h.catchType)) = x :: r) : ∃ y t, c.exceptionTable.toList = y :: t ∧ (y.startPc, y.endPc, y.handlerPc, y.catchType) = x ∧ t.map (fun h => (h.startPc, h.endPc, h.handlerPc, h.catchType)) = r := by
  cases hc : c.exceptionTable.toList with
  | nil => rw [hc] at h; cases h
  | cons y t =>
    rw [hc, List.map_cons] at h
    injection h with h1 h2
    exact ⟨y, t, rfl, h1, h2⟩
/-- what resolving a catch type gives -/
theorem th_res {U' : State} {XC XN : String} {ct : Nat} {ce : Cell} (hpl : e.platform.magicAccessors = ({} : Platform).magicAccessors) (hW : s.WarmedH U'.vm) (hown : s.vm.findClass own = some m.cls) (hlink : (Cond.classLink own ct XC).before args s = true) (hcc : s.vm.findClass XN = some ce.cls) :
    ∃ (cX : ClassId) (vm' : Vm), s.vm.findClass XC = some cX ∧ (Jvm.resolveClass m.cls ct).Gives e.toSetting U'.vm (.ok cX) vm' ∧ s.WarmedH vm' ∧ vm'.classes.size ≤ U'.vm.classes.size ∧ (∃ k, vm'.classes[ce.cls]? = some k) ∧ (∃ k, vm'.classes[cX]? = some k) ∧ vm'.assignable ce.cls cX = s.vm.assignable ce.cls cX := by
  obtain ⟨cX, hfX, hcl⟩ := Cond.classLink_spec hown hlink e.platform hpl
  obtain ⟨hg₁, hwarm₁, -⟩ := State.classEntry (e := e) hW hcl
  refine ⟨cX, _, hfX, hg₁, hwarm₁, (hW.alike.symm.trans hwarm₁.alike).size_le, ?_, ?_, hwarm₁.alike.assignable _ _⟩
  · exact Vm.classAt_of_findClass (name := XN) (by rw [hwarm₁.alike.findClass]; exact hcc)
  · exact Vm.classAt_of_findClass (name := XC) (by rw [hwarm₁.alike.findClass]; exact hfX)
theorem th_fd1 {U' : State} {XN : String} {q : Addr} {ce : Cell} {sp ep hpc ct : Nat} {r : List (Nat × Nat × Nat × Nat)} (X : Stand p l e R s m args below meth c U' locs cells slots) (hown : s.vm.findClass own = some m.cls) (htab : c.exceptionTable.toList.map (fun h => (h.startPc, h.endPc, h.handlerPc, h.catchType)) = (sp, ep, hpc, ct) :: r) (h1 : sp ≤ pc) (h2 : pc < ep) (h0 : ct ≠ 0)
    (hlink : (Cond.classLink own ct XN).before args s = true) (hcast : (Cond.castable XN XN).before args s = true) (hce : U'.heap[q]? = some ce) (hcv : ce.vm = .none) (hcc : s.vm.findClass XN = some ce.cls) :
    ∃ vm', s.WarmedH vm' ∧ th_F e ((U'.setTop (F0 m pc ls rest)).pushFrame (.throwing q)) (F0 m pc ls rest) q (.found hpc) (((U'.setTop (F0 m pc ls rest)).pushFrame (.throwing q)).setVm vm') := by
  have hpl : e.platform.magicAccessors = ({} : Platform).magicAccessors := by rw [X.admits.platform]
  obtain ⟨cX, vm', hfX, hg, hw, hsz, hk1, hk2, has⟩ := th_res (ce := ce) (XN := XN) (e := e) hpl X.warmed hown hlink hcc
  obtain ⟨c3, t3, w1, w2, w3⟩ := Cond.castable_spec hcast
  cases hcc.symm.trans w1
  cases hfX.symm.trans w2
  obtain ⟨x, t, hx1, hx2, -⟩ := cw_tab htab
  cases hx2
  refine ⟨vm', hw, fun Q E d acts => ?_⟩
  have hvm : ((U'.setTop (F0 m pc ls rest)).pushFrame (.throwing q)).vm = U'.vm := Stand.throwing_vm _ _ _
  have hhp : ((U'.setTop (F0 m pc ls rest)).pushFrame (.throwing q)).heap = U'.heap := Stand.throwing_heap _ _ _
  rw [W.findHandler_eq (f := F0 m pc ls rest) (by rw [hvm]; exact X.method') X.code, hx1, th_go (f := F0 m pc ls rest) (cell := ce) (c := cX) (vm' := vm') (by simp [covers, F0, h1, h2]) h0 (by rw [hvm]; exact hg) (by rw [hvm]; exact hsz) (by rw [hhp]; exact hce) (fun k hk => by rw [hcv] at hk; cases hk) hk1 hk2, if_pos (by rw [has]; exact w3)]
theorem th_fd2 {U' : State} {XN XC : String} {q : Addr} {ce : Cell} {sp ep hpc ct sp1 ep1 hpc1 ct1 : Nat} {r : List (Nat × Nat × Nat × Nat)} (X : Stand p l e R s m args below meth c U' locs cells slots) (hown : s.vm.findClass own = some m.cls) (htab : c.exceptionTable.toList.map (fun h => (h.startPc, h.endPc, h.handlerPc, h.catchType)) = (sp1, ep1, hpc1, ct1) :: (sp, ep, hpc, ct) :: r) (h1 : sp ≤ pc) (h2 : pc < ep) (h0 : ct ≠ 0) (h11 : sp1 ≤ pc) (h21 : pc < ep1) (h01 : ct1 ≠ 0)
    (hlink1 : (Cond.classLink own ct1 XC).before args s = true) (hno : ∀ cN cC, s.vm.findClass XN = some cN → s.vm.findClass XC = some cC → ¬ s.vm.assignable cN cC = true) (hlink : (Cond.classLink own ct XN).before args s = true) (hcast : (Cond.castable XN XN).before args s = true) (hce : U'.heap[q]? = some ce) (hcv : ce.vm = .none) (hcc : s.vm.findClass XN = some ce.cls) :
    ∃ vm', s.WarmedH vm' ∧ th_F e ((U'.setTop (F0 m pc ls rest)).pushFrame (.throwing q)) (F0 m pc ls rest) q (.found hpc) (((U'.setTop (F0 m pc ls rest)).pushFrame (.throwing q)).setVm vm') := by
  have hpl : e.platform.magicAccessors = ({} : Platform).magicAccessors := by rw [X.admits.platform]
  obtain ⟨cC, vm1, hfC, hgC, hwC, hszC, hk1C, hk2C, hasC⟩ := th_res (ce := ce) (XN := XN) (e := e) hpl X.warmed hown hlink1 hcc
  have X1 := X.noted hwC
  obtain ⟨cX, vm', hfX, hg, hw, hsz, hk1, hk2, has⟩ := th_res (U' := U'.setVm vm1) (ce := ce) (XN := XN) (e := e) hpl X1.warmed hown hlink hcc
  obtain ⟨c3, t3, w1, w2, w3⟩ := Cond.castable_spec hcast
  cases hcc.symm.trans w1
  cases hfX.symm.trans w2
  have hnot : ¬ s.vm.assignable ce.cls cC = true := hno _ _ hcc hfC
  obtain ⟨x1, t1, hx1, hx2, ht1⟩ := cw_tab htab
  cases hx2
  cases t1 with
  | nil => cases ht1
  | cons x t =>
    rw [List.map_cons] at ht1
    injection ht1 with hy1 hy2
    cases hy1
    refine ⟨vm', hw, fun Q E d acts => ?_⟩
    have hvm : ((U'.setTop (F0 m pc ls rest)).pushFrame (.throwing q)).vm = U'.vm := Stand.throwing_vm _ _ _
    have hhp : ((U'.setTop (F0 m pc ls rest)).pushFrame (.throwing q)).heap = U'.heap := Stand.throwing_heap _ _ _
    rw [W.findHandler_eq (f := F0 m pc ls rest) (by rw [hvm]; exact X.method') X.code, hx1, th_go (f := F0 m pc ls rest) (cell := ce) (c := cC) (vm' := vm1) (by simp [covers, F0, h11, h21]) h01 (by rw [hvm]; exact hgC) (by rw [hvm]; exact hszC) (by rw [hhp]; exact hce) (fun k hk => by rw [hcv] at hk; cases hk) hk1C hk2C, if_neg (by rw [hasC]; exact hnot),
      th_go (s := ((U'.setTop (F0 m pc ls rest)).pushFrame (.throwing q)).setVm vm1) (f := F0 m pc ls rest) (cell := ce) (c := cX) (vm' := vm') (by simp [covers, F0, h1, h2]) h0 hg hsz (by show ((U'.setTop (F0 m pc ls rest)).pushFrame (.throwing q)).heap[q]? = _; rw [hhp]; exact hce) (fun k hk => by rw [hcv] at hk; cases hk) hk1 hk2, if_pos (by rw [has]; exact w3)]
    rfl
end CW
