/-! Reading alone; the class's methods where they throw. -/
def rd_B (D : va_G) (cA : Nat → ClassId) (ad : List Nat) (hp : oeH) (U : State) : Prop := va_P D oe_cl (oe_ws cA ad hp) U.heap ∧ va_K D oe_cl (oe_tys cA) U
theorem rd_blind {D : va_G} {cA : Nat → ClassId} {ad : List Nat} {hp : oeH} {As : List Value} : FrameBlind (va_Pc As (rd_B D cA ad hp)) := fun a U g mk q => ⟨q.1, q.2.1, va_K.moved (u := U) (U := U.calling g mk a) (Vm.Alike.refl U.vm) q.2.2⟩
section RD
variable {p : Program} {l : Launch} {e : Env} {R : Room} {s : State} {m : MethodId} {args : Array Value} {below : List Frame} {meth : Method} {c : Code} {H : Heap} {locs : List Loc} {cells slots : Nat} {Q : State → Prop} {j pc : Nat} {ls : Array Slot} {rest st As : List Value} {D : va_G} {cA : Nat → ClassId} {ad : List Nat} {hp : oeH}
theorem rd_get {r a N : Nat} (hx : p.tables.exec = Jvm.exec) (hb : c.code = oe_by j) (hts : ∀ w ∈ oe_W, w.before args s = true) (hown : s.vm.findClass (oe_ow j) = some m.cls) (hK : va_K D oe_cl (oe_tys cA) s) (hP : va_P D oe_cl (oe_ws cA ad hp) H) (hhv : oe_hv hp) (hfi : oe_find (oe_code j) pc = some (.getfield r, 3)) (hsh : hp.1[a]? = some (r / 1000 + 5, N))
    (kk : W p l e R s m args below meth c H locs cells slots Q (F0 m (pc + 3) ls (oe_fv ad (hp.2.1 a) (hp.2.2 a) (r % 10) (r / 10 % 100) :: rest))) : W p l e R s m args below meth c H locs cells slots Q (F0 m pc ls (.ref (ad.getD a 0) :: rest)) := by
  obtain ⟨hd, hs⟩ := oe_dec j pc (.getfield r) 3 hfi
  have hw := oe_lwm j pc (.getfield r) 3 hfi
  simp only [oe_sta, Bool.and_eq_true, decide_eq_true_eq] at hs
  obtain ⟨-, hs⟩ := hs
  obtain ⟨q0, hq0, hk1, hk2, hk3, hk4⟩ := oe_fok_ex hs
  have hN' := hhv.2.2.1 a _ _ hsh
  have hv : ((List.range N).map (fun k => oe_fv ad (hp.2.1 a) (hp.2.2 a) (oe_fk (r / 1000) k) k))[r / 10 % 100]? = some (oe_fv ad (hp.2.1 a) (hp.2.2 a) (oe_fk (r / 1000) (r / 10 % 100)) (r / 10 % 100)) := by
    rw [List.getElem?_map, List.getElem?_range (by omega)]; rfl
  refine va_get (D := D) (ci := r / 1000) (C := q0.1) (T := q0.2.1) (N := q0.2.2) hx hb hts (oe_clw _ q0 hq0) hown hK hP a (oe_ws_get hsh) hq0 (r / 10 % 100) hk1 (hts _ (hw _ ?_)) (fun _ h9 => h9) hv hd ?_
  · show _ ∈ (match oe_cl[r / 1000]? with
      | some q => [Cond.fieldLink (oe_ow j) (oe_cpi j pc) (q.2.1 (r / 10 % 100)).1 (q.2.1 (r / 10 % 100)).2.1 (q.2.1 (r / 10 % 100)).2.2.1]
      | none => [])
    rw [hq0]
    exact List.mem_cons_self
  · rw [hk3]
    exact kk
theorem rd_geti {r a N : Nat} (h1 : r % 10 ≠ 1) (hx : p.tables.exec = Jvm.exec) (hb : c.code = oe_by j) (hts : ∀ w ∈ oe_W, w.before args s = true) (hown : s.vm.findClass (oe_ow j) = some m.cls) (hK : va_K D oe_cl (oe_tys cA) s) (hP : va_P D oe_cl (oe_ws cA ad hp) H) (hhv : oe_hv hp) (hfi : oe_find (oe_code j) pc = some (.getfield r, 3)) (hsh : hp.1[a]? = some (r / 1000 + 5, N))
    (kk : W p l e R s m args below meth c H locs cells slots Q (F0 m (pc + 3) ls (.int (Int32.ofInt (hp.2.2 a (r / 10 % 100))) :: rest))) : W p l e R s m args below meth c H locs cells slots Q (F0 m pc ls (.ref (ad.getD a 0) :: rest)) :=
  rd_get hx hb hts hown hK hP hhv hfi hsh (by unfold oe_fv; rw [if_neg h1]; exact kk)
theorem rd_getr {r a N q : Nat} (h1 : r % 10 = 1) (hx : p.tables.exec = Jvm.exec) (hb : c.code = oe_by j) (hts : ∀ w ∈ oe_W, w.before args s = true) (hown : s.vm.findClass (oe_ow j) = some m.cls) (hK : va_K D oe_cl (oe_tys cA) s) (hP : va_P D oe_cl (oe_ws cA ad hp) H) (hhv : oe_hv hp) (hfi : oe_find (oe_code j) pc = some (.getfield r, 3)) (hsh : hp.1[a]? = some (r / 1000 + 5, N)) (hg : hp.2.1 a (r / 10 % 100) = some q)
    (kk : W p l e R s m args below meth c H locs cells slots Q (F0 m (pc + 3) ls (.ref (ad.getD q 0) :: rest))) : W p l e R s m args below meth c H locs cells slots Q (F0 m pc ls (.ref (ad.getD a 0) :: rest)) :=
  rd_get hx hb hts hown hK hP hhv hfi hsh (by unfold oe_fv; rw [if_pos h1, hg]; exact kk)
theorem rd_V {r b Nb k : Nat} {Qc : Array Value → State → Outcome → State → Prop} (hx : p.tables.exec = Jvm.exec) (hb : c.code = oe_by j) (hml : c.maxLocals = ls.size) (hts : ∀ w ∈ oe_W, w.before args s = true) (hown : s.vm.findClass (oe_ow j) = some m.cls) (hK : va_K D oe_cl (oe_tys cA) s) (hP : va_P D oe_cl (oe_ws cA ad hp) s.heap) (hfi : oe_find (oe_code j) pc = some (.invokevirtual r, 3)) (hsb : hp.1[b]? = some (r / 10 % 100 + 5, Nb))
    (hM : Met l (oe_y (r / 1000)) (oe_wj (r / 1000)) (sw_rm k) (va_Pc (.ref (ad.getD b 0) :: As) (rd_B D cA ad hp)) Qc 0 0 (fun _ => False)) (hAs : As.length = r % 10) (hR1 : k + 1 ≤ R.frames) (hR2 : 8 + (45 + 11) + 40 * k ≤ R.locals) (hst : st = As.reverse ++ .ref (ad.getD b 0) :: rest) (hrest : (rest.map fun v => v.category).sum ≤ 8) (hf : cells ≤ R.cells ∧ slots ≤ R.slots) :
    CallRun p l e R s m args below meth c s.heap locs cells slots 0 0 (F0 m pc ls st) rest (Qc (Value.ref (ad.getD b 0) :: As).toArray) (fun _ => False) := by
  obtain ⟨hd, hs⟩ := oe_dec j pc (.invokevirtual r) 3 hfi
  have hw := oe_lwm j pc (.invokevirtual r) 3 hfi
  simp only [oe_sta, Bool.and_eq_true, decide_eq_true_eq] at hs
  obtain ⟨⟨-, hs⟩, hsc2⟩ := hs
  obtain ⟨c1, c2, c3, c4⟩ := oe_cok_ex hs
  obtain ⟨q0, hq0, hqn⟩ := oe_vok_ex hsc2
  have hd : decode (oe_by j) pc = .ok (.invokevirtual (oe_cpi j pc), 3) := hd
  have hw2 : ∀ w ∈ oe_lwv j pc (r / 1000), w ∈ oe_W := hw
  have hcd : Cond.code (oe_y (r / 1000)) (oe_by (r / 1000)) (oe_ml (r / 1000)) (oe_ret (r / 1000)) ∈ oe_W := hw2 _ List.mem_cons_self
  have hgd := oe_good (r / 1000) hcd
  have hini := hts _ (hw2 _ (List.mem_cons_of_mem _ List.mem_cons_self))
  have hsta := hts _ (hw2 _ (List.mem_cons_of_mem _ (List.mem_cons_of_mem _ List.mem_cons_self)))
  have hsel := hts _ (hw2 _ (List.mem_cons_of_mem _ (List.mem_cons_of_mem _ (List.mem_cons_of_mem _ List.mem_cons_self))))
  have hlk := hts _ (hw2 _ (List.mem_cons_of_mem _ (List.mem_cons_of_mem _ (List.mem_cons_of_mem _ (List.mem_cons_of_mem _ List.mem_cons_self)))))
  have hrec := va_recv hK hP hq0 (oe_ws_get hsb)
  rw [hqn] at hrec
  have hRR : (sw_rm k).frames + 1 ≤ R.frames ∧ 8 + (oe_ml (r / 1000) + 11) + (sw_rm k).locals ≤ R.locals := ⟨hR1, by show 8 + (oe_ml (r / 1000) + 11) + 40 * k ≤ _; omega⟩
  exact W.runV (b := ad.getD b 0) (As := As) (Ts := oe_W) ⟨hx, hb, hml, hown, hts⟩ hM ⟨callB_of (r % 10) hts hgd rfl rfl rfl hini hlk ⟨c2, c3, c1⟩ hRR, hsta, hsel⟩ ⟨rd_blind, hrec, fun U hU hW => ⟨rfl, by rw [hU]; exact hP, va_K.moved hW.alike hK⟩⟩ rfl hAs rfl hst (lv_room hrest) hd hf
end RD
theorem sd_ifl_0 : decode prog_7_method_2_code 0 = .ok (.aload_n 0, 1) := by decide +kernel
theorem sd_ifl_4 : decode prog_7_method_2_code 4 = .ok (.aload_n 0, 1) := by decide +kernel
theorem sd_ifl_8 : decode prog_7_method_2_code 8 = .ok (.arraylength, 1) := by decide +kernel
theorem sd_ifl_9 : decode prog_7_method_2_code 9 = .ok (.if_icmp .lt 7, 3) := by decide +kernel
theorem sd_ifl_12 : decode prog_7_method_2_code 12 = .ok (.iconst 1, 1) := by decide +kernel
theorem sd_ifl_13 : decode prog_7_method_2_code 13 = .ok (.goto 4, 3) := by decide +kernel
theorem sd_ifl_17 : decode prog_7_method_2_code 17 = .ok (.ireturn, 1) := by decide +kernel
theorem sf_126_1 : oe_find (oe_code 126) 1 = some (.getfield 6010, 3) := by decide +kernel
theorem sf_126_5 : oe_find (oe_code 126) 5 = some (.getfield 6001, 3) := by decide +kernel
set_option maxHeartbeats 4000000 in
theorem tk_full (l : Launch) {D : va_G} {cA : Nat → ClassId} {ad : List Nat} {hp : oeH} (hhv : oe_hv hp) {w q n : Nat} (hsh : hp.1[w]? = some (11, 2)) (hg : hp.2.1 w 0 = some q) (hq : hp.1[q]? = some (4, n)) (hn : (n : Int) ≤ hp.2.2 w 1) : Met l (oe_y 126) (oe_wj 126) (sw_rm 0) (va_Pc [.ref (ad.getD w 0)] (rd_B D cA ad hp)) (vp_Si (fun r => r = 1)) 0 0 (fun _ => False) := by
  refine Met.ofW (cc := oe_by 126) (maxL := oe_ml 126) (ret := oe_ret 126) (oe_plain 126) rfl ?_
  intro p e s m args below meth c s₁ B hml hv
  obtain ⟨rfl, hP, hK⟩ := hv
  have hts0 := atoms_spec (ws := oe_wj 126) B.pre
  have hts : ∀ w ∈ oe_W, w.before _ s = true := fun w h => hts0 w (List.mem_cons_of_mem _ h)
  have hx := B.exec
  have hb : c.code = oe_by 126 := B.bytes
  have hbb : c.code = prog_7_method_2_code := B.bytes
  have hr : meth.sig.returnType = oe_ret 126 := B.returns
  have hown : s.vm.findClass (oe_ow 126) = some m.cls := by rw [oe_ow_y]; exact findClass_of_methodNamed B.named
  have hlocks := B.notSynchronized
  have hS : va_S (fun _ => False) s.heap s.heap [] := va_S.rf
  have hml : c.maxLocals = 1 := hml
  have hl := lv_entry ([.ref (ad.getD w 0)]) (n := 1) (Nat.le_of_ble_eq_true rfl)
  change W p l e _ s m _ below meth c s.heap [] 0 0 _ (entryFrame m ([.ref (ad.getD w 0)] : List Value).toArray 1)
  rw [lg_entry_eq]
  generalize (lg_sl ([.ref (ad.getD w 0)]) ++ List.replicate (1 - (lg_sl ([.ref (ad.getD w 0)])).length) Slot.unset).toArray = ls at hl ⊢
  have hl : lv_has ls 1 [(0, .ref (ad.getD w 0))] := hl
  have hn31 := hhv.2.2.2 q 4 n hq
  have hr1 := hhv.2.1 w 1
  refine lv_aload_n hx hbb sd_ifl_0 rfl (lv_at hl 0 rfl) ?_
  refine rd_geti (r := 6010) (by decide) hx hb hts hown hK hP hhv sf_126_1 hsh ?_
  refine lv_aload_n hx hbb sd_ifl_4 rfl (lv_at hl 0 rfl) ?_
  refine rd_getr (r := 6001) (by decide) hx hb hts hown hK hP hhv sf_126_5 hsh hg ?_
  refine va_alen (v := Int32.ofInt (n : Nat)) hx hbb hK hP q 4 (oe_ws_get hq) rfl (Int32.ofInt_eq_ofNat).symm sd_ifl_8 ?_
  refine lv_icmp_lt hx hbb sd_ifl_9 (tgt := 16) rfl (fun h => absurd ((oe_lt hr1 ⟨by omega, by omega⟩).mp h) (by omega)) (fun _ => ?_)
  refine lv_iconst (v := 1) hx hbb sd_ifl_12 (by decide) ?_
  refine lv_goto hx hbb sd_ifl_13 (tgt := 17) rfl ?_
  exact W.zret (ty := .boolean) hx hbb hr rfl (fun t ht hW => ⟨1, rfl, rfl, ht⟩) hS.2.2 sd_ifl_17
theorem sd_eqa_0 : decode prog_1_method_21_code 0 = .ok (.iload_n 1, 1) := by decide +kernel
theorem sd_eqa_1 : decode prog_1_method_21_code 1 = .ok (.iconst 2, 1) := by decide +kernel
theorem sd_eqa_2 : decode prog_1_method_21_code 2 = .ok (.if_icmp .ne 19, 3) := by decide +kernel
theorem sd_eqa_5 : decode prog_1_method_21_code 5 = .ok (.aload_n 0, 1) := by decide +kernel
theorem sd_eqa_9 : decode prog_1_method_21_code 9 = .ok (.ifCond .eq 10, 3) := by decide +kernel
theorem sd_eqa_19 : decode prog_1_method_21_code 19 = .ok (.aconst_null, 1) := by decide +kernel
theorem sd_eqa_20 : decode prog_1_method_21_code 20 = .ok (.areturn, 1) := by decide +kernel
theorem sd_eqa_21 : decode prog_1_method_21_code 21 = .ok (.iload_n 1, 1) := by decide +kernel
theorem sd_eqa_22 : decode prog_1_method_21_code 22 = .ok (.ifCond .ne 13, 3) := by decide +kernel
theorem sd_eqa_25 : decode prog_1_method_21_code 25 = .ok (.aload_n 0, 1) := by decide +kernel
theorem sd_eqa_32 : decode prog_1_method_21_code 32 = .ok (.goto 10, 3) := by decide +kernel
theorem sd_eqa_35 : decode prog_1_method_21_code 35 = .ok (.aload_n 0, 1) := by decide +kernel
theorem sd_eqa_42 : decode prog_1_method_21_code 42 = .ok (.istore_n 3, 1) := by decide +kernel
theorem sd_eqa_43 : decode prog_1_method_21_code 43 = .ok (.iload_n 2, 1) := by decide +kernel
theorem sd_eqa_44 : decode prog_1_method_21_code 44 = .ok (.ifCond .lt 8, 3) := by decide +kernel
theorem sd_eqa_47 : decode prog_1_method_21_code 47 = .ok (.iload_n 2, 1) := by decide +kernel
theorem sd_eqa_48 : decode prog_1_method_21_code 48 = .ok (.iload_n 3, 1) := by decide +kernel
theorem sd_eqa_49 : decode prog_1_method_21_code 49 = .ok (.if_icmp .lt 5, 3) := by decide +kernel
theorem sd_eqa_52 : decode prog_1_method_21_code 52 = .ok (.aconst_null, 1) := by decide +kernel
theorem sd_eqa_53 : decode prog_1_method_21_code 53 = .ok (.areturn, 1) := by decide +kernel
theorem sf_20_6 : oe_find (oe_code 20) 6 = some (.getfield 92, 3) := by decide +kernel
theorem sf_20_26 : oe_find (oe_code 20) 26 = some (.getfield 51, 3) := by decide +kernel
theorem sf_20_29 : oe_find (oe_code 20) 29 = some (.getfield 1010, 3) := by decide +kernel
theorem sf_20_36 : oe_find (oe_code 20) 36 = some (.getfield 41, 3) := by decide +kernel
theorem sf_20_39 : oe_find (oe_code 20) 39 = some (.getfield 6010, 3) := by decide +kernel
set_option maxHeartbeats 4000000 in
theorem tk_none (l : Launch) {D : va_G} {cA : Nat → ClassId} {ad : List Nat} {hp : oeH} (hhv : oe_hv hp) {w i : Int} (hrw : oe_rg w) (hri : oe_rg i) (h0 : hp.1[0]? = some (5, 14)) (h5 : hp.2.1 0 5 = some 215) (h215 : hp.1[215]? = some (6, 5)) (h4 : hp.2.1 0 4 = some 3) (h3 : hp.1[3]? = some (11, 2)) (hc : (w = 2 ∧ hp.2.2 0 9 = 0) ∨ (w = 0 ∧ (i < 0 ∨ hp.2.2 215 1 ≤ i)) ∨ (w = 1 ∧ (i < 0 ∨ hp.2.2 3 1 ≤ i))) : Met l (oe_y 20) (oe_wj 20) (sw_rm 0) (va_Pc [.ref (ad.getD 0 0), .int (Int32.ofInt w), .int (Int32.ofInt i)] (rd_B D cA ad hp)) (va_Sq (fun r => r = none)) 0 0 (fun _ => False) := by
  refine Met.ofW (cc := oe_by 20) (maxL := oe_ml 20) (ret := oe_ret 20) (oe_plain 20) rfl ?_
  intro p e s m args below meth c s₁ B hml hv
  obtain ⟨rfl, hP, hK⟩ := hv
  have hts0 := atoms_spec (ws := oe_wj 20) B.pre
  have hts : ∀ w ∈ oe_W, w.before _ s = true := fun w h => hts0 w (List.mem_cons_of_mem _ h)
  have hx := B.exec
  have hb : c.code = oe_by 20 := B.bytes
  have hbb : c.code = prog_1_method_21_code := B.bytes
  have hr : meth.sig.returnType = oe_ret 20 := B.returns
  have hown : s.vm.findClass (oe_ow 20) = some m.cls := by rw [oe_ow_y]; exact findClass_of_methodNamed B.named
  have hlocks := B.notSynchronized
  have hS : va_S (fun _ => False) s.heap s.heap [] := va_S.rf
  have hml : c.maxLocals = 4 := hml
  have hl := lv_entry ([.ref (ad.getD 0 0), .int (Int32.ofInt w), .int (Int32.ofInt i)]) (n := 4) (Nat.le_of_ble_eq_true rfl)
  change W p l e _ s m _ below meth c s.heap [] 0 0 _ (entryFrame m ([.ref (ad.getD 0 0), .int (Int32.ofInt w), .int (Int32.ofInt i)] : List Value).toArray 4)
  rw [lg_entry_eq]
  generalize (lg_sl ([.ref (ad.getD 0 0), .int (Int32.ofInt w), .int (Int32.ofInt i)]) ++ List.replicate (4 - (lg_sl ([.ref (ad.getD 0 0), .int (Int32.ofInt w), .int (Int32.ofInt i)])).length) Slot.unset).toArray = ls at hl ⊢
  have hl : lv_has ls 4 [(0, .ref (ad.getD 0 0)), (1, .int (Int32.ofInt w)), (2, .int (Int32.ofInt i))] := hl
  obtain ⟨rt, e1, e2⟩ := oe_rt_4 20 rfl
  rw [e1] at hr
  have h2r : oe_rg 2 := ⟨by omega, by omega⟩
  have tail : ∀ (num : Int) (ls : Array Slot), oe_rg num → (i < 0 ∨ num ≤ i) → lv_has ls 4 [(3, .int (Int32.ofInt num)), (0, .ref (ad.getD 0 0)), (1, .int (Int32.ofInt w)), (2, .int (Int32.ofInt i))] →
      W p l e (headSpec (oe_wj 20) (sw_rm 0)).room s m ([.ref (ad.getD 0 0), .int (Int32.ofInt w), .int (Int32.ofInt i)] : List Value).toArray below meth c s.heap [] 0 0 (MQ below (va_Sq (fun r => r = none)) ([.ref (ad.getD 0 0), .int (Int32.ofInt w), .int (Int32.ofInt i)] : List Value).toArray s 0 0 (fun _ => False)) (F0 m 43 ls []) := by
    intro num ls hrn hcn hl
    have fin : W p l e (headSpec (oe_wj 20) (sw_rm 0)).room s m ([.ref (ad.getD 0 0), .int (Int32.ofInt w), .int (Int32.ofInt i)] : List Value).toArray below meth c s.heap [] 0 0 (MQ below (va_Sq (fun r => r = none)) ([.ref (ad.getD 0 0), .int (Int32.ofInt w), .int (Int32.ofInt i)] : List Value).toArray s 0 0 (fun _ => False)) (F0 m 52 ls []) := by
      refine lv_null hx hbb sd_eqa_52 ?_
      exact W.aret (v := .null) hx hbb hr e2 (Or.inl rfl) (fun t ht hW => ⟨none, rfl, rfl, ht⟩) hS.2.2 sd_eqa_53
    refine lv_iload_n hx hbb sd_eqa_43 rfl (lv_at hl 3 rfl) ?_
    refine lv_if_lt hx hbb sd_eqa_44 (tgt := 52) rfl (fun _ => fin) (fun h => ?_)
    have hi0 : ¬ i < 0 := fun q => h ((oe_lt hri oe_rg0).mpr q)
    refine lv_iload_n hx hbb sd_eqa_47 rfl (lv_at hl 3 rfl) ?_
    refine lv_iload_n hx hbb sd_eqa_48 rfl (lv_at hl 0 rfl) ?_
    exact lv_icmp_lt hx hbb sd_eqa_49 (tgt := 54) rfl (fun h => absurd ((oe_lt hri hrn).mp h) (by rcases hcn with q | q <;> omega)) (fun _ => fin)
  refine lv_iload_n hx hbb sd_eqa_0 rfl (lv_at hl 1 rfl) ?_
  refine lv_iconst (v := Int32.ofInt 2) hx hbb sd_eqa_1 rfl ?_
  rcases hc with ⟨hw, hc⟩ | hc
  · refine lv_icmp_ne hx hbb sd_eqa_2 (tgt := 21) rfl (fun h => absurd ((oe_eq hrw h2r).mpr hw) h) (fun _ => ?_)
    refine lv_aload_n hx hbb sd_eqa_5 rfl (lv_at hl 0 rfl) ?_
    refine rd_geti (r := 92) (by decide) hx hb hts hown hK hP hhv sf_20_6 h0 ?_
    have e9 : hp.2.2 0 (92 / 10 % 100) = 0 := hc
    rw [e9]
    refine lv_if_eq hx hbb sd_eqa_9 (tgt := 19) rfl (fun _ => ?_) (fun h => absurd rfl h)
    refine lv_null hx hbb sd_eqa_19 ?_
    exact W.aret (v := .null) hx hbb hr e2 (Or.inl rfl) (fun t ht hW => ⟨none, rfl, rfl, ht⟩) hS.2.2 sd_eqa_20
  · have hw2 : w ≠ 2 := by rcases hc with q | q <;> omega
    refine lv_icmp_ne hx hbb sd_eqa_2 (tgt := 21) rfl (fun _ => ?_) (fun h => absurd ((oe_eq hrw h2r).mp h) hw2)
    refine lv_iload_n hx hbb sd_eqa_21 rfl (lv_at hl 1 rfl) ?_
    rcases hc with ⟨hw, hc⟩ | ⟨hw, hc⟩
    · refine lv_if_ne hx hbb sd_eqa_22 (tgt := 35) rfl (fun h => absurd ((oe_eq hrw oe_rg0).mpr hw) h) (fun _ => ?_)
      refine lv_aload_n hx hbb sd_eqa_25 rfl (lv_at hl 0 rfl) ?_
      refine rd_getr (r := 51) (by decide) hx hb hts hown hK hP hhv sf_20_26 h0 h5 ?_
      refine rd_geti (r := 1010) (by decide) hx hb hts hown hK hP hhv sf_20_29 h215 ?_
      refine lv_goto hx hbb sd_eqa_32 (tgt := 42) rfl ?_
      refine lv_istore_n hx hbb sd_eqa_42 rfl hl (by decide) rfl (fun ls hl => ?_)
      exact tail (hp.2.2 215 1) ls (hhv.2.1 _ _) hc hl
    · refine lv_if_ne hx hbb sd_eqa_22 (tgt := 35) rfl (fun _ => ?_) (fun h => absurd ((oe_eq hrw oe_rg0).mp h) (by omega))
      refine lv_aload_n hx hbb sd_eqa_35 rfl (lv_at hl 0 rfl) ?_
      refine rd_getr (r := 41) (by decide) hx hb hts hown hK hP hhv sf_20_36 h0 h4 ?_
      refine rd_geti (r := 6010) (by decide) hx hb hts hown hK hP hhv sf_20_39 h3 ?_
      refine lv_istore_n hx hbb sd_eqa_42 rfl hl (by decide) rfl (fun ls hl => ?_)
      exact tail (hp.2.2 3 1) ls (hhv.2.1 _ _) hc hl
def tw_up : List String := ["java/lang/RuntimeException", "java/lang/Exception"]
def tw_isr (w : Cond) : Bool := match w with
  | .isRef _ => true
  | .laysStatic _ _ _ => true
  | _ => false
def tw_U : Cond := .isRef (.static "java/lang/Throwable" "UNASSIGNED_STACK" "[Ljava/lang/StackTraceElement;")
def tw_V : Cond := .isRef (.static "java/lang/Throwable" "SUPPRESSED_SENTINEL" "Ljava/util/List;")
def tw_Lu : Cond := .laysStatic "java/lang/Throwable" "UNASSIGNED_STACK" "[Ljava/lang/StackTraceElement;"
def tw_Lv : Cond := .laysStatic "java/lang/Throwable" "SUPPRESSED_SENTINEL" "Ljava/util/List;"
def tw_A (ic : Nat) (X : String) : List Cond := (Bundle.ownAtoms "OrderedEquations" ic X tw_up).filter (fun w => !tw_isr w)
theorem tw_all {ic : Nat} {X : String} {args : Array Value} {s : State} (hr : (Bundle.ownAtoms "OrderedEquations" ic X tw_up).filter tw_isr = [tw_Lu, tw_Lv, tw_U, tw_V]) (h1 : ∀ w ∈ tw_A ic X, w.before args s = true) (hu : tw_Lu.before args s = true) (hv : tw_Lv.before args s = true) (hU : tw_U.before args s = true) (hV : tw_V.before args s = true) : ∀ y ∈ Bundle.ownAtoms "OrderedEquations" ic X tw_up, y.before args s = true := by
  intro y hy
  cases h : tw_isr y with
  | false => exact h1 y (List.mem_filter.mpr ⟨hy, by rw [h]; rfl⟩)
  | true =>
    have h2 : y ∈ [tw_Lu, tw_Lv, tw_U, tw_V] := by rw [← hr]; exact List.mem_filter.mpr ⟨hy, h⟩
    rcases List.mem_cons.mp h2 with q | h2
    · rw [q]; exact hu
    rcases List.mem_cons.mp h2 with q | h2
    · rw [q]; exact hv
    rcases List.mem_cons.mp h2 with q | q
    · rw [q]; exact hU
    · rw [List.mem_singleton.mp q]; exact hV
def tw_ISE : String := "java/lang/IllegalStateException"
def tw_IAE : String := "java/lang/IllegalArgumentException"
def tw_IOE : String := "java/lang/IndexOutOfBoundsException"
theorem tw_r1 : (Bundle.ownAtoms "OrderedEquations" 81 tw_ISE tw_up).filter tw_isr = [tw_Lu, tw_Lv, tw_U, tw_V] := rfl
theorem tw_r2 : (Bundle.ownAtoms "OrderedEquations" 131 tw_IAE tw_up).filter tw_isr = [tw_Lu, tw_Lv, tw_U, tw_V] := rfl
theorem tw_r3 : (Bundle.ownAtoms "OrderedEquations" 143 tw_IOE tw_up).filter tw_isr = [tw_Lu, tw_Lv, tw_U, tw_V] := rfl
theorem tw_fit1 : Bundle.fit tw_ISE = true := by decide +kernel
theorem tw_fit2 : Bundle.fit tw_IAE = true := by decide +kernel
theorem tw_fit3 : Bundle.fit tw_IOE = true := by decide +kernel
theorem tw_fitu : ∀ n ∈ tw_up, Bundle.fit n = true := by decide +kernel
def tw_L : List Cond := [.classLink "OrderedEquations" 77 tw_ISE, .classLink "OrderedEquations" 127 tw_IAE, .classLink "OrderedEquations" 139 tw_IOE, .initialized tw_ISE, .initialized tw_IAE, .initialized tw_IOE]
def tw_W : List Cond := tw_A 81 tw_ISE ++ (tw_A 131 tw_IAE ++ (tw_A 143 tw_IOE ++ tw_L))
def tw_d (w : Cond) : Bool := match w with
  | .declares _ => true
  | .castable _ _ => true
  | _ => false
theorem tw_ok : ∀ w ∈ tw_W, ((w.onTables && w.keeps) || tw_d w) = true := by
  have h : tw_W.all (fun w => (w.onTables && w.keeps) || tw_d w) = true := by decide +kernel
  exact List.all_eq_true.mp h
theorem tw_at {args a' : Array Value} {s U : State} (hW : s.WarmedH U.vm) {w : Cond} (hc : ((w.onTables && w.keeps) || tw_d w) = true) (h : w.before args s = true) : w.before a' U = true := by
  rw [Bool.or_eq_true] at hc
  rcases hc with hc | hc
  · exact word_at hW (Or.inl hc) h
  · unfold tw_d at hc
    split at hc
    · exact va_tabs rfl (rfl : (s.setVm U.vm).vm = U.vm) (by rw [Cond.declares_setVm hW.alike]; exact h)
    · exact va_tabs rfl (rfl : (s.setVm U.vm).vm = U.vm) (by rw [Cond.castable_setVm hW.alike]; exact h)
    · cases hc
theorem tw_isRef {C n d : String} {A : Nat → Prop} {args : Array Value} {s : State} (h : va_Zq C n d A s s.heap) : (Cond.isRef (.static C n d)).before args s = true := by
  rcases h with ⟨cf, kf, fi, f, a, cell, h1, h2, h3, h4, h5, h6, h7, h8⟩ | ⟨t, cf, kf, fi, f, a, cell, h1, h2, h3, h4, h5, h6, h7, h8⟩
  · have hv : (Term.static C n d).eval args s none [] s = some .null := Term.static_eval h1 h2 h4 h5 h6 h7
    simp [Cond.before, Cond.holds, Cond.value, hv]
  · have hv : (Term.static C n d).eval args s none [] s = some (.ref t) := Term.static_eval h1 h2 h4 h5 h6 h7
    simp [Cond.before, Cond.holds, Cond.value, hv]
def tw_Y (C n d : String) (A : Nat → Prop) (U : State) (H : Heap) : Prop := ∃ (c : ClassId) (k : Class) (i : Nat) (f : Field) (a : Nat) (cell : Cell), U.vm.findClass C = some c ∧ U.fieldFound? C n d = some (c, k, i, f) ∧ f.isStatic = true ∧ k.statics = some a ∧ H[a]? = some cell ∧ cell.vm.isStatics = true ∧ cell.cls = c ∧ f.slot < cell.slots.size ∧ k.staticTypes[f.slot]? = some f.type ∧ ¬ A a
theorem tw_Y.moved {C n d : String} {A : Nat → Prop} {u U : State} {H : Heap} (hvm : u.vm.Alike U.vm) (h : tw_Y C n d A u H) : tw_Y C n d A U H := by
  obtain ⟨c, k, i, f, a, cell, h0, h1, h2, h3, h4, h5, h6, h7, h8, h9⟩ := h
  obtain ⟨k', hi', he⟩ := State.fieldFound?_setVm hvm h1
  exact ⟨c, k', i, f, a, cell, by rw [hvm.findClass]; exact h0, hi', h2, by rw [he]; exact h3, h4, h5, h6, h7, by rw [he]; exact h8, h9⟩
theorem tw_Y.kept {C n d : String} {A : Nat → Prop} {U : State} {H H1 : Heap} (h : tw_Y C n d A U H) (hq : ∀ a : Nat, a < H.size → ¬ A a → H1[a]? = H[a]?) : tw_Y C n d A U H1 := by
  obtain ⟨c, k, i, f, a, cell, h0, h1, h2, h3, h4, h5, h6, h7, h8, h9⟩ := h
  exact ⟨c, k, i, f, a, cell, h0, h1, h2, h3, by rw [hq a (Array.getElem?_eq_some_iff.mp h4).1 h9]; exact h4, h5, h6, h7, h8, h9⟩
theorem tw_Y.narrow {C n d : String} {A B : Nat → Prop} {U : State} {H : Heap} (h : tw_Y C n d A U H) (hAB : ∀ q, B q → A q) : tw_Y C n d B U H := by
  obtain ⟨c, k, i, f, a, cell, h0, h1, h2, h3, h4, h5, h6, h7, h8, h9⟩ := h
  exact ⟨c, k, i, f, a, cell, h0, h1, h2, h3, h4, h5, h6, h7, h8, fun z => h9 (hAB a z)⟩
theorem tw_Y.of {C n d : String} {A : Nat → Prop} {args : Array Value} {s : State} (h : (Cond.laysStatic C n d).before args s = true) (hA : ∀ a : Nat, a < s.heap.size → ¬ A a) : tw_Y C n d A s s.heap := by
  obtain ⟨c, k, i, f, a, cell, h0, h1, h2, h3, h4, h5, h6, h7, h8⟩ := Cond.laysStatic_spec h
  exact ⟨c, k, i, f, a, cell, h0, h1, h2, h3, h4, h5, h6, h7, h8, hA a (Array.getElem?_eq_some_iff.mp h4).1⟩
theorem tw_lays {C n d : String} {A : Nat → Prop} {args : Array Value} {s : State} (h : tw_Y C n d A s s.heap) : (Cond.laysStatic C n d).before args s = true := by
  obtain ⟨c, k, i, f, a, cell, h0, h1, h2, h3, h4, h5, h6, h7, h8, h9⟩ := h
  simp [Cond.before, Cond.holds, Cond.value, h0, h1, h2, h3, h4, h5, h6, h7, h8]
/-- what is known of the start for a throw: the statics of Throwable, the four texts -/
def tw_S (za : Nat → Nat) (A : Nat → Prop) (U : State) (H : Heap) : Prop := va_Zq "java/lang/Throwable" "UNASSIGNED_STACK" "[Ljava/lang/StackTraceElement;" A U H ∧ va_Zq "java/lang/Throwable" "SUPPRESSED_SENTINEL" "Ljava/util/List;" A U H ∧ (tw_Y "java/lang/Throwable" "UNASSIGNED_STACK" "[Ljava/lang/StackTraceElement;" A U H ∧ tw_Y "java/lang/Throwable" "SUPPRESSED_SENTINEL" "Ljava/util/List;" A U H) ∧ vk_R "OrderedEquations" 79 "30 equations wait" (za 0) U ∧ vk_R "OrderedEquations" 129 "not 1 .. 20 steps" (za 1) U ∧ vk_R "OrderedEquations" 133 "not 0 .. 2" (za 2) U ∧ vk_R "OrderedEquations" 141 "there is none such" (za 3) U
theorem tw_S.warm {za : Nat → Nat} {A : Nat → Prop} {u U : State} {H : Heap} (hW : u.WarmedH U.vm) (h : tw_S za A u H) : tw_S za A U H := ⟨va_Zq.moved hW.alike h.1, va_Zq.moved hW.alike h.2.1, ⟨h.2.2.1.1.moved hW.alike, h.2.2.1.2.moved hW.alike⟩, vk_R.warm hW h.2.2.2.1, vk_R.warm hW h.2.2.2.2.1, vk_R.warm hW h.2.2.2.2.2.1, vk_R.warm hW h.2.2.2.2.2.2⟩
theorem tw_S.same {za : Nat → Nat} {A : Nat → Prop} {u U : State} {H : Heap} (hv : u.vm = U.vm) (h : tw_S za A u H) : tw_S za A U H := ⟨va_Zq.moved (by rw [hv]; exact Vm.Alike.refl _) h.1, va_Zq.moved (by rw [hv]; exact Vm.Alike.refl _) h.2.1, ⟨h.2.2.1.1.moved (by rw [hv]; exact Vm.Alike.refl _), h.2.2.1.2.moved (by rw [hv]; exact Vm.Alike.refl _)⟩, vk_R.same hv.symm h.2.2.2.1, vk_R.same hv.symm h.2.2.2.2.1, vk_R.same hv.symm h.2.2.2.2.2.1, vk_R.same hv.symm h.2.2.2.2.2.2⟩
theorem tw_S.kept {za : Nat → Nat} {A : Nat → Prop} {U : State} {H H1 : Heap} (h : tw_S za A U H) (hq : ∀ a : Nat, a < H.size → ¬ A a → H1[a]? = H[a]?) : tw_S za A U H1 := ⟨h.1.kept hq, h.2.1.kept hq, ⟨h.2.2.1.1.kept hq, h.2.2.1.2.kept hq⟩, h.2.2.2⟩
theorem tw_S.narrow {za : Nat → Nat} {A B : Nat → Prop} {U : State} {H : Heap} (h : tw_S za A U H) (hAB : ∀ q, B q → A q) : tw_S za B U H := ⟨h.1.narrow hAB, h.2.1.narrow hAB, ⟨h.2.2.1.1.narrow hAB, h.2.2.1.2.narrow hAB⟩, h.2.2.2⟩
def tw_B (za : Nat → Nat) (D : va_G) (cA : Nat → ClassId) (ad : List Nat) (hp : oeH) (U : State) : Prop := rd_B D cA ad hp U ∧ tw_S za (fun _ => False) U U.heap
theorem tw_blind {za : Nat → Nat} {D : va_G} {cA : Nat → ClassId} {ad : List Nat} {hp : oeH} {As : List Value} : FrameBlind (va_Pc As (tw_B za D cA ad hp)) := fun a U g mk q => ⟨q.1, ⟨q.2.1.1, va_K.moved (u := U) (U := U.calling g mk a) (Vm.Alike.refl U.vm) q.2.1.2⟩, tw_S.same (u := U) rfl q.2.2⟩
def tw_rm : Room := { frames := 10, cells := 1, slots := 6, locals := 300 }
def tw_ws (j : Nat) : List Cond := .code (oe_y j) (oe_by j) (oe_ml j) (oe_ret j) :: (oe_W ++ tw_W)
theorem sd_tst_0 : decode prog_1_method_7_code 0 = .ok (.iload_n 1, 1) := by decide +kernel
theorem sd_tst_1 : decode prog_1_method_7_code 1 = .ok (.iconst 1, 1) := by decide +kernel
theorem sd_tst_2 : decode prog_1_method_7_code 2 = .ok (.if_icmp .lt 9, 3) := by decide +kernel
theorem sd_tst_5 : decode prog_1_method_7_code 5 = .ok (.iload_n 1, 1) := by decide +kernel
theorem sd_tst_6 : decode prog_1_method_7_code 6 = .ok (.bipush 20, 2) := by decide +kernel
theorem sd_tst_8 : decode prog_1_method_7_code 8 = .ok (.if_icmp .le 13, 3) := by decide +kernel
theorem sd_tst_11 : decode prog_1_method_7_code 11 = .ok (.new 127, 3) := by decide +kernel
theorem sd_tst_14 : decode prog_1_method_7_code 14 = .ok (.dup, 1) := by decide +kernel
theorem sd_tst_15 : decode prog_1_method_7_code 15 = .ok (.ldc 129, 2) := by decide +kernel
theorem sd_tst_17 : decode prog_1_method_7_code 17 = .ok (.invokespecial 131, 3) := by decide +kernel
theorem sd_tst_20 : decode prog_1_method_7_code 20 = .ok (.athrow, 1) := by decide +kernel
set_option maxHeartbeats 4000000 in
theorem tk_steps {l : Launch} (htr : l.stackTraces = false) {za : Nat → Nat} {D : va_G} {cA : Nat → ClassId} {ad : List Nat} {hp : oeH} (hhv : oe_hv hp) {w : Int} (hrw : oe_rg w) (hc : w < 1 ∨ 20 < w) : MetFree l (oe_y 8) (headSpec (tw_ws 8) tw_rm) (va_Pc [.ref (ad.getD 0 0), .int (Int32.ofInt w)] (tw_B za D cA ad hp)) (fun _ _ _ _ _ => True) (th_Q tw_IAE) := by
  refine th_of (cc := oe_by 8) (maxL := oe_ml 8) (ret := oe_ret 8) (oe_plain 8) rfl ?_
  intro p e s m args below meth c s₁ B hml hno hv
  obtain ⟨rfl, hS0⟩ := hv
  have hP := hS0.1.1
  have hK := hS0.1.2
  have hts0 := atoms_spec (ws := tw_ws 8) B.pre
  have hts : ∀ w ∈ oe_W, w.before _ s = true := fun w h => hts0 w (List.mem_cons_of_mem _ (List.mem_append_left _ h))
  have hwt : ∀ w ∈ tw_W, w.before _ s = true := fun w h => hts0 w (List.mem_cons_of_mem _ (List.mem_append_right _ h))
  have hx := B.exec
  have hb : c.code = oe_by 8 := B.bytes
  have hbb : c.code = prog_1_method_7_code := B.bytes
  have hr : meth.sig.returnType = oe_ret 8 := B.returns
  have hown : s.vm.findClass (oe_ow 8) = some m.cls := by rw [oe_ow_y]; exact findClass_of_methodNamed B.named
  have hlocks := B.notSynchronized
  have hS : va_S (fun _ => False) s.heap s.heap [] := va_S.rf
  have hml : c.maxLocals = 4 := hml
  have hl := lv_entry ([.ref (ad.getD 0 0), .int (Int32.ofInt w)]) (n := 4) (Nat.le_of_ble_eq_true rfl)
  change W p l e _ s m _ below meth c s.heap [] 0 0 _ (entryFrame m ([.ref (ad.getD 0 0), .int (Int32.ofInt w)] : List Value).toArray 4)
  rw [lg_entry_eq]
  generalize (lg_sl ([.ref (ad.getD 0 0), .int (Int32.ofInt w)]) ++ List.replicate (4 - (lg_sl ([.ref (ad.getD 0 0), .int (Int32.ofInt w)])).length) Slot.unset).toArray = ls at hl ⊢
  have hl : lv_has ls 4 [(0, .ref (ad.getD 0 0)), (1, .int (Int32.ofInt w))] := hl
  have fin : W p l e (headSpec (tw_ws 8) tw_rm).room s m ([.ref (ad.getD 0 0), .int (Int32.ofInt w)] : List Value).toArray below meth c s.heap [] 0 0 (th_E tw_IAE below s) (F0 m 11 ls []) := by
    exact th_W (own := "OrderedEquations") (X := tw_IAE) (tx := "not 1 .. 20 steps") (up := tw_up) (ix := 127) (ik := 129) (ic := 131) hx hbb (hml.trans hl.1.symm) hlocks htr hown tw_fit2 tw_fitu (hwt _ (List.mem_append_right _ (List.mem_append_right _ (List.mem_append_right _ (List.mem_of_getElem? (i := 1) rfl))))) (hwt _ (List.mem_append_right _ (List.mem_append_right _ (List.mem_append_right _ (List.mem_of_getElem? (i := 4) rfl))))) hS0.2.2.2.2.2.1.1 (tw_all tw_r2 (fun w h => hwt w (List.mem_append_right _ (List.mem_append_left _ h))) (tw_lays hS0.2.2.2.1.1) (tw_lays hS0.2.2.2.1.2) (tw_isRef hS0.2.1) (tw_isRef hS0.2.2.1)) hno (Nat.le_of_ble_eq_true rfl) (Nat.le_of_ble_eq_true rfl) (Nat.le_of_ble_eq_true rfl) (Nat.le_of_ble_eq_true rfl) sd_tst_11 sd_tst_14 sd_tst_15 sd_tst_17 sd_tst_20
  refine lv_iload_n hx hbb sd_tst_0 rfl (lv_at hl 1 rfl) ?_
  refine lv_iconst (v := Int32.ofInt 1) hx hbb sd_tst_1 rfl ?_
  refine lv_icmp_lt hx hbb sd_tst_2 (tgt := 11) rfl (fun _ => fin) (fun h => ?_)
  have h1 : ¬ w < 1 := fun q => h ((oe_lt hrw ⟨by omega, by omega⟩).mpr q)
  refine lv_iload_n hx hbb sd_tst_5 rfl (lv_at hl 1 rfl) ?_
  refine lv_bipush (v := Int32.ofInt 20) hx hbb sd_tst_6 (by decide) ?_
  exact lv_icmp_le hx hbb sd_tst_8 (tgt := 21) rfl (fun h => absurd ((oe_le hrw ⟨by omega, by omega⟩).mp h) (by omega)) (fun _ => fin)
theorem sd_tct_0 : decode prog_1_method_8_code 0 = .ok (.iload_n 1, 1) := by decide +kernel
theorem sd_tct_1 : decode prog_1_method_8_code 1 = .ok (.tableswitch 48 0 2 #[27, 35, 43], 27) := by decide +kernel
theorem sd_tct_49 : decode prog_1_method_8_code 49 = .ok (.new 127, 3) := by decide +kernel
theorem sd_tct_52 : decode prog_1_method_8_code 52 = .ok (.dup, 1) := by decide +kernel
theorem sd_tct_53 : decode prog_1_method_8_code 53 = .ok (.ldc 133, 2) := by decide +kernel
theorem sd_tct_55 : decode prog_1_method_8_code 55 = .ok (.invokespecial 131, 3) := by decide +kernel
theorem sd_tct_58 : decode prog_1_method_8_code 58 = .ok (.athrow, 1) := by decide +kernel
set_option maxHeartbeats 4000000 in
theorem tk_count {l : Launch} (htr : l.stackTraces = false) {za : Nat → Nat} {D : va_G} {cA : Nat → ClassId} {ad : List Nat} {hp : oeH} (hhv : oe_hv hp) {w : Int} (hrw : oe_rg w) (hc : w < 0 ∨ 2 < w) : MetFree l (oe_y 9) (headSpec (tw_ws 9) tw_rm) (va_Pc [.ref (ad.getD 0 0), .int (Int32.ofInt w)] (tw_B za D cA ad hp)) (fun _ _ _ _ _ => True) (th_Q tw_IAE) := by
  refine th_of (cc := oe_by 9) (maxL := oe_ml 9) (ret := oe_ret 9) (oe_plain 9) rfl ?_
  intro p e s m args below meth c s₁ B hml hno hv
  obtain ⟨rfl, hS0⟩ := hv
  have hP := hS0.1.1
  have hK := hS0.1.2
  have hts0 := atoms_spec (ws := tw_ws 9) B.pre
  have hts : ∀ w ∈ oe_W, w.before _ s = true := fun w h => hts0 w (List.mem_cons_of_mem _ (List.mem_append_left _ h))
  have hwt : ∀ w ∈ tw_W, w.before _ s = true := fun w h => hts0 w (List.mem_cons_of_mem _ (List.mem_append_right _ h))
  have hx := B.exec
  have hb : c.code = oe_by 9 := B.bytes
  have hbb : c.code = prog_1_method_8_code := B.bytes
  have hr : meth.sig.returnType = oe_ret 9 := B.returns
  have hown : s.vm.findClass (oe_ow 9) = some m.cls := by rw [oe_ow_y]; exact findClass_of_methodNamed B.named
  have hlocks := B.notSynchronized
  have hS : va_S (fun _ => False) s.heap s.heap [] := va_S.rf
  have hml : c.maxLocals = 2 := hml
  have hl := lv_entry ([.ref (ad.getD 0 0), .int (Int32.ofInt w)]) (n := 2) (Nat.le_of_ble_eq_true rfl)
  change W p l e _ s m _ below meth c s.heap [] 0 0 _ (entryFrame m ([.ref (ad.getD 0 0), .int (Int32.ofInt w)] : List Value).toArray 2)
  rw [lg_entry_eq]
  generalize (lg_sl ([.ref (ad.getD 0 0), .int (Int32.ofInt w)]) ++ List.replicate (2 - (lg_sl ([.ref (ad.getD 0 0), .int (Int32.ofInt w)])).length) Slot.unset).toArray = ls at hl ⊢
  have hl : lv_has ls 2 [(0, .ref (ad.getD 0 0)), (1, .int (Int32.ofInt w))] := hl
  refine lv_iload_n hx hbb sd_tct_0 rfl (lv_at hl 1 rfl) ?_
  refine lv_tableOut hx hbb sd_tct_1 (by rw [oe_toInt hrw]; exact hc) (tgt := 49) rfl ?_
  exact th_W (own := "OrderedEquations") (X := tw_IAE) (tx := "not 0 .. 2") (up := tw_up) (ix := 127) (ik := 133) (ic := 131) hx hbb (hml.trans hl.1.symm) hlocks htr hown tw_fit2 tw_fitu (hwt _ (List.mem_append_right _ (List.mem_append_right _ (List.mem_append_right _ (List.mem_of_getElem? (i := 1) rfl))))) (hwt _ (List.mem_append_right _ (List.mem_append_right _ (List.mem_append_right _ (List.mem_of_getElem? (i := 4) rfl))))) hS0.2.2.2.2.2.2.1.1 (tw_all tw_r2 (fun w h => hwt w (List.mem_append_right _ (List.mem_append_left _ h))) (tw_lays hS0.2.2.2.1.1) (tw_lays hS0.2.2.2.1.2) (tw_isRef hS0.2.1) (tw_isRef hS0.2.2.1)) hno (Nat.le_of_ble_eq_true rfl) (Nat.le_of_ble_eq_true rfl) (Nat.le_of_ble_eq_true rfl) (Nat.le_of_ble_eq_true rfl) sd_tct_49 sd_tct_52 sd_tct_53 sd_tct_55 sd_tct_58
theorem sd_tsh_0 : decode prog_1_method_9_code 0 = .ok (.iload_n 1, 1) := by decide +kernel
theorem sd_tsh_1 : decode prog_1_method_9_code 1 = .ok (.ifCond .lt 8, 3) := by decide +kernel
theorem sd_tsh_4 : decode prog_1_method_9_code 4 = .ok (.iload_n 1, 1) := by decide +kernel
theorem sd_tsh_5 : decode prog_1_method_9_code 5 = .ok (.iconst 2, 1) := by decide +kernel
theorem sd_tsh_6 : decode prog_1_method_9_code 6 = .ok (.if_icmp .le 13, 3) := by decide +kernel
theorem sd_tsh_19 : decode prog_1_method_9_code 19 = .ok (.aload_n 0, 1) := by decide +kernel
theorem sd_tsh_20 : decode prog_1_method_9_code 20 = .ok (.iload_n 1, 1) := by decide +kernel
theorem sd_tsh_21 : decode prog_1_method_9_code 21 = .ok (.iload_n 2, 1) := by decide +kernel
theorem sd_tsh_25 : decode prog_1_method_9_code 25 = .ok (.astore_n 3, 1) := by decide +kernel
theorem sd_tsh_26 : decode prog_1_method_9_code 26 = .ok (.aload_n 3, 1) := by decide +kernel
theorem sd_tsh_27 : decode prog_1_method_9_code 27 = .ok (.ifnonnull 13, 3) := by decide +kernel
theorem sd_tsh_9 : decode prog_1_method_9_code 9 = .ok (.new 127, 3) := by decide +kernel
theorem sd_tsh_12 : decode prog_1_method_9_code 12 = .ok (.dup, 1) := by decide +kernel
theorem sd_tsh_13 : decode prog_1_method_9_code 13 = .ok (.ldc 133, 2) := by decide +kernel
theorem sd_tsh_15 : decode prog_1_method_9_code 15 = .ok (.invokespecial 131, 3) := by decide +kernel
theorem sd_tsh_18 : decode prog_1_method_9_code 18 = .ok (.athrow, 1) := by decide +kernel
theorem sd_tsh_30 : decode prog_1_method_9_code 30 = .ok (.new 139, 3) := by decide +kernel
theorem sd_tsh_33 : decode prog_1_method_9_code 33 = .ok (.dup, 1) := by decide +kernel
theorem sd_tsh_34 : decode prog_1_method_9_code 34 = .ok (.ldc 141, 2) := by decide +kernel
theorem sd_tsh_36 : decode prog_1_method_9_code 36 = .ok (.invokespecial 143, 3) := by decide +kernel
theorem sd_tsh_39 : decode prog_1_method_9_code 39 = .ok (.athrow, 1) := by decide +kernel
set_option maxHeartbeats 4000000 in
theorem tk_showr {l : Launch} (htr : l.stackTraces = false) {za : Nat → Nat} {D : va_G} {cA : Nat → ClassId} {ad : List Nat} {hp : oeH} (hhv : oe_hv hp) {w i : Int} (hrw : oe_rg w) (hc : w < 0 ∨ 2 < w) : MetFree l (oe_y 10) (headSpec (tw_ws 10) tw_rm) (va_Pc [.ref (ad.getD 0 0), .int (Int32.ofInt w), .int (Int32.ofInt i)] (tw_B za D cA ad hp)) (fun _ _ _ _ _ => True) (th_Q tw_IAE) := by
  refine th_of (cc := oe_by 10) (maxL := oe_ml 10) (ret := oe_ret 10) (oe_plain 10) rfl ?_
  intro p e s m args below meth c s₁ B hml hno hv
  obtain ⟨rfl, hS0⟩ := hv
  have hP := hS0.1.1
  have hK := hS0.1.2
  have hts0 := atoms_spec (ws := tw_ws 10) B.pre
  have hts : ∀ w ∈ oe_W, w.before _ s = true := fun w h => hts0 w (List.mem_cons_of_mem _ (List.mem_append_left _ h))
  have hwt : ∀ w ∈ tw_W, w.before _ s = true := fun w h => hts0 w (List.mem_cons_of_mem _ (List.mem_append_right _ h))
  have hx := B.exec
  have hb : c.code = oe_by 10 := B.bytes
  have hbb : c.code = prog_1_method_9_code := B.bytes
  have hr : meth.sig.returnType = oe_ret 10 := B.returns
  have hown : s.vm.findClass (oe_ow 10) = some m.cls := by rw [oe_ow_y]; exact findClass_of_methodNamed B.named
  have hlocks := B.notSynchronized
  have hS : va_S (fun _ => False) s.heap s.heap [] := va_S.rf
  have hml : c.maxLocals = 4 := hml
  have hl := lv_entry ([.ref (ad.getD 0 0), .int (Int32.ofInt w), .int (Int32.ofInt i)]) (n := 4) (Nat.le_of_ble_eq_true rfl)
  change W p l e _ s m _ below meth c s.heap [] 0 0 _ (entryFrame m ([.ref (ad.getD 0 0), .int (Int32.ofInt w), .int (Int32.ofInt i)] : List Value).toArray 4)
  rw [lg_entry_eq]
  generalize (lg_sl ([.ref (ad.getD 0 0), .int (Int32.ofInt w), .int (Int32.ofInt i)]) ++ List.replicate (4 - (lg_sl ([.ref (ad.getD 0 0), .int (Int32.ofInt w), .int (Int32.ofInt i)])).length) Slot.unset).toArray = ls at hl ⊢
  have hl : lv_has ls 4 [(0, .ref (ad.getD 0 0)), (1, .int (Int32.ofInt w)), (2, .int (Int32.ofInt i))] := hl
  have fin : W p l e (headSpec (tw_ws 10) tw_rm).room s m ([.ref (ad.getD 0 0), .int (Int32.ofInt w), .int (Int32.ofInt i)] : List Value).toArray below meth c s.heap [] 0 0 (th_E tw_IAE below s) (F0 m 9 ls []) := by
    exact th_W (own := "OrderedEquations") (X := tw_IAE) (tx := "not 0 .. 2") (up := tw_up) (ix := 127) (ik := 133) (ic := 131) hx hbb (hml.trans hl.1.symm) hlocks htr hown tw_fit2 tw_fitu (hwt _ (List.mem_append_right _ (List.mem_append_right _ (List.mem_append_right _ (List.mem_of_getElem? (i := 1) rfl))))) (hwt _ (List.mem_append_right _ (List.mem_append_right _ (List.mem_append_right _ (List.mem_of_getElem? (i := 4) rfl))))) hS0.2.2.2.2.2.2.1.1 (tw_all tw_r2 (fun w h => hwt w (List.mem_append_right _ (List.mem_append_left _ h))) (tw_lays hS0.2.2.2.1.1) (tw_lays hS0.2.2.2.1.2) (tw_isRef hS0.2.1) (tw_isRef hS0.2.2.1)) hno (Nat.le_of_ble_eq_true rfl) (Nat.le_of_ble_eq_true rfl) (Nat.le_of_ble_eq_true rfl) (Nat.le_of_ble_eq_true rfl) sd_tsh_9 sd_tsh_12 sd_tsh_13 sd_tsh_15 sd_tsh_18
  refine lv_iload_n hx hbb sd_tsh_0 rfl (lv_at hl 1 rfl) ?_
  refine lv_if_lt hx hbb sd_tsh_1 (tgt := 9) rfl (fun _ => fin) (fun h => ?_)
  have h1 : ¬ w < 0 := fun q => h ((oe_lt hrw oe_rg0).mpr q)
  refine lv_iload_n hx hbb sd_tsh_4 rfl (lv_at hl 1 rfl) ?_
  refine lv_iconst (v := Int32.ofInt 2) hx hbb sd_tsh_5 rfl ?_
  exact lv_icmp_le hx hbb sd_tsh_6 (tgt := 19) rfl (fun h => absurd ((oe_le hrw ⟨by omega, by omega⟩).mp h) (by omega)) (fun _ => fin)
theorem sf_10_22 : oe_find (oe_code 10) 22 = some (.invokevirtual 20002, 3) := by decide +kernel
set_option maxHeartbeats 4000000 in
theorem tk_shown {l : Launch} (htr : l.stackTraces = false) {za : Nat → Nat} {D : va_G} {cA : Nat → ClassId} {ad : List Nat} {hp : oeH} (hhv : oe_hv hp) {w i : Int} (hrw : oe_rg w) (hri : oe_rg i) (h0 : hp.1[0]? = some (5, 14)) (h5 : hp.2.1 0 5 = some 215) (h215 : hp.1[215]? = some (6, 5)) (h4 : hp.2.1 0 4 = some 3) (h3 : hp.1[3]? = some (11, 2)) (hc : (w = 2 ∧ hp.2.2 0 9 = 0) ∨ (w = 0 ∧ (i < 0 ∨ hp.2.2 215 1 ≤ i)) ∨ (w = 1 ∧ (i < 0 ∨ hp.2.2 3 1 ≤ i))) : MetFree l (oe_y 10) (headSpec (tw_ws 10) tw_rm) (va_Pc [.ref (ad.getD 0 0), .int (Int32.ofInt w), .int (Int32.ofInt i)] (tw_B za D cA ad hp)) (fun _ _ _ _ _ => True) (th_Q tw_IOE) := by
  refine th_of (cc := oe_by 10) (maxL := oe_ml 10) (ret := oe_ret 10) (oe_plain 10) rfl ?_
  intro p e s m args below meth c s₁ B hml hno hv
  obtain ⟨rfl, hS0⟩ := hv
  have hP := hS0.1.1
  have hK := hS0.1.2
  have hts0 := atoms_spec (ws := tw_ws 10) B.pre
  have hts : ∀ w ∈ oe_W, w.before _ s = true := fun w h => hts0 w (List.mem_cons_of_mem _ (List.mem_append_left _ h))
  have hwt : ∀ w ∈ tw_W, w.before _ s = true := fun w h => hts0 w (List.mem_cons_of_mem _ (List.mem_append_right _ h))
  have hx := B.exec
  have hb : c.code = oe_by 10 := B.bytes
  have hbb : c.code = prog_1_method_9_code := B.bytes
  have hr : meth.sig.returnType = oe_ret 10 := B.returns
  have hown : s.vm.findClass (oe_ow 10) = some m.cls := by rw [oe_ow_y]; exact findClass_of_methodNamed B.named
  have hlocks := B.notSynchronized
  have hS : va_S (fun _ => False) s.heap s.heap [] := va_S.rf
  have hml : c.maxLocals = 4 := hml
  have hl := lv_entry ([.ref (ad.getD 0 0), .int (Int32.ofInt w), .int (Int32.ofInt i)]) (n := 4) (Nat.le_of_ble_eq_true rfl)
  change W p l e _ s m _ below meth c s.heap [] 0 0 _ (entryFrame m ([.ref (ad.getD 0 0), .int (Int32.ofInt w), .int (Int32.ofInt i)] : List Value).toArray 4)
  rw [lg_entry_eq]
  generalize (lg_sl ([.ref (ad.getD 0 0), .int (Int32.ofInt w), .int (Int32.ofInt i)]) ++ List.replicate (4 - (lg_sl ([.ref (ad.getD 0 0), .int (Int32.ofInt w), .int (Int32.ofInt i)])).length) Slot.unset).toArray = ls at hl ⊢
  have hl : lv_has ls 4 [(0, .ref (ad.getD 0 0)), (1, .int (Int32.ofInt w)), (2, .int (Int32.ofInt i))] := hl
  have hw02 : 0 ≤ w ∧ w ≤ 2 := by rcases hc with q | q | q <;> omega
  refine lv_iload_n hx hbb sd_tsh_0 rfl (lv_at hl 1 rfl) ?_
  refine lv_if_lt hx hbb sd_tsh_1 (tgt := 9) rfl (fun h => absurd ((oe_lt hrw oe_rg0).mp h) (by omega)) (fun _ => ?_)
  refine lv_iload_n hx hbb sd_tsh_4 rfl (lv_at hl 1 rfl) ?_
  refine lv_iconst (v := Int32.ofInt 2) hx hbb sd_tsh_5 rfl ?_
  refine lv_icmp_le hx hbb sd_tsh_6 (tgt := 19) rfl (fun _ => ?_) (fun h => absurd ((oe_le hrw ⟨by omega, by omega⟩).mpr (by omega)) h)
  refine lv_aload_n hx hbb sd_tsh_19 rfl (lv_at hl 0 rfl) ?_
  refine lv_iload_n hx hbb sd_tsh_20 rfl (lv_at hl 1 rfl) ?_
  refine lv_iload_n hx hbb sd_tsh_21 rfl (lv_at hl 2 rfl) ?_
  refine va_csq (post := fun r => r = none) (rd_V (r := 20002) (b := 0) (k := 0) (As := [.int (Int32.ofInt w), .int (Int32.ofInt i)]) (rest := []) hx hb (hml.trans hl.1.symm) hts hown hK hP sf_10_22 h0 (tk_none l hhv hrw hri h0 h5 h215 h4 h3 hc) rfl (Nat.le_of_ble_eq_true rfl) (Nat.le_of_ble_eq_true rfl) rfl (Nat.le_of_ble_eq_true rfl) ⟨Nat.zero_le _, Nat.zero_le _⟩) (fun r hr0 => ?_)
  subst hr0
  refine lv_astore_nN hx hbb sd_tsh_25 rfl hl (by decide) rfl (fun ls hl => ?_)
  refine lv_aload_nN hx hbb sd_tsh_26 rfl (lv_at hl 0 rfl) ?_
  refine lv_ifnonnullN hx hbb sd_tsh_27 ?_
  exact th_W (own := "OrderedEquations") (X := tw_IOE) (tx := "there is none such") (up := tw_up) (ix := 139) (ik := 141) (ic := 143) hx hbb (hml.trans hl.1.symm) hlocks htr hown tw_fit3 tw_fitu (hwt _ (List.mem_append_right _ (List.mem_append_right _ (List.mem_append_right _ (List.mem_of_getElem? (i := 2) rfl))))) (hwt _ (List.mem_append_right _ (List.mem_append_right _ (List.mem_append_right _ (List.mem_of_getElem? (i := 5) rfl))))) hS0.2.2.2.2.2.2.2.1 (tw_all tw_r3 (fun w h => hwt w (List.mem_append_right _ (List.mem_append_right _ (List.mem_append_left _ h)))) (tw_lays hS0.2.2.2.1.1) (tw_lays hS0.2.2.2.1.2) (tw_isRef hS0.2.1) (tw_isRef hS0.2.2.1)) hno (Nat.le_of_ble_eq_true rfl) (Nat.le_of_ble_eq_true rfl) (Nat.le_of_ble_eq_true rfl) (Nat.le_of_ble_eq_true rfl) sd_tsh_30 sd_tsh_33 sd_tsh_34 sd_tsh_36 sd_tsh_39
theorem sd_tax_0 : decode prog_1_method_4_code 0 = .ok (.aload_n 0, 1) := by decide +kernel
theorem sd_tax_7 : decode prog_1_method_4_code 7 = .ok (.ifCond .eq 13, 3) := by decide +kernel
theorem sd_tax_10 : decode prog_1_method_4_code 10 = .ok (.new 77, 3) := by decide +kernel
theorem sd_tax_13 : decode prog_1_method_4_code 13 = .ok (.dup, 1) := by decide +kernel
theorem sd_tax_14 : decode prog_1_method_4_code 14 = .ok (.ldc 79, 2) := by decide +kernel
theorem sd_tax_16 : decode prog_1_method_4_code 16 = .ok (.invokespecial 81, 3) := by decide +kernel
theorem sd_tax_19 : decode prog_1_method_4_code 19 = .ok (.athrow, 1) := by decide +kernel
theorem sf_5_1 : oe_find (oe_code 5) 1 = some (.getfield 41, 3) := by decide +kernel
theorem sf_5_4 : oe_find (oe_code 5) 4 = some (.invokevirtual 126060, 3) := by decide +kernel
set_option maxHeartbeats 4000000 in
theorem tk_axm {l : Launch} (htr : l.stackTraces = false) {za : Nat → Nat} {D : va_G} {cA : Nat → ClassId} {ad : List Nat} {hp : oeH} (hhv : oe_hv hp) (h0 : hp.1[0]? = some (5, 14)) (h4 : hp.2.1 0 4 = some 3) (h3 : hp.1[3]? = some (11, 2)) {q n : Nat} (hg : hp.2.1 3 0 = some q) (hq : hp.1[q]? = some (4, n)) (hn : (n : Int) ≤ hp.2.2 3 1) : MetFree l (oe_y 5) (headSpec (tw_ws 5) tw_rm) (va_Pc [.ref (ad.getD 0 0)] (tw_B za D cA ad hp)) (fun _ _ _ _ _ => True) (th_Q tw_ISE) := by
  refine th_of (cc := oe_by 5) (maxL := oe_ml 5) (ret := oe_ret 5) (oe_plain 5) rfl ?_
  intro p e s m args below meth c s₁ B hml hno hv
  obtain ⟨rfl, hS0⟩ := hv
  have hP := hS0.1.1
  have hK := hS0.1.2
  have hts0 := atoms_spec (ws := tw_ws 5) B.pre
  have hts : ∀ w ∈ oe_W, w.before _ s = true := fun w h => hts0 w (List.mem_cons_of_mem _ (List.mem_append_left _ h))
  have hwt : ∀ w ∈ tw_W, w.before _ s = true := fun w h => hts0 w (List.mem_cons_of_mem _ (List.mem_append_right _ h))
  have hx := B.exec
  have hb : c.code = oe_by 5 := B.bytes
  have hbb : c.code = prog_1_method_4_code := B.bytes
  have hr : meth.sig.returnType = oe_ret 5 := B.returns
  have hown : s.vm.findClass (oe_ow 5) = some m.cls := by rw [oe_ow_y]; exact findClass_of_methodNamed B.named
  have hlocks := B.notSynchronized
  have hS : va_S (fun _ => False) s.heap s.heap [] := va_S.rf
  have hml : c.maxLocals = 2 := hml
  have hl := lv_entry ([.ref (ad.getD 0 0)]) (n := 2) (Nat.le_of_ble_eq_true rfl)
  change W p l e _ s m _ below meth c s.heap [] 0 0 _ (entryFrame m ([.ref (ad.getD 0 0)] : List Value).toArray 2)
  rw [lg_entry_eq]
  generalize (lg_sl ([.ref (ad.getD 0 0)]) ++ List.replicate (2 - (lg_sl ([.ref (ad.getD 0 0)])).length) Slot.unset).toArray = ls at hl ⊢
  have hl : lv_has ls 2 [(0, .ref (ad.getD 0 0))] := hl
  refine lv_aload_n hx hbb sd_tax_0 rfl (lv_at hl 0 rfl) ?_
  refine rd_getr (r := 41) (by decide) hx hb hts hown hK hP hhv sf_5_1 h0 h4 ?_
  refine vp_callSi (post := fun r => r = 1) (rd_V (r := 126060) (b := 3) (k := 0) (As := []) (rest := []) hx hb (hml.trans hl.1.symm) hts hown hK hP sf_5_4 h3 (tk_full l hhv h3 hg hq hn) rfl (Nat.le_of_ble_eq_true rfl) (Nat.le_of_ble_eq_true rfl) rfl (Nat.le_of_ble_eq_true rfl) ⟨Nat.zero_le _, Nat.zero_le _⟩) (fun r hr0 => ?_)
  subst hr0
  refine lv_if_eq hx hbb sd_tax_7 (tgt := 20) rfl (fun h => absurd h (by decide)) (fun _ => ?_)
  exact th_W (own := "OrderedEquations") (X := tw_ISE) (tx := "30 equations wait") (up := tw_up) (ix := 77) (ik := 79) (ic := 81) hx hbb (hml.trans hl.1.symm) hlocks htr hown tw_fit1 tw_fitu (hwt _ (List.mem_append_right _ (List.mem_append_right _ (List.mem_append_right _ (List.mem_of_getElem? (i := 0) rfl))))) (hwt _ (List.mem_append_right _ (List.mem_append_right _ (List.mem_append_right _ (List.mem_of_getElem? (i := 3) rfl))))) hS0.2.2.2.2.1.1 (tw_all tw_r1 (fun w h => hwt w (List.mem_append_left _ h)) (tw_lays hS0.2.2.2.1.1) (tw_lays hS0.2.2.2.1.2) (tw_isRef hS0.2.1) (tw_isRef hS0.2.2.1)) hno (Nat.le_of_ble_eq_true rfl) (Nat.le_of_ble_eq_true rfl) (Nat.le_of_ble_eq_true rfl) (Nat.le_of_ble_eq_true rfl) sd_tax_10 sd_tax_13 sd_tax_14 sd_tax_16 sd_tax_19
