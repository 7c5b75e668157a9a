/-! The law's four helpers as contracts. -/
theorem sl_hax : (parseMethodDescriptor (oe_y 5).desc).map (fun d => d.parameters.length) = some 0 := by decide +kernel
theorem sl_hst : (parseMethodDescriptor (oe_y 8).desc).map (fun d => d.parameters.length) = some 1 := by decide +kernel
theorem sl_hct : (parseMethodDescriptor (oe_y 9).desc).map (fun d => d.parameters.length) = some 1 := by decide +kernel
theorem sl_hsh : (parseMethodDescriptor (oe_y 10).desc).map (fun d => d.parameters.length) = some 2 := by decide +kernel
theorem tw_c1 : Cond.castable tw_ISE tw_ISE ∈ tw_W := List.mem_append_left _ (List.mem_filter.mpr ⟨by simp [Bundle.ownAtoms], rfl⟩)
theorem tw_c2 : Cond.castable tw_IAE tw_IAE ∈ tw_W := List.mem_append_right _ (List.mem_append_left _ (List.mem_filter.mpr ⟨by simp [Bundle.ownAtoms], rfl⟩))
theorem tw_c3 : Cond.castable tw_IOE tw_IOE ∈ tw_W := List.mem_append_right _ (List.mem_append_right _ (List.mem_append_left _ (List.mem_filter.mpr ⟨by simp [Bundle.ownAtoms], rfl⟩)))
def hm_Met (l : Launch) (D : va_G) (cA : Nat → ClassId) (z : Nat → Int → Nat) (Z : (Nat → Prop) → State → Heap → Prop) (d : Nat) (y : MethodName) (cw : Cond) (as : List oeV) (hp : oeH) (Q : oeQ) : Prop :=
  ∀ (ad : List Nat) (sz : Nat), ad.length = hp.1.length → oe_hv hp → (∀ v ∈ as, oe_vv hp.1.length v) →
    Met l y (cw :: (hm_W ++ oe_W)) (hm_rm d) (va_Pc (as.map (oe_val ad z)) (oe_B D cA Z sz ad hp)) (oe_Qc D cA z ad Q (va_A (oe_ws cA ad hp) sz)) 1 6 (va_A (oe_ws cA ad hp) sz)
theorem sd_hax_0 : decode method_3_code 0 = .ok (.aload_n 1, 1) := by decide +kernel
theorem sd_hax_1 : decode method_3_code 1 = .ok (.iconst 0, 1) := by decide +kernel
theorem sd_hax_2 : decode method_3_code 2 = .ok (.aload_n 0, 1) := by decide +kernel
theorem sd_hax_3 : decode method_3_code 3 = .ok (.invokevirtual 7, 3) := by decide +kernel
theorem sd_hax_6 : decode method_3_code 6 = .ok (.i2l, 1) := by decide +kernel
theorem sd_hax_7 : decode method_3_code 7 = .ok (.lastore, 1) := by decide +kernel
theorem sd_hax_8 : decode method_3_code 8 = .ok (.goto 6, 3) := by decide +kernel
theorem sd_hax_14 : decode method_3_code 14 = .ok (.iconst 0, 1) := by decide +kernel
theorem sd_hax_15 : decode method_3_code 15 = .ok (.ireturn, 1) := by decide +kernel
theorem sd_hax_11 : decode method_3_code 11 = .ok (.astore_n 2, 1) := by decide +kernel
theorem sd_hax_12 : decode method_3_code 12 = .ok (.iconst 1, 1) := by decide +kernel
theorem sd_hax_13 : decode method_3_code 13 = .ok (.ireturn, 1) := by decide +kernel
set_option maxHeartbeats 4000000 in
theorem hk_hax {l : Launch} (htr : l.stackTraces = false) {D : va_G} {cA : Nat → ClassId} {z : Nat → Int → Nat} {zK zV za : Nat → Nat} {d o : Nat} (hd : 10 ≤ d) {hp : oeH} {Q : oeQ}  (h0 : hp.1[0]? = some (5, 14)) (ho : o < hp.1.length)
    (h : oe_M d 5 [.inr (.inl 0)] hp (hm_Q o Q) ∨ (hp.2.1 0 4 = some 3 ∧ hp.1[3]? = some (11, 2) ∧ (∃ q n : Nat, hp.2.1 3 0 = some q ∧ hp.1[q]? = some (4, n) ∧ (n : Int) ≤ hp.2.2 3 1) ∧ Q (some (.inl 1)) hp)) : hm_Met l D cA z (lz_Z zK zV za) d hax_y (.codeWith hax_y method_3_code 3 (some .int) [(0, 8, 11, 13)]) [.inr (.inl 0), .inr (.inl o)] hp Q := by
  intro ad sz hlen hhv hvs
  refine va_MetW (hh := [(0, 8, 11, 13)]) (cc := method_3_code) (maxL := 3) (ret := some .int) (by decide) rfl ?_
  intro p e s m args below meth c s₁ B hml hv
  obtain ⟨rfl, hB⟩ := hv
  have hsz := hB.1
  subst hsz
  have hx := B.exec
  have hb := B.bytes
  have hr := B.returns
  have hown : s.vm.findClass "OrderedEquationsLaw" = some m.cls := findClass_of_methodNamed B.named
  have hlocks := B.notSynchronized
  have hts0 := atoms_spec (ws := (.codeWith hax_y method_3_code 3 (some .int) [(0, 8, 11, 13)]) :: (hm_W ++ oe_W)) B.pre
  have hwm : ∀ w ∈ hm_W, w.before _ s = true := fun w h => hts0 w (List.mem_cons_of_mem _ (List.mem_append_left _ h))
  have hts : ∀ w ∈ oe_W, w.before _ s = true := fun w h => hts0 w (List.mem_cons_of_mem _ (List.mem_append_right _ h))
  obtain ⟨m9, meth9, c9, hn9, hm9, hc9, -, -, htab, -⟩ := Cond.codeWith_spec (hts0 _ List.mem_cons_self)
  cases B.named.symm.trans hn9
  cases B.method.symm.trans hm9
  cases (Stand.of_body B).code.symm.trans hc9
  have hl := lv_entry ([.ref (ad.getD 0 0), .ref (ad.getD o 0)]) (n := 3) (Nat.le_of_ble_eq_true rfl)
  change W p l e _ s m _ below meth c s.heap [] 0 0 _ (entryFrame m ([.ref (ad.getD 0 0), .ref (ad.getD o 0)] : List Value).toArray 3)
  rw [lg_entry_eq]
  generalize (lg_sl ([.ref (ad.getD 0 0), .ref (ad.getD o 0)]) ++ List.replicate (3 - (lg_sl ([.ref (ad.getD 0 0), .ref (ad.getD o 0)])).length) Slot.unset).toArray = ls at hl ⊢
  have hl : lv_has ls 3 [(0, .ref (ad.getD 0 0)), (1, .ref (ad.getD o 0))] := hl
  have hZ := hB.2.2.2.2.2
  refine lv_aload_n hx hb sd_hax_0 rfl (lv_at hl 1 rfl) ?_
  refine lv_iconst (v := Int32.ofInt 0) hx hb sd_hax_1 rfl ?_
  refine lv_aload_n hx hb sd_hax_2 rfl (lv_at hl 0 rfl) ?_
  have hmj : oe_ml 5 ≤ 45 := Nat.le_of_ble_eq_true rfl
  have hasl : (parseMethodDescriptor (oe_y 5).desc).map (fun d => d.parameters.length) = some ([] : List oeV).length := sl_hax
  rcases h with h | ⟨h4, h3, ⟨q, n, hg, hq, hn⟩, hQ⟩
  · exact hm_norm (as := []) (j := 5) (o := o) hx hb (hml.trans hl.1.symm) hr hlocks hown hts hwm hB hlen hhv h0 (fun v hv => by cases hv) hasl rfl rfl hmj (hm_m 1 rfl) (hm_m 2 rfl) (hm_m 3 rfl) (hm_m 4 rfl) h (by show d + 2 ≤ d + 2; omega) (by show 64 * (d + 2) ≤ 64 * (d + 2); omega) rfl ho sd_hax_3 sd_hax_6 sd_hax_7 sd_hax_8 (T := 14) rfl sd_hax_14 sd_hax_15
  · exact hm_thrown (as := []) (j := 5) (o := o) (XN := tw_ISE) (hpc := 11) (k := 1) (rv := 1) hx hb (by rw [hml]; exact hl) hr hlocks hown hts hwm hB hlen hhv h0 hasl rfl hmj (hm_m 1 rfl) (hm_m 2 rfl) (hm_m 3 rfl) (hm_m 4 rfl) (tk_axm htr hhv h0 h4 h3 hg hq hn) hQ ⟨by omega, by omega⟩ (by show 12 ≤ d + 2; omega) (by show 400 ≤ 64 * (d + 2); omega) rfl rfl rfl sd_hax_3 (fun U' q ce X hce hcv hcc => th_fd1 (own := "OrderedEquationsLaw") X hown htab (by omega) (by omega) (by decide) (hwm _ (hm_m 17 rfl)) (hZ.2.2.1 _ tw_c1 _) hce hcv hcc) (fun q H1 Qp kk => lv_astore_n hx hb sd_hax_11 rfl hl (by decide) rfl (fun ls' _ => kk ls')) sd_hax_12 sd_hax_13
theorem sd_hst_0 : decode method_4_code 0 = .ok (.aload_n 2, 1) := by decide +kernel
theorem sd_hst_1 : decode method_4_code 1 = .ok (.iconst 0, 1) := by decide +kernel
theorem sd_hst_2 : decode method_4_code 2 = .ok (.aload_n 0, 1) := by decide +kernel
theorem sd_hst_3 : decode method_4_code 3 = .ok (.iload_n 1, 1) := by decide +kernel
theorem sd_hst_4 : decode method_4_code 4 = .ok (.invokevirtual 15, 3) := by decide +kernel
theorem sd_hst_7 : decode method_4_code 7 = .ok (.i2l, 1) := by decide +kernel
theorem sd_hst_8 : decode method_4_code 8 = .ok (.lastore, 1) := by decide +kernel
theorem sd_hst_9 : decode method_4_code 9 = .ok (.goto 6, 3) := by decide +kernel
theorem sd_hst_15 : decode method_4_code 15 = .ok (.iconst 0, 1) := by decide +kernel
theorem sd_hst_16 : decode method_4_code 16 = .ok (.ireturn, 1) := by decide +kernel
theorem sd_hst_12 : decode method_4_code 12 = .ok (.astore_n 3, 1) := by decide +kernel
theorem sd_hst_13 : decode method_4_code 13 = .ok (.iconst 1, 1) := by decide +kernel
theorem sd_hst_14 : decode method_4_code 14 = .ok (.ireturn, 1) := by decide +kernel
set_option maxHeartbeats 4000000 in
theorem hk_hst {l : Launch} (htr : l.stackTraces = false) {D : va_G} {cA : Nat → ClassId} {z : Nat → Int → Nat} {zK zV za : Nat → Nat} {d o : Nat} (hd : 10 ≤ d) {hp : oeH} {Q : oeQ} {w : Int} (hrw : oe_rg w) (h0 : hp.1[0]? = some (5, 14)) (ho : o < hp.1.length)
    (h : oe_M d 8 [.inr (.inl 0), .inl w] hp (hm_Q o Q) ∨ ((w < 1 ∨ 20 < w) ∧ Q (some (.inl 1)) hp)) : hm_Met l D cA z (lz_Z zK zV za) d hst_y (.codeWith hst_y method_4_code 4 (some .int) [(0, 9, 12, 19)]) [.inr (.inl 0), .inl w, .inr (.inl o)] hp Q := by
  intro ad sz hlen hhv hvs
  refine va_MetW (hh := [(0, 9, 12, 19)]) (cc := method_4_code) (maxL := 4) (ret := some .int) (by decide) rfl ?_
  intro p e s m args below meth c s₁ B hml hv
  obtain ⟨rfl, hB⟩ := hv
  have hsz := hB.1
  subst hsz
  have hx := B.exec
  have hb := B.bytes
  have hr := B.returns
  have hown : s.vm.findClass "OrderedEquationsLaw" = some m.cls := findClass_of_methodNamed B.named
  have hlocks := B.notSynchronized
  have hts0 := atoms_spec (ws := (.codeWith hst_y method_4_code 4 (some .int) [(0, 9, 12, 19)]) :: (hm_W ++ oe_W)) B.pre
  have hwm : ∀ w ∈ hm_W, w.before _ s = true := fun w h => hts0 w (List.mem_cons_of_mem _ (List.mem_append_left _ h))
  have hts : ∀ w ∈ oe_W, w.before _ s = true := fun w h => hts0 w (List.mem_cons_of_mem _ (List.mem_append_right _ h))
  obtain ⟨m9, meth9, c9, hn9, hm9, hc9, -, -, htab, -⟩ := Cond.codeWith_spec (hts0 _ List.mem_cons_self)
  cases B.named.symm.trans hn9
  cases B.method.symm.trans hm9
  cases (Stand.of_body B).code.symm.trans hc9
  have hl := lv_entry ([.ref (ad.getD 0 0), .int (Int32.ofInt w), .ref (ad.getD o 0)]) (n := 4) (Nat.le_of_ble_eq_true rfl)
  change W p l e _ s m _ below meth c s.heap [] 0 0 _ (entryFrame m ([.ref (ad.getD 0 0), .int (Int32.ofInt w), .ref (ad.getD o 0)] : List Value).toArray 4)
  rw [lg_entry_eq]
  generalize (lg_sl ([.ref (ad.getD 0 0), .int (Int32.ofInt w), .ref (ad.getD o 0)]) ++ List.replicate (4 - (lg_sl ([.ref (ad.getD 0 0), .int (Int32.ofInt w), .ref (ad.getD o 0)])).length) Slot.unset).toArray = ls at hl ⊢
  have hl : lv_has ls 4 [(0, .ref (ad.getD 0 0)), (1, .int (Int32.ofInt w)), (2, .ref (ad.getD o 0))] := hl
  have hZ := hB.2.2.2.2.2
  refine lv_aload_n hx hb sd_hst_0 rfl (lv_at hl 2 rfl) ?_
  refine lv_iconst (v := Int32.ofInt 0) hx hb sd_hst_1 rfl ?_
  refine lv_aload_n hx hb sd_hst_2 rfl (lv_at hl 0 rfl) ?_
  refine lv_iload_n hx hb sd_hst_3 rfl (lv_at hl 1 rfl) ?_
  have hmj : oe_ml 8 ≤ 45 := Nat.le_of_ble_eq_true rfl
  have hasl : (parseMethodDescriptor (oe_y 8).desc).map (fun d => d.parameters.length) = some ([.inl w] : List oeV).length := sl_hst
  rcases h with h | ⟨hc, hQ⟩
  · exact hm_norm (as := [.inl w]) (j := 8) (o := o) hx hb (hml.trans hl.1.symm) hr hlocks hown hts hwm hB hlen hhv h0 (fun v hv => by simp only [List.mem_cons, List.not_mem_nil, or_false] at hv; rcases hv with rfl <;> assumption) hasl rfl rfl hmj (hm_m 5 rfl) (hm_m 6 rfl) (hm_m 7 rfl) (hm_m 8 rfl) h (by show d + 2 ≤ d + 2; omega) (by show 64 * (d + 2) ≤ 64 * (d + 2); omega) rfl ho sd_hst_4 sd_hst_7 sd_hst_8 sd_hst_9 (T := 15) rfl sd_hst_15 sd_hst_16
  · exact hm_thrown (as := [.inl w]) (j := 8) (o := o) (XN := tw_IAE) (hpc := 12) (k := 1) (rv := 1) hx hb (by rw [hml]; exact hl) hr hlocks hown hts hwm hB hlen hhv h0 hasl rfl hmj (hm_m 5 rfl) (hm_m 6 rfl) (hm_m 7 rfl) (hm_m 8 rfl) (tk_steps htr hhv hrw hc) hQ ⟨by omega, by omega⟩ (by show 12 ≤ d + 2; omega) (by show 400 ≤ 64 * (d + 2); omega) rfl rfl rfl sd_hst_4 (fun U' q ce X hce hcv hcc => th_fd1 (own := "OrderedEquationsLaw") X hown htab (by omega) (by omega) (by decide) (hwm _ (hm_m 18 rfl)) (hZ.2.2.1 _ tw_c2 _) hce hcv hcc) (fun q H1 Qp kk => lv_astore_n hx hb sd_hst_12 rfl hl (by decide) rfl (fun ls' _ => kk ls')) sd_hst_13 sd_hst_14
theorem sd_hct_0 : decode method_5_code 0 = .ok (.aload_n 2, 1) := by decide +kernel
theorem sd_hct_1 : decode method_5_code 1 = .ok (.iconst 0, 1) := by decide +kernel
theorem sd_hct_2 : decode method_5_code 2 = .ok (.aload_n 0, 1) := by decide +kernel
theorem sd_hct_3 : decode method_5_code 3 = .ok (.iload_n 1, 1) := by decide +kernel
theorem sd_hct_4 : decode method_5_code 4 = .ok (.invokevirtual 21, 3) := by decide +kernel
theorem sd_hct_7 : decode method_5_code 7 = .ok (.i2l, 1) := by decide +kernel
theorem sd_hct_8 : decode method_5_code 8 = .ok (.lastore, 1) := by decide +kernel
theorem sd_hct_9 : decode method_5_code 9 = .ok (.goto 6, 3) := by decide +kernel
theorem sd_hct_15 : decode method_5_code 15 = .ok (.iconst 0, 1) := by decide +kernel
theorem sd_hct_16 : decode method_5_code 16 = .ok (.ireturn, 1) := by decide +kernel
theorem sd_hct_12 : decode method_5_code 12 = .ok (.astore_n 3, 1) := by decide +kernel
theorem sd_hct_13 : decode method_5_code 13 = .ok (.iconst 1, 1) := by decide +kernel
theorem sd_hct_14 : decode method_5_code 14 = .ok (.ireturn, 1) := by decide +kernel
set_option maxHeartbeats 4000000 in
theorem hk_hct {l : Launch} (htr : l.stackTraces = false) {D : va_G} {cA : Nat → ClassId} {z : Nat → Int → Nat} {zK zV za : Nat → Nat} {d o : Nat} (hd : 10 ≤ d) {hp : oeH} {Q : oeQ} {w : Int} (hrw : oe_rg w) (h0 : hp.1[0]? = some (5, 14)) (ho : o < hp.1.length)
    (h : oe_M d 9 [.inr (.inl 0), .inl w] hp (hm_Q o Q) ∨ ((w < 0 ∨ 2 < w) ∧ Q (some (.inl 1)) hp)) : hm_Met l D cA z (lz_Z zK zV za) d hct_y (.codeWith hct_y method_5_code 4 (some .int) [(0, 9, 12, 19)]) [.inr (.inl 0), .inl w, .inr (.inl o)] hp Q := by
  intro ad sz hlen hhv hvs
  refine va_MetW (hh := [(0, 9, 12, 19)]) (cc := method_5_code) (maxL := 4) (ret := some .int) (by decide) rfl ?_
  intro p e s m args below meth c s₁ B hml hv
  obtain ⟨rfl, hB⟩ := hv
  have hsz := hB.1
  subst hsz
  have hx := B.exec
  have hb := B.bytes
  have hr := B.returns
  have hown : s.vm.findClass "OrderedEquationsLaw" = some m.cls := findClass_of_methodNamed B.named
  have hlocks := B.notSynchronized
  have hts0 := atoms_spec (ws := (.codeWith hct_y method_5_code 4 (some .int) [(0, 9, 12, 19)]) :: (hm_W ++ oe_W)) B.pre
  have hwm : ∀ w ∈ hm_W, w.before _ s = true := fun w h => hts0 w (List.mem_cons_of_mem _ (List.mem_append_left _ h))
  have hts : ∀ w ∈ oe_W, w.before _ s = true := fun w h => hts0 w (List.mem_cons_of_mem _ (List.mem_append_right _ h))
  obtain ⟨m9, meth9, c9, hn9, hm9, hc9, -, -, htab, -⟩ := Cond.codeWith_spec (hts0 _ List.mem_cons_self)
  cases B.named.symm.trans hn9
  cases B.method.symm.trans hm9
  cases (Stand.of_body B).code.symm.trans hc9
  have hl := lv_entry ([.ref (ad.getD 0 0), .int (Int32.ofInt w), .ref (ad.getD o 0)]) (n := 4) (Nat.le_of_ble_eq_true rfl)
  change W p l e _ s m _ below meth c s.heap [] 0 0 _ (entryFrame m ([.ref (ad.getD 0 0), .int (Int32.ofInt w), .ref (ad.getD o 0)] : List Value).toArray 4)
  rw [lg_entry_eq]
  generalize (lg_sl ([.ref (ad.getD 0 0), .int (Int32.ofInt w), .ref (ad.getD o 0)]) ++ List.replicate (4 - (lg_sl ([.ref (ad.getD 0 0), .int (Int32.ofInt w), .ref (ad.getD o 0)])).length) Slot.unset).toArray = ls at hl ⊢
  have hl : lv_has ls 4 [(0, .ref (ad.getD 0 0)), (1, .int (Int32.ofInt w)), (2, .ref (ad.getD o 0))] := hl
  have hZ := hB.2.2.2.2.2
  refine lv_aload_n hx hb sd_hct_0 rfl (lv_at hl 2 rfl) ?_
  refine lv_iconst (v := Int32.ofInt 0) hx hb sd_hct_1 rfl ?_
  refine lv_aload_n hx hb sd_hct_2 rfl (lv_at hl 0 rfl) ?_
  refine lv_iload_n hx hb sd_hct_3 rfl (lv_at hl 1 rfl) ?_
  have hmj : oe_ml 9 ≤ 45 := Nat.le_of_ble_eq_true rfl
  have hasl : (parseMethodDescriptor (oe_y 9).desc).map (fun d => d.parameters.length) = some ([.inl w] : List oeV).length := sl_hct
  rcases h with h | ⟨hc, hQ⟩
  · exact hm_norm (as := [.inl w]) (j := 9) (o := o) hx hb (hml.trans hl.1.symm) hr hlocks hown hts hwm hB hlen hhv h0 (fun v hv => by simp only [List.mem_cons, List.not_mem_nil, or_false] at hv; rcases hv with rfl <;> assumption) hasl rfl rfl hmj (hm_m 9 rfl) (hm_m 10 rfl) (hm_m 11 rfl) (hm_m 12 rfl) h (by show d + 2 ≤ d + 2; omega) (by show 64 * (d + 2) ≤ 64 * (d + 2); omega) rfl ho sd_hct_4 sd_hct_7 sd_hct_8 sd_hct_9 (T := 15) rfl sd_hct_15 sd_hct_16
  · exact hm_thrown (as := [.inl w]) (j := 9) (o := o) (XN := tw_IAE) (hpc := 12) (k := 1) (rv := 1) hx hb (by rw [hml]; exact hl) hr hlocks hown hts hwm hB hlen hhv h0 hasl rfl hmj (hm_m 9 rfl) (hm_m 10 rfl) (hm_m 11 rfl) (hm_m 12 rfl) (tk_count htr hhv hrw hc) hQ ⟨by omega, by omega⟩ (by show 12 ≤ d + 2; omega) (by show 400 ≤ 64 * (d + 2); omega) rfl rfl rfl sd_hct_4 (fun U' q ce X hce hcv hcc => th_fd1 (own := "OrderedEquationsLaw") X hown htab (by omega) (by omega) (by decide) (hwm _ (hm_m 18 rfl)) (hZ.2.2.1 _ tw_c2 _) hce hcv hcc) (fun q H1 Qp kk => lv_astore_n hx hb sd_hct_12 rfl hl (by decide) rfl (fun ls' _ => kk ls')) sd_hct_13 sd_hct_14
theorem sd_hsh_0 : decode method_6_code 0 = .ok (.aload_n 3, 1) := by decide +kernel
theorem sd_hsh_1 : decode method_6_code 1 = .ok (.iconst 0, 1) := by decide +kernel
theorem sd_hsh_2 : decode method_6_code 2 = .ok (.aload_n 0, 1) := by decide +kernel
theorem sd_hsh_3 : decode method_6_code 3 = .ok (.iload_n 1, 1) := by decide +kernel
theorem sd_hsh_4 : decode method_6_code 4 = .ok (.iload_n 2, 1) := by decide +kernel
theorem sd_hsh_5 : decode method_6_code 5 = .ok (.invokevirtual 24, 3) := by decide +kernel
theorem sd_hsh_8 : decode method_6_code 8 = .ok (.i2l, 1) := by decide +kernel
theorem sd_hsh_9 : decode method_6_code 9 = .ok (.lastore, 1) := by decide +kernel
theorem sd_hsh_10 : decode method_6_code 10 = .ok (.goto 11, 3) := by decide +kernel
theorem sd_hsh_21 : decode method_6_code 21 = .ok (.iconst 0, 1) := by decide +kernel
theorem sd_hsh_22 : decode method_6_code 22 = .ok (.ireturn, 1) := by decide +kernel
theorem sd_hsh_13 : decode method_6_code 13 = .ok (.astore 4, 2) := by decide +kernel
theorem sd_hsh_15 : decode method_6_code 15 = .ok (.iconst 1, 1) := by decide +kernel
theorem sd_hsh_16 : decode method_6_code 16 = .ok (.ireturn, 1) := by decide +kernel
theorem sd_hsh_17 : decode method_6_code 17 = .ok (.astore 4, 2) := by decide +kernel
theorem sd_hsh_19 : decode method_6_code 19 = .ok (.iconst 2, 1) := by decide +kernel
theorem sd_hsh_20 : decode method_6_code 20 = .ok (.ireturn, 1) := by decide +kernel
set_option maxHeartbeats 4000000 in
theorem hk_hsh {l : Launch} (htr : l.stackTraces = false) {D : va_G} {cA : Nat → ClassId} {z : Nat → Int → Nat} {zK zV za : Nat → Nat} {d o : Nat} (hd : 10 ≤ d) {hp : oeH} {Q : oeQ} {w i : Int} (hrw : oe_rg w) (hri : oe_rg i) (h0 : hp.1[0]? = some (5, 14)) (ho : o < hp.1.length)
    (h : oe_M d 10 [.inr (.inl 0), .inl w, .inl i] hp (hm_Q o Q) ∨ ((w < 0 ∨ 2 < w) ∧ Q (some (.inl 1)) hp) ∨ (hp.2.1 0 5 = some 215 ∧ hp.1[215]? = some (6, 5) ∧ hp.2.1 0 4 = some 3 ∧ hp.1[3]? = some (11, 2) ∧ ((w = 2 ∧ hp.2.2 0 9 = 0) ∨ (w = 0 ∧ (i < 0 ∨ hp.2.2 215 1 ≤ i)) ∨ (w = 1 ∧ (i < 0 ∨ hp.2.2 3 1 ≤ i))) ∧ Q (some (.inl 2)) hp)) : hm_Met l D cA z (lz_Z zK zV za) d hsh_y (.codeWith hsh_y method_6_code 5 (some .int) [(0, 10, 13, 19), (0, 10, 17, 28)]) [.inr (.inl 0), .inl w, .inl i, .inr (.inl o)] hp Q := by
  intro ad sz hlen hhv hvs
  refine va_MetW (hh := [(0, 10, 13, 19), (0, 10, 17, 28)]) (cc := method_6_code) (maxL := 5) (ret := some .int) (by decide) rfl ?_
  intro p e s m args below meth c s₁ B hml hv
  obtain ⟨rfl, hB⟩ := hv
  have hsz := hB.1
  subst hsz
  have hx := B.exec
  have hb := B.bytes
  have hr := B.returns
  have hown : s.vm.findClass "OrderedEquationsLaw" = some m.cls := findClass_of_methodNamed B.named
  have hlocks := B.notSynchronized
  have hts0 := atoms_spec (ws := (.codeWith hsh_y method_6_code 5 (some .int) [(0, 10, 13, 19), (0, 10, 17, 28)]) :: (hm_W ++ oe_W)) B.pre
  have hwm : ∀ w ∈ hm_W, w.before _ s = true := fun w h => hts0 w (List.mem_cons_of_mem _ (List.mem_append_left _ h))
  have hts : ∀ w ∈ oe_W, w.before _ s = true := fun w h => hts0 w (List.mem_cons_of_mem _ (List.mem_append_right _ h))
  obtain ⟨m9, meth9, c9, hn9, hm9, hc9, -, -, htab, -⟩ := Cond.codeWith_spec (hts0 _ List.mem_cons_self)
  cases B.named.symm.trans hn9
  cases B.method.symm.trans hm9
  cases (Stand.of_body B).code.symm.trans hc9
  have hl := lv_entry ([.ref (ad.getD 0 0), .int (Int32.ofInt w), .int (Int32.ofInt i), .ref (ad.getD o 0)]) (n := 5) (Nat.le_of_ble_eq_true rfl)
  change W p l e _ s m _ below meth c s.heap [] 0 0 _ (entryFrame m ([.ref (ad.getD 0 0), .int (Int32.ofInt w), .int (Int32.ofInt i), .ref (ad.getD o 0)] : List Value).toArray 5)
  rw [lg_entry_eq]
  generalize (lg_sl ([.ref (ad.getD 0 0), .int (Int32.ofInt w), .int (Int32.ofInt i), .ref (ad.getD o 0)]) ++ List.replicate (5 - (lg_sl ([.ref (ad.getD 0 0), .int (Int32.ofInt w), .int (Int32.ofInt i), .ref (ad.getD o 0)])).length) Slot.unset).toArray = ls at hl ⊢
  have hl : lv_has ls 5 [(0, .ref (ad.getD 0 0)), (1, .int (Int32.ofInt w)), (2, .int (Int32.ofInt i)), (3, .ref (ad.getD o 0))] := hl
  have hZ := hB.2.2.2.2.2
  refine lv_aload_n hx hb sd_hsh_0 rfl (lv_at hl 3 rfl) ?_
  refine lv_iconst (v := Int32.ofInt 0) hx hb sd_hsh_1 rfl ?_
  refine lv_aload_n hx hb sd_hsh_2 rfl (lv_at hl 0 rfl) ?_
  refine lv_iload_n hx hb sd_hsh_3 rfl (lv_at hl 1 rfl) ?_
  refine lv_iload_n hx hb sd_hsh_4 rfl (lv_at hl 2 rfl) ?_
  have hmj : oe_ml 10 ≤ 45 := Nat.le_of_ble_eq_true rfl
  have hasl : (parseMethodDescriptor (oe_y 10).desc).map (fun d => d.parameters.length) = some ([.inl w, .inl i] : List oeV).length := sl_hsh
  rcases h with h | ⟨hc, hQ⟩ | ⟨h5, h215, h4, h3, hc, hQ⟩
  · exact hm_norm (as := [.inl w, .inl i]) (j := 10) (o := o) hx hb (hml.trans hl.1.symm) hr hlocks hown hts hwm hB hlen hhv h0 (fun v hv => by simp only [List.mem_cons, List.not_mem_nil, or_false] at hv; rcases hv with rfl | rfl <;> assumption) hasl rfl rfl hmj (hm_m 13 rfl) (hm_m 14 rfl) (hm_m 15 rfl) (hm_m 16 rfl) h (by show d + 2 ≤ d + 2; omega) (by show 64 * (d + 2) ≤ 64 * (d + 2); omega) rfl ho sd_hsh_5 sd_hsh_8 sd_hsh_9 sd_hsh_10 (T := 21) rfl sd_hsh_21 sd_hsh_22
  · exact hm_thrown (as := [.inl w, .inl i]) (j := 10) (o := o) (XN := tw_IAE) (hpc := 13) (k := 2) (rv := 1) hx hb (by rw [hml]; exact hl) hr hlocks hown hts hwm hB hlen hhv h0 hasl rfl hmj (hm_m 13 rfl) (hm_m 14 rfl) (hm_m 15 rfl) (hm_m 16 rfl) (tk_showr htr hhv hrw hc) hQ ⟨by omega, by omega⟩ (by show 12 ≤ d + 2; omega) (by show 400 ≤ 64 * (d + 2); omega) rfl rfl rfl sd_hsh_5 (fun U' q ce X hce hcv hcc => th_fd1 (own := "OrderedEquationsLaw") X hown htab (by omega) (by omega) (by decide) (hwm _ (hm_m 18 rfl)) (hZ.2.2.1 _ tw_c2 _) hce hcv hcc) (fun q H1 Qp kk => lv_astore hx hb sd_hsh_13 hl (by decide) rfl (fun ls' _ => kk ls')) sd_hsh_15 sd_hsh_16
  · exact hm_thrown (as := [.inl w, .inl i]) (j := 10) (o := o) (XN := tw_IOE) (hpc := 17) (k := 2) (rv := 2) hx hb (by rw [hml]; exact hl) hr hlocks hown hts hwm hB hlen hhv h0 hasl rfl hmj (hm_m 13 rfl) (hm_m 14 rfl) (hm_m 15 rfl) (hm_m 16 rfl) (tk_shown htr hhv hrw hri h0 h5 h215 h4 h3 hc) hQ ⟨by omega, by omega⟩ (by show 12 ≤ d + 2; omega) (by show 400 ≤ 64 * (d + 2); omega) rfl rfl rfl sd_hsh_5 (fun U' q ce X hce hcv hcc => th_fd2 (own := "OrderedEquationsLaw") (XC := tw_IAE) X hown htab (by omega) (by omega) (by decide) (by omega) (by omega) (by decide) (hwm _ (hm_m 18 rfl)) hZ.2.2.2 (hwm _ (hm_m 19 rfl)) (hZ.2.2.1 _ tw_c3 _) hce hcv hcc) (fun q H1 Qp kk => lv_astore hx hb sd_hsh_17 hl (by decide) rfl (fun ls' _ => kk ls')) sd_hsh_19 sd_hsh_20
