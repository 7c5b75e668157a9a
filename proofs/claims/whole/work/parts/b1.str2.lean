/-! The texts of letters: the walks of String's own methods. -/
theorem sd_isl_0 : decode prog_17_method_154_code 0 = .ok (.getstatic 38, 3) := by decide +kernel
theorem sd_isl_3 : decode prog_17_method_154_code 3 = .ok (.ifCond .eq 14, 3) := by decide +kernel
theorem sd_isl_6 : decode prog_17_method_154_code 6 = .ok (.aload_n 0, 1) := by decide +kernel
theorem sd_isl_7 : decode prog_17_method_154_code 7 = .ok (.getfield 15, 3) := by decide +kernel
theorem sd_isl_10 : decode prog_17_method_154_code 10 = .ok (.ifCond .ne 7, 3) := by decide +kernel
theorem sd_isl_13 : decode prog_17_method_154_code 13 = .ok (.iconst 1, 1) := by decide +kernel
theorem sd_isl_14 : decode prog_17_method_154_code 14 = .ok (.goto 4, 3) := by decide +kernel
theorem sd_isl_18 : decode prog_17_method_154_code 18 = .ok (.ireturn, 1) := by decide +kernel
set_option maxHeartbeats 4000000 in
theorem sk_isl (l : Launch) (zK zV : Nat → Nat) {i : Nat} (hi : i < 2) : Met l sy_isl (.code sy_isl prog_17_method_154_code 1 (some .boolean) :: sw_W) (sw_rm 0) (va_Pc [.ref (zK i)] (sw_B zK zV)) (vp_Si (fun r => r = 1)) 0 0 (fun _ => False) := by
  refine Met.ofW (cc := prog_17_method_154_code) (maxL := 1) (ret := (some .boolean)) (by decide) rfl ?_
  intro p e s m args below meth c s₁ B hml hv
  obtain ⟨rfl, hS0⟩ := hv
  have hx := B.exec
  have hb := B.bytes
  have hr := B.returns
  have hts := atoms_spec (ws := .code sy_isl prog_17_method_154_code 1 (some .boolean) :: sw_W) B.pre
  have hw : ∀ w ∈ sw_W, w.before ([.ref (zK i)] : List Value).toArray s = true := fun w h => hts w (List.mem_cons_of_mem _ h)
  have hown : s.vm.findClass "java/lang/String" = some m.cls := findClass_of_methodNamed B.named
  have hlocks := B.notSynchronized
  have hS : va_S (fun _ => False) s.heap s.heap [] := va_S.rf
  have hl := lv_entry ([.ref (zK i)]) (n := 1) (Nat.le_of_ble_eq_true rfl)
  rw [lg_entry_eq]
  generalize (lg_sl ([.ref (zK i)]) ++ List.replicate (1 - (lg_sl ([.ref (zK i)])).length) Slot.unset).toArray = ls at hl ⊢
  have hl : lv_has ls 1 [(0, .ref (zK i))] := hl
  refine va_gets (v := .int 1) hx hb hS0.2.1 hS hown (hw (.fieldLink "java/lang/String" 38 "java/lang/String" "COMPACT_STRINGS" "Z") (sw_m 56 rfl)) (fun _ h => h) sd_isl_0 ?_
  refine lv_if_eq hx hb sd_isl_3 (tgt := 17) rfl (fun h => absurd h (by decide)) (fun _ => ?_)
  refine lv_aload_n hx hb sd_isl_6 rfl (lv_at hl 0 rfl) ?_
  refine vk_getf hx hb (hS0.1.1 i hi).2.1 hS hown (hw (.fieldLink "java/lang/String" 15 "java/lang/String" "coder" "B") (sw_m 57 rfl)) (fun _ h => h) sd_isl_7 ?_
  refine lv_if_ne hx hb sd_isl_10 (tgt := 17) rfl (fun h => absurd rfl h) (fun _ => ?_)
  refine lv_iconst (v := 1) hx hb sd_isl_13 (by decide) ?_
  refine lv_goto hx hb sd_isl_14 (tgt := 18) rfl ?_
  exact W.zret (ty := .boolean) hx hb hr rfl (fun t ht hW => ⟨1, rfl, rfl, ht⟩) hS.2.2 sd_isl_18
theorem sd_cod_0 : decode prog_17_method_152_code 0 = .ok (.getstatic 38, 3) := by decide +kernel
theorem sd_cod_3 : decode prog_17_method_152_code 3 = .ok (.ifCond .eq 10, 3) := by decide +kernel
theorem sd_cod_6 : decode prog_17_method_152_code 6 = .ok (.aload_n 0, 1) := by decide +kernel
theorem sd_cod_7 : decode prog_17_method_152_code 7 = .ok (.getfield 15, 3) := by decide +kernel
theorem sd_cod_10 : decode prog_17_method_152_code 10 = .ok (.goto 4, 3) := by decide +kernel
theorem sd_cod_14 : decode prog_17_method_152_code 14 = .ok (.ireturn, 1) := by decide +kernel
set_option maxHeartbeats 4000000 in
theorem sk_cod (l : Launch) (zK zV : Nat → Nat) {i : Nat} (hi : i < 2) : Met l sy_cod (.code sy_cod prog_17_method_152_code 1 (some .byte) :: sw_W) (sw_rm 0) (va_Pc [.ref (zK i)] (sw_B zK zV)) (vp_Si (fun r => r = 0)) 0 0 (fun _ => False) := by
  refine Met.ofW (cc := prog_17_method_152_code) (maxL := 1) (ret := (some .byte)) (by decide) rfl ?_
  intro p e s m args below meth c s₁ B hml hv
  obtain ⟨rfl, hS0⟩ := hv
  have hx := B.exec
  have hb := B.bytes
  have hr := B.returns
  have hts := atoms_spec (ws := .code sy_cod prog_17_method_152_code 1 (some .byte) :: sw_W) B.pre
  have hw : ∀ w ∈ sw_W, w.before ([.ref (zK i)] : List Value).toArray s = true := fun w h => hts w (List.mem_cons_of_mem _ h)
  have hown : s.vm.findClass "java/lang/String" = some m.cls := findClass_of_methodNamed B.named
  have hlocks := B.notSynchronized
  have hS : va_S (fun _ => False) s.heap s.heap [] := va_S.rf
  have hl := lv_entry ([.ref (zK i)]) (n := 1) (Nat.le_of_ble_eq_true rfl)
  rw [lg_entry_eq]
  generalize (lg_sl ([.ref (zK i)]) ++ List.replicate (1 - (lg_sl ([.ref (zK i)])).length) Slot.unset).toArray = ls at hl ⊢
  have hl : lv_has ls 1 [(0, .ref (zK i))] := hl
  refine va_gets (v := .int 1) hx hb hS0.2.1 hS hown (hw (.fieldLink "java/lang/String" 38 "java/lang/String" "COMPACT_STRINGS" "Z") (sw_m 56 rfl)) (fun _ h => h) sd_cod_0 ?_
  refine lv_if_eq hx hb sd_cod_3 (tgt := 13) rfl (fun h => absurd h (by decide)) (fun _ => ?_)
  refine lv_aload_n hx hb sd_cod_6 rfl (lv_at hl 0 rfl) ?_
  refine vk_getf hx hb (hS0.1.1 i hi).2.1 hS hown (hw (.fieldLink "java/lang/String" 15 "java/lang/String" "coder" "B") (sw_m 57 rfl)) (fun _ h => h) sd_cod_7 ?_
  refine lv_goto hx hb sd_cod_10 (tgt := 14) rfl ?_
  exact W.zret (ty := .byte) hx hb hr rfl (fun t ht hW => ⟨0, rfl, rfl, ht⟩) hS.2.2 sd_cod_14
theorem sd_len_0 : decode prog_17_method_54_code 0 = .ok (.aload_n 0, 1) := by decide +kernel
theorem sd_len_1 : decode prog_17_method_54_code 1 = .ok (.getfield 9, 3) := by decide +kernel
theorem sd_len_4 : decode prog_17_method_54_code 4 = .ok (.arraylength, 1) := by decide +kernel
theorem sd_len_5 : decode prog_17_method_54_code 5 = .ok (.aload_n 0, 1) := by decide +kernel
theorem sd_len_6 : decode prog_17_method_54_code 6 = .ok (.invokevirtual 335, 3) := by decide +kernel
theorem sd_len_9 : decode prog_17_method_54_code 9 = .ok (.ishr, 1) := by decide +kernel
theorem sd_len_10 : decode prog_17_method_54_code 10 = .ok (.ireturn, 1) := by decide +kernel
set_option maxHeartbeats 4000000 in
theorem sk_len (l : Launch) (zK zV : Nat → Nat) {i : Nat} (hi : i < 2) : Met l sy_len (.code sy_len prog_17_method_54_code 1 (some .int) :: sw_W) (sw_rm 1) (va_Pc [.ref (zK i)] (sw_B zK zV)) (vp_Si (fun r => r = Int32.ofInt ((sw_l i).length : Nat))) 0 0 (fun _ => False) := by
  refine Met.ofW (cc := prog_17_method_54_code) (maxL := 1) (ret := (some .int)) (by decide) rfl ?_
  intro p e s m args below meth c s₁ B hml hv
  obtain ⟨rfl, hS0⟩ := hv
  have hx := B.exec
  have hb := B.bytes
  have hr := B.returns
  have hts := atoms_spec (ws := .code sy_len prog_17_method_54_code 1 (some .int) :: sw_W) B.pre
  have hw : ∀ w ∈ sw_W, w.before ([.ref (zK i)] : List Value).toArray s = true := fun w h => hts w (List.mem_cons_of_mem _ h)
  have hown : s.vm.findClass "java/lang/String" = some m.cls := findClass_of_methodNamed B.named
  have hlocks := B.notSynchronized
  have hS : va_S (fun _ => False) s.heap s.heap [] := va_S.rf
  have hl := lv_entry ([.ref (zK i)]) (n := 1) (Nat.le_of_ble_eq_true rfl)
  rw [lg_entry_eq]
  generalize (lg_sl ([.ref (zK i)]) ++ List.replicate (1 - (lg_sl ([.ref (zK i)])).length) Slot.unset).toArray = ls at hl ⊢
  have hl : lv_has ls 1 [(0, .ref (zK i))] := hl
  refine lv_aload_n hx hb sd_len_0 rfl (lv_at hl 0 rfl) ?_
  refine vk_getf hx hb (hS0.1.1 i hi).2.2.1 hS hown (hw (.fieldLink "java/lang/String" 9 "java/lang/String" "value" "[B") (sw_m 58 rfl)) (fun _ h => h) sd_len_1 ?_
  refine va_tlen (v := Int32.ofInt ((sw_l i).length : Nat)) hx hb (hS0.1.1 i hi).2.2.2 hS (by rw [sw_ln hi]; exact oe_nI) sd_len_4 ?_
  refine lv_aload_n hx hb sd_len_5 rfl (lv_at hl 0 rfl) ?_
  refine sw_V (k := 0) (As := []) (rest := [.int (Int32.ofInt ((sw_l i).length : Nat))]) hi (sk_cod l zK zV hi) hx hb hml hown hw hS0 hl.1 rfl (sw_m 30 rfl) (sw_m 31 rfl) (sw_m 32 rfl) (sw_m 9 rfl) sp_cod (Nat.le_of_ble_eq_true rfl) (Nat.le_of_ble_eq_true rfl) sd_len_6 rfl (Nat.le_of_ble_eq_true rfl) ⟨Nat.zero_le _, Nat.zero_le _⟩ (fun r hr0 => ?_)
  subst hr0
  refine lv_ishr hx hb sd_len_9 ?_
  rw [sb_shr0]
  exact W.iret hx hb hr (fun t ht hW => ⟨_, rfl, rfl, ht⟩) hS.2.2 sd_len_10
theorem sd_can_0 : decode prog_18_method_4_code 0 = .ok (.iload_n 0, 1) := by decide +kernel
theorem sd_can_1 : decode prog_18_method_4_code 1 = .ok (.ifCond .lt 14, 3) := by decide +kernel
theorem sd_can_4 : decode prog_18_method_4_code 4 = .ok (.iload_n 0, 1) := by decide +kernel
theorem sd_can_5 : decode prog_18_method_4_code 5 = .ok (.sipush 255, 3) := by decide +kernel
theorem sd_can_8 : decode prog_18_method_4_code 8 = .ok (.if_icmp .gt 7, 3) := by decide +kernel
theorem sd_can_11 : decode prog_18_method_4_code 11 = .ok (.iconst 1, 1) := by decide +kernel
theorem sd_can_12 : decode prog_18_method_4_code 12 = .ok (.goto 4, 3) := by decide +kernel
theorem sd_can_15 : decode prog_18_method_4_code 15 = .ok (.iconst 0, 1) := by decide +kernel
theorem sd_can_16 : decode prog_18_method_4_code 16 = .ok (.ireturn, 1) := by decide +kernel
set_option maxHeartbeats 4000000 in
theorem sk_can (l : Launch) (zK zV : Nat → Nat) {x : Int} (h0 : 0 ≤ x) (h1 : x < 65536) : Met l sy_can (.code sy_can prog_18_method_4_code 1 (some .boolean) :: sw_W) (sw_rm 0) (va_Pc [.int (Int32.ofInt x)] (sw_B zK zV)) (vp_Si (fun r => r = if x < 256 then 1 else 0)) 0 0 (fun _ => False) := by
  refine Met.ofW (cc := prog_18_method_4_code) (maxL := 1) (ret := (some .boolean)) (by decide) rfl ?_
  intro p e s m args below meth c s₁ B hml hv
  obtain ⟨rfl, hS0⟩ := hv
  have hx := B.exec
  have hb := B.bytes
  have hr := B.returns
  have hts := atoms_spec (ws := .code sy_can prog_18_method_4_code 1 (some .boolean) :: sw_W) B.pre
  have hw : ∀ w ∈ sw_W, w.before ([.int (Int32.ofInt x)] : List Value).toArray s = true := fun w h => hts w (List.mem_cons_of_mem _ h)
  have hown : s.vm.findClass "java/lang/StringLatin1" = some m.cls := findClass_of_methodNamed B.named
  have hlocks := B.notSynchronized
  have hS : va_S (fun _ => False) s.heap s.heap [] := va_S.rf
  have hl := lv_entry ([.int (Int32.ofInt x)]) (n := 1) (Nat.le_of_ble_eq_true rfl)
  rw [lg_entry_eq]
  generalize (lg_sl ([.int (Int32.ofInt x)]) ++ List.replicate (1 - (lg_sl ([.int (Int32.ofInt x)])).length) Slot.unset).toArray = ls at hl ⊢
  have hl : lv_has ls 1 [(0, .int (Int32.ofInt x))] := hl
  have hrx : oe_rg x := ⟨by omega, by omega⟩
  refine lv_iload_n hx hb sd_can_0 rfl (lv_at hl 0 rfl) ?_
  refine lv_if_lt hx hb sd_can_1 (tgt := 15) rfl (fun h => absurd ((oe_lt hrx oe_rg0).mp h) (by omega)) (fun _ => ?_)
  refine lv_iload_n hx hb sd_can_4 rfl (lv_at hl 0 rfl) ?_
  refine lv_sipush (v := Int32.ofInt 255) hx hb sd_can_5 (by decide) ?_
  have h255 : oe_rg 255 := ⟨by omega, by omega⟩
  refine lv_icmp_gt hx hb sd_can_8 (tgt := 15) rfl (fun h => ?_) (fun h => ?_)
  · have hc : ¬ x < 256 := by have := (oe_lt h255 hrx).mp h; omega
    refine lv_iconst (v := 0) hx hb sd_can_15 (by decide) ?_
    exact W.zret (ty := .boolean) hx hb hr rfl (fun t ht hW => ⟨0, rfl, (if_neg hc).symm, ht⟩) hS.2.2 sd_can_16
  · have hc : x < 256 := by have : ¬ 255 < x := fun q => h ((oe_lt h255 hrx).mpr q); omega
    refine lv_iconst (v := 1) hx hb sd_can_11 (by decide) ?_
    refine lv_goto hx hb sd_can_12 (tgt := 16) rfl ?_
    exact W.zret (ty := .boolean) hx hb hr rfl (fun t ht hW => ⟨1, rfl, (if_pos hc).symm, ht⟩) hS.2.2 sd_can_16
theorem sd_lic_0 : decode prog_18_method_23_code 0 = .ok (.iload_n 1, 1) := by decide +kernel
theorem sd_lic_1 : decode prog_18_method_23_code 1 = .ok (.i2b, 1) := by decide +kernel
theorem sd_lic_2 : decode prog_18_method_23_code 2 = .ok (.istore 4, 2) := by decide +kernel
theorem sd_lic_4 : decode prog_18_method_23_code 4 = .ok (.iload_n 2, 1) := by decide +kernel
theorem sd_lic_5 : decode prog_18_method_23_code 5 = .ok (.istore 5, 2) := by decide +kernel
theorem sd_lic_7 : decode prog_18_method_23_code 7 = .ok (.iload 5, 2) := by decide +kernel
theorem sd_lic_9 : decode prog_18_method_23_code 9 = .ok (.iload_n 3, 1) := by decide +kernel
theorem sd_lic_10 : decode prog_18_method_23_code 10 = .ok (.if_icmp .ge 21, 3) := by decide +kernel
theorem sd_lic_13 : decode prog_18_method_23_code 13 = .ok (.aload_n 0, 1) := by decide +kernel
theorem sd_lic_14 : decode prog_18_method_23_code 14 = .ok (.iload 5, 2) := by decide +kernel
theorem sd_lic_16 : decode prog_18_method_23_code 16 = .ok (.baload, 1) := by decide +kernel
theorem sd_lic_17 : decode prog_18_method_23_code 17 = .ok (.iload 4, 2) := by decide +kernel
theorem sd_lic_19 : decode prog_18_method_23_code 19 = .ok (.if_icmp .ne 6, 3) := by decide +kernel
theorem sd_lic_22 : decode prog_18_method_23_code 22 = .ok (.iload 5, 2) := by decide +kernel
theorem sd_lic_24 : decode prog_18_method_23_code 24 = .ok (.ireturn, 1) := by decide +kernel
theorem sd_lic_25 : decode prog_18_method_23_code 25 = .ok (.iinc 5 1, 3) := by decide +kernel
theorem sd_lic_28 : decode prog_18_method_23_code 28 = .ok (.goto (-21), 3) := by decide +kernel
theorem sd_lic_31 : decode prog_18_method_23_code 31 = .ok (.iconst (-1), 1) := by decide +kernel
theorem sd_lic_32 : decode prog_18_method_23_code 32 = .ok (.ireturn, 1) := by decide +kernel
set_option maxHeartbeats 4000000 in
theorem sk_lic (l : Launch) (zK zV : Nat → Nat) {i : Nat} (hi : i < 2) {x : Int} (h0 : 0 ≤ x) (h1 : x < 256) : Met l sy_lic (.code sy_lic prog_18_method_23_code 6 (some .int) :: sw_W) (sw_rm 0) (va_Pc [.ref (zV i), .int (Int32.ofInt x), .int (Int32.ofInt 0), .int (Int32.ofInt ((sw_l i).length : Nat))] (sw_B zK zV)) (vp_Si (fun r => r = sw_ix x (sw_l i) 0)) 0 0 (fun _ => False) := by
  refine Met.ofW (cc := prog_18_method_23_code) (maxL := 6) (ret := (some .int)) (by decide) rfl ?_
  intro p e s m args below meth c s₁ B hml hv
  obtain ⟨rfl, hS0⟩ := hv
  have hx := B.exec
  have hb := B.bytes
  have hr := B.returns
  have hts := atoms_spec (ws := .code sy_lic prog_18_method_23_code 6 (some .int) :: sw_W) B.pre
  have hw : ∀ w ∈ sw_W, w.before ([.ref (zV i), .int (Int32.ofInt x), .int (Int32.ofInt 0), .int (Int32.ofInt ((sw_l i).length : Nat))] : List Value).toArray s = true := fun w h => hts w (List.mem_cons_of_mem _ h)
  have hown : s.vm.findClass "java/lang/StringLatin1" = some m.cls := findClass_of_methodNamed B.named
  have hlocks := B.notSynchronized
  have hS : va_S (fun _ => False) s.heap s.heap [] := va_S.rf
  have hl := lv_entry ([.ref (zV i), .int (Int32.ofInt x), .int (Int32.ofInt 0), .int (Int32.ofInt ((sw_l i).length : Nat))]) (n := 6) (Nat.le_of_ble_eq_true rfl)
  rw [lg_entry_eq]
  generalize (lg_sl ([.ref (zV i), .int (Int32.ofInt x), .int (Int32.ofInt 0), .int (Int32.ofInt ((sw_l i).length : Nat))]) ++ List.replicate (6 - (lg_sl ([.ref (zV i), .int (Int32.ofInt x), .int (Int32.ofInt 0), .int (Int32.ofInt ((sw_l i).length : Nat))])).length) Slot.unset).toArray = ls at hl ⊢
  have hl : lv_has ls 6 [(0, .ref (zV i)), (1, .int (Int32.ofInt x)), (2, .int (Int32.ofInt 0)), (3, .int (Int32.ofInt ((sw_l i).length : Nat)))] := hl
  have hlb := sw_lnb hi
  have loop : ∀ (r : List Int) (k : Nat) (ls : Array Slot), (sw_l i).drop k = r → k ≤ (sw_l i).length → sw_ix x r k = sw_ix x (sw_l i) 0 → lv_has ls 6 [(5, .int (Int32.ofInt (k : Nat))), (4, .int ((Int32.ofInt x).toInt8.toInt32)), (0, .ref (zV i)), (3, .int (Int32.ofInt ((sw_l i).length : Nat)))] →
      W p l e (headSpec (.code sy_lic prog_18_method_23_code 6 (some .int) :: sw_W) (sw_rm 0)).room s m ([.ref (zV i), .int (Int32.ofInt x), .int (Int32.ofInt 0), .int (Int32.ofInt ((sw_l i).length : Nat))] : List Value).toArray below meth c s.heap [] 0 0 (MQ below (vp_Si (fun r => r = sw_ix x (sw_l i) 0)) ([.ref (zV i), .int (Int32.ofInt x), .int (Int32.ofInt 0), .int (Int32.ofInt ((sw_l i).length : Nat))] : List Value).toArray s 0 0 (fun _ => False)) (F0 m 7 ls []) := by
    intro r
    induction r with
    | nil =>
      intro k ls hd hk hq hl
      have hk2 : (sw_l i).length ≤ k := List.drop_eq_nil_iff.mp hd
      refine lv_iload hx hb sd_lic_7 (lv_at hl 0 rfl) ?_
      refine lv_iload_n hx hb sd_lic_9 rfl (lv_at hl 3 rfl) ?_
      refine lv_icmp_ge hx hb sd_lic_10 (tgt := 31) rfl (fun h => ?_) (fun h => absurd ((oe_le ⟨by omega, by omega⟩ ⟨by omega, by omega⟩).mpr (by omega)) h)
      refine lv_iconst (v := -1) hx hb sd_lic_31 (by decide) ?_
      exact W.iret hx hb hr (fun t ht hW => ⟨-1, rfl, hq, ht⟩) hS.2.2 sd_lic_32
    | cons b r ih =>
      intro k ls hd hk hq hl
      have hk2 : k < (sw_l i).length := by
        rcases Nat.lt_or_ge k (sw_l i).length with q | q
        · exact q
        · rw [List.drop_eq_nil_of_le q] at hd; cases hd
      have hbk : (sw_l i).getD k 0 = b := by
        have e : ((sw_l i).drop k)[0]? = some b := by rw [hd]; rfl
        rw [List.getElem?_drop, Nat.add_zero] at e
        rw [List.getD_eq_getElem?_getD, e]; rfl
      have hbm : b ∈ oe_cdl ++ oe_sgl := sw_in hi b (List.mem_of_mem_drop (by rw [hd]; exact List.mem_cons_self))
      refine lv_iload hx hb sd_lic_7 (lv_at hl 0 rfl) ?_
      refine lv_iload_n hx hb sd_lic_9 rfl (lv_at hl 3 rfl) ?_
      refine lv_icmp_ge hx hb sd_lic_10 (tgt := 31) rfl (fun h => absurd ((oe_le ⟨by omega, by omega⟩ ⟨by omega, by omega⟩).mp h) (by omega)) (fun h => ?_)
      refine lv_aload_n hx hb sd_lic_13 rfl (lv_at hl 2 rfl) ?_
      refine lv_iload hx hb sd_lic_14 (lv_at hl 0 rfl) ?_
      have hvv : (fun j => Value.int ((sw_byt.getD i []).getD j 0)) (Int32.ofInt (k : Nat)).toNatClampNeg = Value.int (Int32.ofInt b) := by
        show Value.int ((sw_byt.getD i []).getD (Int32.ofInt (k : Nat)).toNatClampNeg 0) = _
        rw [oe_clamp ⟨by omega, by omega⟩, sw_at hi, Int.toNat_natCast, hbk]
      refine va_tb (v := .int (Int32.ofInt b)) hx hb (hS0.1.1 i hi).2.2.2 hS (oe_vpin ⟨by omega, by omega⟩ (by omega) (by rw [sw_ln hi]; omega)) hvv sd_lic_16 ?_
      refine lv_iload hx hb sd_lic_17 (lv_at hl 1 rfl) ?_
      refine lv_icmp_ne hx hb sd_lic_19 (tgt := 25) rfl (fun h => ?_) (fun h => ?_)
      · have hne : ¬ b = x := fun q => h ((sw_eq h0 h1 hbm).mpr q)
        refine lv_iinc (k := 0) (v := Int32.ofInt ((k + 1 : Nat) : Int)) hx hb sd_lic_25 hl rfl (by rw [← Int32.ofInt_add]; rfl) (by decide) rfl (fun ls hl => ?_)
        refine lv_goto hx hb sd_lic_28 (tgt := 7) rfl ?_
        refine ih (k + 1) ls (by rw [← List.drop_drop, hd]; rfl) (by omega) ?_ hl
        rw [← hq]
        unfold sw_ix
        rw [oe_ixf, if_neg hne]
      · have he : b = x := (sw_eq h0 h1 hbm).mp h
        refine lv_iload hx hb sd_lic_22 (lv_at hl 0 rfl) ?_
        refine W.iret hx hb hr (fun t ht hW => ⟨_, rfl, ?_, ht⟩) hS.2.2 sd_lic_24
        rw [← hq]
        unfold sw_ix
        rw [oe_ixf, if_pos he]
  refine lv_iload_n hx hb sd_lic_0 rfl (lv_at hl 1 rfl) ?_
  refine lv_i2b hx hb sd_lic_1 rfl ?_
  refine lv_istore hx hb sd_lic_2 hl (by decide) rfl (fun ls hl => ?_)
  refine lv_iload_n hx hb sd_lic_4 rfl (lv_at hl 3 rfl) ?_
  refine lv_istore hx hb sd_lic_5 hl (by decide) rfl (fun ls hl => ?_)
  exact loop (sw_l i) 0 ls rfl (Nat.zero_le _) rfl (lv_sub hl [0, 1, 2, 5] rfl)
theorem sd_lix_0 : decode prog_18_method_22_code 0 = .ok (.iload_n 1, 1) := by decide +kernel
theorem sd_lix_1 : decode prog_18_method_22_code 1 = .ok (.invokestatic 88, 3) := by decide +kernel
theorem sd_lix_4 : decode prog_18_method_22_code 4 = .ok (.ifCond .ne 5, 3) := by decide +kernel
theorem sd_lix_7 : decode prog_18_method_22_code 7 = .ok (.iconst (-1), 1) := by decide +kernel
theorem sd_lix_8 : decode prog_18_method_22_code 8 = .ok (.ireturn, 1) := by decide +kernel
theorem sd_lix_9 : decode prog_18_method_22_code 9 = .ok (.iload_n 2, 1) := by decide +kernel
theorem sd_lix_10 : decode prog_18_method_22_code 10 = .ok (.iconst 0, 1) := by decide +kernel
theorem sd_lix_11 : decode prog_18_method_22_code 11 = .ok (.invokestatic 92, 3) := by decide +kernel
theorem sd_lix_14 : decode prog_18_method_22_code 14 = .ok (.istore_n 2, 1) := by decide +kernel
theorem sd_lix_15 : decode prog_18_method_22_code 15 = .ok (.iload_n 3, 1) := by decide +kernel
theorem sd_lix_16 : decode prog_18_method_22_code 16 = .ok (.aload_n 0, 1) := by decide +kernel
theorem sd_lix_17 : decode prog_18_method_22_code 17 = .ok (.arraylength, 1) := by decide +kernel
theorem sd_lix_18 : decode prog_18_method_22_code 18 = .ok (.invokestatic 38, 3) := by decide +kernel
theorem sd_lix_21 : decode prog_18_method_22_code 21 = .ok (.istore_n 3, 1) := by decide +kernel
theorem sd_lix_22 : decode prog_18_method_22_code 22 = .ok (.iload_n 2, 1) := by decide +kernel
theorem sd_lix_23 : decode prog_18_method_22_code 23 = .ok (.iload_n 3, 1) := by decide +kernel
theorem sd_lix_24 : decode prog_18_method_22_code 24 = .ok (.if_icmp .lt 5, 3) := by decide +kernel
theorem sd_lix_29 : decode prog_18_method_22_code 29 = .ok (.aload_n 0, 1) := by decide +kernel
theorem sd_lix_30 : decode prog_18_method_22_code 30 = .ok (.iload_n 1, 1) := by decide +kernel
theorem sd_lix_31 : decode prog_18_method_22_code 31 = .ok (.iload_n 2, 1) := by decide +kernel
theorem sd_lix_32 : decode prog_18_method_22_code 32 = .ok (.iload_n 3, 1) := by decide +kernel
theorem sd_lix_33 : decode prog_18_method_22_code 33 = .ok (.invokestatic 95, 3) := by decide +kernel
theorem sd_lix_36 : decode prog_18_method_22_code 36 = .ok (.ireturn, 1) := by decide +kernel
set_option maxHeartbeats 4000000 in
theorem sk_lix (l : Launch) (zK zV : Nat → Nat) {i : Nat} (hi : i < 2) {x : Int} (h0 : 0 ≤ x) (h1 : x < 65536) : Met l sy_lix (.code sy_lix prog_18_method_22_code 4 (some .int) :: sw_W) (sw_rm 1) (va_Pc [.ref (zV i), .int (Int32.ofInt x), .int (Int32.ofInt 0), .int (Int32.ofInt ((sw_l i).length : Nat))] (sw_B zK zV)) (vp_Si (fun r => r = sw_ix x (sw_l i) 0)) 0 0 (fun _ => False) := by
  refine Met.ofW (cc := prog_18_method_22_code) (maxL := 4) (ret := (some .int)) (by decide) rfl ?_
  intro p e s m args below meth c s₁ B hml hv
  obtain ⟨rfl, hS0⟩ := hv
  have hx := B.exec
  have hb := B.bytes
  have hr := B.returns
  have hts := atoms_spec (ws := .code sy_lix prog_18_method_22_code 4 (some .int) :: sw_W) B.pre
  have hw : ∀ w ∈ sw_W, w.before ([.ref (zV i), .int (Int32.ofInt x), .int (Int32.ofInt 0), .int (Int32.ofInt ((sw_l i).length : Nat))] : List Value).toArray s = true := fun w h => hts w (List.mem_cons_of_mem _ h)
  have hown : s.vm.findClass "java/lang/StringLatin1" = some m.cls := findClass_of_methodNamed B.named
  have hlocks := B.notSynchronized
  have hS : va_S (fun _ => False) s.heap s.heap [] := va_S.rf
  have hl := lv_entry ([.ref (zV i), .int (Int32.ofInt x), .int (Int32.ofInt 0), .int (Int32.ofInt ((sw_l i).length : Nat))]) (n := 4) (Nat.le_of_ble_eq_true rfl)
  rw [lg_entry_eq]
  generalize (lg_sl ([.ref (zV i), .int (Int32.ofInt x), .int (Int32.ofInt 0), .int (Int32.ofInt ((sw_l i).length : Nat))]) ++ List.replicate (4 - (lg_sl ([.ref (zV i), .int (Int32.ofInt x), .int (Int32.ofInt 0), .int (Int32.ofInt ((sw_l i).length : Nat))])).length) Slot.unset).toArray = ls at hl ⊢
  have hl : lv_has ls 4 [(0, .ref (zV i)), (1, .int (Int32.ofInt x)), (2, .int (Int32.ofInt 0)), (3, .int (Int32.ofInt ((sw_l i).length : Nat)))] := hl
  have hlb := sw_lnb hi
  refine lv_iload_n hx hb sd_lix_0 rfl (lv_at hl 1 rfl) ?_
  refine sw_T (k := 0) (As := [.int (Int32.ofInt x)]) (rest := []) (sk_can l zK zV h0 h1) hx hb hml hown hw hS0 hl.1 (sw_m 1 rfl) (sw_m 38 rfl) (sw_m 39 rfl) (sw_m 11 rfl) sq_can (Nat.le_of_ble_eq_true rfl) (Nat.le_of_ble_eq_true rfl) sd_lix_1 rfl (Nat.le_of_ble_eq_true rfl) ⟨Nat.zero_le _, Nat.zero_le _⟩ (fun r hr0 => ?_)
  by_cases hc : x < 256
  · rw [if_pos hc] at hr0
    subst hr0
    refine lv_if_ne hx hb sd_lix_4 (tgt := 9) rfl (fun _ => ?_) (fun h => absurd h (by decide))
    refine lv_iload_n hx hb sd_lix_9 rfl (lv_at hl 2 rfl) ?_
    refine lv_iconst (v := Int32.ofInt 0) hx hb sd_lix_10 (by decide) ?_
    refine va_mmax hx hb (hml.trans hl.1.symm) hown (hw _ (sw_m 50 rfl)) (hw _ (sw_m 51 rfl)) (hw _ (sw_m 4 rfl)) (hw _ (sw_m 52 rfl)) (Nat.le_of_ble_eq_true rfl) (Nat.le_of_ble_eq_true rfl) (Nat.zero_le _) (Nat.zero_le _) sd_lix_11 ?_
    rw [if_neg (by decide)]
    refine lv_istore_n hx hb sd_lix_14 rfl hl (by decide) rfl (fun ls hl => ?_)
    refine lv_iload_n hx hb sd_lix_15 rfl (lv_at hl 3 rfl) ?_
    refine lv_aload_n hx hb sd_lix_16 rfl (lv_at hl 1 rfl) ?_
    refine va_tlen (v := Int32.ofInt ((sw_l i).length : Nat)) hx hb (hS0.1.1 i hi).2.2.2 hS (by rw [sw_ln hi]; exact oe_nI) sd_lix_17 ?_
    refine va_mmin hx hb (hml.trans hl.1.symm) hown (hw _ (sw_m 53 rfl)) (hw _ (sw_m 54 rfl)) (hw _ (sw_m 4 rfl)) (hw _ (sw_m 55 rfl)) (Nat.le_of_ble_eq_true rfl) (Nat.le_of_ble_eq_true rfl) (Nat.zero_le _) (Nat.zero_le _) sd_lix_18 ?_
    rw [ite_self]
    refine lv_istore_n hx hb sd_lix_21 rfl hl (by decide) rfl (fun ls hl => ?_)
    refine lv_iload_n hx hb sd_lix_22 rfl (lv_at hl 1 rfl) ?_
    refine lv_iload_n hx hb sd_lix_23 rfl (lv_at hl 0 rfl) ?_
    have hpos := sw_lnp hi
    refine lv_icmp_lt hx hb sd_lix_24 (tgt := 29) rfl (fun _ => ?_) (fun h => absurd ((oe_lt oe_rg0 ⟨by omega, by omega⟩).mpr (by omega)) h)
    refine lv_aload_n hx hb sd_lix_29 rfl (lv_at hl 2 rfl) ?_
    refine lv_iload_n hx hb sd_lix_30 rfl (lv_at hl 3 rfl) ?_
    refine lv_iload_n hx hb sd_lix_31 rfl (lv_at hl 1 rfl) ?_
    refine lv_iload_n hx hb sd_lix_32 rfl (lv_at hl 0 rfl) ?_
    refine sw_T (k := 0) (As := [.ref (zV i), .int (Int32.ofInt x), .int (Int32.ofInt 0), .int (Int32.ofInt ((sw_l i).length : Nat))]) (rest := []) (sk_lic l zK zV hi h0 hc) hx hb hml hown hw hS0 hl.1 (sw_m 1 rfl) (sw_m 40 rfl) (sw_m 41 rfl) (sw_m 12 rfl) sq_lic (Nat.le_of_ble_eq_true rfl) (Nat.le_of_ble_eq_true rfl) sd_lix_33 rfl (Nat.le_of_ble_eq_true rfl) ⟨Nat.zero_le _, Nat.zero_le _⟩ (fun r hr1 => ?_)
    exact W.iret hx hb hr (fun t ht hW => ⟨r, rfl, hr1, ht⟩) hS.2.2 sd_lix_36
  · rw [if_neg hc] at hr0
    subst hr0
    refine lv_if_ne hx hb sd_lix_4 (tgt := 9) rfl (fun h => absurd rfl h) (fun _ => ?_)
    refine lv_iconst (v := -1) hx hb sd_lix_7 (by decide) ?_
    exact W.iret hx hb hr (fun t ht hW => ⟨-1, rfl, (sw_ix_out hc _ _ (fun b hb => sw_small b (sw_in hi b hb))).symm, ht⟩) hS.2.2 sd_lix_8
theorem sd_ix2_0 : decode prog_17_method_80_code 0 = .ok (.aload_n 0, 1) := by decide +kernel
theorem sd_ix2_1 : decode prog_17_method_80_code 1 = .ok (.invokevirtual 492, 3) := by decide +kernel
theorem sd_ix2_4 : decode prog_17_method_80_code 4 = .ok (.ifCond .eq 19, 3) := by decide +kernel
theorem sd_ix2_7 : decode prog_17_method_80_code 7 = .ok (.aload_n 0, 1) := by decide +kernel
theorem sd_ix2_8 : decode prog_17_method_80_code 8 = .ok (.getfield 9, 3) := by decide +kernel
theorem sd_ix2_11 : decode prog_17_method_80_code 11 = .ok (.iload_n 1, 1) := by decide +kernel
theorem sd_ix2_12 : decode prog_17_method_80_code 12 = .ok (.iload_n 2, 1) := by decide +kernel
theorem sd_ix2_13 : decode prog_17_method_80_code 13 = .ok (.aload_n 0, 1) := by decide +kernel
theorem sd_ix2_14 : decode prog_17_method_80_code 14 = .ok (.invokevirtual 505, 3) := by decide +kernel
theorem sd_ix2_17 : decode prog_17_method_80_code 17 = .ok (.invokestatic 637, 3) := by decide +kernel
theorem sd_ix2_20 : decode prog_17_method_80_code 20 = .ok (.goto 16, 3) := by decide +kernel
theorem sd_ix2_36 : decode prog_17_method_80_code 36 = .ok (.ireturn, 1) := by decide +kernel
set_option maxHeartbeats 4000000 in
theorem sk_ix2 (l : Launch) (zK zV : Nat → Nat) {i : Nat} (hi : i < 2) {x : Int} (h0 : 0 ≤ x) (h1 : x < 65536) : Met l sy_ix2 (.code sy_ix2 prog_17_method_80_code 3 (some .int) :: sw_W) (sw_rm 2) (va_Pc [.ref (zK i), .int (Int32.ofInt x), .int (Int32.ofInt 0)] (sw_B zK zV)) (vp_Si (fun r => r = sw_ix x (sw_l i) 0)) 0 0 (fun _ => False) := by
  refine Met.ofW (cc := prog_17_method_80_code) (maxL := 3) (ret := (some .int)) (by decide) rfl ?_
  intro p e s m args below meth c s₁ B hml hv
  obtain ⟨rfl, hS0⟩ := hv
  have hx := B.exec
  have hb := B.bytes
  have hr := B.returns
  have hts := atoms_spec (ws := .code sy_ix2 prog_17_method_80_code 3 (some .int) :: sw_W) B.pre
  have hw : ∀ w ∈ sw_W, w.before ([.ref (zK i), .int (Int32.ofInt x), .int (Int32.ofInt 0)] : List Value).toArray s = true := fun w h => hts w (List.mem_cons_of_mem _ h)
  have hown : s.vm.findClass "java/lang/String" = some m.cls := findClass_of_methodNamed B.named
  have hlocks := B.notSynchronized
  have hS : va_S (fun _ => False) s.heap s.heap [] := va_S.rf
  have hl := lv_entry ([.ref (zK i), .int (Int32.ofInt x), .int (Int32.ofInt 0)]) (n := 3) (Nat.le_of_ble_eq_true rfl)
  rw [lg_entry_eq]
  generalize (lg_sl ([.ref (zK i), .int (Int32.ofInt x), .int (Int32.ofInt 0)]) ++ List.replicate (3 - (lg_sl ([.ref (zK i), .int (Int32.ofInt x), .int (Int32.ofInt 0)])).length) Slot.unset).toArray = ls at hl ⊢
  have hl : lv_has ls 3 [(0, .ref (zK i)), (1, .int (Int32.ofInt x)), (2, .int (Int32.ofInt 0))] := hl
  refine lv_aload_n hx hb sd_ix2_0 rfl (lv_at hl 0 rfl) ?_
  refine sw_V (k := 0) (As := []) (rest := []) hi (sk_isl l zK zV hi) hx hb hml hown hw hS0 hl.1 rfl (sw_m 24 rfl) (sw_m 25 rfl) (sw_m 26 rfl) (sw_m 7 rfl) sp_isl (Nat.le_of_ble_eq_true rfl) (Nat.le_of_ble_eq_true rfl) sd_ix2_1 rfl (Nat.le_of_ble_eq_true rfl) ⟨Nat.zero_le _, Nat.zero_le _⟩ (fun r hr0 => ?_)
  subst hr0
  refine lv_if_eq hx hb sd_ix2_4 (tgt := 23) rfl (fun h => absurd h (by decide)) (fun _ => ?_)
  refine lv_aload_n hx hb sd_ix2_7 rfl (lv_at hl 0 rfl) ?_
  refine vk_getf hx hb (hS0.1.1 i hi).2.2.1 hS hown (hw (.fieldLink "java/lang/String" 9 "java/lang/String" "value" "[B") (sw_m 58 rfl)) (fun _ h => h) sd_ix2_8 ?_
  refine lv_iload_n hx hb sd_ix2_11 rfl (lv_at hl 1 rfl) ?_
  refine lv_iload_n hx hb sd_ix2_12 rfl (lv_at hl 2 rfl) ?_
  refine lv_aload_n hx hb sd_ix2_13 rfl (lv_at hl 0 rfl) ?_
  refine sw_V (k := 1) (As := []) (rest := [.int (Int32.ofInt 0), .int (Int32.ofInt x), .ref (zV i)]) hi (sk_len l zK zV hi) hx hb hml hown hw hS0 hl.1 rfl (sw_m 27 rfl) (sw_m 28 rfl) (sw_m 29 rfl) (sw_m 8 rfl) sp_len (Nat.le_of_ble_eq_true rfl) (Nat.le_of_ble_eq_true rfl) sd_ix2_14 rfl (Nat.le_of_ble_eq_true rfl) ⟨Nat.zero_le _, Nat.zero_le _⟩ (fun r hr0 => ?_)
  subst hr0
  refine sw_T (k := 1) (As := [.ref (zV i), .int (Int32.ofInt x), .int (Int32.ofInt 0), .int (Int32.ofInt ((sw_l i).length : Nat))]) (rest := []) (sk_lix l zK zV hi h0 h1) hx hb hml hown hw hS0 hl.1 (sw_m 1 rfl) (sw_m 36 rfl) (sw_m 37 rfl) (sw_m 10 rfl) sq_lix (Nat.le_of_ble_eq_true rfl) (Nat.le_of_ble_eq_true rfl) sd_ix2_17 rfl (Nat.le_of_ble_eq_true rfl) ⟨Nat.zero_le _, Nat.zero_le _⟩ (fun r hr1 => ?_)
  refine lv_goto hx hb sd_ix2_20 (tgt := 36) rfl ?_
  exact W.iret hx hb hr (fun t ht hW => ⟨r, rfl, hr1, ht⟩) hS.2.2 sd_ix2_36
theorem sd_ix1_0 : decode prog_17_method_79_code 0 = .ok (.aload_n 0, 1) := by decide +kernel
theorem sd_ix1_1 : decode prog_17_method_79_code 1 = .ok (.iload_n 1, 1) := by decide +kernel
theorem sd_ix1_2 : decode prog_17_method_79_code 2 = .ok (.iconst 0, 1) := by decide +kernel
theorem sd_ix1_3 : decode prog_17_method_79_code 3 = .ok (.invokevirtual 633, 3) := by decide +kernel
theorem sd_ix1_6 : decode prog_17_method_79_code 6 = .ok (.ireturn, 1) := by decide +kernel
set_option maxHeartbeats 4000000 in
theorem sk_ix1 (l : Launch) (zK zV : Nat → Nat) {i : Nat} (hi : i < 2) {x : Int} (h0 : 0 ≤ x) (h1 : x < 65536) : Met l sy_ix1 (.code sy_ix1 prog_17_method_79_code 2 (some .int) :: sw_W) (sw_rm 3) (va_Pc [.ref (zK i), .int (Int32.ofInt x)] (sw_B zK zV)) (vp_Si (fun r => r = sw_ix x (sw_l i) 0)) 0 0 (fun _ => False) := by
  refine Met.ofW (cc := prog_17_method_79_code) (maxL := 2) (ret := (some .int)) (by decide) rfl ?_
  intro p e s m args below meth c s₁ B hml hv
  obtain ⟨rfl, hS0⟩ := hv
  have hx := B.exec
  have hb := B.bytes
  have hr := B.returns
  have hts := atoms_spec (ws := .code sy_ix1 prog_17_method_79_code 2 (some .int) :: sw_W) B.pre
  have hw : ∀ w ∈ sw_W, w.before ([.ref (zK i), .int (Int32.ofInt x)] : List Value).toArray s = true := fun w h => hts w (List.mem_cons_of_mem _ h)
  have hown : s.vm.findClass "java/lang/String" = some m.cls := findClass_of_methodNamed B.named
  have hlocks := B.notSynchronized
  have hS : va_S (fun _ => False) s.heap s.heap [] := va_S.rf
  have hl := lv_entry ([.ref (zK i), .int (Int32.ofInt x)]) (n := 2) (Nat.le_of_ble_eq_true rfl)
  rw [lg_entry_eq]
  generalize (lg_sl ([.ref (zK i), .int (Int32.ofInt x)]) ++ List.replicate (2 - (lg_sl ([.ref (zK i), .int (Int32.ofInt x)])).length) Slot.unset).toArray = ls at hl ⊢
  have hl : lv_has ls 2 [(0, .ref (zK i)), (1, .int (Int32.ofInt x))] := hl
  refine lv_aload_n hx hb sd_ix1_0 rfl (lv_at hl 0 rfl) ?_
  refine lv_iload_n hx hb sd_ix1_1 rfl (lv_at hl 1 rfl) ?_
  refine lv_iconst (v := Int32.ofInt 0) hx hb sd_ix1_2 (by decide) ?_
  refine sw_V (k := 2) (As := [.int (Int32.ofInt x), .int (Int32.ofInt 0)]) (rest := []) hi (sk_ix2 l zK zV hi h0 h1) hx hb hml hown hw hS0 hl.1 rfl (sw_m 21 rfl) (sw_m 22 rfl) (sw_m 23 rfl) (sw_m 6 rfl) sp_ix2 (Nat.le_of_ble_eq_true rfl) (Nat.le_of_ble_eq_true rfl) sd_ix1_3 rfl (Nat.le_of_ble_eq_true rfl) ⟨Nat.zero_le _, Nat.zero_le _⟩ (fun r hr1 => ?_)
  exact W.iret hx hb hr (fun t ht hW => ⟨r, rfl, hr1, ht⟩) hS.2.2 sd_ix1_6
theorem sd_pch_0 : decode prog_23_method_11_code 0 = .ok (.iload_n 0, 1) := by decide +kernel
theorem sd_pch_1 : decode prog_23_method_11_code 1 = .ok (.ifCond .lt 8, 3) := by decide +kernel
theorem sd_pch_4 : decode prog_23_method_11_code 4 = .ok (.iload_n 0, 1) := by decide +kernel
theorem sd_pch_5 : decode prog_23_method_11_code 5 = .ok (.iload_n 1, 1) := by decide +kernel
theorem sd_pch_6 : decode prog_23_method_11_code 6 = .ok (.if_icmp .lt 10, 3) := by decide +kernel
theorem sd_pch_16 : decode prog_23_method_11_code 16 = .ok (.iload_n 0, 1) := by decide +kernel
theorem sd_pch_17 : decode prog_23_method_11_code 17 = .ok (.ireturn, 1) := by decide +kernel
set_option maxHeartbeats 4000000 in
theorem sk_pchn (l : Launch) (zK zV : Nat → Nat) {k n : Nat} (hk : k < n) (hn : n < 100) : Met l sy_pch (.code sy_pch prog_23_method_11_code 3 (some .int) :: sw_W) (sw_rm 0) (va_Pc [.int (Int32.ofInt (k : Nat)), .int (Int32.ofInt (n : Nat)), .null] (sw_B zK zV)) (vp_Si (fun _ => True)) 0 0 (fun _ => False) := by
  refine Met.ofW (cc := prog_23_method_11_code) (maxL := 3) (ret := (some .int)) (by decide) rfl ?_
  intro p e s m args below meth c s₁ B hml hv
  obtain ⟨rfl, hS0⟩ := hv
  have hx := B.exec
  have hb := B.bytes
  have hr := B.returns
  have hts := atoms_spec (ws := .code sy_pch prog_23_method_11_code 3 (some .int) :: sw_W) B.pre
  have hw : ∀ w ∈ sw_W, w.before ([.int (Int32.ofInt (k : Nat)), .int (Int32.ofInt (n : Nat)), .null] : List Value).toArray s = true := fun w h => hts w (List.mem_cons_of_mem _ h)
  have hown : s.vm.findClass "jdk/internal/util/Preconditions" = some m.cls := findClass_of_methodNamed B.named
  have hlocks := B.notSynchronized
  have hS : va_S (fun _ => False) s.heap s.heap [] := va_S.rf
  have hl := lv_entry ([.int (Int32.ofInt (k : Nat)), .int (Int32.ofInt (n : Nat)), .null]) (n := 3) (Nat.le_of_ble_eq_true rfl)
  rw [lg_entry_eq]
  generalize (lg_sl ([.int (Int32.ofInt (k : Nat)), .int (Int32.ofInt (n : Nat)), .null]) ++ List.replicate (3 - (lg_sl ([.int (Int32.ofInt (k : Nat)), .int (Int32.ofInt (n : Nat)), .null])).length) Slot.unset).toArray = ls at hl ⊢
  have hl : lv_has ls 3 [(0, .int (Int32.ofInt (k : Nat))), (1, .int (Int32.ofInt (n : Nat))), (2, .null)] := hl
  have hrk : oe_rg (k : Int) := ⟨by omega, by omega⟩
  have hrn : oe_rg (n : Int) := ⟨by omega, by omega⟩
  refine lv_iload_n hx hb sd_pch_0 rfl (lv_at hl 0 rfl) ?_
  refine lv_if_lt hx hb sd_pch_1 (tgt := 9) rfl (fun h => absurd ((oe_lt hrk oe_rg0).mp h) (by omega)) (fun _ => ?_)
  refine lv_iload_n hx hb sd_pch_4 rfl (lv_at hl 0 rfl) ?_
  refine lv_iload_n hx hb sd_pch_5 rfl (lv_at hl 1 rfl) ?_
  refine lv_icmp_lt hx hb sd_pch_6 (tgt := 16) rfl (fun _ => ?_) (fun h => absurd ((oe_lt hrk hrn).mpr (by omega)) h)
  refine lv_iload_n hx hb sd_pch_16 rfl (lv_at hl 0 rfl) ?_
  exact W.iret hx hb hr (fun t ht hW => ⟨_, rfl, trivial, ht⟩) hS.2.2 sd_pch_17
set_option maxHeartbeats 4000000 in
theorem sk_pchr (l : Launch) (zK zV : Nat → Nat) {t : Nat} {k n : Nat} (hk : k < n) (hn : n < 100) : Met l sy_pch (.code sy_pch prog_23_method_11_code 3 (some .int) :: sw_W) (sw_rm 0) (va_Pc [.int (Int32.ofInt (k : Nat)), .int (Int32.ofInt (n : Nat)), .ref t] (sw_B zK zV)) (vp_Si (fun _ => True)) 0 0 (fun _ => False) := by
  refine Met.ofW (cc := prog_23_method_11_code) (maxL := 3) (ret := (some .int)) (by decide) rfl ?_
  intro p e s m args below meth c s₁ B hml hv
  obtain ⟨rfl, hS0⟩ := hv
  have hx := B.exec
  have hb := B.bytes
  have hr := B.returns
  have hts := atoms_spec (ws := .code sy_pch prog_23_method_11_code 3 (some .int) :: sw_W) B.pre
  have hw : ∀ w ∈ sw_W, w.before ([.int (Int32.ofInt (k : Nat)), .int (Int32.ofInt (n : Nat)), .ref t] : List Value).toArray s = true := fun w h => hts w (List.mem_cons_of_mem _ h)
  have hown : s.vm.findClass "jdk/internal/util/Preconditions" = some m.cls := findClass_of_methodNamed B.named
  have hlocks := B.notSynchronized
  have hS : va_S (fun _ => False) s.heap s.heap [] := va_S.rf
  have hl := lv_entry ([.int (Int32.ofInt (k : Nat)), .int (Int32.ofInt (n : Nat)), .ref t]) (n := 3) (Nat.le_of_ble_eq_true rfl)
  rw [lg_entry_eq]
  generalize (lg_sl ([.int (Int32.ofInt (k : Nat)), .int (Int32.ofInt (n : Nat)), .ref t]) ++ List.replicate (3 - (lg_sl ([.int (Int32.ofInt (k : Nat)), .int (Int32.ofInt (n : Nat)), .ref t])).length) Slot.unset).toArray = ls at hl ⊢
  have hl : lv_has ls 3 [(0, .int (Int32.ofInt (k : Nat))), (1, .int (Int32.ofInt (n : Nat))), (2, .ref t)] := hl
  have hrk : oe_rg (k : Int) := ⟨by omega, by omega⟩
  have hrn : oe_rg (n : Int) := ⟨by omega, by omega⟩
  refine lv_iload_n hx hb sd_pch_0 rfl (lv_at hl 0 rfl) ?_
  refine lv_if_lt hx hb sd_pch_1 (tgt := 9) rfl (fun h => absurd ((oe_lt hrk oe_rg0).mp h) (by omega)) (fun _ => ?_)
  refine lv_iload_n hx hb sd_pch_4 rfl (lv_at hl 0 rfl) ?_
  refine lv_iload_n hx hb sd_pch_5 rfl (lv_at hl 1 rfl) ?_
  refine lv_icmp_lt hx hb sd_pch_6 (tgt := 16) rfl (fun _ => ?_) (fun h => absurd ((oe_lt hrk hrn).mpr (by omega)) h)
  refine lv_iload_n hx hb sd_pch_16 rfl (lv_at hl 0 rfl) ?_
  exact W.iret hx hb hr (fun t ht hW => ⟨_, rfl, trivial, ht⟩) hS.2.2 sd_pch_17
theorem sd_chk_0 : decode prog_17_method_155_code 0 = .ok (.iload_n 0, 1) := by decide +kernel
theorem sd_chk_1 : decode prog_17_method_155_code 1 = .ok (.iload_n 1, 1) := by decide +kernel
theorem sd_chk_2 : decode prog_17_method_155_code 2 = .ok (.getstatic 1053, 3) := by decide +kernel
theorem sd_chk_5 : decode prog_17_method_155_code 5 = .ok (.invokestatic 1059, 3) := by decide +kernel
theorem sd_chk_8 : decode prog_17_method_155_code 8 = .ok (.pop, 1) := by decide +kernel
theorem sd_chk_9 : decode prog_17_method_155_code 9 = .ok (.return_, 1) := by decide +kernel
set_option maxHeartbeats 4000000 in
theorem sk_chk (l : Launch) (zK zV : Nat → Nat) {k n : Nat} (hk : k < n) (hn : n < 100) : Met l sy_chk (.code sy_chk prog_17_method_155_code 2 none :: sw_W) (sw_rm 1) (va_Pc [.int (Int32.ofInt (k : Nat)), .int (Int32.ofInt (n : Nat))] (sw_B zK zV)) (va_Sv (fun _ => True)) 0 0 (fun _ => False) := by
  refine Met.ofW (cc := prog_17_method_155_code) (maxL := 2) (ret := none) (by decide) rfl ?_
  intro p e s m args below meth c s₁ B hml hv
  obtain ⟨rfl, hS0⟩ := hv
  have hx := B.exec
  have hb := B.bytes
  have hr := B.returns
  have hts := atoms_spec (ws := .code sy_chk prog_17_method_155_code 2 none :: sw_W) B.pre
  have hw : ∀ w ∈ sw_W, w.before ([.int (Int32.ofInt (k : Nat)), .int (Int32.ofInt (n : Nat))] : List Value).toArray s = true := fun w h => hts w (List.mem_cons_of_mem _ h)
  have hown : s.vm.findClass "java/lang/String" = some m.cls := findClass_of_methodNamed B.named
  have hlocks := B.notSynchronized
  have hS : va_S (fun _ => False) s.heap s.heap [] := va_S.rf
  have hl := lv_entry ([.int (Int32.ofInt (k : Nat)), .int (Int32.ofInt (n : Nat))]) (n := 2) (Nat.le_of_ble_eq_true rfl)
  rw [lg_entry_eq]
  generalize (lg_sl ([.int (Int32.ofInt (k : Nat)), .int (Int32.ofInt (n : Nat))]) ++ List.replicate (2 - (lg_sl ([.int (Int32.ofInt (k : Nat)), .int (Int32.ofInt (n : Nat))])).length) Slot.unset).toArray = ls at hl ⊢
  have hl : lv_has ls 2 [(0, .int (Int32.ofInt (k : Nat))), (1, .int (Int32.ofInt (n : Nat)))] := hl
  refine lv_iload_n hx hb sd_chk_0 rfl (lv_at hl 0 rfl) ?_
  refine lv_iload_n hx hb sd_chk_1 rfl (lv_at hl 1 rfl) ?_
  rcases hS0.2.2 with hz | ⟨t, hz⟩
  · refine va_gets (v := .null) hx hb hz hS hown (hw (.fieldLink "java/lang/String" 1053 "jdk/internal/util/Preconditions" "SIOOBE_FORMATTER" "Ljava/util/function/BiFunction;") (sw_m 59 rfl)) (fun _ h => h) sd_chk_2 ?_
    refine sw_T (k := 0) (As := [.int (Int32.ofInt (k : Nat)), .int (Int32.ofInt (n : Nat)), .null]) (rest := []) (sk_pchn l zK zV hk hn) hx hb hml hown hw hS0 hl.1 (sw_m 2 rfl) (sw_m 46 rfl) (sw_m 47 rfl) (sw_m 16 rfl) sq_pch (Nat.le_of_ble_eq_true rfl) (Nat.le_of_ble_eq_true rfl) sd_chk_5 rfl (Nat.le_of_ble_eq_true rfl) ⟨Nat.zero_le _, Nat.zero_le _⟩ (fun r hr1 => ?_)
    refine lv_pop hx hb sd_chk_8 rfl ?_
    exact W.vret hx hb hr (fun t ht hW => ⟨rfl, trivial, ht⟩) hS.2.2 sd_chk_9
  · refine va_gets (v := .ref t) hx hb hz hS hown (hw (.fieldLink "java/lang/String" 1053 "jdk/internal/util/Preconditions" "SIOOBE_FORMATTER" "Ljava/util/function/BiFunction;") (sw_m 59 rfl)) (fun _ h => h) sd_chk_2 ?_
    refine sw_T (k := 0) (As := [.int (Int32.ofInt (k : Nat)), .int (Int32.ofInt (n : Nat)), .ref t]) (rest := []) (sk_pchr l zK zV hk hn) hx hb hml hown hw hS0 hl.1 (sw_m 2 rfl) (sw_m 46 rfl) (sw_m 47 rfl) (sw_m 16 rfl) sq_pch (Nat.le_of_ble_eq_true rfl) (Nat.le_of_ble_eq_true rfl) sd_chk_5 rfl (Nat.le_of_ble_eq_true rfl) ⟨Nat.zero_le _, Nat.zero_le _⟩ (fun r hr1 => ?_)
    refine lv_pop hx hb sd_chk_8 rfl ?_
    exact W.vret hx hb hr (fun t ht hW => ⟨rfl, trivial, ht⟩) hS.2.2 sd_chk_9
theorem sd_lch_0 : decode prog_18_method_2_code 0 = .ok (.iload_n 1, 1) := by decide +kernel
theorem sd_lch_1 : decode prog_18_method_2_code 1 = .ok (.aload_n 0, 1) := by decide +kernel
theorem sd_lch_2 : decode prog_18_method_2_code 2 = .ok (.arraylength, 1) := by decide +kernel
theorem sd_lch_3 : decode prog_18_method_2_code 3 = .ok (.invokestatic 9, 3) := by decide +kernel
theorem sd_lch_6 : decode prog_18_method_2_code 6 = .ok (.aload_n 0, 1) := by decide +kernel
theorem sd_lch_7 : decode prog_18_method_2_code 7 = .ok (.iload_n 1, 1) := by decide +kernel
theorem sd_lch_8 : decode prog_18_method_2_code 8 = .ok (.baload, 1) := by decide +kernel
theorem sd_lch_9 : decode prog_18_method_2_code 9 = .ok (.sipush 255, 3) := by decide +kernel
theorem sd_lch_12 : decode prog_18_method_2_code 12 = .ok (.iand, 1) := by decide +kernel
theorem sd_lch_13 : decode prog_18_method_2_code 13 = .ok (.i2c, 1) := by decide +kernel
theorem sd_lch_14 : decode prog_18_method_2_code 14 = .ok (.ireturn, 1) := by decide +kernel
set_option maxHeartbeats 4000000 in
theorem sk_lch (l : Launch) (zK zV : Nat → Nat) {i : Nat} (hi : i < 2) {k : Nat} (hk : k < (sw_l i).length) : Met l sy_lch (.code sy_lch prog_18_method_2_code 2 (some .char) :: sw_W) (sw_rm 2) (va_Pc [.ref (zV i), .int (Int32.ofInt (k : Nat))] (sw_B zK zV)) (vp_Si (fun r => r = Int32.ofInt ((sw_l i).getD k 0))) 0 0 (fun _ => False) := by
  refine Met.ofW (cc := prog_18_method_2_code) (maxL := 2) (ret := (some .char)) (by decide) rfl ?_
  intro p e s m args below meth c s₁ B hml hv
  obtain ⟨rfl, hS0⟩ := hv
  have hx := B.exec
  have hb := B.bytes
  have hr := B.returns
  have hts := atoms_spec (ws := .code sy_lch prog_18_method_2_code 2 (some .char) :: sw_W) B.pre
  have hw : ∀ w ∈ sw_W, w.before ([.ref (zV i), .int (Int32.ofInt (k : Nat))] : List Value).toArray s = true := fun w h => hts w (List.mem_cons_of_mem _ h)
  have hown : s.vm.findClass "java/lang/StringLatin1" = some m.cls := findClass_of_methodNamed B.named
  have hlocks := B.notSynchronized
  have hS : va_S (fun _ => False) s.heap s.heap [] := va_S.rf
  have hl := lv_entry ([.ref (zV i), .int (Int32.ofInt (k : Nat))]) (n := 2) (Nat.le_of_ble_eq_true rfl)
  rw [lg_entry_eq]
  generalize (lg_sl ([.ref (zV i), .int (Int32.ofInt (k : Nat))]) ++ List.replicate (2 - (lg_sl ([.ref (zV i), .int (Int32.ofInt (k : Nat))])).length) Slot.unset).toArray = ls at hl ⊢
  have hl : lv_has ls 2 [(0, .ref (zV i)), (1, .int (Int32.ofInt (k : Nat)))] := hl
  have hlb := sw_lnb hi
  refine lv_iload_n hx hb sd_lch_0 rfl (lv_at hl 1 rfl) ?_
  refine lv_aload_n hx hb sd_lch_1 rfl (lv_at hl 0 rfl) ?_
  refine va_tlen (v := Int32.ofInt ((sw_l i).length : Nat)) hx hb (hS0.1.1 i hi).2.2.2 hS (by rw [sw_ln hi]; exact oe_nI) sd_lch_2 ?_
  refine sw_Tv (k := 1) (As := [.int (Int32.ofInt (k : Nat)), .int (Int32.ofInt ((sw_l i).length : Nat))]) (rest := []) (sk_chk l zK zV hk (by omega)) hx hb hml hown hw hS0 hl.1 (sw_m 0 rfl) (sw_m 44 rfl) (sw_m 45 rfl) (sw_m 15 rfl) sq_chk (Nat.le_of_ble_eq_true rfl) (Nat.le_of_ble_eq_true rfl) sd_lch_3 rfl (Nat.le_of_ble_eq_true rfl) ⟨Nat.zero_le _, Nat.zero_le _⟩ (fun _ => ?_)
  refine lv_aload_n hx hb sd_lch_6 rfl (lv_at hl 0 rfl) ?_
  refine lv_iload_n hx hb sd_lch_7 rfl (lv_at hl 1 rfl) ?_
  have hbm : (sw_l i).getD k 0 ∈ oe_cdl ++ oe_sgl := by
    refine sw_in hi _ ?_
    rw [List.getD_eq_getElem?_getD, List.getElem?_eq_getElem hk]
    exact List.getElem_mem hk
  have hvv : (fun j => Value.int ((sw_byt.getD i []).getD j 0)) (Int32.ofInt (k : Nat)).toNatClampNeg = Value.int (Int32.ofInt ((sw_l i).getD k 0)) := by
    show Value.int ((sw_byt.getD i []).getD (Int32.ofInt (k : Nat)).toNatClampNeg 0) = _
    rw [oe_clamp ⟨by omega, by omega⟩, sw_at hi, Int.toNat_natCast]
  refine va_tb (v := .int (Int32.ofInt ((sw_l i).getD k 0))) hx hb (hS0.1.1 i hi).2.2.2 hS (oe_vpin ⟨by omega, by omega⟩ (by omega) (by rw [sw_ln hi]; omega)) hvv sd_lch_8 ?_
  refine lv_sipush (v := 255) hx hb sd_lch_9 (by decide) ?_
  refine lv_iand hx hb sd_lch_12 ?_
  refine lv_i2c hx hb sd_lch_13 (sw_ch _ hbm).1 ?_
  exact W.zret (ty := .char) hx hb hr (sw_ch _ hbm).2 (fun t ht hW => ⟨_, rfl, rfl, ht⟩) hS.2.2 sd_lch_14
theorem sd_cha_0 : decode prog_17_method_56_code 0 = .ok (.aload_n 0, 1) := by decide +kernel
theorem sd_cha_1 : decode prog_17_method_56_code 1 = .ok (.invokevirtual 492, 3) := by decide +kernel
theorem sd_cha_4 : decode prog_17_method_56_code 4 = .ok (.ifCond .eq 12, 3) := by decide +kernel
theorem sd_cha_7 : decode prog_17_method_56_code 7 = .ok (.aload_n 0, 1) := by decide +kernel
theorem sd_cha_8 : decode prog_17_method_56_code 8 = .ok (.getfield 9, 3) := by decide +kernel
theorem sd_cha_11 : decode prog_17_method_56_code 11 = .ok (.iload_n 1, 1) := by decide +kernel
theorem sd_cha_12 : decode prog_17_method_56_code 12 = .ok (.invokestatic 495, 3) := by decide +kernel
theorem sd_cha_15 : decode prog_17_method_56_code 15 = .ok (.ireturn, 1) := by decide +kernel
set_option maxHeartbeats 4000000 in
theorem sk_cha (l : Launch) (zK zV : Nat → Nat) {i : Nat} (hi : i < 2) {k : Nat} (hk : k < (sw_l i).length) : Met l sy_cha (.code sy_cha prog_17_method_56_code 2 (some .char) :: sw_W) (sw_rm 3) (va_Pc [.ref (zK i), .int (Int32.ofInt (k : Nat))] (sw_B zK zV)) (vp_Si (fun r => r = Int32.ofInt ((sw_l i).getD k 0))) 0 0 (fun _ => False) := by
  refine Met.ofW (cc := prog_17_method_56_code) (maxL := 2) (ret := (some .char)) (by decide) rfl ?_
  intro p e s m args below meth c s₁ B hml hv
  obtain ⟨rfl, hS0⟩ := hv
  have hx := B.exec
  have hb := B.bytes
  have hr := B.returns
  have hts := atoms_spec (ws := .code sy_cha prog_17_method_56_code 2 (some .char) :: sw_W) B.pre
  have hw : ∀ w ∈ sw_W, w.before ([.ref (zK i), .int (Int32.ofInt (k : Nat))] : List Value).toArray s = true := fun w h => hts w (List.mem_cons_of_mem _ h)
  have hown : s.vm.findClass "java/lang/String" = some m.cls := findClass_of_methodNamed B.named
  have hlocks := B.notSynchronized
  have hS : va_S (fun _ => False) s.heap s.heap [] := va_S.rf
  have hl := lv_entry ([.ref (zK i), .int (Int32.ofInt (k : Nat))]) (n := 2) (Nat.le_of_ble_eq_true rfl)
  rw [lg_entry_eq]
  generalize (lg_sl ([.ref (zK i), .int (Int32.ofInt (k : Nat))]) ++ List.replicate (2 - (lg_sl ([.ref (zK i), .int (Int32.ofInt (k : Nat))])).length) Slot.unset).toArray = ls at hl ⊢
  have hl : lv_has ls 2 [(0, .ref (zK i)), (1, .int (Int32.ofInt (k : Nat)))] := hl
  refine lv_aload_n hx hb sd_cha_0 rfl (lv_at hl 0 rfl) ?_
  refine sw_V (k := 0) (As := []) (rest := []) hi (sk_isl l zK zV hi) hx hb hml hown hw hS0 hl.1 rfl (sw_m 24 rfl) (sw_m 25 rfl) (sw_m 26 rfl) (sw_m 7 rfl) sp_isl (Nat.le_of_ble_eq_true rfl) (Nat.le_of_ble_eq_true rfl) sd_cha_1 rfl (Nat.le_of_ble_eq_true rfl) ⟨Nat.zero_le _, Nat.zero_le _⟩ (fun r hr0 => ?_)
  subst hr0
  refine lv_if_eq hx hb sd_cha_4 (tgt := 16) rfl (fun h => absurd h (by decide)) (fun _ => ?_)
  refine lv_aload_n hx hb sd_cha_7 rfl (lv_at hl 0 rfl) ?_
  refine vk_getf hx hb (hS0.1.1 i hi).2.2.1 hS hown (hw (.fieldLink "java/lang/String" 9 "java/lang/String" "value" "[B") (sw_m 58 rfl)) (fun _ h => h) sd_cha_8 ?_
  refine lv_iload_n hx hb sd_cha_11 rfl (lv_at hl 1 rfl) ?_
  refine sw_T (k := 2) (As := [.ref (zV i), .int (Int32.ofInt (k : Nat))]) (rest := []) (sk_lch l zK zV hi hk) hx hb hml hown hw hS0 hl.1 (sw_m 1 rfl) (sw_m 42 rfl) (sw_m 43 rfl) (sw_m 14 rfl) sq_lch (Nat.le_of_ble_eq_true rfl) (Nat.le_of_ble_eq_true rfl) sd_cha_12 rfl (Nat.le_of_ble_eq_true rfl) ⟨Nat.zero_le _, Nat.zero_le _⟩ (fun r hr1 => ?_)
  have hbm : (sw_l i).getD k 0 ∈ oe_cdl ++ oe_sgl := by
    refine sw_in hi _ ?_
    rw [List.getD_eq_getElem?_getD, List.getElem?_eq_getElem hk]
    exact List.getElem_mem hk
  subst hr1
  exact W.zret (ty := .char) hx hb hr (sw_ch _ hbm).2 (fun t ht hW => ⟨_, rfl, rfl, ht⟩) hS.2.2 sd_cha_15
theorem sd_isv_0 : decode prog_1_method_15_code 0 = .ok (.iload_n 0, 1) := by decide +kernel
theorem sd_isv_1 : decode prog_1_method_15_code 1 = .ok (.bipush 12, 2) := by decide +kernel
theorem sd_isv_3 : decode prog_1_method_15_code 3 = .ok (.if_icmp .ge 7, 3) := by decide +kernel
theorem sd_isv_6 : decode prog_1_method_15_code 6 = .ok (.iconst 1, 1) := by decide +kernel
theorem sd_isv_7 : decode prog_1_method_15_code 7 = .ok (.goto 4, 3) := by decide +kernel
theorem sd_isv_10 : decode prog_1_method_15_code 10 = .ok (.iconst 0, 1) := by decide +kernel
theorem sd_isv_11 : decode prog_1_method_15_code 11 = .ok (.ireturn, 1) := by decide +kernel
set_option maxHeartbeats 4000000 in
theorem sk_isv (l : Launch) (zK zV : Nat → Nat) {x : Int} (h0 : 0 ≤ x) (h1 : x < 20) : Met l sy_isv (.code sy_isv prog_1_method_15_code 1 (some .boolean) :: sw_W) (sw_rm 0) (va_Pc [.int (Int32.ofInt x)] (sw_B zK zV)) (vp_Si (fun r => r = if x < 12 then 1 else 0)) 0 0 (fun _ => False) := by
  refine Met.ofW (cc := prog_1_method_15_code) (maxL := 1) (ret := (some .boolean)) (by decide) rfl ?_
  intro p e s m args below meth c s₁ B hml hv
  obtain ⟨rfl, hS0⟩ := hv
  have hx := B.exec
  have hb := B.bytes
  have hr := B.returns
  have hts := atoms_spec (ws := .code sy_isv prog_1_method_15_code 1 (some .boolean) :: sw_W) B.pre
  have hw : ∀ w ∈ sw_W, w.before ([.int (Int32.ofInt x)] : List Value).toArray s = true := fun w h => hts w (List.mem_cons_of_mem _ h)
  have hown : s.vm.findClass "OrderedEquations" = some m.cls := findClass_of_methodNamed B.named
  have hlocks := B.notSynchronized
  have hS : va_S (fun _ => False) s.heap s.heap [] := va_S.rf
  have hl := lv_entry ([.int (Int32.ofInt x)]) (n := 1) (Nat.le_of_ble_eq_true rfl)
  rw [lg_entry_eq]
  generalize (lg_sl ([.int (Int32.ofInt x)]) ++ List.replicate (1 - (lg_sl ([.int (Int32.ofInt x)])).length) Slot.unset).toArray = ls at hl ⊢
  have hl : lv_has ls 1 [(0, .int (Int32.ofInt x))] := hl
  have hrx : oe_rg x := ⟨by omega, by omega⟩
  have h12 : oe_rg 12 := ⟨by omega, by omega⟩
  refine lv_iload_n hx hb sd_isv_0 rfl (lv_at hl 0 rfl) ?_
  refine lv_bipush (v := Int32.ofInt 12) hx hb sd_isv_1 (by decide) ?_
  refine lv_icmp_ge hx hb sd_isv_3 (tgt := 10) rfl (fun h => ?_) (fun h => ?_)
  · have hc : ¬ x < 12 := by have := (oe_le h12 hrx).mp h; omega
    refine lv_iconst (v := 0) hx hb sd_isv_10 (by decide) ?_
    exact W.zret (ty := .boolean) hx hb hr rfl (fun t ht hW => ⟨0, rfl, (if_neg hc).symm, ht⟩) hS.2.2 sd_isv_11
  · have hc : x < 12 := by have : ¬ 12 ≤ x := fun q => h ((oe_le h12 hrx).mpr q); omega
    refine lv_iconst (v := 1) hx hb sd_isv_6 (by decide) ?_
    refine lv_goto hx hb sd_isv_7 (tgt := 11) rfl ?_
    exact W.zret (ty := .boolean) hx hb hr rfl (fun t ht hW => ⟨1, rfl, (if_pos hc).symm, ht⟩) hS.2.2 sd_isv_11
