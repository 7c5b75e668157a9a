/-! The texts of letters: the code of a letter, the letter of a code, as contracts. -/
def sw_Z (zK zV : Nat → Nat) : (Nat → Prop) → State → Heap → Prop := fun A U H => sw_S zK zV A U H ∧ vk_R "OrderedEquations" 179 "uvwxyz" (zK 0) U ∧ vk_R "OrderedEquations" 187 "dcbagfqp" (zK 1) U ∧ ∀ w ∈ sw_W, ∀ a : Array Value, w.before a U = true
theorem sw_Zc (zK zV : Nat → Nat) : oe_Zc (sw_Z zK zV) :=
  ⟨fun A u U H hW h => ⟨sw_S.moved hW.alike h.1, vk_R.warm hW h.2.1, vk_R.warm hW h.2.2.1, fun w hw a => word_at hW (Or.inl (sw_ok w hw)) (h.2.2.2 w hw #[])⟩,
   fun A u U H hv h => ⟨sw_S.moved (by rw [hv]; exact Vm.Alike.refl _) h.1, vk_R.same hv.symm h.2.1, vk_R.same hv.symm h.2.2.1, fun w hw a => va_tabs (by have q := sw_ok w hw; rw [Bool.and_eq_true] at q; exact q.1) hv (h.2.2.2 w hw #[])⟩,
   fun A U H H1 hq h => ⟨h.1.kept hq, h.2⟩,
   fun A B U H hAB h => ⟨h.1.narrow hAB, h.2⟩⟩
theorem sw_ixlt {c : Int} : ∀ (l : List Int) (k j : Nat), oe_ixf c l k = some j → k ≤ j ∧ j < k + l.length
  | [], _, _, h => by cases h
  | b :: l, k, j, h => by
    unfold oe_ixf at h
    split at h
    · cases h
      simp
    · have := sw_ixlt l (k + 1) j h
      simp only [List.length_cons]
      omega
theorem sd_cd_0 : decode prog_1_method_17_code 0 = .ok (.ldc 179, 2) := by decide +kernel
theorem sd_cd_2 : decode prog_1_method_17_code 2 = .ok (.iload_n 0, 1) := by decide +kernel
theorem sd_cd_3 : decode prog_1_method_17_code 3 = .ok (.invokevirtual 181, 3) := by decide +kernel
theorem sd_cd_6 : decode prog_1_method_17_code 6 = .ok (.istore_n 1, 1) := by decide +kernel
theorem sd_cd_7 : decode prog_1_method_17_code 7 = .ok (.iload_n 1, 1) := by decide +kernel
theorem sd_cd_8 : decode prog_1_method_17_code 8 = .ok (.ifCond .lt 5, 3) := by decide +kernel
theorem sd_cd_11 : decode prog_1_method_17_code 11 = .ok (.iload_n 1, 1) := by decide +kernel
theorem sd_cd_12 : decode prog_1_method_17_code 12 = .ok (.ireturn, 1) := by decide +kernel
theorem sd_cd_13 : decode prog_1_method_17_code 13 = .ok (.ldc 187, 2) := by decide +kernel
theorem sd_cd_15 : decode prog_1_method_17_code 15 = .ok (.iload_n 0, 1) := by decide +kernel
theorem sd_cd_16 : decode prog_1_method_17_code 16 = .ok (.invokevirtual 181, 3) := by decide +kernel
theorem sd_cd_19 : decode prog_1_method_17_code 19 = .ok (.istore_n 2, 1) := by decide +kernel
theorem sd_cd_20 : decode prog_1_method_17_code 20 = .ok (.iload_n 2, 1) := by decide +kernel
theorem sd_cd_21 : decode prog_1_method_17_code 21 = .ok (.ifCond .ge 7, 3) := by decide +kernel
theorem sd_cd_24 : decode prog_1_method_17_code 24 = .ok (.iconst (-1), 1) := by decide +kernel
theorem sd_cd_25 : decode prog_1_method_17_code 25 = .ok (.goto 7, 3) := by decide +kernel
theorem sd_cd_28 : decode prog_1_method_17_code 28 = .ok (.bipush 12, 2) := by decide +kernel
theorem sd_cd_30 : decode prog_1_method_17_code 30 = .ok (.iload_n 2, 1) := by decide +kernel
theorem sd_cd_31 : decode prog_1_method_17_code 31 = .ok (.iadd, 1) := by decide +kernel
theorem sd_cd_32 : decode prog_1_method_17_code 32 = .ok (.ireturn, 1) := by decide +kernel
theorem sd_lt_0 : decode prog_1_method_18_code 0 = .ok (.iload_n 0, 1) := by decide +kernel
theorem sd_lt_1 : decode prog_1_method_18_code 1 = .ok (.invokestatic 189, 3) := by decide +kernel
theorem sd_lt_4 : decode prog_1_method_18_code 4 = .ok (.ifCond .eq 15, 3) := by decide +kernel
theorem sd_lt_7 : decode prog_1_method_18_code 7 = .ok (.ldc 179, 2) := by decide +kernel
theorem sd_lt_9 : decode prog_1_method_18_code 9 = .ok (.iload_n 0, 1) := by decide +kernel
theorem sd_lt_10 : decode prog_1_method_18_code 10 = .ok (.bipush 6, 2) := by decide +kernel
theorem sd_lt_12 : decode prog_1_method_18_code 12 = .ok (.irem, 1) := by decide +kernel
theorem sd_lt_13 : decode prog_1_method_18_code 13 = .ok (.invokevirtual 193, 3) := by decide +kernel
theorem sd_lt_16 : decode prog_1_method_18_code 16 = .ok (.goto 12, 3) := by decide +kernel
theorem sd_lt_19 : decode prog_1_method_18_code 19 = .ok (.ldc 187, 2) := by decide +kernel
theorem sd_lt_21 : decode prog_1_method_18_code 21 = .ok (.iload_n 0, 1) := by decide +kernel
theorem sd_lt_22 : decode prog_1_method_18_code 22 = .ok (.bipush 12, 2) := by decide +kernel
theorem sd_lt_24 : decode prog_1_method_18_code 24 = .ok (.isub, 1) := by decide +kernel
theorem sd_lt_25 : decode prog_1_method_18_code 25 = .ok (.invokevirtual 193, 3) := by decide +kernel
theorem sd_lt_28 : decode prog_1_method_18_code 28 = .ok (.ireturn, 1) := by decide +kernel
set_option maxHeartbeats 4000000 in
theorem sw_900 {l : Launch} {D : va_G} {cA : Nat → ClassId} {z : Nat → Int → Nat} {zK zV : Nat → Nat} {d : Nat} {x : Int} {hp : oeH} {Q : oeQ} (h6 : 6 ≤ d) (h0 : 0 ≤ x) (h1 : x < 65536) (hQ : Q (some (.inl (oe_cdOf x))) hp) : oe_Met l D cA z (sw_Z zK zV) (d + 1) 900 [.inl x] hp Q := by
  intro ad sz hlen hhv hvs
  refine Met.ofW (cc := oe_by 900) (maxL := oe_ml 900) (ret := oe_ret 900) (oe_plain 900) rfl ?_
  intro p e s m args below meth c s₁ B hml hv
  obtain ⟨rfl, hsz, hP, hK, hD0, hN, hZ⟩ := hv
  have hx := B.exec
  have hb : c.code = prog_1_method_17_code := B.bytes
  have hr : meth.sig.returnType = some .int := B.returns
  have hown : s.vm.findClass "OrderedEquations" = some m.cls := findClass_of_methodNamed B.named
  have hlocks := B.notSynchronized
  subst hsz
  have hD := hD0.self (sz := s.heap.size)
  have hml : c.maxLocals = 3 := hml
  have hw : ∀ w ∈ sw_W, w.before (([.inl x] : List oeV).map (oe_val ad z)).toArray s = true := fun w h => hZ.2.2.2 w h _
  have hS0 : sw_B zK zV s := hZ.1.narrow (fun _ q => q.elim)
  have hS : va_S (va_A (oe_ws cA ad hp) s.heap.size) s.heap s.heap [] := va_S.rf
  have hR1 : 3 + 1 ≤ (headSpec (oe_wj 900) (oe_rm (d + 1) 900)).room.frames := by show 3 + 1 ≤ d + 1 + 1; omega
  have hR2 : 8 + (2 + 11) + 40 * 3 ≤ (headSpec (oe_wj 900) (oe_rm (d + 1) 900)).room.locals := by show 8 + (2 + 11) + 40 * 3 ≤ 64 * (d + 1 + 1); omega
  have hfin : ∀ (v : Int) (t : State), v = oe_cdOf x → oe_rg v → t.heap = s.heap → oe_Qc D cA z ad Q (va_A (oe_ws cA ad hp) s.heap.size) (([.inl x] : List oeV).map (oe_val ad z)).toArray s (.returned (some (.int (Int32.ofInt v)))) t := fun v t hv hrg ht =>
    ⟨⟨some (.inl v), hp, ad, rfl, by rw [hv]; exact hQ, ⟨[], (List.append_nil _).symm⟩, hlen, hhv, fun w hw => by cases hw; exact hrg, by rw [ht]; exact hP, hD⟩, hS.F ht⟩
  have hl := lv_entry ([.int (Int32.ofInt x)]) (n := 3) (Nat.le_of_ble_eq_true rfl)
  change W p l e _ s m _ below meth c s.heap [] 0 0 _ (entryFrame m ([.int (Int32.ofInt x)] : List Value).toArray 3)
  rw [lg_entry_eq]
  generalize (lg_sl ([.int (Int32.ofInt x)]) ++ List.replicate (3 - (lg_sl ([.int (Int32.ofInt x)])).length) Slot.unset).toArray = ls at hl ⊢
  have hl : lv_has ls 3 [(0, .int (Int32.ofInt x))] := hl
  refine va_ldcS hx hb hown hZ.2.1 sd_cd_0 ?_
  refine lv_iload_n hx hb sd_cd_2 rfl (lv_at hl 0 rfl) ?_
  refine sw_V (k := 3) (As := [.int (Int32.ofInt x)]) (rest := []) (i := 0) (by decide) (sk_ix1 l zK zV (i := 0) (by decide) h0 h1) hx hb hml hown hw hS0 hl.1 rfl (sw_m 18 rfl) (sw_m 19 rfl) (sw_m 20 rfl) (sw_m 5 rfl) sp_ix1 hR1 hR2 sd_cd_3 rfl (Nat.le_of_ble_eq_true rfl) ⟨Nat.zero_le _, Nat.zero_le _⟩ (fun r hr0 => ?_)
  subst hr0
  refine lv_istore_n hx hb sd_cd_6 rfl hl (by decide) rfl (fun ls hl => ?_)
  refine lv_iload_n hx hb sd_cd_7 rfl (lv_at hl 0 rfl) ?_
  cases hq : oe_ixf x oe_cdl 0 with
  | some j =>
    have hj := sw_ixlt oe_cdl 0 j hq
    have hj8 : j < 6 := by have : oe_cdl.length = 6 := rfl; omega
    have e1 : sw_ix x (sw_l 0) 0 = Int32.ofInt (j : Int) := by show (match oe_ixf x oe_cdl 0 with | some j => Int32.ofInt (j : Int) | none => -1) = _; rw [hq]
    rw [e1] at hl ⊢
    refine lv_if_lt hx hb sd_cd_8 (tgt := 13) rfl (fun h => absurd ((oe_lt ⟨by omega, by omega⟩ oe_rg0).mp h) (by omega)) (fun _ => ?_)
    refine lv_iload_n hx hb sd_cd_11 rfl (lv_at hl 0 rfl) ?_
    exact W.widen (k := (oe_cost 900).1) (n := (oe_cost 900).2) (Nat.zero_le _) (Nat.zero_le _) (W.iret hx hb hr (fun t ht hW => hfin j t (by unfold oe_cdOf; rw [hq]) ⟨by omega, by omega⟩ ht) hS.2.2 sd_cd_12)
  | none =>
    have e1 : sw_ix x (sw_l 0) 0 = Int32.ofInt (-1) := by show (match oe_ixf x oe_cdl 0 with | some j => Int32.ofInt (j : Int) | none => -1) = _; rw [hq]; rfl
    rw [e1] at hl ⊢
    refine lv_if_lt hx hb sd_cd_8 (tgt := 13) rfl (fun _ => ?_) (fun h => absurd ((oe_lt ⟨by omega, by omega⟩ oe_rg0).mpr (by omega)) h)
    refine va_ldcS hx hb hown hZ.2.2.1 sd_cd_13 ?_
    refine lv_iload_n hx hb sd_cd_15 rfl (lv_at hl 1 rfl) ?_
    refine sw_V (k := 3) (As := [.int (Int32.ofInt x)]) (rest := []) (i := 1) (by decide) (sk_ix1 l zK zV (i := 1) (by decide) h0 h1) hx hb hml hown hw hS0 hl.1 rfl (sw_m 18 rfl) (sw_m 19 rfl) (sw_m 20 rfl) (sw_m 5 rfl) sp_ix1 hR1 hR2 sd_cd_16 rfl (Nat.le_of_ble_eq_true rfl) ⟨Nat.zero_le _, Nat.zero_le _⟩ (fun r hr0 => ?_)
    subst hr0
    refine lv_istore_n hx hb sd_cd_19 rfl hl (by decide) rfl (fun ls hl => ?_)
    refine lv_iload_n hx hb sd_cd_20 rfl (lv_at hl 0 rfl) ?_
    cases hq2 : oe_ixf x oe_sgl 0 with
    | some j =>
      have hj := sw_ixlt oe_sgl 0 j hq2
      have hj8 : j < 8 := by have : oe_sgl.length = 8 := rfl; omega
      have e2 : sw_ix x (sw_l 1) 0 = Int32.ofInt (j : Int) := by show (match oe_ixf x oe_sgl 0 with | some j => Int32.ofInt (j : Int) | none => -1) = _; rw [hq2]
      rw [e2] at hl ⊢
      refine lv_if_ge hx hb sd_cd_21 (tgt := 28) rfl (fun _ => ?_) (fun h => absurd ((oe_le oe_rg0 ⟨by omega, by omega⟩).mpr (by omega)) h)
      refine lv_bipush (v := Int32.ofInt 12) hx hb sd_cd_28 (by decide) ?_
      refine lv_iload_n hx hb sd_cd_30 rfl (lv_at hl 0 rfl) ?_
      refine lv_iadd hx hb sd_cd_31 ?_
      rw [← Int32.ofInt_add]
      exact W.widen (k := (oe_cost 900).1) (n := (oe_cost 900).2) (Nat.zero_le _) (Nat.zero_le _) (W.iret hx hb hr (fun t ht hW => hfin _ t (by unfold oe_cdOf; rw [hq, hq2]) ⟨by omega, by omega⟩ ht) hS.2.2 sd_cd_32)
    | none =>
      have e2 : sw_ix x (sw_l 1) 0 = Int32.ofInt (-1) := by show (match oe_ixf x oe_sgl 0 with | some j => Int32.ofInt (j : Int) | none => -1) = _; rw [hq2]; rfl
      rw [e2] at hl ⊢
      refine lv_if_ge hx hb sd_cd_21 (tgt := 28) rfl (fun h => absurd ((oe_le oe_rg0 ⟨by omega, by omega⟩).mp h) (by omega)) (fun _ => ?_)
      refine lv_iconst (v := Int32.ofInt (-1)) hx hb sd_cd_24 rfl ?_
      refine lv_goto hx hb sd_cd_25 (tgt := 32) rfl ?_
      exact W.widen (k := (oe_cost 900).1) (n := (oe_cost 900).2) (Nat.zero_le _) (Nat.zero_le _) (W.iret hx hb hr (fun t ht hW => hfin _ t (by unfold oe_cdOf; rw [hq, hq2]) ⟨by omega, by omega⟩ ht) hS.2.2 sd_cd_32)
set_option maxHeartbeats 4000000 in
theorem sw_901 {l : Launch} {D : va_G} {cA : Nat → ClassId} {z : Nat → Int → Nat} {zK zV : Nat → Nat} {d : Nat} {x : Int} {hp : oeH} {Q : oeQ} (h6 : 6 ≤ d) (h0 : 0 ≤ x) (h1 : x < 20) (hQ : Q (some (.inl (oe_ltOf x))) hp) : oe_Met l D cA z (sw_Z zK zV) (d + 1) 901 [.inl x] hp Q := by
  intro ad sz hlen hhv hvs
  refine Met.ofW (cc := oe_by 901) (maxL := oe_ml 901) (ret := oe_ret 901) (oe_plain 901) rfl ?_
  intro p e s m args below meth c s₁ B hml hv
  obtain ⟨rfl, hsz, hP, hK, hD0, hN, hZ⟩ := hv
  have hx := B.exec
  have hb : c.code = prog_1_method_18_code := B.bytes
  have hr : meth.sig.returnType = some .char := B.returns
  have hown : s.vm.findClass "OrderedEquations" = some m.cls := findClass_of_methodNamed B.named
  have hlocks := B.notSynchronized
  subst hsz
  have hD := hD0.self (sz := s.heap.size)
  have hml : c.maxLocals = 1 := hml
  have hw : ∀ w ∈ sw_W, w.before (([.inl x] : List oeV).map (oe_val ad z)).toArray s = true := fun w h => hZ.2.2.2 w h _
  have hS0 : sw_B zK zV s := hZ.1.narrow (fun _ q => q.elim)
  have hS : va_S (va_A (oe_ws cA ad hp) s.heap.size) s.heap s.heap [] := va_S.rf
  have hR1 : 3 + 1 ≤ (headSpec (oe_wj 901) (oe_rm (d + 1) 901)).room.frames := by show 3 + 1 ≤ d + 1 + 1; omega
  have hR2 : 8 + (2 + 11) + 40 * 3 ≤ (headSpec (oe_wj 901) (oe_rm (d + 1) 901)).room.locals := by show 8 + (2 + 11) + 40 * 3 ≤ 64 * (d + 1 + 1); omega
  have hfin : ∀ (v : Int) (t : State), v = oe_ltOf x → oe_rg v → t.heap = s.heap → oe_Qc D cA z ad Q (va_A (oe_ws cA ad hp) s.heap.size) (([.inl x] : List oeV).map (oe_val ad z)).toArray s (.returned (some (.int (Int32.ofInt v)))) t := fun v t hv hrg ht =>
    ⟨⟨some (.inl v), hp, ad, rfl, by rw [hv]; exact hQ, ⟨[], (List.append_nil _).symm⟩, hlen, hhv, fun w hw => by cases hw; exact hrg, by rw [ht]; exact hP, hD⟩, hS.F ht⟩
  have hl := lv_entry ([.int (Int32.ofInt x)]) (n := 1) (Nat.le_of_ble_eq_true rfl)
  change W p l e _ s m _ below meth c s.heap [] 0 0 _ (entryFrame m ([.int (Int32.ofInt x)] : List Value).toArray 1)
  rw [lg_entry_eq]
  generalize (lg_sl ([.int (Int32.ofInt x)]) ++ List.replicate (1 - (lg_sl ([.int (Int32.ofInt x)])).length) Slot.unset).toArray = ls at hl ⊢
  have hl : lv_has ls 1 [(0, .int (Int32.ofInt x))] := hl
  have hin : ∀ (i : Nat) (k : Nat), i < 2 → k < (sw_l i).length → (sw_l i).getD k 0 ∈ oe_cdl ++ oe_sgl := by
    intro i k hi hk
    refine sw_in hi _ ?_
    rw [List.getD_eq_getElem?_getD, List.getElem?_eq_getElem hk]
    exact List.getElem_mem hk
  have hrg : ∀ b ∈ oe_cdl ++ oe_sgl, oe_rg b := by
    have h : ∀ b ∈ oe_cdl ++ oe_sgl, 0 ≤ b ∧ b < 256 := by decide
    intro b hb
    have := h b hb
    exact ⟨by omega, by omega⟩
  have hrx : oe_rg x := ⟨by omega, by omega⟩
  refine lv_iload_n hx hb sd_lt_0 rfl (lv_at hl 0 rfl) ?_
  refine sw_T (k := 0) (As := [.int (Int32.ofInt x)]) (rest := []) (sk_isv l zK zV h0 h1) hx hb hml hown hw hS0 hl.1 (sw_m 3 rfl) (sw_m 48 rfl) (sw_m 49 rfl) (sw_m 17 rfl) sq_isv (by omega) (by omega) sd_lt_1 rfl (Nat.le_of_ble_eq_true rfl) ⟨Nat.zero_le _, Nat.zero_le _⟩ (fun r hr0 => ?_)
  by_cases hc : x < 12
  · rw [if_pos hc] at hr0
    subst hr0
    refine lv_if_eq hx hb sd_lt_4 (tgt := 19) rfl (fun h => absurd h (by decide)) (fun _ => ?_)
    refine va_ldcS hx hb hown hZ.2.1 sd_lt_7 ?_
    refine lv_iload_n hx hb sd_lt_9 rfl (lv_at hl 0 rfl) ?_
    refine lv_bipush (v := Int32.ofInt 6) hx hb sd_lt_10 (by decide) ?_
    refine lv_irem hx hb sd_lt_12 (by decide) ?_
    have hk : (x % 6).toNat < (sw_l 0).length := by show (x % 6).toNat < 6; omega
    have e1 : Int32.ofInt x - Int32.ofInt x / Int32.ofInt 6 * Int32.ofInt 6 = Int32.ofInt (((x % 6).toNat : Nat) : Int) := by
      rw [oe_rem hrx ⟨by omega, by omega⟩ h0 (by omega), Int.toNat_of_nonneg (by omega)]
    rw [e1]
    refine sw_V (k := 3) (As := [.int (Int32.ofInt (((x % 6).toNat : Nat) : Int))]) (rest := []) (i := 0) (by decide) (sk_cha l zK zV (i := 0) (by decide) hk) hx hb hml hown hw hS0 hl.1 rfl (sw_m 33 rfl) (sw_m 34 rfl) (sw_m 35 rfl) (sw_m 13 rfl) sp_cha hR1 hR2 sd_lt_13 rfl (Nat.le_of_ble_eq_true rfl) ⟨Nat.zero_le _, Nat.zero_le _⟩ (fun r hr1 => ?_)
    subst hr1
    refine lv_goto hx hb sd_lt_16 (tgt := 28) rfl ?_
    exact W.widen (k := (oe_cost 901).1) (n := (oe_cost 901).2) (Nat.zero_le _) (Nat.zero_le _) (W.zret (ty := .char) hx hb hr (sw_ch _ (hin 0 _ (by decide) hk)).2 (fun t ht hW => hfin _ t (by unfold oe_ltOf; rw [if_pos hc]; rfl) (hrg _ (hin 0 _ (by decide) hk)) ht) hS.2.2 sd_lt_28)
  · rw [if_neg hc] at hr0
    subst hr0
    refine lv_if_eq hx hb sd_lt_4 (tgt := 19) rfl (fun _ => ?_) (fun h => absurd rfl h)
    refine va_ldcS hx hb hown hZ.2.2.1 sd_lt_19 ?_
    refine lv_iload_n hx hb sd_lt_21 rfl (lv_at hl 0 rfl) ?_
    refine lv_bipush (v := Int32.ofInt 12) hx hb sd_lt_22 (by decide) ?_
    refine lv_isub hx hb sd_lt_24 ?_
    have hk : (x - 12).toNat < (sw_l 1).length := by show (x - 12).toNat < 8; omega
    have e1 : Int32.ofInt x - Int32.ofInt 12 = Int32.ofInt (((x - 12).toNat : Nat) : Int) := by
      rw [← Int32.ofInt_sub, Int.toNat_of_nonneg (by omega)]
    rw [e1]
    refine sw_V (k := 3) (As := [.int (Int32.ofInt (((x - 12).toNat : Nat) : Int))]) (rest := []) (i := 1) (by decide) (sk_cha l zK zV (i := 1) (by decide) hk) hx hb hml hown hw hS0 hl.1 rfl (sw_m 33 rfl) (sw_m 34 rfl) (sw_m 35 rfl) (sw_m 13 rfl) sp_cha hR1 hR2 sd_lt_25 rfl (Nat.le_of_ble_eq_true rfl) ⟨Nat.zero_le _, Nat.zero_le _⟩ (fun r hr1 => ?_)
    subst hr1
    exact W.widen (k := (oe_cost 901).1) (n := (oe_cost 901).2) (Nat.zero_le _) (Nat.zero_le _) (W.zret (ty := .char) hx hb hr (sw_ch _ (hin 1 _ (by decide) hk)).2 (fun t ht hW => hfin _ t (by unfold oe_ltOf; rw [if_neg hc]; rfl) (hrg _ (hin 1 _ (by decide) hk)) ht) hS.2.2 sd_lt_28)
theorem sw_bi {l : Launch} {D : va_G} {cA : Nat → ClassId} {z : Nat → Int → Nat} {zK zV : Nat → Nat} : ∀ d j as hp Q, 6 ≤ d → oe_bi j as hp Q → oe_Met l D cA z (sw_Z zK zV) (d + 1) j as hp Q := by
  intro d j as hp Q h6 h
  unfold oe_bi at h
  split at h
  · exact sw_900 h6 h.1 h.2.1 h.2.2
  · exact sw_901 h6 h.1 h.2.1 h.2.2
  · exact h.elim
/-- the class's and the reference's methods as contracts, over the two texts -/
theorem sw_sound {l : Launch} {D : va_G} {cA : Nat → ClassId} {z : Nat → Int → Nat} {zK zV : Nat → Nat} (d j : Nat) (as : List oeV) (hp : oeH) (Q : oeQ) (h : oe_M d j as hp Q) : oe_Met l D cA z (sw_Z zK zV) d j as hp Q := oe_sound (sw_Zc zK zV) sw_bi d j as hp Q h
