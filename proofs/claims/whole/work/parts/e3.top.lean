/-! The law in the great machine. -/
theorem oe_fg_len : ∀ {A B : List (Option oeV)}, oe_fg A B → A.length = B.length
  | [], [], _ => rfl
  | none :: A, _ :: B, h => congrArg Nat.succ (oe_fg_len (A := A) (B := B) h)
  | some _ :: A, _ :: B, h => congrArg Nat.succ (oe_fg_len (A := A) (B := B) h.2)
theorem oe_GF.fg {j : Nat} {z : Nat → Int → Nat} {n : Nat} {ad : List Nat} {ls : Array Slot} {A B : List (Option oeV)} {S : List oeV} (hF : oe_fg A B) (h : oe_GF j z n ad ls B S) : oe_GF j z n ad ls A S := by
  refine ⟨⟨h.1.1, h.1.2.1, fun q hq => ?_⟩, by rw [oe_fg_len hF]; exact h.2.1, fun v hv => ?_, h.2.2.2⟩
  · obtain ⟨v, h1, h2⟩ := oe_lv_mem.mp hq
    exact h.1.2.2 q (oe_lv_mem.mpr ⟨v, oe_fg_at hF h1, h2⟩)
  · obtain ⟨i, hi⟩ := List.getElem?_of_mem hv
    exact h.2.2.1 v (List.mem_of_getElem? (oe_fg_at hF hi))
theorem ld_146 : decode code 146 = .ok (.invokestatic 43, 3) := by decide +kernel
theorem ld_222 : decode code 222 = .ok (.invokestatic 60, 3) := by decide +kernel
theorem ld_278 : decode code 278 = .ok (.invokestatic 64, 3) := by decide +kernel
theorem ld_340 : decode code 340 = .ok (.invokestatic 67, 3) := by decide +kernel
theorem lp_hax : (parseMethodDescriptor hax_y.desc).map (fun d => d.parameters.length) = some 2 := by decide +kernel
theorem lp_hst : (parseMethodDescriptor hst_y.desc).map (fun d => d.parameters.length) = some 3 := by decide +kernel
theorem lp_hct : (parseMethodDescriptor hct_y.desc).map (fun d => d.parameters.length) = some 3 := by decide +kernel
theorem lp_hsh : (parseMethodDescriptor hsh_y.desc).map (fun d => d.parameters.length) = some 4 := by decide +kernel
section TOP
variable {p : Program} {l : Launch} {e : Env} {s : State} {m : MethodId} {args : Array Value} {below : List Frame} {meth : Method} {c : Code} {Qp : State → Prop} {D : va_G} {cA : Nat → ClassId} {z : Nat → Int → Nat} {A : Nat → Prop} {ad0 : List Nat} {zK zV za : Nat → Nat}
/-- a call of a helper of the law, over any machine state of the law -/
theorem law_help {y : MethodName} {cc : ByteArray} {ml pc index : Nat} {hh : List (Nat × Nat × Nat × Nat)} {as : List oeV} {L : List (Option oeV)} {S : List oeV} {hp : oeH} {k n : Nat}
    (hFx : oe_Fx p room_1 s m args meth c 130 100 D cA A (601024, 7293034) (lz_Z zK zV za)) (htb : ∀ w ∈ lw_tbl, w.before args s = true) (hcw : Cond.codeWith y cc ml (some .int) hh ∈ lw_tbl) (hl : Cond.methodLink "OrderedEquationsLaw" index y ∈ lw_tbl) (hs : Cond.static y ∈ lw_tbl) (hyc : y.cls = "OrderedEquationsLaw") (hlen : (parseMethodDescriptor y.desc).map (fun d => d.parameters.length) = some as.length) (hml : ml ≤ 10) (hd : decode code pc = .ok (.invokestatic index, 3)) (hS : S = as.reverse)
    (hk : k + 1 ≤ 601024) (hn : n + 6 ≤ 7293034)
    (hM : hm_Met l D cA z (lz_Z zK zV za) 100 y (.codeWith y cc ml (some .int) hh) as hp (fun r hp' => oe_X p l e room_1 s m args below meth c Qp 130 D cA z A ad0 (601024, 7293034) (pc + 3) L r.toList hp' (k + 1) (n + 6))) : oe_X p l e room_1 s m args below meth c Qp 130 D cA z A ad0 (601024, 7293034) pc L S hp k n := by
  obtain ⟨hx, hb, hmll, hown, hts, hK, hin, hA, hRc, hRs, hRf, hRl, hN, hZ⟩ := hFx
  intro hk0 hn0 ad H ls locs hG hF
  have hP := hG.1
  have hvs : ∀ v ∈ as, oe_vv hp.1.length v := fun v hv => hF.2.2.2 v (by rw [hS]; exact List.mem_reverse.mpr hv)
  have hM2 := hM ad H.size hG.2.2.2.1 hG.2.2.2.2.1 hvs
  have h5 : GoodIn oe_W (oe_wj 126) := oe_good 126 (oe_lwm 5 4 (.invokevirtual 126060) 3 sf_5_4 _ List.mem_cons_self)
  have hws : ∀ w ∈ (Cond.codeWith y cc ml (some .int) hh :: (hm_W ++ oe_W)), ∀ (a' : Array Value) (U : State), s.WarmedH U.vm → w.before a' U = true := by
    intro w hw a' U hW
    rcases List.mem_cons.mp hw with q | q
    · rw [q]; exact word_at hW (Or.inl (by first | rfl | simp [Cond.onTables, Cond.keeps, Cond.steady])) (htb _ hcw)
    · rcases List.mem_append.mp q with q | q
      · exact word_at hW (Or.inl (hm_ok w q)) (htb _ (ew_hm w q))
      · exact word_at hW (h5 w (List.mem_cons_of_mem _ q)).2 (htb _ (ew_W w q))
  have hyn : y.cls ≠ "java/lang/invoke/MethodHandle" ∧ y.cls ≠ "java/lang/invoke/VarHandle" := by
    rw [hyc]
    exact ⟨by decide, by decide⟩
  have hini : (Cond.initialized y.cls).before args s = true := by rw [hyc]; exact htb _ (ew_s1 (List.mem_of_getElem? (i := 0) rfl))
  have hpr := oe_pre (Z := lz_Z zK zV za) (As := as.map (oe_val ad z)) (lz_Zc zK zV za) hG hK hN hZ hA
  have hrun := cw_runS (l := l) (e := e) (below := below) (meth := meth) (H := H) (locs := locs) (cells := k) (slots := n) (R := room_1) (g := F0 m pc ls (S.map (oe_val ad z))) (rest := []) (As := as.map (oe_val ad z)) (n := as.length) (own := "OrderedEquationsLaw") (Ts := lw_tbl) (nL := 7) (cc := code) (hh := hh) (bytes := cc) (maxL := ml) (ret := some .int) (index := index)
    ⟨hx, hb, hmll, hown, htb⟩ hM2 rfl rfl (by show 102 + 1 ≤ 2048; omega) (by show 8 + (ml + 11) + 64 * 102 ≤ 84000; omega) hws List.mem_cons_self (htb _ hcw) hini hyn (fun sig h => by rw [h] at hlen; exact (Option.some.inj hlen).symm) (htb _ hl) (htb _ hs) hpr rfl (List.length_map ..) hF.1.1 (by rw [hS, List.map_reverse, List.append_nil]) (lv_room (Nat.zero_le _)) hd ⟨hk, hn⟩
  exact oe_after (T := []) (j := 130) hrun hG hF (fun v hv => by cases hv) hA hk hn (fun r hp' q => by rw [List.append_nil]; exact q)
theorem law_lX (htr : l.stackTraces = false) {Ln : Nat} {xs : Nat → Int} (hrx : ∀ i, oe_rg (xs i)) (hLn : Ln ≤ 1536) (hFx : oe_Fx p room_1 s m args meth c 130 100 D cA A (601024, 7293034) (lz_Z zK zV za)) (htb : ∀ w ∈ lw_tbl, w.before args s = true)
    (hsc : ∀ x, z 3 x < s.heap.size ∧ ¬ A (z 3 x) ∧ va_X (z 3 x) Ln (fun i => Int32.ofInt (xs i)) s s.heap)
    (hret : ∀ pc ls ad H locs k n hp, oe_GH D cA A s ad0 hp ad H locs → k ≤ 601024 → n ≤ 7293034 → decode code pc = .ok (.ireturn, 1) → W p l e room_1 s m args below meth c H locs k n Qp (F0 m pc ls [.int (Int32.ofInt 1)])) :
    lX (601024, 7293034) 100 Ln xs (fun r _ => r = some (.inl 1)) (oe_X p l e room_1 s m args below meth c Qp 130 D cA z A ad0 (601024, 7293034)) := by
  refine ⟨fun pc L S hp k n h => oe_main (lz_Zc zK zV za) hFx (fun q hq => ?_) ?_ (fun j as hp Q h => lz_sound 100 j as hp Q h) pc L S hp k n h, ?_, ?_, ?_, ?_, ?_⟩
  · cases hq
    exact ⟨hrx, by omega, hsc⟩
  · intro pc i ls ad H locs k n hp r hG hQ hvr hk hn hd hrt
    subst hQ
    obtain ⟨hi, -⟩ := hrt
    subst hi
    exact hret pc ls ad H locs k n hp hG hk hn hd
  · intro pc A' B' S hp k n hfg h hk hn ad H ls locs hG hF
    exact h hk hn ad H ls locs hG (hF.fg hfg)

  · intro L hp k n h0 hl hk hn h
    exact law_help (as := [.inr (.inl 0), .inr (.inl 379)]) (cc := method_3_code) (ml := 3) (hh := [(0, 8, 11, 13)]) (y := hax_y) hFx htb (ew_s3 (List.mem_of_getElem? (i := 131) rfl)) (ew_s3 (List.mem_of_getElem? (i := 129) rfl)) (ew_s3 (List.mem_of_getElem? (i := 130) rfl)) rfl lp_hax (by omega) ld_146 rfl hk hn (hk_hax htr (by omega)  h0 hl h)
  · intro L hp k n w h0 hl hk hn hrw h
    exact law_help (as := [.inr (.inl 0), .inl w, .inr (.inl 379)]) (cc := method_4_code) (ml := 4) (hh := [(0, 9, 12, 19)]) (y := hst_y) hFx htb (ew_s3 (List.mem_of_getElem? (i := 206) rfl)) (ew_s3 (List.mem_of_getElem? (i := 204) rfl)) (ew_s3 (List.mem_of_getElem? (i := 205) rfl)) rfl lp_hst (by omega) ld_222 rfl hk hn (hk_hst htr (by omega) hrw h0 hl h)
  · intro L hp k n w h0 hl hk hn hrw h
    exact law_help (as := [.inr (.inl 0), .inl w, .inr (.inl 379)]) (cc := method_5_code) (ml := 4) (hh := [(0, 9, 12, 19)]) (y := hct_y) hFx htb (ew_s3 (List.mem_of_getElem? (i := 230) rfl)) (ew_s3 (List.mem_of_getElem? (i := 228) rfl)) (ew_s3 (List.mem_of_getElem? (i := 229) rfl)) rfl lp_hct (by omega) ld_278 rfl hk hn (hk_hct htr (by omega) hrw h0 hl h)
  · intro L hp k n w i h0 hl hk hn hrw hri h
    exact law_help (as := [.inr (.inl 0), .inl w, .inl i, .inr (.inl 379)]) (cc := method_6_code) (ml := 5) (hh := [(0, 10, 13, 19), (0, 10, 17, 28)]) (y := hsh_y) hFx htb (ew_s3 (List.mem_of_getElem? (i := 238) rfl)) (ew_s3 (List.mem_of_getElem? (i := 236) rfl)) (ew_s3 (List.mem_of_getElem? (i := 237) rfl)) rfl lp_hsh (by omega) ld_340 rfl hk hn (hk_hsh htr (by omega) hrw hri h0 hl h)
end TOP
