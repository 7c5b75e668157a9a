/-! A method of the small machine is a contract of the great one's. -/
theorem oe_lvargs {ad : List Nat} {z : Nat → Int → Nat} : ∀ (as : List oeV) (k i : Nat) (v : oeV), (∀ v ∈ as, oe_c1 v) → as[i]? = some v → (k + i, oe_val ad z v) ∈ lv_args k (as.map (oe_val ad z))
  | [], _, _, _, _, h => by simp at h
  | a :: as, k, i, v, hc, h => by
    have ha : (oe_val ad z a).category = 1 := oe_c1_cat (hc a List.mem_cons_self)
    cases i with
    | zero =>
      rw [List.getElem?_cons_zero] at h
      cases h
      simp [lv_args]
    | succ i =>
      rw [List.getElem?_cons_succ] at h
      have ih := oe_lvargs (ad := ad) (z := z) as (k + 1) i v (fun v hv => hc v (List.mem_cons_of_mem _ hv)) h
      simp only [List.map_cons, lv_args, ha]
      refine List.mem_cons_of_mem _ ?_
      have e : k + (i + 1) = k + 1 + i := by omega
      rw [e]
      exact ih
theorem oe_lgsl {ad : List Nat} {z : Nat → Int → Nat} : ∀ (as : List oeV), (∀ v ∈ as, oe_c1 v) → (lg_sl (as.map (oe_val ad z))).length = as.length
  | [], _ => rfl
  | a :: as, hc => by
    have ha : (oe_val ad z a).category = 1 := oe_c1_cat (hc a List.mem_cons_self)
    have ih := oe_lgsl (ad := ad) (z := z) as (fun v hv => hc v (List.mem_cons_of_mem _ hv))
    simp only [lg_sl, List.map_cons, List.flatMap_cons, ha, List.length_append, List.length_cons] at ih ⊢
    simp only [show ¬ (1 : Nat) = 2 by omega, if_false, List.length_cons, List.length_nil]
    omega
theorem oe_entF {j : Nat} {ad : List Nat} {z : Nat → Int → Nat} {as : List oeV} {n : Nat} (hc : ∀ v ∈ as, oe_c1 v) (hl : as.length ≤ oe_ml j) (hv : ∀ v ∈ as, oe_vv n v) :
    oe_GF j z n ad ((lg_sl (as.map (oe_val ad z)) ++ List.replicate (oe_ml j - (lg_sl (as.map (oe_val ad z))).length) Slot.unset).toArray) (oe_ent j as) [] := by
  have h0 := lv_entry (as.map (oe_val ad z)) (n := oe_ml j) (by rw [oe_lgsl as hc]; exact hl)
  refine ⟨⟨h0.1, h0.2.1, fun q hq => ?_⟩, by simp [oe_ent]; omega, fun v hv2 => ?_, oe_vv_nil⟩
  · obtain ⟨v, h1, h2⟩ := oe_lv_mem.mp hq
    apply h0.2.2
    have h3 : as[q.1]? = some v := by
      unfold oe_ent at h1
      by_cases hi : q.1 < as.length
      · rw [List.getElem?_append_left (by simpa using hi), List.getElem?_map, Option.map_eq_some_iff] at h1
        obtain ⟨w, e1, e2⟩ := h1
        cases e2
        exact e1
      · rw [List.getElem?_append_right (by simpa using hi)] at h1
        have := List.mem_of_getElem? h1
        rw [List.mem_replicate] at this
        cases this.2
    have h4 := oe_lvargs (ad := ad) (z := z) as 0 q.1 v hc h3
    rw [Nat.zero_add, ← h2] at h4
    exact h4
  · unfold oe_ent at hv2
    rcases List.mem_append.mp hv2 with q | q
    · rw [List.mem_map] at q
      obtain ⟨w, e1, e2⟩ := q
      cases e2
      exact ⟨hv v e1, hc v e1⟩
    · rw [List.mem_replicate] at q
      cases q.2
theorem oe_sound {l : Launch} {D : va_G} {cA : Nat → ClassId} {z : Nat → Int → Nat} {Z : (Nat → Prop) → State → Heap → Prop} (hZc : oe_Zc Z) (hbi : ∀ d j as hp Q, 6 ≤ d → oe_bi j as hp Q → oe_Met l D cA z Z (d + 1) j as hp Q) : ∀ (d j : Nat) (as : List oeV) (hp : oeH) (Q : oeQ), oe_M d j as hp Q → oe_Met l D cA z Z d j as hp Q
  | 0, _, _, _, _, h => h.elim
  | d + 1, j, as, hp, Q, h => by
    rcases h with ⟨h6, h⟩ | ⟨hc, hal, hV⟩
    · exact hbi d j as hp Q h6 h
    intro ad sz hlen hhv hvs
    refine Met.ofW (cc := oe_by j) (maxL := oe_ml j) (ret := oe_ret j) (oe_plain j) rfl ?_
    intro p e s m args below meth c s₁ B hml hv
    obtain ⟨rfl, hsz, hP, hK, hD0, hN, hZ⟩ := hv
    have hts := atoms_spec (ws := oe_wj j) B.pre
    have hown : s.vm.findClass (oe_ow j) = some m.cls := by rw [oe_ow_y]; exact findClass_of_methodNamed B.named
    have hr := B.returns
    have hlocks := B.notSynchronized
    subst hsz
    have hD := hD0.self (sz := s.heap.size)
    have hA : ∀ q : Nat, s.heap.size ≤ q → va_A (oe_ws cA ad hp) s.heap.size q := fun q h => Or.inr h
    have hFx : oe_Fx p (headSpec (oe_wj j) (oe_rm (d + 1) j)).room s m (as.map (oe_val ad z)).toArray meth c j d D cA (va_A (oe_ws cA ad hp) s.heap.size) (oe_cost j) Z :=
      ⟨B.exec, B.bytes, hml, hown, fun w hw => hts w (List.mem_cons_of_mem _ hw), hK, fun hi => by rw [(name_of_methodNamed B.named B.method).1]; exact oe_ini_y j hi, hA, rfl, rfl, Nat.le_refl _, Nat.le_refl _, hN, hZ⟩
    rw [lg_entry_eq]
    refine (hV (oe_X p l e (headSpec (oe_wj j) (oe_rm (d + 1) j)).room s m (as.map (oe_val ad z)).toArray below meth c _ j D cA z (va_A (oe_ws cA ad hp) s.heap.size) ad (oe_cost j)) (oe_main hZc hFx (fun q hq => by cases hq) ?_ (oe_sound hZc hbi d))) (Nat.zero_le _) (Nat.zero_le _) ad s.heap _ [] ⟨hP, hD, va_S.rf, hlen, hhv, ⟨[], (List.append_nil _).symm⟩⟩ (oe_entF hc hal hvs)
    intro pc i ls ad' H locs k n hp' r hG hQ hvr hk hn hd hrt
    obtain ⟨hP', hD', hS', hlen', hhv', hex⟩ := hG
    refine W.widen (k := (oe_cost j).1) (n := (oe_cost j).2) hk hn ?_
    have hq : ∀ t : State, t.heap = H → s.WarmedH t.vm → oe_Qc D cA z ad Q (va_A (oe_ws cA ad hp) s.heap.size) (as.map (oe_val ad z)).toArray s (.returned (r.map (oe_val ad' z))) t := fun t ht hW =>
      ⟨⟨r, hp', ad', rfl, hQ, hex, hlen', hhv', hvr, by rw [ht]; exact hP', hD'⟩, hS'.F ht⟩
    rcases r with _ | x | a | y
    · obtain ⟨rfl, h0⟩ := hrt
      exact W.vret B.exec B.bytes (by rw [hr]; exact oe_rt_0 j h0) hq hS'.2.2 hd
    · obtain ⟨rfl, h0⟩ := hrt
      rcases h0 with h0 | ⟨h0, h1⟩ | ⟨h0, h1⟩
      · exact W.iret B.exec B.bytes (by rw [hr]; exact oe_rt_1 j h0) hq hS'.2.2 hd
      · refine W.zret (ty := .boolean) B.exec B.bytes (by rw [hr]; exact oe_rt_2 j h0) ?_ hq hS'.2.2 hd
        rcases h1 with rfl | rfl <;> rfl
      · refine W.zret (ty := .char) B.exec B.bytes (by rw [hr]; exact oe_rt_3 j h0) ?_ hq hS'.2.2 hd
        have e := oe_narc h1.1 h1.2
        unfold vp_nar at e
        exact congrArg Value.int e
    · obtain ⟨rfl, h0⟩ := hrt
      obtain ⟨rt, e1, e2⟩ := oe_rt_4 j h0
      exact W.aret (rt := rt) B.exec B.bytes (by rw [hr]; exact e1) e2 (Or.inr ⟨_, rfl⟩) hq hS'.2.2 hd
    · exact hrt.elim
