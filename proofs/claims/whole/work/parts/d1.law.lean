/-! The law's loop in the small machine; its helpers are exits. -/
theorem lw_lost_ax (x : abF) : (ab_axm x).2.2.2.2.2.2 = x.2.2.2.2.2 := by
  unfold ab_axm
  split
  · rfl
  · split <;> rfl
theorem lw_lost_ty (x : abF) (c : Int) : (ab_type x c).2.2.2.2.2.2 = x.2.2.2.2.2 := by
  unfold ab_type
  split <;> rfl
theorem lw_lost_go (x : abF) : (ab_goal x).2.2.2.2.2.2 = x.2.2.2.2.2 := by
  unfold ab_goal
  split
  · rfl
  · split <;> rfl
theorem lw_lost_cm (x : abF) : (ab_compare x).2.2.2.2.2.2 = x.2.2.2.2.2 := by
  unfold ab_compare
  split <;> rfl
theorem lw_lost_re (x : abF) : (ab_reduce x).2.2.2.2.2.2 = x.2.2.2.2.2 := by
  unfold ab_reduce
  split
  · rfl
  · split <;> rfl
theorem lw_lost_un (x : abF) : (ab_unify x).2.2.2.2.2.2 = x.2.2.2.2.2 := by
  unfold ab_unify
  split
  · rfl
  · split
    · rfl
    · split <;> rfl
def LI (sh : List (Nat × Nat)) (g : Nat → Nat → Option Nat) (h : Nat → Nat → Int) (x : abF) : Prop := ∃ π, OeS sh g π ∧ OeF h π x ∧ MdS sh g 348 ∧ MdF h 348 x ∧ sh[379]? = some (3, 1)
theorem OeF.low {h h' : Nat → Nat → Int} {π : Nat → Nat} {x : abF} {sh : List (Nat × Nat)} {g : Nat → Nat → Option Nat} (hO : OeS sh g π) (H : OeF h π x) (e : ∀ c, c < 348 → h' c = h c) : OeF h' π x :=
  ⟨H.1.kept (by rw [e 0 (by omega)]) (e 1 (by omega)), H.2.1.kept (by rw [e 0 (by omega)]) (e 2 (by omega)), H.2.2.kept (fun i hi => (hO.2.2.1.2.2.2.2.2.1 i hi).1) (by rw [e 0 (by omega)]) (by rw [e 0 (by omega)]) (fun c _ _ z => e c (by omega))⟩
theorem MdF.high {h h' : Nat → Nat → Int} {x : abF} (H : MdF h 348 x) (e : ∀ c, 348 ≤ c → c ≤ 378 → h' c = h c) : MdF h' 348 x :=
  ⟨H.1.kept (by rw [e 348 (by omega) (by omega)]) (e _ (by omega) (by omega)), H.2.1.kept (by rw [e 348 (by omega) (by omega)]) (e _ (by omega) (by omega)), H.2.2.kept (fun c _ _ => e c (by omega) (by omega)) (by rw [e 348 (by omega) (by omega)]) (by rw [e 348 (by omega) (by omega)]) (by rw [e 348 (by omega) (by omega)]) (by rw [e 348 (by omega) (by omega)])⟩
theorem MdS.mv {sh : List (Nat × Nat)} {g g' : Nat → Nat → Option Nat} (H : MdS sh g 348) (e : ∀ c, c ≠ 4 → g' c = g c) : MdS sh g' 348 := ⟨H.1, fun q hq => by rw [e 348 (by omega)]; exact H.2 q hq⟩
def lL (i : Int) (a b : Option oeV) : List (Option oeV) := [some (.inr (.inr (3, 0))), some (.inr (.inl 0)), some (.inr (.inl 348)), some (.inr (.inl 379)), some (.inl i), a, b]
theorem lu : oe_c130.all (fun q => decide (oe_find oe_c130 q.1 = some q.2)) = true := by decide +kernel
theorem lf (k : Nat) {q : Nat × Jvm.ClassFile.Instr × Nat} (h : oe_c130[k]? = some q) : oe_find (oe_code 130) q.1 = some q.2 := oe_ft lu h
/-- helper conditions: what the call of a helper asks, and where it goes on -/
def lh_ax (d : Nat) (hp : oeH) (Q : oeQ) : Prop := oe_M d 5 [.inr (.inl 0)] hp (hm_Q 379 Q) ∨ (hp.2.1 0 4 = some 3 ∧ hp.1[3]? = some (11, 2) ∧ (∃ q n : Nat, hp.2.1 3 0 = some q ∧ hp.1[q]? = some (4, n) ∧ (n : Int) ≤ hp.2.2 3 1) ∧ Q (some (.inl 1)) hp)
def lh_st (d : Nat) (w : Int) (hp : oeH) (Q : oeQ) : Prop := oe_M d 8 [.inr (.inl 0), .inl w] hp (hm_Q 379 Q) ∨ ((w < 1 ∨ 20 < w) ∧ Q (some (.inl 1)) hp)
def lh_ct (d : Nat) (w : Int) (hp : oeH) (Q : oeQ) : Prop := oe_M d 9 [.inr (.inl 0), .inl w] hp (hm_Q 379 Q) ∨ ((w < 0 ∨ 2 < w) ∧ Q (some (.inl 1)) hp)
def lh_sh (d : Nat) (w i : Int) (hp : oeH) (Q : oeQ) : Prop := oe_M d 10 [.inr (.inl 0), .inl w, .inl i] hp (hm_Q 379 Q) ∨ ((w < 0 ∨ 2 < w) ∧ Q (some (.inl 1)) hp) ∨ (hp.2.1 0 5 = some 215 ∧ hp.1[215]? = some (6, 5) ∧ hp.2.1 0 4 = some 3 ∧ hp.1[3]? = some (11, 2) ∧ ((w = 2 ∧ hp.2.2 0 9 = 0) ∨ (w = 0 ∧ (i < 0 ∨ hp.2.2 215 1 ≤ i)) ∨ (w = 1 ∧ (i < 0 ∨ hp.2.2 3 1 ≤ i))) ∧ Q (some (.inl 2)) hp)
/-- X is closed: under the machine's steps, under forgetting, and at the four helpers -/
def lX (lim : Nat × Nat) (d Ln : Nat) (xs : Nat → Int) (Q : oeQ) (X : oeX) : Prop := oe_clo lim 130 d (some (Ln, xs)) Q X ∧ (∀ {pc : Nat} {A B : List (Option oeV)} {S : List oeV} {hp : oeH} {k n : Nat}, oe_fg A B → X pc A S hp k n → X pc B S hp k n) ∧
  (∀ (L : List (Option oeV)) (hp : oeH) (k n : Nat), hp.1[0]? = some (5, 14) → 379 < hp.1.length → k + 1 ≤ lim.1 → n + 6 ≤ lim.2 → lh_ax d hp (fun r hp' => X 149 L r.toList hp' (k + 1) (n + 6)) → X 146 L [.inr (.inl 379), .inr (.inl 0)] hp k n) ∧
  (∀ (L : List (Option oeV)) (hp : oeH) (k n : Nat) (w : Int), hp.1[0]? = some (5, 14) → 379 < hp.1.length → k + 1 ≤ lim.1 → n + 6 ≤ lim.2 → oe_rg w → lh_st d w hp (fun r hp' => X 225 L r.toList hp' (k + 1) (n + 6)) → X 222 L [.inr (.inl 379), .inl w, .inr (.inl 0)] hp k n) ∧
  (∀ (L : List (Option oeV)) (hp : oeH) (k n : Nat) (w : Int), hp.1[0]? = some (5, 14) → 379 < hp.1.length → k + 1 ≤ lim.1 → n + 6 ≤ lim.2 → oe_rg w → lh_ct d w hp (fun r hp' => X 281 L r.toList hp' (k + 1) (n + 6)) → X 278 L [.inr (.inl 379), .inl w, .inr (.inl 0)] hp k n) ∧
  (∀ (L : List (Option oeV)) (hp : oeH) (k n : Nat) (w i : Int), hp.1[0]? = some (5, 14) → 379 < hp.1.length → k + 1 ≤ lim.1 → n + 6 ≤ lim.2 → oe_rg w → oe_rg i → lh_sh d w i hp (fun r hp' => X 343 L r.toList hp' (k + 1) (n + 6)) → X 340 L [.inr (.inl 379), .inl i, .inl w, .inr (.inl 0)] hp k n)
section LW
variable {lim : Nat × Nat} {d Ln : Nat} {xs : Nat → Int} {Q : oeQ} {X : oeX} {sh : List (Nat × Nat)} {g : Nat → Nat → Option Nat} {h : Nat → Nat → Int} {k n i : Nat} {x : abF} {a b : Option oeV}
theorem LI.cls (H : LI sh g h x) {x' : abF} {π' : Nat → Nat} {g' : Nat → Nat → Option Nat} {h' : Nat → Nat → Int} (hO : OeS sh g' π') (hg : ∀ c, c ≠ 4 → g' c = g c) (hF : OeF h' π' x') (hh : ∀ c, 348 ≤ c → h' c = h c) : MdS sh g' 348 ∧ MdF h' 348 x := by
  obtain ⟨π, _, _, m1, m2, _⟩ := H
  exact ⟨m1.mv hg, m2.high (fun c z _ => hh c z)⟩

theorem law_wipe (hX : lX lim d Ln xs Q X) (hd : 78 ≤ d) (hk : k ≤ lim.1) (hn : n ≤ lim.2) (H : LI sh g h x) (next : ∀ g' h', LI sh g' h' ([], x.2) → X 471 (lL i a b) [] (sh, g', h') k n) : X 131 (lL (i : Int) a b) [] (sh, g, h) k n := by
  have HH := H
  obtain ⟨π, hO, hF, hM, hMF, h379⟩ := H
  refine w_aload_n hX.1 (lf 44 (q := (131, .aload_n 1, 1)) rfl) rfl ?_
  refine w_callv hX.1 (lf 45 (q := (132, .invokevirtual 4000, 3)) rfl) rfl hO.1 rfl (Nat.le_of_ble_eq_true rfl) (Nat.le_of_ble_eq_true rfl) (by show k + 0 ≤ lim.1; omega) (by show n + 0 ≤ lim.2; omega) ?_
  refine c_wipe (by omega) hO hF (fun h1 f1 e1 => ?_)
  obtain ⟨m1, m2⟩ := HH.cls hO (fun _ _ => rfl) f1 e1
  refine w_aload_n hX.1 (lf 46 (q := (135, .aload_n 2, 1)) rfl) rfl ?_
  refine w_callv hX.1 (lf 47 (q := (136, .invokevirtual 31070, 3)) rfl) rfl m1.1 rfl (Nat.le_of_ble_eq_true rfl) (Nat.le_of_ble_eq_true rfl) (by show k + 0 ≤ lim.1; omega) (by show n + 0 ≤ lim.2; omega) ?_
  refine m_wipe (by omega) m1 m2 (fun h2 f2 z2 o2 => ?_)
  refine w_ic_eq hX.1 (lf 48 (q := (139, .if_icmp .eq 471, 3)) rfl) (fun _ => ?_) (fun q => absurd rfl q)
  exact next g h2 ⟨π, hO, f1.low hO (fun c z => o2 c (Or.inl z)), m1, f2, h379⟩
theorem law_goal (hX : lX lim d Ln xs Q X) (hd : 78 ≤ d) (hk : k ≤ lim.1) (hn : n ≤ lim.2) (H : LI sh g h x) (next : ∀ g' h', LI sh g' h' (ab_goal x).2 → X 471 (lL i a b) [] (sh, g', h') k n) : X 188 (lL (i : Int) a b) [] (sh, g, h) k n := by
  have HH := H
  obtain ⟨π, hO, hF, hM, hMF, h379⟩ := H
  refine w_aload_n hX.1 (lf 75 (q := (188, .aload_n 1, 1)) rfl) rfl ?_
  refine w_callv hX.1 (lf 76 (q := (189, .invokevirtual 6000, 3)) rfl) rfl hO.1 rfl (Nat.le_of_ble_eq_true rfl) (Nat.le_of_ble_eq_true rfl) (by show k + 0 ≤ lim.1; omega) (by show n + 0 ≤ lim.2; omega) ?_
  refine c_goal (by omega) hO hF (fun h1 f1 e1 => ?_)
  obtain ⟨m1, m2⟩ := HH.cls hO (fun _ _ => rfl) f1 e1
  refine w_aload_n hX.1 (lf 77 (q := (192, .aload_n 2, 1)) rfl) rfl ?_
  refine w_callv hX.1 (lf 78 (q := (193, .invokevirtual 74070, 3)) rfl) rfl m1.1 rfl (Nat.le_of_ble_eq_true rfl) (Nat.le_of_ble_eq_true rfl) (by show k + 0 ≤ lim.1; omega) (by show n + 0 ≤ lim.2; omega) ?_
  refine m_goal (by omega) m1 m2 (fun h2 f2 z2 o2 => ?_)
  refine w_ic_eq hX.1 (lf 79 (q := (196, .if_icmp .eq 471, 3)) rfl) (fun _ => ?_) (fun q => absurd rfl q)
  exact next g h2 ⟨π, hO, f1.low hO (fun c z => o2 c (Or.inl z)), m1, f2, h379⟩
theorem law_cmp (hX : lX lim d Ln xs Q X) (hd : 78 ≤ d) (hk : k ≤ lim.1) (hn : n ≤ lim.2) (H : LI sh g h x) (next : ∀ g' h', LI sh g' h' (ab_compare x).2 → X 471 (lL i a b) [] (sh, g', h') k n) : X 394 (lL (i : Int) a b) [] (sh, g, h) k n := by
  have HH := H
  obtain ⟨π, hO, hF, hM, hMF, h379⟩ := H
  refine w_aload_n hX.1 (lf 201 (q := (394, .aload_n 1, 1)) rfl) rfl ?_
  refine w_callv hX.1 (lf 202 (q := (395, .invokevirtual 11000, 3)) rfl) rfl hO.1 rfl (Nat.le_of_ble_eq_true rfl) (Nat.le_of_ble_eq_true rfl) (by show k + 0 ≤ lim.1; omega) (by show n + 0 ≤ lim.2; omega) ?_
  refine c_compare (by omega) hO hF (fun h1 f1 e1 => ?_)
  obtain ⟨m1, m2⟩ := HH.cls hO (fun _ _ => rfl) f1 e1
  refine w_aload_n hX.1 (lf 203 (q := (398, .aload_n 2, 1)) rfl) rfl ?_
  refine w_callv hX.1 (lf 204 (q := (399, .invokevirtual 80070, 3)) rfl) rfl m1.1 rfl (Nat.le_of_ble_eq_true rfl) (Nat.le_of_ble_eq_true rfl) (by show k + 0 ≤ lim.1; omega) (by show n + 0 ≤ lim.2; omega) ?_
  refine m_compare (by omega) m1 m2 (fun h2 f2 z2 o2 => ?_)
  refine w_ic_eq hX.1 (lf 205 (q := (402, .if_icmp .eq 471, 3)) rfl) (fun _ => ?_) (fun q => absurd rfl q)
  exact next g h2 ⟨π, hO, f1.low hO (fun c z => o2 c (Or.inl z)), m1, f2, h379⟩
theorem law_uni (hX : lX lim d Ln xs Q X) (hd : 78 ≤ d) (hk : k ≤ lim.1) (hn : n ≤ lim.2) (H : LI sh g h x) (next : ∀ g' h', LI sh g' h' (ab_unify x).2 → X 471 (lL i a b) [] (sh, g', h') k n) : X 407 (lL (i : Int) a b) [] (sh, g, h) k n := by
  have HH := H
  obtain ⟨π, hO, hF, hM, hMF, h379⟩ := H
  refine w_aload_n hX.1 (lf 208 (q := (407, .aload_n 1, 1)) rfl) rfl ?_
  refine w_callv hX.1 (lf 209 (q := (408, .invokevirtual 12000, 3)) rfl) rfl hO.1 rfl (Nat.le_of_ble_eq_true rfl) (Nat.le_of_ble_eq_true rfl) (by show k + 0 ≤ lim.1; omega) (by show n + 0 ≤ lim.2; omega) ?_
  refine c_unify (by omega) hO hF (fun h1 f1 e1 => ?_)
  obtain ⟨m1, m2⟩ := HH.cls hO (fun _ _ => rfl) f1 e1
  refine w_aload_n hX.1 (lf 210 (q := (411, .aload_n 2, 1)) rfl) rfl ?_
  refine w_callv hX.1 (lf 211 (q := (412, .invokevirtual 81070, 3)) rfl) rfl m1.1 rfl (Nat.le_of_ble_eq_true rfl) (Nat.le_of_ble_eq_true rfl) (by show k + 0 ≤ lim.1; omega) (by show n + 0 ≤ lim.2; omega) ?_
  refine m_unify (by omega) m1 m2 (fun h2 f2 z2 o2 => ?_)
  refine w_ic_eq hX.1 (lf 212 (q := (415, .if_icmp .eq 471, 3)) rfl) (fun _ => ?_) (fun q => absurd rfl q)
  exact next g h2 ⟨π, hO, f1.low hO (fun c z => o2 c (Or.inl z)), m1, f2, h379⟩
theorem law_red (hX : lX lim d Ln xs Q X) (hd : 78 ≤ d) (hk : k ≤ lim.1) (hn : n ≤ lim.2) (H : LI sh g h x) (next : ∀ g' h', LI sh g' h' (ab_reduce x).2 → X 471 (lL i a b) [] (sh, g', h') k n) : X 420 (lL (i : Int) a b) [] (sh, g, h) k n := by
  have HH := H
  obtain ⟨π, hO, hF, hM, hMF, h379⟩ := H
  refine w_aload_n hX.1 (lf 215 (q := (420, .aload_n 1, 1)) rfl) rfl ?_
  refine w_callv hX.1 (lf 216 (q := (421, .invokevirtual 13000, 3)) rfl) rfl hO.1 rfl (Nat.le_of_ble_eq_true rfl) (Nat.le_of_ble_eq_true rfl) (by show k + 0 ≤ lim.1; omega) (by show n + 0 ≤ lim.2; omega) ?_
  refine c_reduce (by omega) hO hF (fun h1 f1 e1 => ?_)
  obtain ⟨m1, m2⟩ := HH.cls hO (fun _ _ => rfl) f1 e1
  refine w_aload_n hX.1 (lf 217 (q := (424, .aload_n 2, 1)) rfl) rfl ?_
  refine w_callv hX.1 (lf 218 (q := (425, .invokevirtual 82070, 3)) rfl) rfl m1.1 rfl (Nat.le_of_ble_eq_true rfl) (Nat.le_of_ble_eq_true rfl) (by show k + 0 ≤ lim.1; omega) (by show n + 0 ≤ lim.2; omega) ?_
  refine m_reduce (by omega) m1 m2 (fun h2 f2 z2 o2 => ?_)
  refine w_ic_eq hX.1 (lf 219 (q := (428, .if_icmp .eq 471, 3)) rfl) (fun _ => ?_) (fun q => absurd rfl q)
  exact next g h2 ⟨π, hO, f1.low hO (fun c z => o2 c (Or.inl z)), m1, f2, h379⟩
theorem law_step (hX : lX lim d Ln xs Q X) (hd : 78 ≤ d) (hk : k ≤ lim.1) (hn : n ≤ lim.2) (H : LI sh g h x) (hlb : x.2.2.2.2.2 < 1700000000) (next : ∀ g' h', LI sh g' h' (x.1, x.2.1, (ab_st x.2.2).2) → (ab_st x.2.2).2.2.2.2 ≤ x.2.2.2.2.2 + 1600 → X 471 (lL i a b) [] (sh, g', h') k n) : X 201 (lL (i : Int) a b) [] (sh, g, h) k n := by
  have HH := H
  obtain ⟨π, hO, hF, hM, hMF, h379⟩ := H
  refine w_aload_n hX.1 (lf 82 (q := (201, .aload_n 1, 1)) rfl) rfl ?_
  refine w_callv hX.1 (lf 83 (q := (202, .invokevirtual 7000, 3)) rfl) rfl hO.1 rfl (Nat.le_of_ble_eq_true rfl) (Nat.le_of_ble_eq_true rfl) (by show k + 0 ≤ lim.1; omega) (by show n + 0 ≤ lim.2; omega) ?_
  refine c_step1 (by omega) hO hF hlb (fun π1 g1 h1 s1 gg f1 lb e1 => ?_)
  obtain ⟨m1, m2⟩ := HH.cls s1 gg f1 e1
  refine w_aload_n hX.1 (lf 84 (q := (205, .aload_n 2, 1)) rfl) rfl ?_
  refine w_callv hX.1 (lf 85 (q := (206, .invokevirtual 75070, 3)) rfl) rfl m1.1 rfl (Nat.le_of_ble_eq_true rfl) (Nat.le_of_ble_eq_true rfl) (by show k + 0 ≤ lim.1; omega) (by show n + 0 ≤ lim.2; omega) ?_
  refine m_step (by omega) m1 m2 hlb (fun h2 f2 z2 o2 => ?_)
  refine w_ic_eq hX.1 (lf 86 (q := (209, .if_icmp .eq 471, 3)) rfl) (fun _ => ?_) (fun q => absurd rfl q)
  exact next g1 h2 ⟨π1, s1, f1.low s1 (fun c z => o2 c (Or.inl z)), m1, f2, h379⟩ lb
theorem law_len (hX : lX lim d Ln xs Q X) (hd : 78 ≤ d) (hk : k ≤ lim.1) (hn : n ≤ lim.2) (H : LI sh g h x) (next : ∀ g' h', LI sh g' h' x → X 471 (lL i a b) [] (sh, g', h') k n) : X 433 (lL (i : Int) a b) [] (sh, g, h) k n := by
  obtain ⟨π, hO, hF, hM, hMF, h379⟩ := H
  refine w_aload_n hX.1 (lf 222 (q := (433, .aload_n 1, 1)) rfl) rfl ?_
  refine w_callv hX.1 (lf 223 (q := (434, .invokevirtual 14000, 3)) rfl) rfl hO.1 rfl (Nat.le_of_ble_eq_true rfl) (Nat.le_of_ble_eq_true rfl) (by show k + 0 ≤ lim.1; omega) (by show n + 0 ≤ lim.2; omega) ?_
  refine c_length (by omega) hO hF ?_
  refine w_aload_n hX.1 (lf 224 (q := (437, .aload_n 2, 1)) rfl) rfl ?_
  refine w_callv hX.1 (lf 225 (q := (438, .invokevirtual 83070, 3)) rfl) rfl hM.1 rfl (Nat.le_of_ble_eq_true rfl) (Nat.le_of_ble_eq_true rfl) (by show k + 0 ≤ lim.1; omega) (by show n + 0 ≤ lim.2; omega) ?_
  refine m_length (by omega) hM hMF (fun h2 f2 z2 o2 => ?_)
  refine w_ic_eq hX.1 (lf 226 (q := (441, .if_icmp .eq 471, 3)) rfl) (fun _ => ?_) (fun q => absurd rfl q)
  exact next g h2 ⟨π, hO, hF.low hO (fun c z => o2 c (Or.inl z)), hM, f2, h379⟩
theorem law_type (hX : lX lim d Ln xs Q X) (hd : 78 ≤ d) (hk : k ≤ lim.1) (hn : n ≤ lim.2) (H : LI sh g h x) (hi : i + 3 ≤ Ln) (hLn : Ln ≤ 1536) (next : ∀ g' h', LI sh g' h' (ab_type x (xs ((i : Int) + 1).toNat % 65536)).2 → X 471 (lL i a b) [] (sh, g', h') k n) : X 104 (lL (i : Int) a b) [] (sh, g, h) k n := by
  have HH := H
  obtain ⟨π, hO, hF, hM, hMF, h379⟩ := H
  refine w_aload_n hX.1 (lf 25 (q := (104, .aload_n 1, 1)) rfl) rfl ?_
  refine w_aload_s hX.1 (lf 26 (q := (105, .aload_n 0, 1)) rfl) rfl ?_
  refine w_iload hX.1 (lf 27 (q := (106, .iload 4, 2)) rfl) rfl ?_
  refine w_iconst hX.1 (lf 28 (q := (108, .iconst 1, 1)) rfl) ?_
  refine w_iadd hX.1 (lf 29 (q := (109, .iadd, 1)) rfl) ⟨by omega, by omega⟩ ?_
  refine w_sald hX.1 (lf 30 (q := (110, .iaload, 1)) rfl) (by omega) (by show ((i : Nat) : Int) + 1 < ((Ln : Nat) : Int); omega) ?_
  refine w_i2c hX.1 (lf 31 (q := (111, .i2c, 1)) rfl) ?_
  refine w_callv hX.1 (lf 32 (q := (112, .invokevirtual 3001, 3)) rfl) rfl hO.1 rfl (Nat.le_of_ble_eq_true rfl) (Nat.le_of_ble_eq_true rfl) (by show k + 0 ≤ lim.1; omega) (by show n + 0 ≤ lim.2; omega) ?_
  refine c_type (by omega) hO hF _ (fun h1 f1 e1 => ?_)
  obtain ⟨m1, m2⟩ := HH.cls hO (fun _ _ => rfl) f1 e1
  refine w_aload_n hX.1 (lf 33 (q := (115, .aload_n 2, 1)) rfl) rfl ?_
  refine w_aload_s hX.1 (lf 34 (q := (116, .aload_n 0, 1)) rfl) rfl ?_
  refine w_iload hX.1 (lf 35 (q := (117, .iload 4, 2)) rfl) rfl ?_
  refine w_iconst hX.1 (lf 36 (q := (119, .iconst 1, 1)) rfl) ?_
  refine w_iadd hX.1 (lf 37 (q := (120, .iadd, 1)) rfl) ⟨by omega, by omega⟩ ?_
  refine w_sald hX.1 (lf 38 (q := (121, .iaload, 1)) rfl) (by omega) (by show ((i : Nat) : Int) + 1 < ((Ln : Nat) : Int); omega) ?_
  refine w_i2c hX.1 (lf 39 (q := (122, .i2c, 1)) rfl) ?_
  refine w_callv hX.1 (lf 40 (q := (123, .invokevirtual 30071, 3)) rfl) rfl m1.1 rfl (Nat.le_of_ble_eq_true rfl) (Nat.le_of_ble_eq_true rfl) (by show k + 0 ≤ lim.1; omega) (by show n + 0 ≤ lim.2; omega) ?_
  refine m_type (by omega) m1 m2 _ (fun h2 f2 z2 o2 => ?_)
  refine w_ic_eq hX.1 (lf 41 (q := (126, .if_icmp .eq 471, 3)) rfl) (fun _ => ?_) (fun q => absurd rfl q)
  exact next g h2 ⟨π, hO, f1.low hO (fun c z => o2 c (Or.inl z)), m1, f2, h379⟩
theorem law_char (hX : lX lim d Ln xs Q X) (hd : 78 ≤ d) (hk : k ≤ lim.1) (hn : n ≤ lim.2) (H : LI sh g h x) (hi : i + 3 ≤ Ln) (hLn : Ln ≤ 1536) (next : ∀ g' h', LI sh g' h' x → X 471 (lL i a b) [] (sh, g', h') k n) : X 446 (lL (i : Int) a b) [] (sh, g, h) k n := by
  obtain ⟨π, hO, hF, hM, hMF, h379⟩ := H
  refine w_aload_n hX.1 (lf 229 (q := (446, .aload_n 1, 1)) rfl) rfl ?_
  refine w_aload_s hX.1 (lf 230 (q := (447, .aload_n 0, 1)) rfl) rfl ?_
  refine w_iload hX.1 (lf 231 (q := (448, .iload 4, 2)) rfl) rfl ?_
  refine w_iconst hX.1 (lf 232 (q := (450, .iconst 1, 1)) rfl) ?_
  refine w_iadd hX.1 (lf 233 (q := (451, .iadd, 1)) rfl) ⟨by omega, by omega⟩ ?_
  refine w_sald hX.1 (lf 234 (q := (452, .iaload, 1)) rfl) (by omega) (by show ((i : Nat) : Int) + 1 < ((Ln : Nat) : Int); omega) ?_
  refine w_callv hX.1 (lf 235 (q := (453, .invokevirtual 15001, 3)) rfl) rfl hO.1 rfl (Nat.le_of_ble_eq_true rfl) (Nat.le_of_ble_eq_true rfl) (by show k + 0 ≤ lim.1; omega) (by show n + 0 ≤ lim.2; omega) ?_
  refine c_charAt (by omega) hO hF _ ?_
  refine w_aload_n hX.1 (lf 236 (q := (456, .aload_n 2, 1)) rfl) rfl ?_
  refine w_aload_s hX.1 (lf 237 (q := (457, .aload_n 0, 1)) rfl) rfl ?_
  refine w_iload hX.1 (lf 238 (q := (458, .iload 4, 2)) rfl) rfl ?_
  refine w_iconst hX.1 (lf 239 (q := (460, .iconst 1, 1)) rfl) ?_
  refine w_iadd hX.1 (lf 240 (q := (461, .iadd, 1)) rfl) ⟨by omega, by omega⟩ ?_
  refine w_sald hX.1 (lf 241 (q := (462, .iaload, 1)) rfl) (by omega) (by show ((i : Nat) : Int) + 1 < ((Ln : Nat) : Int); omega) ?_
  refine w_callv hX.1 (lf 242 (q := (463, .invokevirtual 84071, 3)) rfl) rfl hM.1 rfl (Nat.le_of_ble_eq_true rfl) (Nat.le_of_ble_eq_true rfl) (by show k + 0 ≤ lim.1; omega) (by show n + 0 ≤ lim.2; omega) ?_
  refine m_charAt (by omega) hM hMF _ (fun h2 f2 z2 o2 => ?_)
  refine w_ic_eq hX.1 (lf 243 (q := (466, .if_icmp .eq 471, 3)) rfl) (fun _ => ?_) (fun q => absurd rfl q)
  exact next g h2 ⟨π, hO, hF.low hO (fun c z => o2 c (Or.inl z)), hM, f2, h379⟩
theorem law_tax (hX : lX lim d Ln xs Q X) (hd : 78 ≤ d) (hk : k ≤ lim.1) (hn : n ≤ lim.2)  {kf v : Int} {π : Nat → Nat} (hO : OeS sh g π) (hF : OeF h π x) (hM : MdS sh g 348) (h379 : sh[379]? = some (3, 1)) (hv : kf = 0 → h 379 0 = v)
    (hm : ∀ Qc : oeQ, (∀ h', MdF h' 348 x → h' 348 0 = kf → md_o 348 h h' → Qc (some (.inl v)) (sh, g, h')) → oe_M d 73 [.inr (.inl 348)] (sh, g, h) Qc)
    (next : ∀ a' b' g' h', LI sh g' h' x → X 471 (lL (i : Int) a' b') [] (sh, g', h') k n) : X 149 (lL (i : Int) a b) [.inl kf] (sh, g, h) k n := by
  refine w_istore hX.1 (lf 53 (q := (149, .istore 5, 2)) rfl) ?_
  refine w_aload_n hX.1 (lf 54 (q := (151, .aload_n 2, 1)) rfl) rfl ?_
  refine w_callv hX.1 (lf 55 (q := (152, .invokevirtual 73070, 3)) rfl) rfl hM.1 rfl (Nat.le_of_ble_eq_true rfl) (Nat.le_of_ble_eq_true rfl) (by show k + 0 ≤ lim.1; omega) (by show n + 0 ≤ lim.2; omega) ?_
  refine hm _ (fun h1 f1 z1 o1 => ?_)
  refine w_istore hX.1 (lf 56 (q := (155, .istore 6, 2)) rfl) ?_
  refine w_aload_n hX.1 (lf 57 (q := (157, .aload_n 2, 1)) rfl) rfl ?_
  refine w_callv hX.1 (lf 58 (q := (158, .invokevirtual 29070, 3)) rfl) rfl hM.1 rfl (Nat.le_of_ble_eq_true rfl) (Nat.le_of_ble_eq_true rfl) (by show k + 0 ≤ lim.1; omega) (by show n + 0 ≤ lim.2; omega) ?_
  refine m_thrown (by omega) hM ?_
  rw [z1]
  refine w_iload hX.1 (lf 59 (q := (161, .iload 5, 2)) rfl) rfl ?_
  refine w_ic_eq hX.1 (lf 60 (q := (163, .if_icmp .eq 168, 3)) rfl) (fun _ => ?_) (fun q => absurd rfl q)
  have hL : LI sh g h1 x := ⟨π, hO, hF.low hO (fun c z => o1 c (Or.inl z)), hM, f1, h379⟩
  refine w_iload hX.1 (lf 63 (q := (168, .iload 5, 2)) rfl) rfl ?_
  have fin : X 185 (lL (i : Int) (some (.inl kf)) (some (.inl v))) [] (sh, g, h1) k n := w_goto hX.1 (lf 74 (q := (185, .goto 471, 3)) rfl) (next _ _ g h1 hL)
  refine w_if_ne hX.1 (lf 64 (q := (170, .ifCond .ne 185, 3)) rfl) (fun _ => fin) (fun e0 => ?_)
  refine w_aload_n hX.1 (lf 65 (q := (173, .aload_n 3, 1)) rfl) rfl ?_
  refine w_iconst hX.1 (lf 66 (q := (174, .iconst 0, 1)) rfl) ?_
  refine w_laload hX.1 (lf 67 (q := (175, .laload, 1)) rfl) h379 (Int.le_refl 0) (by omega) ?_
  refine w_iload hX.1 (lf 68 (q := (176, .iload 6, 2)) rfl) rfl ?_
  refine w_i2l hX.1 (lf 69 (q := (178, .i2l, 1)) rfl) ?_
  refine w_lcmp hX.1 (lf 70 (q := (179, .lcmp, 1)) rfl) ?_
  have e1 : h1 379 (0 : Int).toNat = v := by rw [o1 379 (Or.inr (by omega))]; exact hv e0
  rw [e1, if_neg (Int.lt_irrefl v), if_pos rfl]
  exact w_if_eq hX.1 (lf 71 (q := (180, .ifCond .eq 185, 3)) rfl) (fun _ => fin) (fun q => absurd rfl q)
theorem law_tst (hX : lX lim d Ln xs Q X) (hd : 78 ≤ d) (hk : k ≤ lim.1) (hn : n ≤ lim.2) (hi : i + 3 ≤ Ln) (hLn : Ln ≤ 1536) {kf v : Int} {π : Nat → Nat} (hO : OeS sh g π) (hF : OeF h π x) (hM : MdS sh g 348) (h379 : sh[379]? = some (3, 1)) (hv : kf = 0 → h 379 0 = v)
    (hm : ∀ Qc : oeQ, (∀ h', MdF h' 348 x → h' 348 0 = kf → md_o 348 h h' → Qc (some (.inl v)) (sh, g, h')) → oe_M d 76 [.inr (.inl 348), .inl (xs (((i : Nat) : Int) + 1).toNat)] (sh, g, h) Qc)
    (next : ∀ a' b' g' h', LI sh g' h' x → X 471 (lL (i : Int) a' b') [] (sh, g', h') k n) : X 225 (lL (i : Int) a b) [.inl kf] (sh, g, h) k n := by
  refine w_istore hX.1 (lf 96 (q := (225, .istore 5, 2)) rfl) ?_
  refine w_aload_n hX.1 (lf 97 (q := (227, .aload_n 2, 1)) rfl) rfl ?_
  refine w_aload_s hX.1 (lf 98 (q := (228, .aload_n 0, 1)) rfl) rfl ?_
  refine w_iload hX.1 (lf 99 (q := (229, .iload 4, 2)) rfl) rfl ?_
  refine w_iconst hX.1 (lf 100 (q := (231, .iconst 1, 1)) rfl) ?_
  refine w_iadd hX.1 (lf 101 (q := (232, .iadd, 1)) rfl) ⟨by omega, by omega⟩ ?_
  refine w_sald hX.1 (lf 102 (q := (233, .iaload, 1)) rfl) (by omega) (by show ((i : Nat) : Int) + 1 < ((Ln : Nat) : Int); omega) ?_
  refine w_callv hX.1 (lf 103 (q := (234, .invokevirtual 76071, 3)) rfl) rfl hM.1 rfl (Nat.le_of_ble_eq_true rfl) (Nat.le_of_ble_eq_true rfl) (by show k + 0 ≤ lim.1; omega) (by show n + 0 ≤ lim.2; omega) ?_
  refine hm _ (fun h1 f1 z1 o1 => ?_)
  refine w_istore hX.1 (lf 104 (q := (237, .istore 6, 2)) rfl) ?_
  refine w_aload_n hX.1 (lf 105 (q := (239, .aload_n 2, 1)) rfl) rfl ?_
  refine w_callv hX.1 (lf 106 (q := (240, .invokevirtual 29070, 3)) rfl) rfl hM.1 rfl (Nat.le_of_ble_eq_true rfl) (Nat.le_of_ble_eq_true rfl) (by show k + 0 ≤ lim.1; omega) (by show n + 0 ≤ lim.2; omega) ?_
  refine m_thrown (by omega) hM ?_
  rw [z1]
  refine w_iload hX.1 (lf 107 (q := (243, .iload 5, 2)) rfl) rfl ?_
  refine w_ic_eq hX.1 (lf 108 (q := (245, .if_icmp .eq 250, 3)) rfl) (fun _ => ?_) (fun q => absurd rfl q)
  have hL : LI sh g h1 x := ⟨π, hO, hF.low hO (fun c z => o1 c (Or.inl z)), hM, f1, h379⟩
  refine w_iload hX.1 (lf 111 (q := (250, .iload 5, 2)) rfl) rfl ?_
  have fin : X 267 (lL (i : Int) (some (.inl kf)) (some (.inl v))) [] (sh, g, h1) k n := w_goto hX.1 (lf 122 (q := (267, .goto 471, 3)) rfl) (next _ _ g h1 hL)
  refine w_if_ne hX.1 (lf 112 (q := (252, .ifCond .ne 267, 3)) rfl) (fun _ => fin) (fun e0 => ?_)
  refine w_aload_n hX.1 (lf 113 (q := (255, .aload_n 3, 1)) rfl) rfl ?_
  refine w_iconst hX.1 (lf 114 (q := (256, .iconst 0, 1)) rfl) ?_
  refine w_laload hX.1 (lf 115 (q := (257, .laload, 1)) rfl) h379 (Int.le_refl 0) (by omega) ?_
  refine w_iload hX.1 (lf 116 (q := (258, .iload 6, 2)) rfl) rfl ?_
  refine w_i2l hX.1 (lf 117 (q := (260, .i2l, 1)) rfl) ?_
  refine w_lcmp hX.1 (lf 118 (q := (261, .lcmp, 1)) rfl) ?_
  have e1 : h1 379 (0 : Int).toNat = v := by rw [o1 379 (Or.inr (by omega))]; exact hv e0
  rw [e1, if_neg (Int.lt_irrefl v), if_pos rfl]
  exact w_if_eq hX.1 (lf 119 (q := (262, .ifCond .eq 267, 3)) rfl) (fun _ => fin) (fun q => absurd rfl q)
theorem law_tct (hX : lX lim d Ln xs Q X) (hd : 78 ≤ d) (hk : k ≤ lim.1) (hn : n ≤ lim.2) (hi : i + 3 ≤ Ln) (hLn : Ln ≤ 1536) {kf v : Int} {π : Nat → Nat} (hO : OeS sh g π) (hF : OeF h π x) (hM : MdS sh g 348) (h379 : sh[379]? = some (3, 1)) (hv : kf = 0 → h 379 0 = v)
    (hm : ∀ Qc : oeQ, (∀ h', MdF h' 348 x → h' 348 0 = kf → md_o 348 h h' → Qc (some (.inl v)) (sh, g, h')) → oe_M d 77 [.inr (.inl 348), .inl (xs (((i : Nat) : Int) + 1).toNat)] (sh, g, h) Qc)
    (next : ∀ a' b' g' h', LI sh g' h' x → X 471 (lL (i : Int) a' b') [] (sh, g', h') k n) : X 281 (lL (i : Int) a b) [.inl kf] (sh, g, h) k n := by
  refine w_istore hX.1 (lf 130 (q := (281, .istore 5, 2)) rfl) ?_
  refine w_aload_n hX.1 (lf 131 (q := (283, .aload_n 2, 1)) rfl) rfl ?_
  refine w_aload_s hX.1 (lf 132 (q := (284, .aload_n 0, 1)) rfl) rfl ?_
  refine w_iload hX.1 (lf 133 (q := (285, .iload 4, 2)) rfl) rfl ?_
  refine w_iconst hX.1 (lf 134 (q := (287, .iconst 1, 1)) rfl) ?_
  refine w_iadd hX.1 (lf 135 (q := (288, .iadd, 1)) rfl) ⟨by omega, by omega⟩ ?_
  refine w_sald hX.1 (lf 136 (q := (289, .iaload, 1)) rfl) (by omega) (by show ((i : Nat) : Int) + 1 < ((Ln : Nat) : Int); omega) ?_
  refine w_callv hX.1 (lf 137 (q := (290, .invokevirtual 77071, 3)) rfl) rfl hM.1 rfl (Nat.le_of_ble_eq_true rfl) (Nat.le_of_ble_eq_true rfl) (by show k + 0 ≤ lim.1; omega) (by show n + 0 ≤ lim.2; omega) ?_
  refine hm _ (fun h1 f1 z1 o1 => ?_)
  refine w_istore hX.1 (lf 138 (q := (293, .istore 6, 2)) rfl) ?_
  refine w_aload_n hX.1 (lf 139 (q := (295, .aload_n 2, 1)) rfl) rfl ?_
  refine w_callv hX.1 (lf 140 (q := (296, .invokevirtual 29070, 3)) rfl) rfl hM.1 rfl (Nat.le_of_ble_eq_true rfl) (Nat.le_of_ble_eq_true rfl) (by show k + 0 ≤ lim.1; omega) (by show n + 0 ≤ lim.2; omega) ?_
  refine m_thrown (by omega) hM ?_
  rw [z1]
  refine w_iload hX.1 (lf 141 (q := (299, .iload 5, 2)) rfl) rfl ?_
  refine w_ic_eq hX.1 (lf 142 (q := (301, .if_icmp .eq 306, 3)) rfl) (fun _ => ?_) (fun q => absurd rfl q)
  have hL : LI sh g h1 x := ⟨π, hO, hF.low hO (fun c z => o1 c (Or.inl z)), hM, f1, h379⟩
  refine w_iload hX.1 (lf 145 (q := (306, .iload 5, 2)) rfl) rfl ?_
  have fin : X 323 (lL (i : Int) (some (.inl kf)) (some (.inl v))) [] (sh, g, h1) k n := w_goto hX.1 (lf 156 (q := (323, .goto 471, 3)) rfl) (next _ _ g h1 hL)
  refine w_if_ne hX.1 (lf 146 (q := (308, .ifCond .ne 323, 3)) rfl) (fun _ => fin) (fun e0 => ?_)
  refine w_aload_n hX.1 (lf 147 (q := (311, .aload_n 3, 1)) rfl) rfl ?_
  refine w_iconst hX.1 (lf 148 (q := (312, .iconst 0, 1)) rfl) ?_
  refine w_laload hX.1 (lf 149 (q := (313, .laload, 1)) rfl) h379 (Int.le_refl 0) (by omega) ?_
  refine w_iload hX.1 (lf 150 (q := (314, .iload 6, 2)) rfl) rfl ?_
  refine w_i2l hX.1 (lf 151 (q := (316, .i2l, 1)) rfl) ?_
  refine w_lcmp hX.1 (lf 152 (q := (317, .lcmp, 1)) rfl) ?_
  have e1 : h1 379 (0 : Int).toNat = v := by rw [o1 379 (Or.inr (by omega))]; exact hv e0
  rw [e1, if_neg (Int.lt_irrefl v), if_pos rfl]
  exact w_if_eq hX.1 (lf 153 (q := (318, .ifCond .eq 323, 3)) rfl) (fun _ => fin) (fun q => absurd rfl q)
theorem law_tsh (hX : lX lim d Ln xs Q X) (hd : 78 ≤ d) (hk : k ≤ lim.1) (hn : n ≤ lim.2) (hi : i + 3 ≤ Ln) (hLn : Ln ≤ 1536) {kf v : Int} {π : Nat → Nat} (hO : OeS sh g π) (hF : OeF h π x) (hM : MdS sh g 348) (h379 : sh[379]? = some (3, 1)) (hv : kf = 0 → h 379 0 = v)
    (hm : ∀ Qc : oeQ, (∀ h', MdF h' 348 x → h' 348 0 = kf → md_o 348 h h' → Qc (some (.inl v)) (sh, g, h')) → oe_M d 79 [.inr (.inl 348), .inl (xs (((i : Nat) : Int) + 1).toNat), .inl (xs (((i : Nat) : Int) + 2).toNat)] (sh, g, h) Qc)
    (next : ∀ a' b' g' h', LI sh g' h' x → X 471 (lL (i : Int) a' b') [] (sh, g', h') k n) : X 343 (lL (i : Int) a b) [.inl kf] (sh, g, h) k n := by
  refine w_istore hX.1 (lf 169 (q := (343, .istore 5, 2)) rfl) ?_
  refine w_aload_n hX.1 (lf 170 (q := (345, .aload_n 2, 1)) rfl) rfl ?_
  refine w_aload_s hX.1 (lf 171 (q := (346, .aload_n 0, 1)) rfl) rfl ?_
  refine w_iload hX.1 (lf 172 (q := (347, .iload 4, 2)) rfl) rfl ?_
  refine w_iconst hX.1 (lf 173 (q := (349, .iconst 1, 1)) rfl) ?_
  refine w_iadd hX.1 (lf 174 (q := (350, .iadd, 1)) rfl) ⟨by omega, by omega⟩ ?_
  refine w_sald hX.1 (lf 175 (q := (351, .iaload, 1)) rfl) (by omega) (by show ((i : Nat) : Int) + 1 < ((Ln : Nat) : Int); omega) ?_
  refine w_aload_s hX.1 (lf 176 (q := (352, .aload_n 0, 1)) rfl) rfl ?_
  refine w_iload hX.1 (lf 177 (q := (353, .iload 4, 2)) rfl) rfl ?_
  refine w_iconst hX.1 (lf 178 (q := (355, .iconst 2, 1)) rfl) ?_
  refine w_iadd hX.1 (lf 179 (q := (356, .iadd, 1)) rfl) ⟨by omega, by omega⟩ ?_
  refine w_sald hX.1 (lf 180 (q := (357, .iaload, 1)) rfl) (by omega) (by show ((i : Nat) : Int) + 2 < ((Ln : Nat) : Int); omega) ?_
  refine w_callv hX.1 (lf 181 (q := (358, .invokevirtual 79072, 3)) rfl) rfl hM.1 rfl (Nat.le_of_ble_eq_true rfl) (Nat.le_of_ble_eq_true rfl) (by show k + 0 ≤ lim.1; omega) (by show n + 0 ≤ lim.2; omega) ?_
  refine hm _ (fun h1 f1 z1 o1 => ?_)
  refine w_istore hX.1 (lf 182 (q := (361, .istore 6, 2)) rfl) ?_
  refine w_aload_n hX.1 (lf 183 (q := (363, .aload_n 2, 1)) rfl) rfl ?_
  refine w_callv hX.1 (lf 184 (q := (364, .invokevirtual 29070, 3)) rfl) rfl hM.1 rfl (Nat.le_of_ble_eq_true rfl) (Nat.le_of_ble_eq_true rfl) (by show k + 0 ≤ lim.1; omega) (by show n + 0 ≤ lim.2; omega) ?_
  refine m_thrown (by omega) hM ?_
  rw [z1]
  refine w_iload hX.1 (lf 185 (q := (367, .iload 5, 2)) rfl) rfl ?_
  refine w_ic_eq hX.1 (lf 186 (q := (369, .if_icmp .eq 374, 3)) rfl) (fun _ => ?_) (fun q => absurd rfl q)
  have hL : LI sh g h1 x := ⟨π, hO, hF.low hO (fun c z => o1 c (Or.inl z)), hM, f1, h379⟩
  refine w_iload hX.1 (lf 189 (q := (374, .iload 5, 2)) rfl) rfl ?_
  have fin : X 391 (lL (i : Int) (some (.inl kf)) (some (.inl v))) [] (sh, g, h1) k n := w_goto hX.1 (lf 200 (q := (391, .goto 471, 3)) rfl) (next _ _ g h1 hL)
  refine w_if_ne hX.1 (lf 190 (q := (376, .ifCond .ne 391, 3)) rfl) (fun _ => fin) (fun e0 => ?_)
  refine w_aload_n hX.1 (lf 191 (q := (379, .aload_n 3, 1)) rfl) rfl ?_
  refine w_iconst hX.1 (lf 192 (q := (380, .iconst 0, 1)) rfl) ?_
  refine w_laload hX.1 (lf 193 (q := (381, .laload, 1)) rfl) h379 (Int.le_refl 0) (by omega) ?_
  refine w_iload hX.1 (lf 194 (q := (382, .iload 6, 2)) rfl) rfl ?_
  refine w_i2l hX.1 (lf 195 (q := (384, .i2l, 1)) rfl) ?_
  refine w_lcmp hX.1 (lf 196 (q := (385, .lcmp, 1)) rfl) ?_
  have e1 : h1 379 (0 : Int).toNat = v := by rw [o1 379 (Or.inr (by omega))]; exact hv e0
  rw [e1, if_neg (Int.lt_irrefl v), if_pos rfl]
  exact w_if_eq hX.1 (lf 197 (q := (386, .ifCond .eq 391, 3)) rfl) (fun _ => fin) (fun q => absurd rfl q)
theorem law_ax (hX : lX lim d Ln xs Q X) (hd : 78 ≤ d) (hk : k + 1 ≤ lim.1) (hn : n + 6 ≤ lim.2) (H : LI sh g h x) (next : ∀ x' a' b' g' h', x'.2.2.2.2.2 = x.2.2.2.2.2 → LI sh g' h' x' → X 471 (lL (i : Int) a' b') [] (sh, g', h') (k + 1) (n + 6)) : X 144 (lL (i : Int) a b) [] (sh, g, h) k n := by
  have HH := H
  obtain ⟨π, hO, hF, hM, hMF, h379⟩ := H
  have hl : 379 < sh.length := (List.getElem?_eq_some_iff.mp h379).1
  refine w_aload_n hX.1 (lf 51 (q := (144, .aload_n 1, 1)) rfl) rfl ?_
  refine w_aload_n hX.1 (lf 52 (q := (145, .aload_n 3, 1)) rfl) rfl ?_
  refine hX.2.2.1 _ _ _ _ hO.1 hl hk hn ?_
  have hW := hF.2.2.1
  by_cases hfull : x.2.2.1.length < 30
  · refine Or.inl (c_axm (by omega) hO hF hfull (fun h1 f1 e1 => ⟨_, rfl, h379, ?_⟩))
    obtain ⟨m1, m2⟩ := HH.cls hO (fun _ _ => rfl) f1 e1
    have hlost : (ab_axm x).2.2.2.2.2.2 = x.2.2.2.2.2 := lw_lost_ax x
    refine law_tax (x := (ab_axm x).2) hX hd hk hn hO (f1.low hO (fun c z => by rw [up_ne (by omega)])) m1 h379 (fun _ => up_eq) (fun Qc kk => ?_) (fun a1 b1 g1 h1 => next _ a1 b1 g1 h1 hlost)
    refine m_axm (by omega) m1 (m2.high (fun c z1 z2 => by rw [up_ne (by omega)])) (fun _ h2 f2 z2 o2 => kk h2 f2 z2 o2) (fun q => by omega)
  · have h30 : x.2.2.1.length = 30 := by have := hW.2.1; omega
    refine Or.inr ⟨hO.2.2.1.1, hO.2.2.1.2.1, ⟨4, 30, hO.2.2.1.2.2.1, hO.2.2.1.2.2.2.1, by show ((30 : Nat) : Int) ≤ h 3 1; rw [hW.1, h30]; exact Int.le_refl _⟩, ?_⟩
    refine law_tax (x := x) hX hd hk hn hO hF hM h379 (v := 0) (fun q => absurd q (by decide)) (fun Qc kk => ?_) (fun a1 b1 g1 h1 => next _ a1 b1 g1 h1 rfl)
    exact m_axm (by omega) hM hMF (fun q => by omega) (fun _ h2 f2 z2 o2 => kk h2 f2 z2 o2)
theorem law_steps (hX : lX lim d Ln xs Q X) (hd : 78 ≤ d) (hk : k + 1 ≤ lim.1) (hn : n + 6 ≤ lim.2) (H : LI sh g h x) (hi : i + 3 ≤ Ln) (hLn : Ln ≤ 1536) (hrx : ∀ i, oe_rg (xs i)) (hlb : x.2.2.2.2.2 < 1700000000) (next : ∀ x' a' b' g' h', x'.2.2.2.2.2 ≤ x.2.2.2.2.2 + 32000 → LI sh g' h' x' → X 471 (lL (i : Int) a' b') [] (sh, g', h') (k + 1) (n + 6)) : X 214 (lL (i : Int) a b) [] (sh, g, h) k n := by
  have HH := H
  obtain ⟨π, hO, hF, hM, hMF, h379⟩ := H
  have hl : 379 < sh.length := (List.getElem?_eq_some_iff.mp h379).1
  refine w_aload_n hX.1 (lf 89 (q := (214, .aload_n 1, 1)) rfl) rfl ?_
  refine w_aload_s hX.1 (lf 90 (q := (215, .aload_n 0, 1)) rfl) rfl ?_
  refine w_iload hX.1 (lf 91 (q := (216, .iload 4, 2)) rfl) rfl ?_
  refine w_iconst hX.1 (lf 92 (q := (218, .iconst 1, 1)) rfl) ?_
  refine w_iadd hX.1 (lf 93 (q := (219, .iadd, 1)) rfl) ⟨by omega, by omega⟩ ?_
  refine w_sald hX.1 (lf 94 (q := (220, .iaload, 1)) rfl) (by omega) (by show ((i : Nat) : Int) + 1 < ((Ln : Nat) : Int); omega) ?_
  refine w_aload_n hX.1 (lf 95 (q := (221, .aload_n 3, 1)) rfl) rfl ?_
  generalize hw : xs (((i : Nat) : Int) + 1).toNat = w
  have hrw : oe_rg w := by rw [← hw]; exact hrx _
  refine hX.2.2.2.1 _ _ _ _ _ hO.1 hl hk hn hrw ?_
  by_cases hc : 1 ≤ w ∧ w ≤ 20
  · obtain ⟨m, rfl⟩ := Int.eq_ofNat_of_zero_le (show 0 ≤ w by omega)
    refine Or.inl (c_steps (by omega) hO hF hlb m (by omega) (by omega) (fun π1 g1 h1 s1 gg f1 lb e1 => ⟨_, rfl, h379, ?_⟩))
    obtain ⟨m1, m2⟩ := HH.cls s1 gg f1 e1
    refine law_tst (x := (x.1, x.2.1, (ab_more (m - 1) (ab_st x.2.2)).2)) hX hd hk hn hi hLn s1 (f1.low s1 (fun c z => by rw [up_ne (by omega)])) m1 h379 (fun _ => up_eq) (fun Qc kk => ?_) (fun a1 b1 g1 h1 => next _ a1 b1 g1 h1 lb)
    rw [hw]
    exact m_steps (by omega) m1 (m2.high (fun c z1 z2 => by rw [up_ne (by omega)])) hlb _ (fun _ _ h2 f2 z2 o2 => kk h2 f2 z2 o2) (fun q => by omega)
  · refine Or.inr ⟨by omega, ?_⟩
    refine law_tst (x := x) hX hd hk hn hi hLn hO hF hM h379 (v := 0) (fun q => absurd q (by decide)) (fun Qc kk => ?_) (fun a1 b1 g1 h1 => next _ a1 b1 g1 h1 (by omega))
    rw [hw]
    exact m_steps (by omega) hM hMF hlb _ (fun q1 q2 => by omega) (fun _ h2 f2 z2 o2 => kk h2 f2 z2 o2)
theorem law_count (hX : lX lim d Ln xs Q X) (hd : 78 ≤ d) (hk : k + 1 ≤ lim.1) (hn : n + 6 ≤ lim.2) (H : LI sh g h x) (hi : i + 3 ≤ Ln) (hLn : Ln ≤ 1536) (hrx : ∀ i, oe_rg (xs i)) (next : ∀ x' a' b' g' h', x'.2.2.2.2.2 = x.2.2.2.2.2 → LI sh g' h' x' → X 471 (lL (i : Int) a' b') [] (sh, g', h') (k + 1) (n + 6)) : X 270 (lL (i : Int) a b) [] (sh, g, h) k n := by
  have HH := H
  obtain ⟨π, hO, hF, hM, hMF, h379⟩ := H
  have hl : 379 < sh.length := (List.getElem?_eq_some_iff.mp h379).1
  refine w_aload_n hX.1 (lf 123 (q := (270, .aload_n 1, 1)) rfl) rfl ?_
  refine w_aload_s hX.1 (lf 124 (q := (271, .aload_n 0, 1)) rfl) rfl ?_
  refine w_iload hX.1 (lf 125 (q := (272, .iload 4, 2)) rfl) rfl ?_
  refine w_iconst hX.1 (lf 126 (q := (274, .iconst 1, 1)) rfl) ?_
  refine w_iadd hX.1 (lf 127 (q := (275, .iadd, 1)) rfl) ⟨by omega, by omega⟩ ?_
  refine w_sald hX.1 (lf 128 (q := (276, .iaload, 1)) rfl) (by omega) (by show ((i : Nat) : Int) + 1 < ((Ln : Nat) : Int); omega) ?_
  refine w_aload_n hX.1 (lf 129 (q := (277, .aload_n 3, 1)) rfl) rfl ?_
  generalize hw : xs (((i : Nat) : Int) + 1).toNat = w
  have hrw : oe_rg w := by rw [← hw]; exact hrx _
  refine hX.2.2.2.2.1 _ _ _ _ _ hO.1 hl hk hn hrw ?_
  by_cases hc : 0 ≤ w ∧ w ≤ 2
  · obtain ⟨m, rfl⟩ := Int.eq_ofNat_of_zero_le hc.1
    refine Or.inl (c_count (by omega) hO hF m (by omega) ⟨_, rfl, h379, ?_⟩)
    refine law_tct (x := x) hX hd hk hn hi hLn hO (hF.low hO (fun c z => by rw [up_ne (by omega)])) hM h379 (fun _ => up_eq) (fun Qc kk => ?_) (fun a1 b1 g1 h1 => next _ a1 b1 g1 h1 rfl)
    rw [hw]
    refine m_count (by omega) hM (hMF.high (fun c z1 z2 => by rw [up_ne (by omega)])) _ (fun _ _ h2 f2 z2 o2 => ?_) (fun q => by omega)
    have e9 : (if ((m : Nat) : Int) = 0 then x.2.2.2.1.length else if ((m : Nat) : Int) = 1 then x.2.2.1.length else x.2.2.2.2.2) = (if m = 0 then x.2.2.2.1.length else if m = 1 then x.2.2.1.length else x.2.2.2.2.2) := by
      have a1 : (((m : Nat) : Int) = 0) = (m = 0) := propext ⟨fun q => by omega, fun q => by omega⟩
      have a2 : (((m : Nat) : Int) = 1) = (m = 1) := propext ⟨fun q => by omega, fun q => by omega⟩
      simp only [a1, a2]
    rw [e9]
    exact kk h2 f2 z2 o2
  · refine Or.inr ⟨by omega, ?_⟩
    refine law_tct (x := x) hX hd hk hn hi hLn hO hF hM h379 (v := 0) (fun q => absurd q (by decide)) (fun Qc kk => ?_) (fun a1 b1 g1 h1 => next _ a1 b1 g1 h1 rfl)
    rw [hw]
    exact m_count (by omega) hM hMF _ (fun q1 q2 => by omega) (fun _ h2 f2 z2 o2 => kk h2 f2 z2 o2)
theorem law_show (hX : lX lim d Ln xs Q X) (hd : 78 ≤ d) (hk : k + 1 ≤ lim.1) (hn : n + 6 ≤ lim.2) (H : LI sh g h x) (hi : i + 3 ≤ Ln) (hLn : Ln ≤ 1536) (hrx : ∀ i, oe_rg (xs i)) (next : ∀ x' a' b' g' h', x'.2.2.2.2.2 = x.2.2.2.2.2 → LI sh g' h' x' → X 471 (lL (i : Int) a' b') [] (sh, g', h') (k + 1) (n + 6)) : X 326 (lL (i : Int) a b) [] (sh, g, h) k n := by
  have HH := H
  obtain ⟨π, hO, hF, hM, hMF, h379⟩ := H
  have hl : 379 < sh.length := (List.getElem?_eq_some_iff.mp h379).1
  refine w_aload_n hX.1 (lf 157 (q := (326, .aload_n 1, 1)) rfl) rfl ?_
  refine w_aload_s hX.1 (lf 158 (q := (327, .aload_n 0, 1)) rfl) rfl ?_
  refine w_iload hX.1 (lf 159 (q := (328, .iload 4, 2)) rfl) rfl ?_
  refine w_iconst hX.1 (lf 160 (q := (330, .iconst 1, 1)) rfl) ?_
  refine w_iadd hX.1 (lf 161 (q := (331, .iadd, 1)) rfl) ⟨by omega, by omega⟩ ?_
  refine w_sald hX.1 (lf 162 (q := (332, .iaload, 1)) rfl) (by omega) (by show ((i : Nat) : Int) + 1 < ((Ln : Nat) : Int); omega) ?_
  refine w_aload_s hX.1 (lf 163 (q := (333, .aload_n 0, 1)) rfl) rfl ?_
  refine w_iload hX.1 (lf 164 (q := (334, .iload 4, 2)) rfl) rfl ?_
  refine w_iconst hX.1 (lf 165 (q := (336, .iconst 2, 1)) rfl) ?_
  refine w_iadd hX.1 (lf 166 (q := (337, .iadd, 1)) rfl) ⟨by omega, by omega⟩ ?_
  refine w_sald hX.1 (lf 167 (q := (338, .iaload, 1)) rfl) (by omega) (by show ((i : Nat) : Int) + 2 < ((Ln : Nat) : Int); omega) ?_
  refine w_aload_n hX.1 (lf 168 (q := (339, .aload_n 3, 1)) rfl) rfl ?_
  generalize hw : xs (((i : Nat) : Int) + 1).toNat = w
  generalize hw2 : xs (((i : Nat) : Int) + 2).toNat = w2
  have hrw : oe_rg w := by rw [← hw]; exact hrx _
  have hrw2 : oe_rg w2 := by rw [← hw2]; exact hrx _
  refine hX.2.2.2.2.2 _ _ _ _ _ _ hO.1 hl hk hn hrw hrw2 ?_
  by_cases hc : 0 ≤ w ∧ w ≤ 2
  · cases hq : ab_at x.2.2 w w2 with
    | some q =>
      refine Or.inl (c_show (by omega) hO hF w w2 hc hq (fun h1 f1 e1 => ⟨_, rfl, h379, ?_⟩))
      obtain ⟨m1, m2⟩ := HH.cls hO (fun _ _ => rfl) f1 e1
      refine law_tsh (x := (x.1, ab_pg q, x.2.2)) hX hd hk hn hi hLn hO (f1.low hO (fun c z => by rw [up_ne (by omega)])) m1 h379 (fun _ => up_eq) (fun Qc kk => ?_) (fun a1 b1 g1 h1 => next _ a1 b1 g1 h1 rfl)
      rw [hw, hw2]
      refine m_show (by omega) m1 (m2.high (fun c z1 z2 => by rw [up_ne (by omega)])) _ _ (fun q2 _ _ hq2 h2 f2 z2 o2 => ?_) (fun q => by omega) (fun _ _ hq2 => by rw [hq] at hq2; cases hq2)
      rw [hq] at hq2
      cases hq2
      exact kk h2 f2 z2 o2
    | none =>
      refine Or.inr (Or.inr ⟨hO.2.2.2.1.1, hO.2.2.2.1.2.1, hO.2.2.1.1, hO.2.2.1.2.1, ?_, ?_⟩)
      · show (w = 2 ∧ h 0 9 = 0) ∨ (w = 0 ∧ (w2 < 0 ∨ h 215 1 ≤ w2)) ∨ (w = 1 ∧ (w2 < 0 ∨ h 3 1 ≤ w2))
        have hq0 := hq
        unfold ab_at at hq0
        rw [hF.2.2.2.1.1, hF.2.2.1.1]
        by_cases c2 : w = 2
        · rw [if_pos c2] at hq0
          rcases hF.2.2.2.2.1 with ⟨_, q9⟩ | ⟨q, q8, _⟩
          · exact Or.inl ⟨c2, q9⟩
          · rw [hq0] at q8; cases q8
        · rw [if_neg c2] at hq0
          by_cases c0 : w = 0
          · rw [if_pos c0] at hq0
            by_cases c3 : 0 ≤ w2 ∧ w2 < ((x.2.2.2.1.length : Nat) : Int)
            · rw [if_pos c3] at hq0; cases hq0
            · exact Or.inr (Or.inl ⟨c0, by omega⟩)
          · rw [if_neg c0] at hq0
            by_cases c3 : 0 ≤ w2 ∧ w2 < ((x.2.2.1.length : Nat) : Int)
            · rw [if_pos c3] at hq0; cases hq0
            · exact Or.inr (Or.inr ⟨by omega, by omega⟩)
      · refine law_tsh (x := x) hX hd hk hn hi hLn hO hF hM h379 (v := 0) (fun q => absurd q (by decide)) (fun Qc kk => ?_) (fun a1 b1 g1 h1 => next _ a1 b1 g1 h1 rfl)
        rw [hw, hw2]
        exact m_show (by omega) hM hMF _ _ (fun q2 _ _ hq2 => by rw [hq] at hq2; cases hq2) (fun q => by omega) (fun _ _ _ h2 f2 z2 o2 => kk h2 f2 z2 o2)
  · refine Or.inr (Or.inl ⟨by omega, ?_⟩)
    refine law_tsh (x := x) hX hd hk hn hi hLn hO hF hM h379 (v := 0) (fun q => absurd q (by decide)) (fun Qc kk => ?_) (fun a1 b1 g1 h1 => next _ a1 b1 g1 h1 rfl)
    rw [hw, hw2]
    exact m_show (by omega) hM hMF _ _ (fun q2 q3 q4 => by omega) (fun _ h2 f2 z2 o2 => kk h2 f2 z2 o2) (fun q1 q2 => by omega)
end LW
