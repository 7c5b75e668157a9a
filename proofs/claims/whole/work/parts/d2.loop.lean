/-! The law: its loop closed, and its start. -/
section LP
variable {lim : Nat × Nat} {d Ln : Nat} {xs : Nat → Int} {Q : oeQ} {X : oeX} {sh : List (Nat × Nat)}
theorem law_body (hX : lX lim d Ln xs Q X) (hd : 78 ≤ d) (hLn : Ln ≤ 1536) (hrx : ∀ i, oe_rg (xs i)) (hQ : ∀ hp, Q (some (.inl 1)) hp) (hl1 : 10000 ≤ lim.1) (hl2 : 200000 ≤ lim.2) {i : Nat} {x : abF} {g : Nat → Nat → Option Nat} {h : Nat → Nat → Int} {k n : Nat} (hi : i ≤ 1536) (H : LI sh g h x) (hk : k ≤ 500 + i) (hn : n ≤ 73000 + 6 * i) (hlo : x.2.2.2.2.2 ≤ 11000 * i)
    (ih : i + 3 ≤ Ln → ∀ (x1 : abF) (g1 : Nat → Nat → Option Nat) (h1 : Nat → Nat → Int) (k1 n1 : Nat), LI sh g1 h1 x1 → k1 ≤ 500 + i + 3 → n1 ≤ 73000 + 6 * i + 18 → x1.2.2.2.2.2 ≤ 11000 * i + 33000 → X 23 (lL ((i + 3 : Nat) : Int) none none) [] (sh, g1, h1) k1 n1) : X 23 (lL (i : Int) none none) [] (sh, g, h) k n := by
  refine w_iload hX.1 (lf 13 (q := (23, .iload 4, 2)) rfl) rfl ?_
  refine w_aload_s hX.1 (lf 14 (q := (25, .aload_n 0, 1)) rfl) rfl ?_
  refine w_slen hX.1 (lf 15 (q := (26, .arraylength, 1)) rfl) ?_
  refine w_iconst hX.1 (lf 16 (q := (27, .iconst 3, 1)) rfl) ?_
  refine w_isub hX.1 (lf 17 (q := (28, .isub, 1)) rfl) ⟨by omega, by omega⟩ ?_
  refine w_ic_gt hX.1 (lf 18 (q := (29, .if_icmp .gt 477, 3)) rfl) (fun _ => ?_) (fun c0 => ?_)
  · refine w_iconst hX.1 (lf 248 (q := (477, .iconst 1, 1)) rfl) ?_
    exact w_iret hX.1 (lf 249 (q := (478, .ireturn, 1)) rfl) (Or.inr (Or.inl ⟨rfl, Or.inr rfl⟩)) (hQ _)
  have hi3 : i + 3 ≤ Ln := by omega
  have nx : ∀ (x1 : abF) (a1 b1 : Option oeV) (g1 : Nat → Nat → Option Nat) (h1 : Nat → Nat → Int) (k1 n1 : Nat), LI sh g1 h1 x1 → k1 ≤ 500 + i + 3 → n1 ≤ 73000 + 6 * i + 18 → x1.2.2.2.2.2 ≤ 11000 * i + 33000 → X 471 (lL (i : Int) a1 b1) [] (sh, g1, h1) k1 n1 := by
    intro x1 a1 b1 g1 h1 k1 n1 H1 q1 q2 q3
    refine w_iinc hX.1 (lf 246 (q := (471, .iinc 4 3, 3)) rfl) rfl ⟨by omega, by omega⟩ ?_
    refine w_goto hX.1 (lf 247 (q := (474, .goto 23, 3)) rfl) ?_
    have e : ((i + 3 : Nat) : Int) = (i : Int) + 3 := by omega
    have ih := ih hi3 x1 g1 h1 k1 n1 H1 q1 q2 q3
    rw [e] at ih
    exact hX.2.1 (show oe_fg (lL ((i : Int) + 3) none none) (lL ((i : Int) + 3) a1 b1) from ⟨rfl, rfl, rfl, rfl, rfl, trivial⟩) ih
  refine w_aload_s hX.1 (lf 19 (q := (32, .aload_n 0, 1)) rfl) rfl ?_
  refine w_iload hX.1 (lf 20 (q := (33, .iload 4, 2)) rfl) rfl ?_
  refine w_sald hX.1 (lf 21 (q := (35, .iaload, 1)) rfl) (by omega) (by omega) ?_
  refine w_bipush hX.1 (lf 22 (q := (36, .bipush 15, 2)) rfl) ?_
  refine w_iand hX.1 (lf 23 (q := (38, .iand, 1)) rfl) ?_
  generalize xs ((i : Int)).toNat % 16 = v
  refine w_tsw hX.1 (lf 24 (q := (39, .tableswitch 471 0 12 #[104, 131, 144, 188, 201, 214, 270, 326, 394, 407, 420, 433, 446], 65)) rfl) (fun _ => nx x none none g h k n H (by omega) (by omega) (by omega)) (fun t c1 c2 c3 => ?_)
  have c4 : v = 0 ∨ v = 1 ∨ v = 2 ∨ v = 3 ∨ v = 4 ∨ v = 5 ∨ v = 6 ∨ v = 7 ∨ v = 8 ∨ v = 9 ∨ v = 10 ∨ v = 11 ∨ v = 12 := by omega
  rcases c4 with c4 | c4 | c4 | c4 | c4 | c4 | c4 | c4 | c4 | c4 | c4 | c4 | c4
  · rw [c4] at c3
    have c5 : some (104 : Int) = some t := c3
    cases c5
    exact law_type hX hd (by omega) (by omega) H hi3 hLn (fun g1 h1 H1 => nx _ _ _ g1 h1 k n H1 (by omega) (by omega) (by rw [lw_lost_ty]; omega))
  · rw [c4] at c3
    have c5 : some (131 : Int) = some t := c3
    cases c5
    exact law_wipe hX hd (by omega) (by omega) H (fun g1 h1 H1 => nx _ _ _ g1 h1 k n H1 (by omega) (by omega) (by show x.2.2.2.2.2 ≤ _; omega))
  · rw [c4] at c3
    have c5 : some (144 : Int) = some t := c3
    cases c5
    exact law_ax hX hd (by omega) (by omega) H (fun x1 a1 b1 g1 h1 lo H1 => nx x1 a1 b1 g1 h1 _ _ H1 (by omega) (by omega) (by rw [lo]; omega))
  · rw [c4] at c3
    have c5 : some (188 : Int) = some t := c3
    cases c5
    exact law_goal hX hd (by omega) (by omega) H (fun g1 h1 H1 => nx _ _ _ g1 h1 k n H1 (by omega) (by omega) (by rw [lw_lost_go]; omega))
  · rw [c4] at c3
    have c5 : some (201 : Int) = some t := c3
    cases c5
    exact law_step hX hd (by omega) (by omega) H (by omega) (fun g1 h1 H1 lo => nx _ _ _ g1 h1 k n H1 (by omega) (by omega) (Nat.le_trans lo (by omega)))
  · rw [c4] at c3
    have c5 : some (214 : Int) = some t := c3
    cases c5
    exact law_steps hX hd (by omega) (by omega) H hi3 hLn hrx (by omega) (fun x1 a1 b1 g1 h1 lo H1 => nx x1 a1 b1 g1 h1 _ _ H1 (by omega) (by omega) (by omega))
  · rw [c4] at c3
    have c5 : some (270 : Int) = some t := c3
    cases c5
    exact law_count hX hd (by omega) (by omega) H hi3 hLn hrx (fun x1 a1 b1 g1 h1 lo H1 => nx x1 a1 b1 g1 h1 _ _ H1 (by omega) (by omega) (by rw [lo]; omega))
  · rw [c4] at c3
    have c5 : some (326 : Int) = some t := c3
    cases c5
    exact law_show hX hd (by omega) (by omega) H hi3 hLn hrx (fun x1 a1 b1 g1 h1 lo H1 => nx x1 a1 b1 g1 h1 _ _ H1 (by omega) (by omega) (by rw [lo]; omega))
  · rw [c4] at c3
    have c5 : some (394 : Int) = some t := c3
    cases c5
    exact law_cmp hX hd (by omega) (by omega) H (fun g1 h1 H1 => nx _ _ _ g1 h1 k n H1 (by omega) (by omega) (by rw [lw_lost_cm]; omega))
  · rw [c4] at c3
    have c5 : some (407 : Int) = some t := c3
    cases c5
    exact law_uni hX hd (by omega) (by omega) H (fun g1 h1 H1 => nx _ _ _ g1 h1 k n H1 (by omega) (by omega) (by rw [lw_lost_un]; omega))
  · rw [c4] at c3
    have c5 : some (420 : Int) = some t := c3
    cases c5
    exact law_red hX hd (by omega) (by omega) H (fun g1 h1 H1 => nx _ _ _ g1 h1 k n H1 (by omega) (by omega) (by rw [lw_lost_re]; omega))
  · rw [c4] at c3
    have c5 : some (433 : Int) = some t := c3
    cases c5
    exact law_len hX hd (by omega) (by omega) H (fun g1 h1 H1 => nx _ _ _ g1 h1 k n H1 (by omega) (by omega) (by omega))
  · rw [c4] at c3
    have c5 : some (446 : Int) = some t := c3
    cases c5
    exact law_char hX hd (by omega) (by omega) H hi3 hLn (fun g1 h1 H1 => nx _ _ _ g1 h1 k n H1 (by omega) (by omega) (by omega))
theorem law_loop (hX : lX lim d Ln xs Q X) (hd : 78 ≤ d) (hLn : Ln ≤ 1536) (hrx : ∀ i, oe_rg (xs i)) (hQ : ∀ hp, Q (some (.inl 1)) hp) (hl1 : 10000 ≤ lim.1) (hl2 : 200000 ≤ lim.2) (f : Nat) : ∀ (i : Nat) (x : abF) (g : Nat → Nat → Option Nat) (h : Nat → Nat → Int) (k n : Nat), Ln ≤ i + f → i ≤ 1536 → LI sh g h x → k ≤ 500 + i → n ≤ 73000 + 6 * i → x.2.2.2.2.2 ≤ 11000 * i → X 23 (lL (i : Int) none none) [] (sh, g, h) k n := by
  induction f with
  | zero =>
    intro i x g h k n hf hi H hk hn hlo
    exact law_body hX hd hLn hrx hQ hl1 hl2 hi H hk hn hlo (fun q => absurd q (by omega))
  | succ f IH =>
    intro i x g h k n hf hi H hk hn hlo
    exact law_body hX hd hLn hrx hQ hl1 hl2 hi H hk hn hlo (fun q x1 g1 h1 k1 n1 H1 q1 q2 q3 => IH (i + 3) x1 g1 h1 k1 n1 (by omega) (by omega) H1 q1 (by rw [Nat.mul_add, ← Nat.add_assoc]; exact q2) (by rw [Nat.mul_add]; exact q3))
end LP
theorem lz_len : ls_X.length = 348 := by decide +kernel
theorem lz_lenM : (ls_X ++ ls_M).length = 379 := by decide +kernel
def lz_x0 : abF := ([], [], [], [], none, 0)
theorem OeS.ext {sh sh' : List (Nat × Nat)} {g g' : Nat → Nat → Option Nat} {π : Nat → Nat} (H : OeS sh g π) (hs : ∀ (c : Nat) (q : Nat × Nat), sh[c]? = some q → sh'[c]? = some q) (hg : ∀ c, c < 348 → g' c = g c) : OeS sh' g' π := by
  obtain ⟨a1, ⟨a2, a3, a4, a5⟩, ⟨b1, b2⟩, ⟨c1, c2⟩, ⟨d1, d2⟩, ⟨e1, e2⟩, ⟨f1, f2⟩, ⟨h1, h2⟩, ⟨i1, i2⟩, j1, j2⟩ := H
  have e0 := hg 0 (by omega)
  exact ⟨hs _ _ a1, ⟨by rw [e0]; exact a2, hs _ _ a3, by rw [e0]; exact a4, hs _ _ a5⟩, ⟨by rw [e0]; exact b1, b2.ext hs (fun c _ _ => hg c (by omega))⟩, ⟨by rw [e0]; exact c1, c2.ext hs (fun c _ _ => hg c (by omega))⟩, ⟨by rw [e0]; exact d1, d2.ext hs (fun c _ _ => hg c (by omega))⟩, ⟨by rw [e0]; exact e1, e2.ext hs (fun c _ _ => hg c (by omega))⟩, ⟨by rw [e0]; exact f1, f2.ext hs (fun c _ _ => hg c (by omega))⟩, ⟨by rw [e0]; exact h1, h2.ext hs (fun c _ _ => hg c (by omega))⟩, ⟨by rw [e0]; exact i1, i2.ext hs (fun c _ _ => hg c (by omega))⟩, by rw [e0]; exact j1, hs _ _ j2⟩
theorem lz_OeF : OeF oe_z (fun i => i) lz_x0 :=
  ⟨OeT_nil rfl, ⟨rfl, by decide, fun i hi => (by cases hi), fun c hc => (by cases hc)⟩, ⟨rfl, by decide, fun i hi => (by cases hi)⟩, ⟨rfl, by decide, fun i hi => (by cases hi)⟩, Or.inl ⟨rfl, rfl⟩, rfl⟩
theorem lz_MdF : MdF oe_z 348 lz_x0 :=
  ⟨⟨rfl, by decide, fun i hi => (by cases hi), fun c hc => (by cases hc)⟩, ⟨rfl, by decide, fun i hi => (by cases hi), fun c hc => (by cases hc)⟩, ⟨rfl, by decide, fun i hi => (by cases hi), rfl, by decide, fun i hi => (by cases hi), rfl⟩, Or.inl ⟨rfl, rfl⟩⟩
theorem law_start {lim : Nat × Nat} {d Ln : Nat} {xs : Nat → Int} {Q : oeQ} {X : oeX} {g : Nat → Nat → Option Nat} (hX : lX lim d Ln xs Q X) (hd : 78 ≤ d) (hLn : Ln ≤ 1536) (hrx : ∀ i, oe_rg (xs i)) (hQ : ∀ hp, Q (some (.inl 1)) hp) (hl1 : 10000 ≤ lim.1) (hl2 : 200000 ≤ lim.2) : X 0 [some (.inr (.inr (3, 0))), none, none, none, none, none, none] [] ([], g, oe_z) 0 0 := by
  refine wn_new hX.1 (lf 0 (q := (0, .new 0, 3)) rfl) (by omega) (by show 0 + 14 ≤ lim.2; omega) (fun g1 _ => ?_)
  refine w_dup hX.1 (lf 1 (q := (3, .dup, 1)) rfl) trivial ?_
  refine wn_call0 (r := 2000) (a := 0) hX.1 (lf 2 (q := (4, .invokespecial 2000, 3)) rfl) (by decide) (by decide) (Nat.le_of_ble_eq_true rfl) (by show 0 + 1 + 347 ≤ lim.1; omega) (by show 0 + 14 + 65517 ≤ lim.2; omega) ?_
  refine k_object (by omega) (fun g2 O2 => ?_)
  refine w_astore_n hX.1 (lf 3 (q := (7, .astore_n 1, 1)) rfl) ?_
  refine wn_new (sh := ls_X) hX.1 (lf 4 (q := (8, .new 7, 3)) rfl) (by show 0 + 1 + 347 + 1 ≤ lim.1; omega) (by show 0 + 14 + 65517 + 45 ≤ lim.2; omega) (fun g3 G3 => ?_)
  refine w_dup hX.1 (lf 5 (q := (11, .dup, 1)) rfl) trivial ?_
  refine wn_call0 (r := 28070) (a := ls_X.length) hX.1 (lf 6 (q := (12, .invokespecial 28070, 3)) rfl) (by decide) (by decide) (Nat.le_of_ble_eq_true rfl) (by show 0 + 1 + 347 + 1 + 60 ≤ lim.1; omega) (by show 0 + 14 + 65517 + 45 + 7200 ≤ lim.2; omega) ?_
  refine k_model (sh := ls_X) (by omega) (fun g4 M4 G4 => ?_)
  refine w_astore_n hX.1 (lf 7 (q := (15, .astore_n 2, 1)) rfl) ?_
  refine w_iconst hX.1 (lf 8 (q := (16, .iconst 1, 1)) rfl) ?_
  refine wn_arr (v := 1) (t := 3) (sh := ls_X ++ ls_M) hX.1 (lf 9 (q := (17, .newarray .long, 2)) rfl) rfl (by decide) (by show 0 + 1 + 347 + 1 + 60 + 1 ≤ lim.1; omega) (by show 0 + 14 + 65517 + 45 + 7200 + 1 ≤ lim.2; omega) (fun g5 G5 => ?_)
  refine w_astore_n hX.1 (lf 10 (q := (19, .astore_n 3, 1)) rfl) ?_
  refine w_iconst hX.1 (lf 11 (q := (20, .iconst 0, 1)) rfl) ?_
  refine w_istore hX.1 (lf 12 (q := (21, .istore 4, 2)) rfl) ?_
  rw [lz_len] at G3 G4 M4
  rw [lz_lenM] at G5
  have hs : ∀ (c : Nat) (q : Nat × Nat), ls_X[c]? = some q → (ls_X ++ ls_M ++ [(3, 1)])[c]? = some q := fun c q hq => sh_app (sh_app hq)
  have hLI : LI (ls_X ++ ls_M ++ [(3, 1)]) g5 oe_z lz_x0 := by
    refine ⟨fun i => i, O2.ext hs (fun c hc => ?_), lz_OeF, ⟨sh_app M4.1, fun q hq => ⟨?_, sh_app (M4.2 q hq).2⟩⟩, lz_MdF, ?_⟩
    · rw [G5 c (by omega), G4 c hc, G3 c hc]
    · rw [G5 348 (by omega)]; exact (M4.2 q hq).1
    · rw [← lz_lenM]; exact sh_last
  have fin := law_loop hX hd hLn hrx hQ hl1 hl2 Ln 0 lz_x0 g5 oe_z (0 + 1 + 347 + 1 + 60 + 1) (0 + 14 + 65517 + 45 + 7200 + 1) (by omega) (by omega) hLI (by omega) (by omega) (by decide)
  rw [lz_len, lz_lenM]
  exact fin
