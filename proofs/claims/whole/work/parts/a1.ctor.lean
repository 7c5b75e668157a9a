/-! The constructors (class). -/
def ls_L (cap : Nat) : List (Nat × Nat) := [(8, 3), (0, cap), (0, cap)]
def ls_E (cap : Nat) : List (Nat × Nat) := [(7, 2), (8, 3), (0, cap), (0, cap), (8, 3), (0, cap), (0, cap)]
section
variable {D : Nat} {sh : List (Nat × Nat)} {g : Nat → Nat → Option Nat} {Q : oeQ}
theorem k_letters (hDD : 2 ≤ D) {cap : Nat} (hc : cap ≤ 300)
    (k : ∀ g' : Nat → Nat → Option Nat, LtS (sh ++ ls_L cap) g' sh.length cap → (∀ c, c < sh.length → g' c = g c) → Q none (sh ++ ls_L cap, g', oe_z)) :
    oe_M D 99 [.inr (.inl sh.length), .inl (cap : Int)] (sh ++ [(8, 3)], g, oe_z) Q := by
  obtain ⟨d, rfl⟩ : ∃ d, D = d + 2 := ⟨D - 2, by omega⟩
  have f : ∀ (i : Nat) {q : Nat × Jvm.ClassFile.Instr × Nat}, oe_c99[i]? = some q → oe_find (oe_code 99) q.1 = some q.2 := fun i q hq => oe_ft (c := oe_c99) (by decide +kernel) hq
  have sa : (sh ++ [(8, 3)])[sh.length]? = some (8, 3) := sh_last
  refine oe_M.of (by simp [oe_c1]) (Nat.le_of_ble_eq_true rfl) ?_
  show oe_V (oe_cost 99) 99 (oe_M (d + 1)) none Q 0 [some (.inr (.inl sh.length)), some (.inl (cap : Int))] [] (sh ++ [(8, 3)], g, oe_z) 0 0
  refine s_aload_n (f 0 (q := (0, .aload_n 0, 1)) rfl) rfl ?_
  refine n_obj (f 1 (q := (1, .invokespecial 0, 3)) rfl) (by simp) ?_
  refine s_aload_n (f 2 (q := (4, .aload_n 0, 1)) rfl) rfl ?_
  refine s_iconst (f 3 (q := (5, .iconst 0, 1)) rfl) ?_
  refine n_put0 (f 4 (q := (6, .putfield 3020, 3)) rfl) sa rfl (Or.inl rfl) ?_
  refine s_aload_n (f 5 (q := (9, .aload_n 0, 1)) rfl) rfl ?_
  refine s_iload_n (f 6 (q := (10, .iload_n 1, 1)) rfl) rfl ?_
  refine n_arr (t := 0) (f 7 (q := (11, .newarray .int, 2)) rfl) rfl (by omega) (by decide) (by show 0 + cap ≤ 600; omega) (fun g1 G1 => ?_)
  refine n_putr (f 8 (q := (13, .putfield 3001, 3)) rfl) (sh_app sa) rfl rfl (fun g2 A2 G2 => ?_)
  refine s_aload_n (f 9 (q := (16, .aload_n 0, 1)) rfl) rfl ?_
  refine s_iload_n (f 10 (q := (17, .iload_n 1, 1)) rfl) rfl ?_
  refine n_arr (t := 0) (f 11 (q := (18, .newarray .int, 2)) rfl) rfl (by omega) (by decide) (by show 0 + cap + cap ≤ 600; omega) (fun g3 G3 => ?_)
  refine n_putr (f 12 (q := (20, .putfield 3011, 3)) rfl) (sh_app (sh_app sa)) rfl rfl (fun g4 A4 G4 => ?_)
  refine s_ret (f 13 (q := (23, .return_, 1)) rfl) rfl ?_
  have e1 : sh ++ [(8, 3)] ++ [(0, cap)] ++ [(0, cap)] = sh ++ ls_L cap := by simp [ls_L]
  have l1 : (sh ++ [(8, 3)]).length = sh.length + 1 := by simp
  have l2 : (sh ++ [(8, 3)] ++ [(0, cap)]).length = sh.length + 2 := by simp
  rw [l1] at A2
  rw [l2] at A4
  rw [e1]
  refine k g4 ⟨by rw [← e1]; exact sh_app (sh_app sa), ?_, A4, ?_, ?_, hc⟩ (fun c hc => ?_)
  · rw [G4 _ _ (Or.inr (by decide)), G3 _ (by rw [l2]; omega)]; exact A2
  · rw [← e1, ← l1]; exact sh_app sh_last
  · rw [← e1, ← l2]; exact sh_last
  · funext i
    rw [G4 c i (Or.inl (by omega)), G3 c (by rw [l2]; omega), G2 c i (Or.inl (by omega)), G1 c (by rw [l1]; omega)]
theorem k_equation (hDD : 4 ≤ D) {cap : Nat} (hc : cap ≤ 300)
    (k : ∀ g' : Nat → Nat → Option Nat, EqS (sh ++ ls_E cap) g' sh.length cap → (∀ c, c < sh.length → g' c = g c) → Q none (sh ++ ls_E cap, g', oe_z)) :
    oe_M D 92 [.inr (.inl sh.length), .inl (cap : Int)] (sh ++ [(7, 2)], g, oe_z) Q := by
  obtain ⟨d, rfl⟩ : ∃ d, D = d + 2 := ⟨D - 2, by omega⟩
  have f : ∀ (i : Nat) {q : Nat × Jvm.ClassFile.Instr × Nat}, oe_c92[i]? = some q → oe_find (oe_code 92) q.1 = some q.2 := fun i q hq => oe_ft (c := oe_c92) (by decide +kernel) hq
  have sa : (sh ++ [(7, 2)])[sh.length]? = some (7, 2) := sh_last
  refine oe_M.of (by simp [oe_c1]) (Nat.le_of_ble_eq_true rfl) ?_
  show oe_V (oe_cost 92) 92 (oe_M (d + 1)) none Q 0 [some (.inr (.inl sh.length)), some (.inl (cap : Int))] [] (sh ++ [(7, 2)], g, oe_z) 0 0
  refine s_aload_n (f 0 (q := (0, .aload_n 0, 1)) rfl) rfl ?_
  refine n_obj (f 1 (q := (1, .invokespecial 0, 3)) rfl) (by simp) ?_
  refine s_aload_n (f 2 (q := (4, .aload_n 0, 1)) rfl) rfl ?_
  refine n_new (f 3 (q := (5, .new 3, 3)) rfl) (by decide) (by decide) (fun g1 G1 => ?_)
  refine s_dup (f 4 (q := (8, .dup, 1)) rfl) trivial ?_
  refine s_iload_n (f 5 (q := (9, .iload_n 1, 1)) rfl) rfl ?_
  refine n_call1 (f 6 (q := (10, .invokespecial 99031, 3)) rfl) (by decide) rfl (by simp) (by decide) (by decide) ?_
  refine k_letters (sh := sh ++ [(7, 2)]) (by omega) hc (fun g2 L2 G2 => ?_)
  show oe_V (oe_cost 92) 92 (oe_M (d + 1)) none Q 13 _ [.inr (.inl (sh ++ [(7, 2)]).length), .inr (.inl sh.length)] _ 3 603
  refine n_putr (f 7 (q := (13, .putfield 2001, 3)) rfl) (sh_app sa) rfl rfl (fun g3 A3 G3 => ?_)
  refine s_aload_n (f 8 (q := (16, .aload_n 0, 1)) rfl) rfl ?_
  refine n_new (f 9 (q := (17, .new 3, 3)) rfl) (by decide) (by decide) (fun g4 G4 => ?_)
  refine s_dup (f 10 (q := (20, .dup, 1)) rfl) trivial ?_
  refine s_iload_n (f 11 (q := (21, .iload_n 1, 1)) rfl) rfl ?_
  refine n_call1 (f 12 (q := (22, .invokespecial 99031, 3)) rfl) (by decide) rfl (by simp) (by decide) (by decide) ?_
  refine k_letters (sh := sh ++ [(7, 2)] ++ ls_L cap) (by omega) hc (fun g5 L5 G5 => ?_)
  show oe_V (oe_cost 92) 92 (oe_M (d + 1)) none Q 25 _ [.inr (.inl (sh ++ [(7, 2)] ++ ls_L cap).length), .inr (.inl sh.length)] _ 6 1206
  refine n_putr (f 13 (q := (25, .putfield 2011, 3)) rfl) (sh_app (sh_app sa)) rfl rfl (fun g6 A6 G6 => ?_)
  refine s_ret (f 14 (q := (28, .return_, 1)) rfl) rfl ?_
  have e1 : sh ++ [(7, 2)] ++ ls_L cap ++ ls_L cap = sh ++ ls_E cap := by simp [ls_L, ls_E]
  have l1 : (sh ++ [(7, 2)]).length = sh.length + 1 := by simp
  have l2 : (sh ++ [(7, 2)] ++ ls_L cap).length = sh.length + 4 := by simp [ls_L]
  rw [l1] at A3 L2 G2 G1
  rw [l2] at A6 L5 G5 G4
  rw [e1] at L5
  rw [e1]
  have a3 : g3 sh.length 0 = some (sh.length + 1) := A3
  have a6 : g6 sh.length 1 = some (sh.length + 4) := A6
  refine k g6 ⟨by rw [← e1]; exact sh_app (sh_app sa), ?_, a6, ?_, ?_⟩ (fun c hc => ?_)
  · rw [G6 _ _ (Or.inr (by decide)), G5 _ (by omega), G4 _ (by omega)]; exact a3
  · refine LtS.ext L2 (fun c q hq => by rw [← e1]; exact sh_app hq) ?_
    funext i
    rw [G6 _ _ (Or.inl (by omega)), G5 _ (by omega), G4 _ (by omega), G3 _ _ (Or.inl (by omega))]
  · refine LtS.ext L5 (fun c q hq => hq) ?_
    funext i
    rw [G6 _ _ (Or.inl (by omega))]
  · funext i
    rw [G6 c i (Or.inl (by omega)), G5 c (by omega), G4 c (by omega), G3 c i (Or.inl (by omega)), G2 c (by omega), G1 c (by omega)]
end
