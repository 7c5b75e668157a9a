/-! The constructor of the reference: thirty rows, one behind the other. -/
def mb_len (v : Nat) : Nat := if v ≤ 5 then 1 else if v ≤ 127 then 2 else 3
def mb_push (v : Nat) : Jvm.ClassFile.Instr := if v ≤ 5 then .iconst v else if v ≤ 127 then .bipush v else .sipush v
def mb_ty (t : Nat) : Jvm.ClassFile.ArrayType := if t = 0 then .int else .boolean
def mb_ok : List (Nat × Nat × Nat × Nat) → Nat → Bool
  | [], _ => true
  | q :: l, pc => ((((((decide (oe_find oe_c28 pc = some (.aload_n 0, 1)) && decide (oe_find oe_c28 (pc + 1) = some (mb_push q.2.2.2, mb_len q.2.2.2))) && decide (oe_find oe_c28 (pc + 1 + mb_len q.2.2.2) = some (.newarray (mb_ty q.2.2.1), 2))) && decide (oe_find oe_c28 (pc + 1 + mb_len q.2.2.2 + 2) = some (.putfield (7001 + q.1 * 10), 3))) && decide (ar_t (mb_ty q.2.2.1) = q.2.2.1)) && decide (q.2.2.2 ≤ 100000)) && decide (q.1 < 100)) && mb_ok l (pc + 1 + mb_len q.2.2.2 + 2 + 3)
def mb_end : List (Nat × Nat × Nat × Nat) → Nat → Nat
  | [], pc => pc
  | q :: l, pc => mb_end l (pc + 1 + mb_len q.2.2.2 + 2 + 3)
def mb_sum : List (Nat × Nat × Nat × Nat) → Nat
  | [] => 0
  | q :: l => q.2.2.2 + mb_sum l
def mb_nd : List (Nat × Nat × Nat × Nat) → Bool
  | [] => true
  | q :: l => l.all (fun x => decide (x.1 ≠ q.1)) && mb_nd l
theorem mb_psh {d : Nat} {Q : oeQ} {pc v k n : Nat} {L : List (Option oeV)} {S : List oeV} {sh : List (Nat × Nat)} {g : Nat → Nat → Option Nat} (h : oe_find (oe_code 28) pc = some (mb_push v, mb_len v)) (kk : oe_V (oe_cost 28) 28 (oe_M d) none Q (pc + mb_len v) L (.inl (v : Int) :: S) (sh, g, oe_z) k n) : oe_V (oe_cost 28) 28 (oe_M d) none Q pc L S (sh, g, oe_z) k n := by
  unfold mb_push mb_len at h
  unfold mb_len at kk
  by_cases h1 : v ≤ 5
  · rw [if_pos h1, if_pos h1] at h
    rw [if_pos h1] at kk
    exact s_iconst h kk
  · rw [if_neg h1, if_neg h1] at h
    rw [if_neg h1] at kk
    by_cases h2 : v ≤ 127
    · rw [if_pos h2, if_pos h2] at h
      rw [if_pos h2] at kk
      exact s_bipush h kk
    · rw [if_neg h2, if_neg h2] at h
      rw [if_neg h2] at kk
      exact s_sipush h kk
theorem mb_run {d : Nat} {Q : oeQ} {a : Nat} {L : List (Option oeV)} (hL : L[0]? = some (some (.inr (.inl a)))) : ∀ (l : List (Nat × Nat × Nat × Nat)) (pc k n : Nat) (sh : List (Nat × Nat)) (g : Nat → Nat → Option Nat), mb_ok l pc = true → k + l.length ≤ 60 → n + mb_sum l ≤ 7200 → sh[a]? = some (12, 45) → mb_nd l = true →
    (∀ g' : Nat → Nat → Option Nat, (∀ c, c < sh.length → c ≠ a → g' c = g c) → (∀ f, (∀ q ∈ l, q.1 ≠ f) → g' a f = g a f) → (∀ (i : Nat) (q : Nat × Nat × Nat × Nat), l[i]? = some q → g' a q.1 = some (sh.length + i)) → oe_V (oe_cost 28) 28 (oe_M d) none Q (mb_end l pc) L [] (sh ++ l.map (fun q => (q.2.2.1, q.2.2.2)), g', oe_z) (k + l.length) (n + mb_sum l)) →
    oe_V (oe_cost 28) 28 (oe_M d) none Q pc L [] (sh, g, oe_z) k n
  | [], pc, k, n, sh, g, _, _, _, _, _, kk => by
    have := kk g (fun _ _ _ => rfl) (fun _ _ => rfl) (fun i q h => by cases h)
    rw [List.map_nil, List.append_nil] at this
    exact this
  | q :: l, pc, k, n, sh, g, hok, hk, hn, hs, hnd, kk => by
    unfold mb_ok at hok
    simp only [Bool.and_eq_true, decide_eq_true_eq] at hok
    obtain ⟨⟨⟨⟨⟨⟨⟨o1, o2⟩, o3⟩, o4⟩, o5⟩, o6⟩, o7⟩, o8⟩ := hok
    unfold mb_nd at hnd
    rw [Bool.and_eq_true] at hnd
    have ha : a < sh.length := (List.getElem?_eq_some_iff.mp hs).1
    have hkl : k + 1 + l.length = k + (q :: l).length := by rw [List.length_cons]; omega
    have hnl : n + q.2.2.2 + mb_sum l = n + mb_sum (q :: l) := by show _ = n + (q.2.2.2 + mb_sum l); omega
    refine s_aload_n o1 hL ?_
    refine mb_psh o2 ?_
    refine n_arr o3 o5 o6 (by show k + 1 ≤ 60; omega) (by show n + q.2.2.2 ≤ 7200; omega) (fun g1 G1 => ?_)
    have hs1 : (sh ++ [(q.2.2.1, q.2.2.2)])[a]? = some (12, 45) := sh_app hs
    have er : (7001 + q.1 * 10) / 10 % 100 = q.1 := by omega
    refine n_putr o4 hs1 (by omega) (by omega) (fun g2 A2 G2 => ?_)
    rw [er] at A2 G2
    refine mb_run hL l _ (k + 1) (n + q.2.2.2) _ g2 o8 (by omega) (by omega) hs1 hnd.2 (fun g' A B C => ?_)
    have hsl : (sh ++ [(q.2.2.1, q.2.2.2)]).length = sh.length + 1 := by simp
    rw [hsl] at A C
    rw [hkl, hnl, List.append_assoc]
    refine kk g' (fun c h1 h2 => ?_) (fun f hf => ?_) (fun i x hx => ?_)
    · rw [A c (by omega) h2]
      funext i
      rw [G2 c i (Or.inl h2), G1 c h1]
    · rw [B f (fun x hx => hf x (List.mem_cons_of_mem _ hx)), G2 a f (Or.inr (fun e => hf q List.mem_cons_self e.symm)), G1 a ha]
    · cases i with
      | zero =>
        rw [List.getElem?_cons_zero] at hx
        cases hx
        rw [B q.1 (fun x hx => of_decide_eq_true (List.all_eq_true.mp hnd.1 x hx)), A2]
        rfl
      | succ i =>
        rw [List.getElem?_cons_succ] at hx
        rw [C i x hx]
        congr 1
        omega
def ls_M : List (Nat × Nat) := (12, 45) :: mdA.map (fun q => (q.2.2.1, q.2.2.2))
theorem k_model {D : Nat} {sh : List (Nat × Nat)} {g : Nat → Nat → Option Nat} {Q : oeQ} (hDD : 4 ≤ D)
    (k : ∀ g' : Nat → Nat → Option Nat, MdS (sh ++ ls_M) g' sh.length → (∀ c, c < sh.length → g' c = g c) → Q none (sh ++ ls_M, g', oe_z)) :
    oe_M D 28 [.inr (.inl sh.length)] (sh ++ [(12, 45)], g, oe_z) Q := by
  obtain ⟨d, rfl⟩ : ∃ d, D = d + 2 := ⟨D - 2, by omega⟩
  have f : ∀ (i : Nat) {q : Nat × Jvm.ClassFile.Instr × Nat}, oe_c28[i]? = some q → oe_find (oe_code 28) q.1 = some q.2 := fun i q hq => oe_ft (c := oe_c28) (by decide +kernel) hq
  refine oe_M.of (by simp [oe_c1]) (Nat.le_of_ble_eq_true rfl) ?_
  show oe_V (oe_cost 28) 28 (oe_M (d + 1)) none Q 0 [some (.inr (.inl sh.length))] [] (sh ++ [(12, 45)], g, oe_z) 0 0
  refine s_aload_n (f 0 (q := (0, .aload_n 0, 1)) rfl) rfl ?_
  refine n_obj (f 1 (q := (1, .invokespecial 0, 3)) rfl) (by simp) ?_
  refine mb_run (a := sh.length) rfl mdA 4 0 0 _ _ (by decide +kernel) (by decide) (by decide +kernel) sh_last (by decide +kernel) (fun g' A B C => ?_)
  refine s_ret (f 122 (q := (251, .return_, 1)) rfl) rfl ?_
  have e1 : sh ++ [(12, 45)] ++ mdA.map (fun q => (q.2.2.1, q.2.2.2)) = sh ++ ls_M := by rw [List.append_assoc]; rfl
  rw [e1]
  have hsl : (sh ++ [(12, 45)]).length = sh.length + 1 := by simp
  rw [hsl] at A C
  have hall : ∀ i, i < 30 → ∃ q : Nat × Nat × Nat × Nat, mdA[i]? = some q ∧ q.2.1 = i + 1 := by decide +kernel
  refine k g' ⟨sh_at (i := 0) rfl, fun q hq => ?_⟩ (fun c hc => A c (by omega) (by omega))
  obtain ⟨i, hi⟩ := List.getElem?_of_mem hq
  have hi30 : i < 30 := (List.getElem?_eq_some_iff.mp hi).1
  obtain ⟨q', h1, h2⟩ := hall i hi30
  have hqq : q' = q := Option.some.inj (h1.symm.trans hi)
  subst hqq
  refine ⟨?_, ?_⟩
  · rw [C i q' hi, h2]
    congr 1
    omega
  · refine sh_at ?_
    rw [h2]
    show (mdA.map (fun q => (q.2.2.1, q.2.2.2)))[i]? = _
    rw [List.getElem?_map, hi]
    rfl
