/-! Making objects: steps over a heap whose numbers are all 0. -/
def oe_z : Nat → Nat → Int := fun _ _ => 0
theorem z_new (a : Nat) : va_up oe_z a (fun _ => 0) = oe_z := by
  funext c i
  unfold va_up oe_z
  split <;> rfl
theorem z_put (a i : Nat) : oe_up oe_z a i 0 = oe_z := by
  funext c x
  by_cases e : c = a
  · subst e
    by_cases e2 : x = i
    · subst e2; rw [up_eq]; rfl
    · rw [up_col e2]
  · rw [up_ne e]
theorem sh_app {sh e : List (Nat × Nat)} {c : Nat} {q : Nat × Nat} (h : sh[c]? = some q) : (sh ++ e)[c]? = some q := by
  rw [List.getElem?_append_left (List.getElem?_eq_some_iff.mp h).1]; exact h
theorem sh_last {sh : List (Nat × Nat)} {q : Nat × Nat} : (sh ++ [q])[sh.length]? = some q := by simp
/-- fields of an object that are known -/
def fd (g : Nat → Nat → Option Nat) (a : Nat) (fs : List (Nat × Nat)) : Prop := ∀ q ∈ fs, g a q.1 = some q.2
theorem fd_nil {g : Nat → Nat → Option Nat} {a : Nat} : fd g a [] := fun q h => by cases h
theorem fd_put {g g' : Nat → Nat → Option Nat} {a f v : Nat} {fs : List (Nat × Nat)} (h : fd g a fs) (h1 : g' a f = some v) (h2 : ∀ c i, c ≠ a ∨ i ≠ f → g' c i = g c i) (h3 : fs.all (fun q => decide (q.1 ≠ f)) = true) : fd g' a ((f, v) :: fs) := by
  intro q hq
  rcases List.mem_cons.mp hq with z | z
  · rw [z]; exact h1
  · rw [h2 a q.1 (Or.inr (of_decide_eq_true (List.all_eq_true.mp h3 q z)))]; exact h q z
theorem fd_kept {g g' : Nat → Nat → Option Nat} {a : Nat} {fs : List (Nat × Nat)} (h : fd g a fs) (e : g' a = g a) : fd g' a fs := fun q hq => by rw [e]; exact h q hq
theorem LtS.ext {sh sh' : List (Nat × Nat)} {g g' : Nat → Nat → Option Nat} {a cap : Nat} (H : LtS sh g a cap) (hs : ∀ (c : Nat) (q : Nat × Nat), sh[c]? = some q → sh'[c]? = some q) (hg : g' a = g a) : LtS sh' g' a cap := by
  obtain ⟨a1, a2, a3, a4, a5, a6⟩ := H
  exact ⟨hs _ _ a1, by rw [hg]; exact a2, by rw [hg]; exact a3, hs _ _ a4, hs _ _ a5, a6⟩
theorem EqS.ext {sh sh' : List (Nat × Nat)} {g g' : Nat → Nat → Option Nat} {a cap : Nat} (H : EqS sh g a cap) (hs : ∀ (c : Nat) (q : Nat × Nat), sh[c]? = some q → sh'[c]? = some q) (hg : ∀ c, a ≤ c → c < a + 7 → g' c = g c) : EqS sh' g' a cap := by
  obtain ⟨a1, a2, a3, a4, a5⟩ := H
  exact ⟨hs _ _ a1, by rw [hg a (by omega) (by omega)]; exact a2, by rw [hg a (by omega) (by omega)]; exact a3, a4.ext hs (hg _ (by omega) (by omega)), a5.ext hs (hg _ (by omega) (by omega))⟩
theorem WtS.ext {sh sh' : List (Nat × Nat)} {g g' : Nat → Nat → Option Nat} {a : Nat} {π : Nat → Nat} (H : WtS sh g a π) (hs : ∀ (c : Nat) (q : Nat × Nat), sh[c]? = some q → sh'[c]? = some q) (hg : ∀ c, a ≤ c → c < a + 212 → g' c = g c) : WtS sh' g' a π := by
  obtain ⟨a1, a2, a3, a4, a5, a6⟩ := H
  exact ⟨hs _ _ a1, by rw [hg a (by omega) (by omega)]; exact a2, hs _ _ a3, fun i hi => (a4 i hi).ext hs (fun c z1 z2 => hg c (by omega) (by omega)), fun i hi => ⟨(a5 i hi).1, by rw [hg (a + 1) (by omega) (by omega)]; exact (a5 i hi).2⟩, a6⟩
theorem AcS.ext {sh sh' : List (Nat × Nat)} {g g' : Nat → Nat → Option Nat} {a : Nat} (H : AcS sh g a) (hs : ∀ (c : Nat) (q : Nat × Nat), sh[c]? = some q → sh'[c]? = some q) (hg : ∀ c, a ≤ c → c < a + 77 → g' c = g c) : AcS sh' g' a := by
  obtain ⟨a1, a2, a3, a4, a5, a6, a7, a8, a9, a10⟩ := H
  have e0 := hg a (by omega) (by omega)
  exact ⟨hs _ _ a1, by rw [e0]; exact a2, hs _ _ a3, by rw [e0]; exact a4, hs _ _ a5, by rw [e0]; exact a6, hs _ _ a7, by rw [e0]; exact a8, a9.ext hs (hg _ (by omega) (by omega)), fun i hi => ⟨by rw [hg (a + 1) (by omega) (by omega)]; exact (a10 i hi).1, (a10 i hi).2.ext hs (fun c z1 z2 => hg c (by omega) (by omega))⟩⟩
theorem UnS.ext {sh sh' : List (Nat × Nat)} {g g' : Nat → Nat → Option Nat} {a : Nat} (H : UnS sh g a) (hs : ∀ (c : Nat) (q : Nat × Nat), sh[c]? = some q → sh'[c]? = some q) (hg : ∀ c, a ≤ c → c < a + 12 → g' c = g c) : UnS sh' g' a := by
  obtain ⟨s0, s1, s2, s3, s4, s5, s6, s7, s8, s9, s10, s11, s12, s13, s14⟩ := H
  have e0 := hg a (by omega) (by omega)
  exact ⟨hs _ _ s0, by rw [e0]; exact s1, s2.ext hs (hg _ (by omega) (by omega)), by rw [e0]; exact s3, hs _ _ s4, by rw [e0]; exact s5, hs _ _ s6, by rw [e0]; exact s7, hs _ _ s8, by rw [e0]; exact s9, s10.ext hs (hg _ (by omega) (by omega)), by rw [e0]; exact s11, hs _ _ s12, by rw [e0]; exact s13, hs _ _ s14⟩
theorem OvS.ext {sh sh' : List (Nat × Nat)} {g g' : Nat → Nat → Option Nat} {a : Nat} (H : OvS sh g a) (hs : ∀ (c : Nat) (q : Nat × Nat), sh[c]? = some q → sh'[c]? = some q) (hg : ∀ c, a ≤ c → c < a + 27 → g' c = g c) : OvS sh' g' a := by
  obtain ⟨s0, s1, s2, s3, s4, s5, s6⟩ := H
  have e0 := hg a (by omega) (by omega)
  exact ⟨hs _ _ s0, by rw [e0]; exact s1, s2.ext hs (fun c z1 z2 => hg c (by omega) (by omega)), by rw [e0]; exact s3, s4.ext hs (fun c z1 z2 => hg c (by omega) (by omega)), by rw [e0]; exact s5, s6.ext hs (fun c z1 z2 => hg c (by omega) (by omega))⟩
def ar_t (ty : Jvm.ClassFile.ArrayType) : Nat := match ty with
  | .int => 0
  | .char => 1
  | .boolean => 2
  | _ => 3
section
variable {lim : Nat × Nat} {j d : Nat} {sc : Option (Nat × (Nat → Int))} {Q : oeQ} {pc len : Nat} {L : List (Option oeV)} {S : List oeV} {sh : List (Nat × Nat)} {g : Nat → Nat → Option Nat} {h : Nat → Nat → Int} {k n : Nat}
theorem n_new {r : Nat} (hf : oe_find (oe_code j) pc = some (.new r, len)) (h1 : k + 1 ≤ lim.1) (h2 : n + oe_nf r ≤ lim.2)
    (kk : ∀ g' : Nat → Nat → Option Nat, (∀ c, c < sh.length → g' c = g c) → oe_V lim j (oe_M d) sc Q (pc + len) L (.inr (.inl sh.length) :: S) (sh ++ [(r + 5, oe_nf r)], g', oe_z) (k + 1) (n + oe_nf r)) : oe_V lim j (oe_M d) sc Q pc L S (sh, g, oe_z) k n := by
  refine s_0 hf ⟨h1, h2, ?_⟩
  have := kk (va_up g sh.length (fun _ => none)) (fun c hc => by unfold va_up; rw [if_neg (by omega)])
  rw [← z_new sh.length] at this
  exact this
theorem n_arr {ty : Jvm.ClassFile.ArrayType} {t v : Nat} (hf : oe_find (oe_code j) pc = some (.newarray ty, len)) (ht : ar_t ty = t) (hv : v ≤ 100000) (h1 : k + 1 ≤ lim.1) (h2 : n + v ≤ lim.2)
    (kk : ∀ g' : Nat → Nat → Option Nat, (∀ c, c < sh.length → g' c = g c) → oe_V lim j (oe_M d) sc Q (pc + len) L (.inr (.inl sh.length) :: S) (sh ++ [(t, v)], g', oe_z) (k + 1) (n + v)) : oe_V lim j (oe_M d) sc Q pc L (.inl (v : Int) :: S) (sh, g, oe_z) k n := by
  refine s_0 hf ⟨by omega, by omega, h1, by rw [Int.toNat_natCast]; exact h2, ?_⟩
  have := kk (va_up g sh.length (fun _ => none)) (fun c hc => by unfold va_up; rw [if_neg (by omega)])
  rw [← z_new sh.length, ← ht] at this
  rw [Int.toNat_natCast]
  cases ty <;> exact this
theorem n_anew {r v : Nat} (hf : oe_find (oe_code j) pc = some (.anewarray r, len)) (hv : v ≤ 100000) (h1 : k + 1 ≤ lim.1) (h2 : n + v ≤ lim.2)
    (kk : ∀ g' : Nat → Nat → Option Nat, (∀ c, c < sh.length → g' c = g c) → oe_V lim j (oe_M d) sc Q (pc + len) L (.inr (.inl sh.length) :: S) (sh ++ [(4, v)], g', oe_z) (k + 1) (n + v)) : oe_V lim j (oe_M d) sc Q pc L (.inl (v : Int) :: S) (sh, g, oe_z) k n := by
  refine s_0 hf ⟨by omega, by omega, h1, by rw [Int.toNat_natCast]; exact h2, ?_⟩
  have := kk (va_up g sh.length (fun _ => none)) (fun c hc => by unfold va_up; rw [if_neg (by omega)])
  rw [← z_new sh.length] at this
  rw [Int.toNat_natCast]
  exact this
theorem n_putr {r a q u N : Nat} (hf : oe_find (oe_code j) pc = some (.putfield r, len)) (hs : sh[a]? = some (u, N)) (hu : u = r / 1000 + 5) (hr : r % 10 = 1)
    (kk : ∀ g' : Nat → Nat → Option Nat, g' a (r / 10 % 100) = some q → (∀ c i, c ≠ a ∨ i ≠ r / 10 % 100 → g' c i = g c i) → oe_V lim j (oe_M d) sc Q (pc + len) L S (sh, g', h) k n) : oe_V lim j (oe_M d) sc Q pc L (.inr (.inl q) :: .inr (.inl a) :: S) (sh, g, h) k n := by
  refine s_0 hf ?_
  unfold oe_ins
  dsimp only
  unfold oe_pf
  dsimp only
  rw [oe_sh_of hs]
  refine ⟨hu, hr, kk _ up_eq (fun c i z => ?_)⟩
  by_cases e : c = a
  · subst e
    rcases z with z | z
    · exact absurd rfl z
    · exact up_col z
  · rw [up_ne e]
theorem n_put0 {r a u N : Nat} (hf : oe_find (oe_code j) pc = some (.putfield r, len)) (hs : sh[a]? = some (u, N)) (hu : u = r / 1000 + 5) (hr : r % 10 = 0 ∨ r % 10 = 2)
    (kk : oe_V lim j (oe_M d) sc Q (pc + len) L S (sh, g, oe_z) k n) : oe_V lim j (oe_M d) sc Q pc L (.inl 0 :: .inr (.inl a) :: S) (sh, g, oe_z) k n := by
  refine s_puti hf hs hu (by rcases hr with z | z; exact Or.inl z; exact Or.inr ⟨z, Or.inl rfl⟩) ?_
  rw [z_put]
  exact kk
theorem n_obj {a : Nat} (hf : oe_find (oe_code j) pc = some (.invokespecial 0, len)) (hS : S.length ≤ 4) (kk : oe_V lim j (oe_M d) sc Q (pc + len) L S (sh, g, h) k n) : oe_V lim j (oe_M d) sc Q pc L (.inr (.inl a) :: S) (sh, g, h) k n := by
  refine s_0 hf ?_
  unfold oe_ins
  dsimp only
  rw [if_pos (by decide)]
  exact ⟨hS, kk⟩
theorem n_call0 {r a : Nat} (hf : oe_find (oe_code j) pc = some (.invokespecial r, len)) (hr : r / 1000 ≠ 0) (h0 : r % 10 = 0) (hS : S.length ≤ 4) (h3 : k + (oe_cost (r / 1000)).1 ≤ lim.1) (h4 : n + (oe_cost (r / 1000)).2 ≤ lim.2)
    (kk : oe_M d (r / 1000) [.inr (.inl a)] (sh, g, h) (fun v hp => oe_V lim j (oe_M d) sc Q (pc + len) L (v.toList ++ S) hp (k + (oe_cost (r / 1000)).1) (n + (oe_cost (r / 1000)).2))) : oe_V lim j (oe_M d) sc Q pc L (.inr (.inl a) :: S) (sh, g, h) k n := by
  refine s_0 hf ?_
  unfold oe_ins
  dsimp only
  rw [if_neg hr, h0]
  exact ⟨by simp, by simp; omega, h3, h4, kk⟩
theorem n_call1 {r a : Nat} {v : Int} (hf : oe_find (oe_code j) pc = some (.invokespecial r, len)) (hr : r / 1000 ≠ 0) (h0 : r % 10 = 1) (hS : S.length ≤ 4) (h3 : k + (oe_cost (r / 1000)).1 ≤ lim.1) (h4 : n + (oe_cost (r / 1000)).2 ≤ lim.2)
    (kk : oe_M d (r / 1000) [.inr (.inl a), .inl v] (sh, g, h) (fun w hp => oe_V lim j (oe_M d) sc Q (pc + len) L (w.toList ++ S) hp (k + (oe_cost (r / 1000)).1) (n + (oe_cost (r / 1000)).2))) : oe_V lim j (oe_M d) sc Q pc L (.inl v :: .inr (.inl a) :: S) (sh, g, h) k n := by
  refine s_0 hf ?_
  unfold oe_ins
  dsimp only
  rw [if_neg hr, h0]
  exact ⟨by simp, by simp; omega, h3, h4, kk⟩
end
