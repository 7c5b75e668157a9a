/-! Walking in the small machine. -/
def oe_go (stop : List Nat) (lim : Nat × Nat) (j : Nat) (C : oeC) (sc : Option (Nat × (Nat → Int))) (Q : oeQ) : Nat → oeX
  | 0 => oe_V lim j C sc Q
  | f + 1 => fun pc L S hp k n => if pc ∈ stop then oe_V lim j C sc Q pc L S hp k n else oe_st lim j C sc Q (oe_go stop lim j C sc Q f) pc L S hp k n
theorem oe_V.go {stop : List Nat} {lim : Nat × Nat} {j : Nat} {C : oeC} {sc : Option (Nat × (Nat → Int))} {Q : oeQ} (hC : oe_Cm C) : ∀ (f pc : Nat) (L : List (Option oeV)) (S : List oeV) (hp : oeH) (k n : Nat), oe_go stop lim j C sc Q f pc L S hp k n → oe_V lim j C sc Q pc L S hp k n
  | 0, _, _, _, _, _, _, h => h
  | f + 1, pc, L, S, hp, k, n, h => by
    unfold oe_go at h
    split at h
    · exact h
    · exact oe_V.step hC (oe_st_mono hC (fun _ _ q => q) (fun _ _ _ _ _ _ q => oe_V.go hC f _ _ _ _ _ _ q) h)
/-- on to the next places of `stop` -/
theorem oe_V.run (f : Nat) (stop : List Nat) {lim : Nat × Nat} {j : Nat} {C : oeC} {sc : Option (Nat × (Nat → Int))} {Q : oeQ} {pc : Nat} {L : List (Option oeV)} {S : List oeV} {hp : oeH} {k n : Nat} (hC : oe_Cm C)
    (h : oe_st lim j C sc Q (oe_go stop lim j C sc Q f) pc L S hp k n) : oe_V lim j C sc Q pc L S hp k n :=
  oe_V.step hC (oe_st_mono hC (fun _ _ q => q) (fun _ _ _ _ _ _ q => oe_V.go hC f _ _ _ _ _ _ q) h)
theorem oe_M.of {d j : Nat} {as : List oeV} {hp : oeH} {Q : oeQ} (h1 : ∀ v ∈ as, oe_c1 v) (h2 : as.length ≤ oe_ml j) (h : oe_V (oe_cost j) j (oe_M d) none Q 0 (oe_ent j as) [] hp 0 0) : oe_M (d + 1) j as hp Q := Or.inr ⟨h1, h2, h⟩
