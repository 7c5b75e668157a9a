/-! Numbers: whole numbers in the range of the machine's. -/
theorem oe_toInt {x : Int} (h : oe_rg x) : (Int32.ofInt x).toInt = x := Int32.toInt_ofInt_of_le (by have := h.1; omega) (by have := h.2; omega)
theorem oe_toInt64 {x : Int} (h : oe_rg x) : (Int64.ofInt x).toInt = x := Int64.toInt_ofInt_of_le (by have := h.1; omega) (by have := h.2; omega)
theorem oe_clamp {x : Int} (h : oe_rg x) : (Int32.ofInt x).toNatClampNeg = x.toNat := Int32.toNatClampNeg_ofInt_of_le (by have := h.1; omega) (by have := h.2; omega)
theorem oe_eq {x y : Int} (h : oe_rg x) (g : oe_rg y) : Int32.ofInt x = Int32.ofInt y ↔ x = y := by rw [← Int32.toInt_inj, oe_toInt h, oe_toInt g]
theorem oe_lt {x y : Int} (h : oe_rg x) (g : oe_rg y) : Int32.ofInt x < Int32.ofInt y ↔ x < y := by rw [Int32.lt_iff_toInt_lt, oe_toInt h, oe_toInt g]
theorem oe_le {x y : Int} (h : oe_rg x) (g : oe_rg y) : Int32.ofInt x ≤ Int32.ofInt y ↔ x ≤ y := by rw [Int32.le_iff_toInt_le, oe_toInt h, oe_toInt g]
theorem oe_rg0 : oe_rg 0 := by unfold oe_rg; omega
theorem oe_zero : (0 : Int32) = Int32.ofInt 0 := rfl
theorem oe_vpin {i : Int} {n : Nat} (h : oe_rg i) (h0 : 0 ≤ i) (h1 : i < n) : vp_in (Int32.ofInt i) n := by rw [vp_in_iff, oe_toInt h]; exact ⟨h0, h1⟩
theorem oe_bv (x : Int) : (Int32.ofInt x).toBitVec.toNat = (x % 4294967296).toNat := by
  rw [Int32.toBitVec_ofInt, BitVec.toNat_ofInt]; rfl
theorem oe_nI {n : Nat} : nI n = Int32.ofInt (n : Int) := (Int32.ofInt_eq_ofNat).symm
theorem oe_and (x : Int) : Int32.ofInt x &&& Int32.ofInt 15 = Int32.ofInt (x % 16) := by
  rw [pk_and (Int32.ofInt x) (m := Int32.ofInt 15) 4 (by decide), oe_bv, oe_nI]
  congr 1
  omega
theorem oe_chr (x : Int) : ((Int32.ofInt x).toUInt32 % 65536).toInt32 = Int32.ofInt (x % 65536) := by
  rw [pk_char, oe_bv, oe_nI]
  congr 1
  omega
theorem oe_div {x y : Int} (h : oe_rg x) (g : oe_rg y) (h0 : 0 ≤ x) (g0 : 0 < y) : Int32.ofInt x / Int32.ofInt y = Int32.ofInt (x / y) := by
  rw [← Int32.toInt_inj, Int32.toInt_div_of_ne_right, oe_toInt h, oe_toInt g, Int.tdiv_eq_ediv_of_nonneg h0, oe_toInt]
  · constructor
    · have := Int.ediv_nonneg h0 (Int.le_of_lt g0); omega
    · have := Int.ediv_le_self y h0; have := h.2; omega
  · intro q
    rw [← Int32.toInt_inj, oe_toInt g] at q
    have : (-1 : Int32).toInt = -1 := rfl
    omega
theorem oe_rem {x y : Int} (h : oe_rg x) (g : oe_rg y) (h0 : 0 ≤ x) (g0 : 0 < y) : Int32.ofInt x - Int32.ofInt x / Int32.ofInt y * Int32.ofInt y = Int32.ofInt (x % y) := by
  rw [oe_div h g h0 g0, ← Int32.ofInt_mul, ← Int32.ofInt_sub]
  congr 1
  have := Int.emod_add_mul_ediv x y
  rw [Int.mul_comm y] at this
  omega
theorem oe_rem_rg {x y : Int} (h : oe_rg x) (g : oe_rg y) (h0 : 0 ≤ x) (g0 : 0 < y) : oe_rg (x % y) := by
  have := Int.emod_nonneg x (by omega : y ≠ 0)
  have := Int.emod_lt_of_pos x g0
  have := g.2
  constructor <;> omega
theorem oe_div_rg {x y : Int} (h : oe_rg x) (h0 : 0 ≤ x) (g0 : 0 < y) : oe_rg (x / y) := by
  have := Int.ediv_nonneg h0 (Int.le_of_lt g0)
  have := Int.ediv_le_self y h0
  have := h.2
  constructor <;> omega
theorem oe_lcmp {x y : Int} (h : oe_rg x) (g : oe_rg y) : lg_cmp (Int64.ofInt x) (Int64.ofInt y) = Int32.ofInt (if y < x then 1 else if x = y then 0 else -1) := by
  unfold lg_cmp
  have e1 : (Int64.ofInt x > Int64.ofInt y) ↔ y < x := by
    show Int64.ofInt y < Int64.ofInt x ↔ _
    rw [Int64.lt_iff_toInt_lt, oe_toInt64 h, oe_toInt64 g]
  have e2 : (Int64.ofInt x = Int64.ofInt y) ↔ x = y := by rw [← Int64.toInt_inj, oe_toInt64 h, oe_toInt64 g]
  by_cases c1 : y < x
  · rw [if_pos (e1.mpr c1), if_pos c1]; rfl
  · rw [if_neg (fun q => c1 (e1.mp q)), if_neg c1]
    by_cases c2 : x = y
    · rw [if_pos (e2.mpr c2), if_pos c2]; rfl
    · rw [if_neg (fun q => c2 (e2.mp q)), if_neg c2]; rfl
theorem oe_i2l {x : Int} (h : oe_rg x) : (Int32.ofInt x).toInt64 = Int64.ofInt x := by
  rw [← Int64.toInt_inj, Int32.toInt_toInt64, oe_toInt h, oe_toInt64 h]
