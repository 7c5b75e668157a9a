/-! A small machine over whole numbers: what a method does is spoken of here, and proved of the bytecode by the rows behind. -/
-- a value: a number; a cell; or (0, x) a long, (1, _) null, (2, k) the k-th text, (3, _) the script, (5, k) the bytes of the k-th text
abbrev oeV : Type := Int ⊕ Nat ⊕ (Nat × Int)
-- the heap: shapes (kind, length) of the cells, references in them, numbers in them; kinds 0 int[], 1 char[], 2 boolean[], 3 long[], 4 rows of equations, 5 + c an object of the c-th sort
abbrev oeH : Type := List (Nat × Nat) × (Nat → Nat → Option Nat) × (Nat → Nat → Int)
abbrev oeX : Type := Nat → List (Option oeV) → List oeV → oeH → Nat → Nat → Prop
abbrev oeQ : Type := Option oeV → oeH → Prop
abbrev oeC : Type := Nat → List oeV → oeH → oeQ → Prop
def oe_up {α : Type} (h : Nat → Nat → α) (a i : Nat) (v : α) : Nat → Nat → α := va_up h a (va_up (h a) i v)
def oe_rg (x : Int) : Prop := -2147483648 ≤ x ∧ x < 2147483648
def oe_br (c : Jvm.ClassFile.Cond) (x y : Int) (A B : Prop) : Prop := match c with
  | .eq => (x = y → A) ∧ (x ≠ y → B)
  | .ne => (x ≠ y → A) ∧ (x = y → B)
  | .lt => (x < y → A) ∧ (y ≤ x → B)
  | .ge => (y ≤ x → A) ∧ (x < y → B)
  | .gt => (y < x → A) ∧ (x ≤ y → B)
  | .le => (x ≤ y → A) ∧ (y < x → B)
def oe_i1 (S : List oeV) (f : Int → List oeV → Prop) : Prop := match S with
  | .inl x :: T => f x T
  | _ => False
def oe_i2 (S : List oeV) (f : Int → Int → List oeV → Prop) : Prop := match S with
  | .inl y :: .inl x :: T => f x y T
  | _ => False
def oe_r1 (S : List oeV) (f : Nat → List oeV → Prop) : Prop := match S with
  | .inr (.inl a) :: T => f a T
  | _ => False
def oe_l2 (S : List oeV) (f : Int → Int → List oeV → Prop) : Prop := match S with
  | .inr (.inr (0, y)) :: .inr (.inr (0, x)) :: T => f x y T
  | _ => False
def oe_ir (S : List oeV) (f : Int → Nat → List oeV → Prop) : Prop := match S with
  | .inl i :: .inr (.inl a) :: T => f i a T
  | _ => False
def oe_iir (S : List oeV) (f : Int → Int → Nat → List oeV → Prop) : Prop := match S with
  | .inl v :: .inl i :: .inr (.inl a) :: T => f v i a T
  | _ => False
def oe_rir (S : List oeV) (f : Nat → Int → Nat → List oeV → Prop) : Prop := match S with
  | .inr (.inl v) :: .inl i :: .inr (.inl a) :: T => f v i a T
  | _ => False
def oe_lir (S : List oeV) (f : Int → Int → Nat → List oeV → Prop) : Prop := match S with
  | .inr (.inr (0, v)) :: .inl i :: .inr (.inl a) :: T => f v i a T
  | _ => False
def oe_sh (sh : List (Nat × Nat)) (a : Nat) (f : Nat → Nat → Prop) : Prop := match sh[a]? with
  | some q => f q.1 q.2
  | none => False
def oe_lo (L : List (Option oeV)) (i : Nat) (f : oeV → Prop) : Prop := match L[i]? with
  | some (some v) => f v
  | _ => False
def oe_il (v : oeV) (f : Int → Prop) : Prop := match v with
  | .inl x => f x
  | _ => False
def oe_rl (v : oeV) (A : Prop) : Prop := match v with
  | .inr (.inl _) => A
  | .inr (.inr (3, _)) => A
  | _ => False
def oe_c1 (v : oeV) : Prop := match v with
  | .inr (.inr (0, _)) => False
  | _ => True
-- an element is read, a cell of kind t
def oe_ald (S : List oeV) (hp : oeH) (t : Nat) (f : Nat → Nat → List oeV → Prop) : Prop :=
  oe_ir S (fun i a T => oe_sh hp.1 a (fun u n => u = t ∧ 0 ≤ i ∧ i < n ∧ f a i.toNat T))
def oe_ast (S : List oeV) (hp : oeH) (t : Nat) (f : Int → Nat → Nat → List oeV → Prop) : Prop :=
  oe_iir S (fun v i a T => oe_sh hp.1 a (fun u n => u = t ∧ 0 ≤ i ∧ i < n ∧ f v a i.toNat T))
def oe_new (hp : oeH) (q : Nat × Nat) : oeH := (hp.1 ++ [q], va_up hp.2.1 hp.1.length (fun _ => none), va_up hp.2.2 hp.1.length (fun _ => 0))
def oe_call (lim : Nat × Nat) (C : oeC) (X : oeX) (j np N : Nat) (L : List (Option oeV)) (S : List oeV) (hp : oeH) (k n : Nat) : Prop :=
  np ≤ S.length ∧ S.length ≤ np + 4 ∧ k + (oe_cost j).1 ≤ lim.1 ∧ n + (oe_cost j).2 ≤ lim.2 ∧
  C j (S.take np).reverse hp (fun r hp' => X N L (r.toList ++ S.drop np) hp' (k + (oe_cost j).1) (n + (oe_cost j).2))
def oe_gf (hp : oeH) (a r : Nat) (f : oeV → Prop) : Prop :=
  oe_sh hp.1 a (fun u _ => u = r / 1000 + 5 ∧ (if r % 10 = 1 then (match hp.2.1 a (r / 10 % 100) with
    | some q => f (.inr (.inl q))
    | none => f (.inr (.inr (1, 0)))) else f (.inl (hp.2.2 a (r / 10 % 100)))))
def oe_pf (S : List oeV) (hp : oeH) (r : Nat) (f : List oeV → oeH → Prop) : Prop := match S with
  | .inl v :: .inr (.inl a) :: T => oe_sh hp.1 a (fun u _ => u = r / 1000 + 5 ∧ (r % 10 = 0 ∨ (r % 10 = 2 ∧ (v = 0 ∨ v = 1))) ∧ f T (hp.1, hp.2.1, oe_up hp.2.2 a (r / 10 % 100) v))
  | .inr (.inl q) :: .inr (.inl a) :: T => oe_sh hp.1 a (fun u _ => u = r / 1000 + 5 ∧ r % 10 = 1 ∧ f T (hp.1, oe_up hp.2.1 a (r / 10 % 100) (some q), hp.2.2))
  | _ => False
def oe_cpy (h : Nat → Nat → Int) (a sp b dp n : Nat) : Nat → Nat → Int := va_up h b (va_cpy (h a) (h b) sp dp n)
def oe_copy (S : List oeV) (hp : oeH) (f : List oeV → oeH → Prop) : Prop := match S with
  | .inl n :: .inl dp :: .inr (.inl b) :: .inl sp :: .inr (.inl a) :: T => oe_sh hp.1 a (fun u na => u = 0 ∧ oe_sh hp.1 b (fun u nb => u = 0 ∧ 0 ≤ n ∧ 0 ≤ dp ∧ 0 ≤ sp ∧ sp + n ≤ na ∧ dp + n ≤ nb ∧ T.length ≤ 4 ∧ f T (hp.1, hp.2.1, oe_cpy hp.2.2 a sp.toNat b dp.toNat n.toNat)))
  | _ => False
def oe_ins (lim : Nat × Nat) (rt : Nat) (C : oeC) (sc : Option (Nat × (Nat → Int))) (Q : oeQ) (X : oeX) (i : Jvm.ClassFile.Instr) (N : Nat) (L : List (Option oeV)) (S : List oeV) (hp : oeH) (k n : Nat) : Prop := match i with
  | .iconst v => X N L (.inl v :: S) hp k n
  | .bipush v => X N L (.inl v :: S) hp k n
  | .sipush v => X N L (.inl v :: S) hp k n
  | .ldc r => if r % 2 = 1 then X N L (.inl (r / 2 : Nat) :: S) hp k n else X N L (.inr (.inr (2, (r / 2 : Nat))) :: S) hp k n
  | .aconst_null => X N L (.inr (.inr (1, 0)) :: S) hp k n
  | .iload i => oe_lo L i (fun v => oe_il v (fun x => X N L (.inl x :: S) hp k n))
  | .iload_n i => oe_lo L i (fun v => oe_il v (fun x => X N L (.inl x :: S) hp k n))
  | .aload i => oe_lo L i (fun v => oe_rl v (X N L (v :: S) hp k n))
  | .aload_n i => oe_lo L i (fun v => oe_rl v (X N L (v :: S) hp k n))
  | .istore i => oe_i1 S (fun x T => X N (L.set i (some (.inl x))) T hp k n)
  | .istore_n i => oe_i1 S (fun x T => X N (L.set i (some (.inl x))) T hp k n)
  | .astore i => oe_r1 S (fun a T => X N (L.set i (some (.inr (.inl a)))) T hp k n)
  | .astore_n i => oe_r1 S (fun a T => X N (L.set i (some (.inr (.inl a)))) T hp k n)
  | .iinc i d => oe_lo L i (fun v => oe_il v (fun x => oe_rg (x + d) ∧ X N (L.set i (some (.inl (x + d)))) S hp k n))
  | .iadd => oe_i2 S (fun x y T => oe_rg (x + y) ∧ X N L (.inl (x + y) :: T) hp k n)
  | .isub => oe_i2 S (fun x y T => oe_rg (x - y) ∧ X N L (.inl (x - y) :: T) hp k n)
  | .imul => oe_i2 S (fun x y T => oe_rg (x * y) ∧ X N L (.inl (x * y) :: T) hp k n)
  | .idiv => oe_i2 S (fun x y T => 0 ≤ x ∧ 0 < y ∧ X N L (.inl (x / y) :: T) hp k n)
  | .irem => oe_i2 S (fun x y T => 0 ≤ x ∧ 0 < y ∧ X N L (.inl (x % y) :: T) hp k n)
  | .iand => oe_i2 S (fun x y T => y = 15 ∧ X N L (.inl (x % 16) :: T) hp k n)
  | .i2c => oe_i1 S (fun x T => X N L (.inl (x % 65536) :: T) hp k n)
  | .i2l => oe_i1 S (fun x T => X N L (.inr (.inr (0, x)) :: T) hp k n)
  | .lcmp => oe_l2 S (fun x y T => X N L (.inl (if y < x then 1 else if x = y then 0 else -1) :: T) hp k n)
  | .dup => (match S with
    | v :: T => oe_c1 v ∧ X N L (v :: v :: T) hp k n
    | _ => False)
  | .dup_x1 => (match S with
    | v :: w :: T => oe_c1 v ∧ oe_c1 w ∧ X N L (v :: w :: v :: T) hp k n
    | _ => False)
  | .dup2 => (match S with
    | v :: w :: T => oe_c1 v ∧ oe_c1 w ∧ X N L (v :: w :: v :: w :: T) hp k n
    | _ => False)
  | .pop => (match S with
    | v :: T => oe_c1 v ∧ X N L T hp k n
    | _ => False)
  | .ifCond c t => oe_i1 S (fun x T => oe_br c x 0 (X t.toNat L T hp k n) (X N L T hp k n))
  | .if_icmp c t => oe_i2 S (fun x y T => oe_br c x y (X t.toNat L T hp k n) (X N L T hp k n))
  | .ifnull t => (match S with
    | .inr (.inl _) :: T => X N L T hp k n
    | .inr (.inr (1, _)) :: T => X t.toNat L T hp k n
    | _ => False)
  | .ifnonnull t => (match S with
    | .inr (.inl _) :: T => X t.toNat L T hp k n
    | .inr (.inr (1, _)) :: T => X N L T hp k n
    | _ => False)
  | .goto t => X t.toNat L S hp k n
  | .tableswitch d lo hi offs => oe_i1 S (fun x T => ((x < lo ∨ hi < x) → X d.toNat L T hp k n) ∧ (∀ t, lo ≤ x → x ≤ hi → offs.toList[(x - lo).toNat]? = some t → X t.toNat L T hp k n))
  | .lookupswitch d ps => oe_i1 S (fun x T => X (Op.lookupswitch.offset ps.toList d x).toNat L T hp k n)
  | .getfield r => oe_r1 S (fun a T => oe_gf hp a r (fun v => X N L (v :: T) hp k n))
  | .putfield r => oe_pf S hp r (fun T hp' => X N L T hp' k n)
  | .iaload => (match S, sc with
    | .inl i :: .inr (.inr (3, _)) :: T, some z => 0 ≤ i ∧ i < z.1 ∧ X N L (.inl (z.2 i.toNat) :: T) hp k n
    | _, _ => oe_ald S hp 0 (fun a i T => X N L (.inl (hp.2.2 a i) :: T) hp k n))
  | .caload => oe_ald S hp 1 (fun a i T => X N L (.inl (hp.2.2 a i) :: T) hp k n)
  | .baload => oe_ald S hp 2 (fun a i T => X N L (.inl (hp.2.2 a i) :: T) hp k n)
  | .laload => oe_ald S hp 3 (fun a i T => X N L (.inr (.inr (0, hp.2.2 a i)) :: T) hp k n)
  | .aaload => oe_ald S hp 4 (fun a i T => (match hp.2.1 a i with
    | some q => X N L (.inr (.inl q) :: T) hp k n
    | none => X N L (.inr (.inr (1, 0)) :: T) hp k n))
  | .iastore => oe_ast S hp 0 (fun v a i T => X N L T (hp.1, hp.2.1, oe_up hp.2.2 a i v) k n)
  | .castore => oe_ast S hp 1 (fun v a i T => 0 ≤ v ∧ v < 65536 ∧ X N L T (hp.1, hp.2.1, oe_up hp.2.2 a i v) k n)
  | .bastore => oe_ast S hp 2 (fun v a i T => (v = 0 ∨ v = 1) ∧ X N L T (hp.1, hp.2.1, oe_up hp.2.2 a i v) k n)
  | .lastore => oe_lir S (fun v i a T => oe_sh hp.1 a (fun u m => u = 3 ∧ 0 ≤ i ∧ i < m ∧ X N L T (hp.1, hp.2.1, oe_up hp.2.2 a i.toNat v) k n))
  | .aastore => oe_rir S (fun v i a T => oe_sh hp.1 v (fun u _ => u = oe_eqc + 5) ∧ oe_sh hp.1 a (fun u m => u = 4 ∧ 0 ≤ i ∧ i < m ∧ X N L T (hp.1, oe_up hp.2.1 a i.toNat (some v), hp.2.2) k n))
  | .arraylength => (match S, sc with
    | .inr (.inr (3, _)) :: T, some z => X N L (.inl (z.1 : Nat) :: T) hp k n
    | _, _ => oe_r1 S (fun a T => oe_sh hp.1 a (fun u m => u ≤ 4 ∧ X N L (.inl (m : Nat) :: T) hp k n)))
  | .newarray ty => oe_i1 S (fun x T => 0 ≤ x ∧ x ≤ 100000 ∧ k + 1 ≤ lim.1 ∧ n + x.toNat ≤ lim.2 ∧
      X N L (.inr (.inl hp.1.length) :: T) (oe_new hp ((match ty with | .int => 0 | .char => 1 | .boolean => 2 | _ => 3), x.toNat)) (k + 1) (n + x.toNat))
  | .anewarray _ => oe_i1 S (fun x T => 0 ≤ x ∧ x ≤ 100000 ∧ k + 1 ≤ lim.1 ∧ n + x.toNat ≤ lim.2 ∧ X N L (.inr (.inl hp.1.length) :: T) (oe_new hp (4, x.toNat)) (k + 1) (n + x.toNat))
  | .new r => k + 1 ≤ lim.1 ∧ n + oe_nf r ≤ lim.2 ∧ X N L (.inr (.inl hp.1.length) :: S) (oe_new hp (r + 5, oe_nf r)) (k + 1) (n + oe_nf r)
  | .invokestatic r => if r / 1000 = 1 then oe_copy S hp (fun T hp' => X N L T hp' k n) else oe_call lim C X (r / 1000) (r % 10) N L S hp k n
  | .invokespecial r => if r / 1000 = 0 then oe_r1 S (fun _ T => T.length ≤ 4 ∧ X N L T hp k n) else (match S.drop (r % 10) with
    | .inr (.inl b) :: _ => oe_call lim C X (r / 1000) (r % 10 + 1) N L S hp k n
    | _ => False)
  | .invokevirtual r => (match S.drop (r % 10) with
    | .inr (.inl b) :: _ => oe_sh hp.1 b (fun u _ => u = r / 10 % 100 + 5) ∧ oe_call lim C X (r / 1000) (r % 10 + 1) N L S hp k n
    | _ => False)
  | .ireturn => (match S with
    | [.inl x] => (rt = 1 ∨ (rt = 2 ∧ (x = 0 ∨ x = 1)) ∨ (rt = 3 ∧ 0 ≤ x ∧ x < 65536)) ∧ Q (some (.inl x)) hp
    | _ => False)
  | .areturn => (match S with
    | [.inr (.inl a)] => rt = 4 ∧ Q (some (.inr (.inl a))) hp
    | _ => False)
  | .return_ => S = [] ∧ rt = 0 ∧ Q none hp
  | _ => False
def oe_find (c : List (Nat × Jvm.ClassFile.Instr × Nat)) (pc : Nat) : Option (Jvm.ClassFile.Instr × Nat) := match c with
  | [] => none
  | q :: r => if q.1 = pc then some q.2 else oe_find r pc
def oe_st (lim : Nat × Nat) (j : Nat) (C : oeC) (sc : Option (Nat × (Nat → Int))) (Q : oeQ) (X : oeX) (pc : Nat) (L : List (Option oeV)) (S : List oeV) (hp : oeH) (k n : Nat) : Prop :=
  match oe_find (oe_code j) pc with
  | some (i, len) => oe_ins lim (oe_rt j) C sc Q X i (pc + len) L S hp k n
  | none => False
/-- from this place on the method comes to its end, with Q -/
def oe_V (lim : Nat × Nat) (j : Nat) (C : oeC) (sc : Option (Nat × (Nat → Int))) (Q : oeQ) : oeX := fun pc L S hp k n =>
  ∀ X : oeX, (∀ pc L S hp k n, oe_st lim j C sc Q X pc L S hp k n → X pc L S hp k n) → X pc L S hp k n
def oe_ent (j : Nat) (args : List oeV) : List (Option oeV) := args.map some ++ List.replicate (oe_ml j - args.length) none
-- two methods that ask the texts of letters: the code of a letter, the letter of a code
def oe_cdl : List Int := [117, 118, 119, 120, 121, 122]
def oe_sgl : List Int := [100, 99, 98, 97, 103, 102, 113, 112]
def oe_ixf (c : Int) (l : List Int) (k : Nat) : Option Nat := match l with
  | [] => none
  | b :: r => if b = c then some k else oe_ixf c r (k + 1)
def oe_cdOf (c : Int) : Int := match oe_ixf c oe_cdl 0 with
  | some k => k
  | none => (match oe_ixf c oe_sgl 0 with
    | some k => 12 + k
    | none => -1)
def oe_ltOf (c : Int) : Int := if c < 12 then oe_cdl.getD (c % 6).toNat 0 else oe_sgl.getD (c - 12).toNat 0
def oe_bi (j : Nat) (as : List oeV) (hp : oeH) (Q : oeQ) : Prop := match j, as with
  | 900, [.inl c] => 0 ≤ c ∧ c < 65536 ∧ Q (some (.inl (oe_cdOf c))) hp
  | 901, [.inl c] => 0 ≤ c ∧ c < 20 ∧ Q (some (.inl (oe_ltOf c))) hp
  | _, _ => False
/-- method j, called with args, ends with Q; calls go no deeper than d -/
def oe_M : Nat → oeC
  | 0 => fun _ _ _ _ => False
  | d + 1 => fun j args hp Q => (6 ≤ d ∧ oe_bi j args hp Q) ∨ ((∀ v ∈ args, oe_c1 v) ∧ args.length ≤ oe_ml j ∧ oe_V (oe_cost j) j (oe_M d) none Q 0 (oe_ent j args) [] hp 0 0)
