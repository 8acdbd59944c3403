/-! A machine of its own over the decoded code: values, memory, steps; all of it pure. -/
abbrev aV : Type := Int ⊕ (Int ⊕ ((Nat × Int) ⊕ Nat))
abbrev aI (x : Int) : aV := Sum.inl x
abbrev aL (x : Int) : aV := Sum.inr (Sum.inl x)
abbrev aR (k : Nat) (i : Int) : aV := Sum.inr (Sum.inr (Sum.inl (k, i)))
abbrev aO (j : Nat) : aV := Sum.inr (Sum.inr (Sum.inr j))
abbrev aM : Type := Nat → Int → Int → Int
abbrev aLs : Type := List (Option aV)
abbrev aG : Type := Nat × (Int → Int)
abbrev aFI : Type := Bool ⊕ (Nat × (Int → Int))
abbrev aKI : Type := Int × ((Nat × List aFI) ⊕ ((Nat × (Int → Int)) ⊕ (Nat × Nat × Int)))
def w32 (z : Int) : Int := (z + 2147483648) % 4294967296 - 2147483648
def w16 (z : Int) : Int := (z + 32768) % 65536 - 32768
def w8 (z : Int) : Int := (z + 128) % 256 - 128
def up (μ : aM) (k : Nat) (i j x : Int) : aM := fun k' i' j' => if k' = k ∧ j' = j ∧ i' = i then x else μ k' i' j'
def cp (μ : aM) (k0 : Nat) (i0 sp : Int) (k1 : Nat) (i1 dp n : Int) : aM := fun k i j => if k = k1 ∧ i = i1 ∧ dp ≤ j ∧ j < dp + n then μ k0 i0 (sp + (j - dp)) else μ k i j
def b_shl (x y : Int) : Int := (Int32.ofInt x <<< (Int32.ofInt y &&& 31)).toInt
def b_shr (x y : Int) : Int := (Int32.ofInt x >>> (Int32.ofInt y &&& 31)).toInt
def b_and (x y : Int) : Int := (Int32.ofInt x &&& Int32.ofInt y).toInt
def b_or (x y : Int) : Int := (Int32.ofInt x ||| Int32.ofInt y).toInt
def b_xor (x y : Int) : Int := (Int32.ofInt x ^^^ Int32.ofInt y).toInt
def l_shl (x y : Int) : Int := (Int64.ofInt x <<< ((Int32.ofInt y).toInt64 &&& 63)).toInt
def l_shr (x y : Int) : Int := (Int64.ofInt x >>> ((Int32.ofInt y).toInt64 &&& 63)).toInt
def l_and (x y : Int) : Int := (Int64.ofInt x &&& Int64.ofInt y).toInt
def l_or (x y : Int) : Int := (Int64.ofInt x ||| Int64.ofInt y).toInt
def l_xor (x y : Int) : Int := (Int64.ofInt x ^^^ Int64.ofInt y).toInt
def i_div (x y : Int) : Int := w32 (Int.tdiv x y)
def i_rem (x y : Int) : Int := w32 (x - w32 (w32 (Int.tdiv x y) * y))
def l_cmp (x y : Int) : Int := if x < y then -1 else if x = y then 0 else 1
def i_max (x y : Int) : Int := if x < y then y else x
def i_min (x y : Int) : Int := if y < x then y else x
def i_abs (x : Int) : Int := if 0 ≤ x then x else w32 (0 - x)
def r32 (x : Int) : Prop := -2147483648 ≤ x ∧ x < 2147483648
def r64 (x : Int) : Prop := -9223372036854775808 ≤ x ∧ x < 9223372036854775808
def nth : aLs → Nat → Option aV
  | [], _ => none
  | x :: _, 0 => x
  | _ :: l, n + 1 => nth l n
def isLg : Option aV → Bool
  | some (Sum.inr (Sum.inl _)) => true
  | _ => false
def st1 : aLs → Nat → aV → aLs
  | [], _, _ => []
  | _ :: l, 0, v => some v :: l
  | x :: l, 1, v => (bif isLg x then none else x) :: st1 l 0 v
  | x :: l, n + 2, v => x :: st1 l (n + 1) v
def kil : aLs → aLs
  | [] => []
  | _ :: l => none :: l
def st2 : aLs → Nat → aV → aLs
  | [], _, _ => []
  | _ :: l, 0, v => some v :: kil l
  | x :: l, 1, v => (bif isLg x then none else x) :: st2 l 0 v
  | x :: l, n + 2, v => x :: st2 l (n + 1) v
def pad : Nat → aLs
  | 0 => []
  | n + 1 => none :: pad n
def ent : Nat → List aV → aLs
  | n, [] => pad n
  | n + 2, Sum.inr (Sum.inl x) :: l => some (Sum.inr (Sum.inl x)) :: none :: ent n l
  | n + 1, v :: l => some v :: ent n l
  | 0, _ => []
def popA : Nat → List aV → List aV → Option (List aV × List aV)
  | 0, st, acc => some (acc, st)
  | n + 1, v :: st, acc => popA n st (v :: acc)
  | _ + 1, [], _ => none
def optL : Option aV → List aV
  | none => []
  | some v => [v]

def KT : List aKI := [
  (1, .inl (8, [.inr (1, fun _ => 0), .inr (1, fun _ => 1), .inl true, .inr (13, fun a => a), .inr (14, fun _ => 6), .inl false, .inr (19, fun a => a), .inr (21, fun a => a), .inr (2, fun _ => 2), .inr (26, fun a => a), .inr (28, fun a => a)])),
  (2, .inl (2, [.inr (2, fun a => a), .inr (9, fun a => 3 * a), .inr (9, fun a => 3 * a + 1), .inr (9, fun a => 3 * a + 2), .inl false])),
  (3, .inl (1, [.inl false, .inl false, .inr (3, fun a => a), .inr (4, fun a => a), .inr (5, fun a => a), .inr (6, fun a => a), .inr (7, fun a => a), .inr (8, fun a => a)])),
  (3, .inr (.inl (0, fun _ => 6))),
  (3, .inr (.inl (0, fun _ => 6))),
  (3, .inr (.inl (0, fun _ => 6))),
  (3, .inr (.inl (0, fun _ => 6))),
  (3, .inr (.inl (1, fun _ => 6))),
  (3, .inr (.inl (0, fun _ => 24))),
  (6, .inl (4, [.inl false, .inl false, .inr (10, fun a => a), .inr (11, fun a => a), .inr (12, fun a => a)])),
  (6, .inr (.inl (0, fun a => if a % 3 = 0 then 5 else if a % 3 = 1 then 10 else 8))),
  (6, .inr (.inl (0, fun a => if a % 3 = 0 then 5 else if a % 3 = 1 then 10 else 8))),
  (6, .inr (.inl (0, fun a => if a % 3 = 0 then 5 else if a % 3 = 1 then 10 else 8))),
  (1, .inr (.inr (14, 4, 6))),
  (7, .inl (7, [.inl false, .inl false, .inl false, .inl false, .inr (15, fun a => a), .inr (16, fun a => a), .inr (17, fun a => a), .inr (18, fun a => a)])),
  (7, .inr (.inl (0, fun _ => 10))),
  (7, .inr (.inl (0, fun _ => 10))),
  (7, .inr (.inl (0, fun _ => 10))),
  (7, .inr (.inl (0, fun _ => 100))),
  (1, .inl (5, [.inr (20, fun a => a), .inl false, .inl false])),
  (1, .inr (.inl (2, fun _ => 100))),
  (1, .inl (3, [.inr (22, fun a => a), .inr (23, fun a => a), .inr (24, fun a => a), .inr (25, fun a => a), .inl false, .inl false, .inl true])),
  (1, .inr (.inl (0, fun _ => 6))),
  (1, .inr (.inl (0, fun _ => 6))),
  (1, .inr (.inl (0, fun _ => 6))),
  (1, .inr (.inl (0, fun _ => 6))),
  (1, .inl (0, [.inr (27, fun a => a), .inl false, .inl false, .inl false, .inl false])),
  (1, .inr (.inl (0, fun _ => 20))),
  (1, .inr (.inr (29, 5, 6))),
  (6, .inl (6, [.inl false, .inl false, .inr (30, fun a => a)])),
  (6, .inr (.inl (3, fun _ => 60))),
  (1, .inl (9, [.inl false, .inl false, .inl false, .inr (32, fun a => a), .inr (33, fun a => a), .inr (34, fun a => a), .inr (35, fun a => a), .inr (36, fun a => a), .inl false, .inl false, .inl false, .inl false, .inl false, .inr (37, fun a => a), .inr (38, fun a => a), .inr (39, fun a => a), .inr (40, fun a => a), .inr (41, fun a => a), .inr (42, fun a => a), .inr (43, fun a => a), .inr (44, fun a => a), .inl false, .inl false, .inl false, .inr (45, fun a => a), .inl false, .inr (46, fun a => a), .inl true, .inr (47, fun a => a), .inr (48, fun a => a), .inr (49, fun a => a), .inl false, .inl false, .inr (50, fun a => a), .inr (51, fun a => a), .inl false, .inr (52, fun a => a), .inr (53, fun a => a), .inr (54, fun a => a), .inl false, .inl false, .inr (55, fun a => a), .inr (56, fun a => a), .inr (57, fun a => a), .inr (58, fun a => a), .inl true, .inl false, .inl false, .inl false, .inl false, .inl false, .inl false, .inl false, .inr (59, fun a => a), .inr (60, fun a => a), .inr (61, fun a => a), .inr (62, fun a => a), .inr (63, fun a => a), .inr (64, fun a => a), .inr (65, fun a => a), .inr (66, fun a => a), .inr (67, fun a => a), .inr (68, fun a => a), .inr (69, fun a => a), .inr (70, fun a => a), .inl false, .inr (71, fun a => a), .inr (72, fun a => a), .inr (73, fun a => a), .inr (74, fun a => a), .inr (75, fun a => a)])),
  (1, .inr (.inl (0, fun _ => 6))),
  (1, .inr (.inl (0, fun _ => 6))),
  (1, .inr (.inl (0, fun _ => 6))),
  (1, .inr (.inl (0, fun _ => 6))),
  (1, .inr (.inl (0, fun _ => 24))),
  (1, .inr (.inl (0, fun _ => 100))),
  (1, .inr (.inl (0, fun _ => 6))),
  (1, .inr (.inl (0, fun _ => 60))),
  (1, .inr (.inl (0, fun _ => 60))),
  (1, .inr (.inl (0, fun _ => 60))),
  (1, .inr (.inl (0, fun _ => 60))),
  (1, .inr (.inl (0, fun _ => 600))),
  (1, .inr (.inl (0, fun _ => 101))),
  (1, .inr (.inl (0, fun _ => 16))),
  (1, .inr (.inl (1, fun _ => 100))),
  (1, .inr (.inl (0, fun _ => 6))),
  (1, .inr (.inl (0, fun _ => 6))),
  (1, .inr (.inl (1, fun _ => 6))),
  (1, .inr (.inl (0, fun _ => 6))),
  (1, .inr (.inl (0, fun _ => 6))),
  (1, .inr (.inl (0, fun _ => 5))),
  (1, .inr (.inl (0, fun _ => 5))),
  (1, .inr (.inl (0, fun _ => 5))),
  (1, .inr (.inl (0, fun _ => 10))),
  (1, .inr (.inl (0, fun _ => 10))),
  (1, .inr (.inl (0, fun _ => 8))),
  (1, .inr (.inl (0, fun _ => 8))),
  (1, .inr (.inl (0, fun _ => 6))),
  (1, .inr (.inl (0, fun _ => 6))),
  (1, .inr (.inl (0, fun _ => 6))),
  (1, .inr (.inl (0, fun _ => 6))),
  (1, .inr (.inl (0, fun _ => 24))),
  (1, .inr (.inl (0, fun _ => 5))),
  (1, .inr (.inl (0, fun _ => 5))),
  (1, .inr (.inl (0, fun _ => 5))),
  (1, .inr (.inl (0, fun _ => 10))),
  (1, .inr (.inl (0, fun _ => 10))),
  (1, .inr (.inl (0, fun _ => 8))),
  (1, .inr (.inl (0, fun _ => 8))),
  (1, .inr (.inl (0, fun _ => 20))),
  (1, .inr (.inl (0, fun _ => 6))),
  (1, .inr (.inl (0, fun _ => 6))),
  (1, .inr (.inl (3, fun _ => 360))),
  (1, .inr (.inl (3, fun _ => 60)))]
def knd (k : Nat) : Option aKI := nthL KT k
def kcnt (k : Nat) : Int := match knd k with
  | some q => q.1
  | none => 0
def kcls (k : Nat) : Option Nat := match knd k with
  | some (_, .inl (c, _)) => some c
  | _ => bif k == 101 then some 101 else none
def kfld (k : Nat) (j : Nat) : Option aFI := match knd k with
  | some (_, .inl (_, l)) => nthL l j
  | _ => none
def karr (k : Nat) : Option (Nat × (Int → Int)) := match knd k with
  | some (_, .inr (.inl q)) => some q
  | _ => none
def kref (k : Nat) : Option (Nat × Nat × Int) := match knd k with
  | some (_, .inr (.inr q)) => some q
  | _ => none
def rng (k : Nat) (x : Int) : Prop := match karr k with
  | some (1, _) => x = 0 ∨ x = 1
  | some (2, _) => -128 ≤ x ∧ x ≤ 127
  | some (3, _) => r64 x
  | _ => r32 x
def isZ (k : Nat) : Bool := match karr k with
  | some (1, _) => true
  | _ => false
def abvL : List Int := [0, 0, 0, 0, 1, 2, 3]
def strL : List (List Int) := [[108, 97, 103], [104, 97, 115, 116, 101], [102, 97, 115, 116], [108, 111, 117, 100], [112, 107, 118, 117, 111, 100], [60, 61, 62]]
def gtI (l : List Int) (i : Int) : Int := l.getD i.toNat 0
/-- arrays that are not ours: their kind of cell (0 int, 2 byte), their length, what they hold -/
def fty (k : Nat) : Nat := bif k == 102 then 2 else bif k == 100 then 0 else bif k == 103 then 0 else 9
def flen (g : aG) (k : Nat) (a : Int) : Int := bif k == 100 then 7 else bif k == 102 then ((strL.getD a.toNat []).length : Int) else (g.1 : Int)
def fget (g : aG) (k : Nat) (a i : Int) : Int := bif k == 100 then gtI abvL i else bif k == 102 then gtI (strL.getD a.toNat []) i else w32 (g.2 i)
def fcnt (k : Nat) : Int := bif k == 100 then 1 else bif k == 101 then 6 else bif k == 102 then 6 else bif k == 103 then 1 else 0
def op1 (st : List aV) (f : Int → List aV → Prop) : Prop := match st with
  | Sum.inl x :: t => f x t
  | _ => False
def op2 (st : List aV) (f : Int → Int → List aV → Prop) : Prop := match st with
  | Sum.inl y :: Sum.inl x :: t => f x y t
  | _ => False
def opL2 (st : List aV) (f : Int → Int → List aV → Prop) : Prop := match st with
  | Sum.inr (Sum.inl y) :: Sum.inr (Sum.inl x) :: t => f x y t
  | _ => False
def opLI (st : List aV) (f : Int → Int → List aV → Prop) : Prop := match st with
  | Sum.inl y :: Sum.inr (Sum.inl x) :: t => f x y t
  | _ => False
def opL1 (st : List aV) (f : Int → List aV → Prop) : Prop := match st with
  | Sum.inr (Sum.inl x) :: t => f x t
  | _ => False
def opQ (st : List aV) (f : (Nat × Int) ⊕ Nat → List aV → Prop) : Prop := match st with
  | Sum.inr (Sum.inr x) :: t => f x t
  | _ => False
def opR (st : List aV) (f : Nat → Int → List aV → Prop) : Prop := match st with
  | Sum.inr (Sum.inr (Sum.inl (k, a))) :: t => f k a t
  | _ => False
def opIR (st : List aV) (f : Nat → Int → Int → List aV → Prop) : Prop := match st with
  | Sum.inl i :: Sum.inr (Sum.inr (Sum.inl (k, a))) :: t => f k a i t
  | _ => False
def opIIR (st : List aV) (f : Nat → Int → Int → Int → List aV → Prop) : Prop := match st with
  | Sum.inl x :: Sum.inl i :: Sum.inr (Sum.inr (Sum.inl (k, a))) :: t => f k a i x t
  | _ => False
def opLIR (st : List aV) (f : Nat → Int → Int → Int → List aV → Prop) : Prop := match st with
  | Sum.inr (Sum.inl x) :: Sum.inl i :: Sum.inr (Sum.inr (Sum.inl (k, a))) :: t => f k a i x t
  | _ => False
def opIRp (st : List aV) (f : Nat → Int → Int → List aV → Prop) : Prop := match st with
  | Sum.inl x :: Sum.inr (Sum.inr (Sum.inl (k, a))) :: t => f k a x t
  | _ => False
def ldI (o : Option aV) (f : Int → Prop) : Prop := match o with
  | some (Sum.inl x) => f x
  | _ => False
def ldL (o : Option aV) (f : Int → Prop) : Prop := match o with
  | some (Sum.inr (Sum.inl x)) => f x
  | _ => False
def ldR (o : Option aV) (f : (Nat × Int) ⊕ Nat → Prop) : Prop := match o with
  | some (Sum.inr (Sum.inr x)) => f x
  | _ => False
def cT (c : Jvm.ClassFile.Cond) (x y : Int) : Prop := match c with
  | .eq => x = y
  | .ne => x ≠ y
  | .lt => x < y
  | .ge => y ≤ x
  | .gt => y < x
  | .le => x ≤ y
def cF (c : Jvm.ClassFile.Cond) (x y : Int) : Prop := match c with
  | .eq => x ≠ y
  | .ne => x = y
  | .lt => y ≤ x
  | .ge => x < y
  | .gt => x ≤ y
  | .le => y < x
def tgt (pc : Nat) (off : Int) : Nat := ((pc : Int) + off).toNat
def swT (x : Int) (K : Int → Prop) (D : Prop) : Int → List Int → Prop
  | _, [] => D
  | lo, o :: l => (x = lo → K o) ∧ (x ≠ lo → swT x K D (lo + 1) l)
def swL (x : Int) (K : Int → Prop) (D : Prop) : List (Int × Int) → Prop
  | [] => D
  | (a, o) :: l => (x = a → K o) ∧ (x ≠ a → swL x K D l)
def elds (tc : Nat) (g : aG) (k : Nat) (a i : Int) (f : (aM → Int) → Prop) : Prop :=
  bif Nat.blt k 100 then (match karr k with
    | some (tc', len) => bif tc' == tc then (0 ≤ i ∧ i < len a) ∧ f (fun μ => μ k a i) else False
    | none => False)
  else bif fty k == tc then (0 ≤ i ∧ i < flen g k a) ∧ f (fun _ => fget g k a i) else False
def ests (tc : Nat) (k : Nat) (a i : Int) (f : Prop) : Prop :=
  match karr k with
    | some (tc', len) => bif tc' == tc then (0 ≤ i ∧ i < len a) ∧ f else False
    | none => False
def retOk (rt : Nat) (x : Int) : Prop := match rt with
  | 1 => x = 0 ∨ x = 1
  | 2 => -128 ≤ x ∧ x ≤ 127
  | 3 => 0 ≤ x ∧ x ≤ 65535
  | _ => True
abbrev aK : Type := Nat → aLs → List aV → aM → Prop
abbrev aQ : Type := Option aV → aM → Prop
abbrev aCal : Type := Nat → List aV → aM → aQ → Prop
def prims (mid : Nat) (st : List aV) (μ : aM) (K : List aV → aM → Prop) : Prop := match mid with
  | 1000 => op2 st fun x y t => t.length ≤ 4 ∧ K (aI (i_max x y) :: t) μ
  | 1001 => op2 st fun x y t => t.length ≤ 4 ∧ K (aI (i_min x y) :: t) μ
  | 1002 => op1 st fun x t => t.length ≤ 4 ∧ K (aI (i_abs x) :: t) μ
  | 1003 => match st with
    | Sum.inl n :: Sum.inl dp :: Sum.inr (Sum.inr (Sum.inl (k1, i1))) :: Sum.inl sp :: Sum.inr (Sum.inr (Sum.inl (k0, i0))) :: t => match karr k0, karr k1 with
      | some (tc0, len0), some (tc1, len1) => bif tc0 == tc1 then t.length ≤ 4 ∧ (0 ≤ sp ∧ 0 ≤ dp ∧ 0 ≤ n ∧ sp + n ≤ len0 i0 ∧ dp + n ≤ len1 i1) ∧ K t (cp μ k0 i0 sp k1 i1 dp n) else False
      | _, _ => False
    | _ => False
  | _ => False
def wp1 (g : aG) (C : aCal) (rt : Nat) (i : Instr) (n : Nat) (r : aRs) (pc : Nat) (ls : aLs) (st : List aV) (μ : aM) (K : aK) (R : aQ) : Prop := match i with
  | .iload_n k => ldI (nth ls k.val) fun x => K (pc + n) ls (aI x :: st) μ
  | .iload k => ldI (nth ls k) fun x => K (pc + n) ls (aI x :: st) μ
  | .lload_n k => ldL (nth ls k.val) fun x => K (pc + n) ls (aL x :: st) μ
  | .lload k => ldL (nth ls k) fun x => K (pc + n) ls (aL x :: st) μ
  | .aload_n k => ldR (nth ls k.val) fun x => K (pc + n) ls (Sum.inr (Sum.inr x) :: st) μ
  | .aload k => ldR (nth ls k) fun x => K (pc + n) ls (Sum.inr (Sum.inr x) :: st) μ
  | .istore_n k => op1 st fun x t => K (pc + n) (st1 ls k.val (aI x)) t μ
  | .istore k => op1 st fun x t => K (pc + n) (st1 ls k (aI x)) t μ
  | .lstore_n k => opL1 st fun x t => K (pc + n) (st2 ls k.val (aL x)) t μ
  | .lstore k => opL1 st fun x t => K (pc + n) (st2 ls k (aL x)) t μ
  | .astore_n k => opQ st fun x t => K (pc + n) (st1 ls k.val (Sum.inr (Sum.inr x))) t μ
  | .astore k => opQ st fun x t => K (pc + n) (st1 ls k (Sum.inr (Sum.inr x))) t μ
  | .iconst v => K (pc + n) ls (aI v :: st) μ
  | .bipush v => K (pc + n) ls (aI v :: st) μ
  | .sipush v => K (pc + n) ls (aI v :: st) μ
  | .lconst v => K (pc + n) ls (aL (v.val : Nat) :: st) μ
  | .ldc _ => bif r.1 == 0 then K (pc + n) ls (aI r.2.2.2 :: st) μ else K (pc + n) ls (aR 101 r.2.1 :: st) μ
  | .ldc2_w _ => K (pc + n) ls (aL r.2.2.2 :: st) μ
  | .iadd => op2 st fun x y t => K (pc + n) ls (aI (w32 (x + y)) :: t) μ
  | .isub => op2 st fun x y t => K (pc + n) ls (aI (w32 (x - y)) :: t) μ
  | .imul => op2 st fun x y t => K (pc + n) ls (aI (w32 (x * y)) :: t) μ
  | .idiv => op2 st fun x y t => y ≠ 0 ∧ K (pc + n) ls (aI (i_div x y) :: t) μ
  | .irem => op2 st fun x y t => y ≠ 0 ∧ K (pc + n) ls (aI (i_rem x y) :: t) μ
  | .ineg => op1 st fun x t => K (pc + n) ls (aI (w32 (-x)) :: t) μ
  | .ishl => op2 st fun x y t => K (pc + n) ls (aI (b_shl x y) :: t) μ
  | .ishr => op2 st fun x y t => K (pc + n) ls (aI (b_shr x y) :: t) μ
  | .iand => op2 st fun x y t => K (pc + n) ls (aI (b_and x y) :: t) μ
  | .ior => op2 st fun x y t => K (pc + n) ls (aI (b_or x y) :: t) μ
  | .ixor => op2 st fun x y t => K (pc + n) ls (aI (b_xor x y) :: t) μ
  | .lshl => opLI st fun x y t => K (pc + n) ls (aL (l_shl x y) :: t) μ
  | .lshr => opLI st fun x y t => K (pc + n) ls (aL (l_shr x y) :: t) μ
  | .land => opL2 st fun x y t => K (pc + n) ls (aL (l_and x y) :: t) μ
  | .lor => opL2 st fun x y t => K (pc + n) ls (aL (l_or x y) :: t) μ
  | .lxor => opL2 st fun x y t => K (pc + n) ls (aL (l_xor x y) :: t) μ
  | .lcmp => opL2 st fun x y t => K (pc + n) ls (aI (l_cmp x y) :: t) μ
  | .i2l => op1 st fun x t => K (pc + n) ls (aL x :: t) μ
  | .l2i => opL1 st fun x t => K (pc + n) ls (aI (w32 x) :: t) μ
  | .i2b => op1 st fun x t => K (pc + n) ls (aI (w8 x) :: t) μ
  | .i2s => op1 st fun x t => K (pc + n) ls (aI (w16 x) :: t) μ
  | .i2c => op1 st fun x t => K (pc + n) ls (aI (x % 65536) :: t) μ
  | .dup => match st with
    | Sum.inl x :: t => K (pc + n) ls (aI x :: aI x :: t) μ
    | Sum.inr (Sum.inr x) :: t => K (pc + n) ls (Sum.inr (Sum.inr x) :: Sum.inr (Sum.inr x) :: t) μ
    | _ => False
  | .pop => op1 st fun _ t => K (pc + n) ls t μ
  | .iinc k c => ldI (nth ls k) fun x => K (pc + n) (st1 ls k (aI (w32 (x + c)))) st μ
  | .goto off => K (tgt pc off) ls st μ
  | .ifCond c off => op1 st fun x t => (cT c x 0 → K (tgt pc off) ls t μ) ∧ (cF c x 0 → K (pc + n) ls t μ)
  | .if_icmp c off => op2 st fun x y t => (cT c x y → K (tgt pc off) ls t μ) ∧ (cF c x y → K (pc + n) ls t μ)
  | .tableswitch d lo _ offs => op1 st fun x t => swT x (fun off => K (tgt pc off) ls t μ) (K (tgt pc d) ls t μ) lo offs.toList
  | .lookupswitch d ps => op1 st fun x t => swL x (fun off => K (tgt pc off) ls t μ) (K (tgt pc d) ls t μ) ps.toList
  | .iaload => opIR st fun k a j t => elds 0 g k a j fun v => K (pc + n) ls (aI (v μ) :: t) μ
  | .baload => opIR st fun k a j t => bif isZ k then elds 1 g k a j (fun v => K (pc + n) ls (aI (v μ) :: t) μ) else elds 2 g k a j fun v => K (pc + n) ls (aI (v μ) :: t) μ
  | .laload => opIR st fun k a j t => ests 3 k a j (K (pc + n) ls (aL (μ k a j) :: t) μ)
  | .iastore => opIIR st fun k a j x t => ests 0 k a j (K (pc + n) ls t (up μ k a j x))
  | .bastore => opIIR st fun k a j x t => bif isZ k then ests 1 k a j ((x = 0 ∨ x = 1) ∧ K (pc + n) ls t (up μ k a j x)) else ests 2 k a j (K (pc + n) ls t (up μ k a j (w8 x)))
  | .lastore => opLIR st fun k a j x t => ests 3 k a j (K (pc + n) ls t (up μ k a j x))
  | .aaload => opIR st fun k _ j t => match kref k with
    | some (ek, _, len) => (0 ≤ j ∧ j < len) ∧ K (pc + n) ls (aR ek j :: t) μ
    | none => False
  | .arraylength => opR st fun k a t => bif Nat.blt k 100 then False else bif k == 101 then False else K (pc + n) ls (aI (flen g k a) :: t) μ
  | .getfield _ => opR st fun k a t => bif r.1 == 90 then (bif k == 101 then K (pc + n) ls (aI 0 :: t) μ else False) else bif r.1 == 91 then (bif k == 101 then K (pc + n) ls (aR 102 a :: t) μ else False) else
    bif kcls k == some r.1 then (match kfld k r.2.1 with
      | some (.inl _) => K (pc + n) ls (aI (μ k a r.2.1) :: t) μ
      | some (.inr q) => K (pc + n) ls (aR q.1 (q.2 a) :: t) μ
      | none => False) else False
  | .putfield _ => opIRp st fun k a x t => bif kcls k == some r.1 then (match kfld k r.2.1 with
      | some (.inl true) => (x = 0 ∨ x = 1) ∧ K (pc + n) ls t (up μ k a r.2.1 x)
      | some (.inl false) => K (pc + n) ls t (up μ k a r.2.1 x)
      | _ => False) else False
  | .getstatic _ => match r.1 with
    | 0 => K (pc + n) ls (aR 100 0 :: st) μ
    | 1 => K (pc + n) ls (aR 100 0 :: st) μ
    | 2 => K (pc + n) ls (aI 1 :: st) μ
    | 3 => K (pc + n) ls (aO 0 :: st) μ
    | _ => False
  | .invokevirtual _ => match popA (r.2.1 + 1) st [] with
    | some (Sum.inr (Sum.inr (Sum.inl (k, a))) :: as, t) => bif kcls k == some r.2.2.2.toNat then t.length ≤ 4 ∧ C r.1 (Sum.inr (Sum.inr (Sum.inl (k, a))) :: as) μ (fun rv μ' => K (pc + n) ls (optL rv ++ t) μ') else False
    | _ => False
  | .invokestatic _ => bif Nat.blt r.1 1000 then (match popA r.2.1 st [] with
    | some (as, t) => t.length ≤ 4 ∧ C r.1 as μ (fun rv μ' => K (pc + n) ls (optL rv ++ t) μ')
    | none => False) else prims r.1 st μ (fun t μ' => K (pc + n) ls t μ')
  | .ireturn => match st with
    | [Sum.inl x] => retOk rt x ∧ R (some (aI x)) μ
    | _ => False
  | .lreturn => match st with
    | [Sum.inr (Sum.inl x)] => R (some (aL x)) μ
    | _ => False
  | .areturn => match st with
    | [Sum.inr (Sum.inr (Sum.inl x))] => R (some (Sum.inr (Sum.inr (Sum.inl x)))) μ
    | _ => False
  | .return_ => match st with
    | [] => R none μ
    | _ => False
  | _ => False
