/-! THE ABSTRACT MACHINE: bytecode over mathematical integers and a memory of numbered objects. A value: a whole number (int), a long, a reference (kind, number). -/
abbrev zV : Type := Int ⊕ (Int ⊕ (Nat × Nat))
abbrev zI (a : Int) : zV := .inl a
abbrev zL (a : Int) : zV := .inr (.inl a)
abbrev zR (t i : Nat) : zV := .inr (.inr (t, i))
/-- memory: kind, number, slot -/
abbrev zM : Type := Nat → Nat → Nat → Int
def zset (μ : zM) (t i k : Nat) (v : Int) : zM := fun t' i' k' => if t' = t ∧ i' = i ∧ k' = k then v else μ t' i' k'
def zcpy (μ : zM) (t i sp u j dp n : Nat) : zM := fun t' i' k' => if t' = u ∧ i' = j ∧ dp ≤ k' ∧ k' < dp + n then μ t i (sp + (k' - dp)) else μ t' i' k'
def w32 (x : Int) : Int := (x + 2147483648) % 4294967296 - 2147483648
def w64 (x : Int) : Int := (x + 9223372036854775808) % 18446744073709551616 - 9223372036854775808
/-- pc, length, what it is, two numbers, a constant -/
abbrev zE : Type := Nat × Nat × Instr × Nat × Nat × Int
def znth {α : Type} : List (Option α) → Nat → Option α
  | [], _ => none
  | a :: _, 0 => a
  | _ :: l, n + 1 => znth l n
def zput {α : Type} : List α → Nat → α → List α
  | [], _, _ => []
  | _ :: l, 0, v => v :: l
  | a :: l, n + 1, v => a :: zput l n v
/-- what stands ahead of a place that is written: a long is gone -/
def zkl : List (Option zV) → Nat → List (Option zV)
  | [], _ => []
  | a :: l, 0 => a :: l
  | a :: l, 1 => (match a with
    | some (.inr (.inl _)) => none
    | x => x) :: l
  | a :: l, n + 2 => a :: zkl l (n + 1)
/-- what need not be known any more is forgotten -/
def zmask : List Bool → List (Option zV) → List (Option zV)
  | true :: b, a :: l => a :: zmask b l
  | false :: b, _ :: l => none :: zmask b l
  | [], l => l
  | _, [] => []
def zand (a b : Int) : Int := (Int32.ofInt a &&& Int32.ofInt b).toInt
def zor (a b : Int) : Int := (Int32.ofInt a ||| Int32.ofInt b).toInt
def zxor (a b : Int) : Int := (Int32.ofInt a ^^^ Int32.ofInt b).toInt
def zshl (a b : Int) : Int := (Int32.ofInt a <<< (Int32.ofInt b &&& 31)).toInt
def zshr (a b : Int) : Int := (Int32.ofInt a >>> (Int32.ofInt b &&& 31)).toInt
def zushr (a b : Int) : Int := ((Int32.ofInt a).toUInt32 >>> ((Int32.ofInt b).toUInt32 &&& Int32.toUInt32 31)).toInt32.toInt
def zland (a b : Int) : Int := (Int64.ofInt a &&& Int64.ofInt b).toInt
def zlcmp (a b : Int) : Int := if a > b then 1 else if a = b then 0 else -1
abbrev zS : Type := Option Prop × List (Option zV) × List zV × zM
/-- what the kinds are: 0 nothing, 1 an int, 2 a boolean, 3 a long, 4 a reference -/
def zn (p : Prop) (ls : List (Option zV)) (st : List zV) (μ : zM) : Option zS := some (some p, ls, st, μ)
def z0 (ls : List (Option zV)) (st : List zV) (μ : zM) : Option zS := some (none, ls, st, μ)
section
variable (fk : Nat → Nat → Nat) (rt : Nat → Nat → Nat → Nat × Nat) (ak : Nat → Nat) (al : Nat → Nat) (Γ : Option (Nat × (Nat → Int)))
/-- an instruction that only moves values -/
def zld (ls : List (Option zV)) (st : List zV) (μ : zM) (k : Nat) (q : zV → Bool) : Option zS := match znth ls k with
  | some v => if q v then z0 ls (v :: st) μ else none
  | none => none
def zqi : zV → Bool | .inl _ => true | _ => false
def zql : zV → Bool | .inr (.inl _) => true | _ => false
def zqr : zV → Bool | .inr (.inr _) => true | _ => false
def zsto (ls : List (Option zV)) (st : List zV) (μ : zM) (k : Nat) (q : zV → Bool) : Option zS := match st with
  | v :: r => if q v && decide (k < ls.length) then z0 (zput (zkl ls k) k (some v)) r μ else none
  | [] => none
def zstl (ls : List (Option zV)) (st : List zV) (μ : zM) (k : Nat) : Option zS := match st with
  | .inr (.inl v) :: r => if decide (k + 1 < ls.length) then z0 (zput (zput (zkl ls k) k (some (zL v))) (k + 1) none) r μ else none
  | _ => none
def zb1 (ls : List (Option zV)) (st : List zV) (μ : zM) (f : Int → Int → Int) : Option zS := match st with
  | .inl b :: .inl a :: r => z0 ls (zI (f a b) :: r) μ
  | _ => none
def zbd (ls : List (Option zV)) (st : List zV) (μ : zM) (f : Int → Int → Int) : Option zS := match st with
  | .inl b :: .inl a :: r => zn (b ≠ 0) ls (zI (f a b) :: r) μ
  | _ => none
def zl1 (ls : List (Option zV)) (st : List zV) (μ : zM) (f : Int → Int → Int) : Option zS := match st with
  | .inr (.inl b) :: .inr (.inl a) :: r => z0 ls (zL (f a b) :: r) μ
  | _ => none
def zldv (ls : List (Option zV)) (st : List zV) (μ : zM) (f : Int → Int → Int) : Option zS := match st with
  | .inr (.inl b) :: .inr (.inl a) :: r => zn (b ≠ 0) ls (zL (f a b) :: r) μ
  | _ => none
def zgf (ls : List (Option zV)) (st : List zV) (μ : zM) (a b : Nat) : Option zS := match st with
  | .inr (.inr (t, i)) :: r => if t = a then (match fk a b with
      | 1 => z0 ls (zI (μ a i b) :: r) μ
      | 2 => z0 ls (zI (μ a i b) :: r) μ
      | 3 => z0 ls (zL (μ a i b) :: r) μ
      | 4 => z0 ls (zR (rt a i b).1 (rt a i b).2 :: r) μ
      | _ => none) else none
  | _ => none
def zpf (ls : List (Option zV)) (st : List zV) (μ : zM) (a b : Nat) : Option zS := match st with
  | .inl v :: .inr (.inr (t, i)) :: r => if t = a then (match fk a b with
      | 1 => z0 ls r (zset μ a i b v)
      | 2 => zn (v = 0 ∨ v = 1) ls r (zset μ a i b v)
      | _ => none) else none
  | .inr (.inl v) :: .inr (.inr (t, i)) :: r => if t = a then (match fk a b with
      | 3 => z0 ls r (zset μ a i b v)
      | _ => none) else none
  | _ => none
def zial (ls : List (Option zV)) (st : List zV) (μ : zM) : Option zS := match st with
  | .inl k :: .inr (.inr (t, i)) :: r => (match ak t with
      | 1 => zn (0 ≤ k ∧ k < (al t : Int)) ls (zI (μ t i k.toNat) :: r) μ
      | 9 => (match Γ with
        | some (L, xs) => zn (0 ≤ k ∧ k < (L : Int)) ls (zI (xs k.toNat) :: r) μ
        | none => none)
      | _ => none)
  | _ => none
def zbal (ls : List (Option zV)) (st : List zV) (μ : zM) : Option zS := match st with
  | .inl k :: .inr (.inr (t, i)) :: r => (match ak t with
      | 2 => zn (0 ≤ k ∧ k < (al t : Int)) ls (zI (μ t i k.toNat) :: r) μ
      | _ => none)
  | _ => none
def zaal (ls : List (Option zV)) (st : List zV) (μ : zM) : Option zS := match st with
  | .inl k :: .inr (.inr (t, i)) :: r => (match ak t with
      | 3 => zn (0 ≤ k ∧ k < (al t : Int)) ls (zR (rt t i k.toNat).1 (rt t i k.toNat).2 :: r) μ
      | _ => none)
  | _ => none
def zias (ls : List (Option zV)) (st : List zV) (μ : zM) : Option zS := match st with
  | .inl v :: .inl k :: .inr (.inr (t, i)) :: r => (match ak t with
      | 1 => zn (0 ≤ k ∧ k < (al t : Int)) ls r (zset μ t i k.toNat v)
      | _ => none)
  | _ => none
def zbas (ls : List (Option zV)) (st : List zV) (μ : zM) : Option zS := match st with
  | .inl v :: .inl k :: .inr (.inr (t, i)) :: r => (match ak t with
      | 2 => zn ((0 ≤ k ∧ k < (al t : Int)) ∧ (v = 0 ∨ v = 1)) ls r (zset μ t i k.toNat v)
      | _ => none)
  | _ => none
def zlen (ls : List (Option zV)) (st : List zV) (μ : zM) : Option zS := match st with
  | .inr (.inr (t, _)) :: r => (match ak t with
      | 1 => z0 ls (zI (al t : Int) :: r) μ
      | 2 => z0 ls (zI (al t : Int) :: r) μ
      | 3 => z0 ls (zI (al t : Int) :: r) μ
      | 9 => (match Γ with
        | some (L, _) => z0 ls (zI (L : Int) :: r) μ
        | none => none)
      | _ => none)
  | _ => none
def zcat : zV → Nat | .inr (.inl _) => 2 | _ => 1
def zdup (ls : List (Option zV)) (st : List zV) (μ : zM) : Option zS := match st with
  | v :: r => if zcat v = 1 then z0 ls (v :: v :: r) μ else none
  | _ => none
def zpop (ls : List (Option zV)) (st : List zV) (μ : zM) : Option zS := match st with
  | v :: r => if zcat v = 1 then z0 ls r μ else none
  | _ => none
def zdup2 (ls : List (Option zV)) (st : List zV) (μ : zM) : Option zS := match st with
  | v :: w :: r => if zcat v = 1 then (if zcat w = 1 then z0 ls (v :: w :: v :: w :: r) μ else none) else none
  | _ => none
def zinc (ls : List (Option zV)) (st : List zV) (μ : zM) (k : Nat) (c : Int) : Option zS := match znth ls k with
  | some (.inl a) => z0 (zput (zkl ls k) k (some (zI (w32 (a + c))))) st μ
  | _ => none
def zcv (ls : List (Option zV)) (st : List zV) (μ : zM) : Option zS := match st with
  | .inl a :: r => z0 ls (zL a :: r) μ
  | _ => none
def zvc (ls : List (Option zV)) (st : List zV) (μ : zM) : Option zS := match st with
  | .inr (.inl a) :: r => z0 ls (zI (w32 a) :: r) μ
  | _ => none
def zneg (ls : List (Option zV)) (st : List zV) (μ : zM) : Option zS := match st with
  | .inl a :: r => z0 ls (zI (w32 (-a)) :: r) μ
  | _ => none
def zlcm (ls : List (Option zV)) (st : List zV) (μ : zM) : Option zS := match st with
  | .inr (.inl b) :: .inr (.inl a) :: r => z0 ls (zI (zlcmp a b) :: r) μ
  | _ => none
/-- instructions that go to the next one -/
def zsx (i : Instr) (a b : Nat) (c : Int) (ls : List (Option zV)) (st : List zV) (μ : zM) : Option zS := match i with
  | .aload k => zld ls st μ k zqr
  | .aload_n k => zld ls st μ k zqr
  | .iload k => zld ls st μ k zqi
  | .iload_n k => zld ls st μ k zqi
  | .lload k => zld ls st μ k zql
  | .lload_n k => zld ls st μ k zql
  | .astore k => zsto ls st μ k zqr
  | .astore_n k => zsto ls st μ k zqr
  | .istore k => zsto ls st μ k zqi
  | .istore_n k => zsto ls st μ k zqi
  | .lstore k => zstl ls st μ k
  | .lstore_n k => zstl ls st μ k
  | .iconst n => z0 ls (zI n :: st) μ
  | .bipush n => z0 ls (zI n :: st) μ
  | .sipush n => z0 ls (zI n :: st) μ
  | .ldc _ => z0 ls (zI c :: st) μ
  | .ldc_w _ => z0 ls (zI c :: st) μ
  | .ldc2_w _ => z0 ls (zL c :: st) μ
  | .lconst n => z0 ls (zL (n : Nat) :: st) μ
  | .getfield _ => zgf fk rt ls st μ a b
  | .putfield _ => zpf fk ls st μ a b
  | .iaload => zial ak al Γ ls st μ
  | .baload => zbal ak al ls st μ
  | .aaload => zaal rt ak al ls st μ
  | .iastore => zias ak al ls st μ
  | .bastore => zbas ak al ls st μ
  | .arraylength => zlen ak al Γ ls st μ
  | .dup => zdup ls st μ
  | .pop => zpop ls st μ
  | .dup2 => zdup2 ls st μ
  | .iinc k n => zinc ls st μ k n
  | .iadd => zb1 ls st μ (fun x y => w32 (x + y))
  | .isub => zb1 ls st μ (fun x y => w32 (x - y))
  | .imul => zb1 ls st μ (fun x y => w32 (x * y))
  | .iand => zb1 ls st μ zand
  | .ior => zb1 ls st μ zor
  | .ixor => zb1 ls st μ zxor
  | .ishl => zb1 ls st μ zshl
  | .ishr => zb1 ls st μ zshr
  | .iushr => zb1 ls st μ zushr
  | .idiv => zbd ls st μ (fun x y => w32 (x.tdiv y))
  | .irem => zbd ls st μ (fun x y => x.tmod y)
  | .ineg => zneg ls st μ
  | .i2l => zcv ls st μ
  | .l2i => zvc ls st μ
  | .ladd => zl1 ls st μ (fun x y => w64 (x + y))
  | .lmul => zl1 ls st μ (fun x y => w64 (x * y))
  | .land => zl1 ls st μ zland
  | .ldiv => zldv ls st μ (fun x y => w64 (x.tdiv y))
  | .lrem => zldv ls st μ (fun x y => x.tmod y)
  | .lcmp => zlcm ls st μ
  | _ => none
def zic (c : ClassFile.Cond) (a b : Int) : Prop := match c with
  | .eq => a = b
  | .ne => a ≠ b
  | .lt => a < b
  | .ge => a ≥ b
  | .gt => a > b
  | .le => a ≤ b
/-- branches: the condition, how far, what stays on the stack -/
def zbx (i : Instr) (st : List zV) : Option (Prop × Int × List zV) := match i with
  | .if_icmp c o => (match st with
    | .inl y :: .inl x :: r => some (zic c x y, o, r)
    | _ => none)
  | .ifCond c o => (match st with
    | .inl x :: r => some (zic c x 0, o, r)
    | _ => none)
  | _ => none
/-- the arguments (first to last) and what is below them -/
def ztake : Nat → List zV → List zV → Option (List zV × List zV)
  | 0, acc, st => some (acc, st)
  | n + 1, acc, v :: st => ztake n (v :: acc) st
  | _ + 1, _, [] => none
def zsum : List zV → Nat
  | [] => 0
  | v :: r => zcat v + zsum r
def zexp : List zV → List (Option zV)
  | [] => []
  | .inr (.inl a) :: r => some (zL a) :: none :: zexp r
  | v :: r => some v :: zexp r
def zpad (n : Nat) (l : List (Option zV)) : List (Option zV) := l ++ List.replicate (n - l.length) none
def zclean (Γ : Option (Nat × (Nat → Int))) (vs : List zV) : Bool := match Γ with
  | none => true
  | some _ => vs.all fun v => match v with
    | .inr (.inr (t, _)) => decide (ak t ≠ 9)
    | _ => true
/-- what is no method of ours: the copying of a row, Math.abs, max, min -/
def zprim (a : Nat) : Bool := Nat.beq a 0 || Nat.beq a 2 || Nat.beq a 3 || Nat.beq a 4
def zmin (x y : Int) : Int := if y < x then y else x
def zmax (x y : Int) : Int := if x < y then y else x
def zabs (x : Int) : Int := if 0 ≤ x then x else w32 (0 - x)
/-- a call: whom, with what, what stays; c is the receiver's kind, or less than 0 -/
def zcx (i : Instr) (a b : Nat) (c : Int) (st : List zV) : Option (Nat × List zV × List zV) := match i with
  | .invokevirtual _ => if zprim a then none else (match ztake b [] st with
    | some (.inr (.inr (t, j)) :: vs, r) => if (t : Int) = c then (if zsum r ≤ 8 then (if zclean ak Γ (zR t j :: vs) then some (a, zR t j :: vs, r) else none) else none) else none
    | _ => none)
  | .invokestatic _ => if zprim a then none else (match ztake b [] st with
    | some (vs, r) => if zsum r ≤ 8 then (if zclean ak Γ vs then some (a, vs, r) else none) else none
    | _ => none)
  | _ => none
def zswt (go : Int → Prop) (x : Int) : Int → List Int → Prop
  | _, [] => True
  | j, o :: r => (x = j → go o) ∧ zswt go x (j + 1) r
def zlks (go : Int → Prop) (x : Int) (d : Int) : List (Int × Int) → Prop
  | [] => go d
  | (k, o) :: r => (x = k → go o) ∧ (x ≠ k → zlks go x d r)
/-- what is left: jumps, switches, ends, the copying of a row (mk: what the method answers: 0 nothing, 1 an int, 2 a boolean, 4 a reference) -/
def zox (go : Int → List zV → Prop) (nx : List zV → zM → Prop) (Q : Option zV → zM → Prop) (mk : Nat) (i : Instr) (a : Nat) (st : List zV) (μ : zM) : Prop := match i with
  | .goto o => go o st
  | .ifnonnull o => (match st with
    | .inr (.inr _) :: r => go o r
    | _ => False)
  | .tableswitch d lo hi os => (match st with
    | .inl x :: r => ((x < lo ∨ hi < x) → go d r) ∧ zswt (fun o => go o r) x lo os.toList
    | _ => False)
  | .lookupswitch d ps => (match st with
    | .inl x :: r => zlks (fun o => go o r) x d ps.toList
    | _ => False)
  | .return_ => (match st with
    | [] => if mk = 0 then Q none μ else False
    | _ => False)
  | .ireturn => (match st with
    | [.inl v] => (match mk with
      | 1 => Q (some (zI v)) μ
      | 2 => (v = 0 ∨ v = 1) ∧ Q (some (zI v)) μ
      | _ => False)
    | _ => False)
  | .areturn => (match st with
    | [.inr (.inr (t, j))] => if mk = 4 then Q (some (zR t j)) μ else False
    | _ => False)
  | .invokestatic _ => (match a with
    | 0 => (match st with
      | .inl n :: .inl dp :: .inr (.inr (u, j)) :: .inl sp :: .inr (.inr (t, k)) :: r => (match ak t, ak u with
        | 1, 1 => if zsum r ≤ 8 then ((0 ≤ n ∧ 0 ≤ sp ∧ 0 ≤ dp ∧ sp + n ≤ (al t : Int) ∧ dp + n ≤ (al u : Int)) ∧ nx r (zcpy μ t k sp.toNat u j dp.toNat n.toNat)) else False
        | _, _ => False)
      | _ => False)
    | 2 => (match st with
      | .inl x :: r => if zsum r ≤ 8 then nx (zI (zabs x) :: r) μ else False
      | _ => False)
    | 3 => (match st with
      | .inl y :: .inl x :: r => if zsum r ≤ 8 then nx (zI (zmax x y) :: r) μ else False
      | _ => False)
    | 4 => (match st with
      | .inl y :: .inl x :: r => if zsum r ≤ 8 then nx (zI (zmin x y) :: r) μ else False
      | _ => False)
    | _ => False)
  | _ => False
end
