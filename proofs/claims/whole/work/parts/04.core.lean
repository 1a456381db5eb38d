/-! THE MACHINE OF ROWS. Abstract cells 0, 1, .. (kinds and lengths by kK, kL), references r, ints h; a frame: locals, stack, budget of cells and slots. -/
abbrev eL : Type := List (Option Value)
abbrev eS : Type := Nat × (Nat → Nat → Nat) × (Nat → Nat → Int32)
abbrev eI : Type := Instr × Nat × Nat × Nat × Nat × Int32
abbrev eK : Type := eL → List Value → Nat × Nat → eS → Prop
def ewAt : eL → Nat → Option Value
  | [], _ => none
  | a :: _, 0 => a
  | _ :: l, n + 1 => ewAt l n
def ewSet : eL → Nat → Value → eL
  | [], _, _ => []
  | _ :: l, 0, v => some v :: l
  | a :: l, n + 1, v => a :: ewSet l n v
def ewSet2 : eL → Nat → Value → eL
  | _ :: _ :: l, 0, v => some v :: none :: l
  | a :: l, n + 1, v => a :: ewSet2 l n v
  | l, _, _ => l
def ewLong : Option Value → Bool
  | some (.long _) => true
  | some (.double _) => true
  | _ => false
/-- place i is there, and no long begins just below it -/
def ewNL (l : eL) (i : Nat) : Bool := Nat.blt i l.length && (match i with
  | 0 => true
  | j + 1 => !ewLong (ewAt l j))
/-- a row of the heap set -/
def ewS {α : Type} (h : Nat → α) (k : Nat) (f : α) : Nat → α := fun q => if q = k then f else h q
def ewU (f : Nat → Nat) (k x : Nat) : Nat → Nat := fun j => if j = k then x else f j
def ewTk (S : eS) (k c : Nat) : Bool := Nat.beq (kK k) c && Nat.blt k S.1
def pI1 (st : List Value) (f : Int32 → List Value → Prop) : Prop := match st with
  | .int x :: st => f x st
  | _ => False
def pI2 (st : List Value) (f : Int32 → Int32 → List Value → Prop) : Prop := match st with
  | .int y :: .int x :: st => f x y st
  | _ => False
def pL1 (st : List Value) (f : Int64 → List Value → Prop) : Prop := match st with
  | .long x :: st => f x st
  | _ => False
def pL2 (st : List Value) (f : Int64 → Int64 → List Value → Prop) : Prop := match st with
  | .long y :: .long x :: st => f x y st
  | _ => False
def pR1 (st : List Value) (f : Nat → List Value → Prop) : Prop := match st with
  | .ref k :: st => f k st
  | _ => False
def pRR (st : List Value) (f : Nat → Nat → List Value → Prop) : Prop := match st with
  | .ref x :: .ref k :: st => f k x st
  | _ => False
def pIR (st : List Value) (f : Nat → Int32 → List Value → Prop) : Prop := match st with
  | .int i :: .ref k :: st => f k i st
  | _ => False
def pIIR (st : List Value) (f : Nat → Int32 → Int32 → List Value → Prop) : Prop := match st with
  | .int x :: .int i :: .ref k :: st => f k i x st
  | _ => False
def pRIR (st : List Value) (f : Nat → Int32 → Nat → List Value → Prop) : Prop := match st with
  | .ref x :: .int i :: .ref k :: st => f k i x st
  | _ => False
def pCpy (st : List Value) (f : Nat → Int32 → Nat → Int32 → Int32 → List Value → Prop) : Prop := match st with
  | .int n :: .int dp :: .ref k1 :: .int sp :: .ref k0 :: st => f k0 sp k1 dp n st
  | _ => False
def pLI (ls : eL) (i : Nat) (f : Int32 → Prop) : Prop := match ewAt ls i with
  | some (.int x) => f x
  | _ => False
def pLL (ls : eL) (i : Nat) (f : Int64 → Prop) : Prop := match ewAt ls i with
  | some (.long x) => f x
  | _ => False
def pLR (ls : eL) (i : Nat) (f : Nat → Prop) : Prop := match ewAt ls i with
  | some (.ref x) => f x
  | _ => False
def ewC1 : Value → Bool
  | .int _ => true
  | .ref _ => true
  | _ => false
def pD1 (st : List Value) (f : Value → List Value → Prop) : Prop := match st with
  | v :: st => ewC1 v = true ∧ f v st
  | _ => False
def pD2 (st : List Value) (f : Value → Value → List Value → Prop) : Prop := match st with
  | v :: w :: st => ewC1 v = true ∧ ewC1 w = true ∧ f v w st
  | _ => False
def ewSum (st : List Value) : Nat := (st.map fun v => v.category).sum
/-- one instruction that goes on to the next: what it asks, and the frame behind it -/
def ewX (X : Nat × (Nat → Int32)) (i : eI) (ls : eL) (st : List Value) (b : Nat × Nat) (S : eS) (k : eK) : Prop :=
  match i.1 with
  | .iload_n _ => pLI ls i.2.2.1 fun x => k ls (.int x :: st) b S
  | .iload _ => pLI ls i.2.2.1 fun x => k ls (.int x :: st) b S
  | .lload_n _ => pLL ls i.2.2.1 fun x => k ls (.long x :: st) b S
  | .lload _ => pLL ls i.2.2.1 fun x => k ls (.long x :: st) b S
  | .aload_n _ => pLR ls i.2.2.1 fun x => k ls (.ref x :: st) b S
  | .istore_n _ => pI1 st fun x st => ewNL ls i.2.2.1 = true ∧ k (ewSet ls i.2.2.1 (.int x)) st b S
  | .istore _ => pI1 st fun x st => ewNL ls i.2.2.1 = true ∧ k (ewSet ls i.2.2.1 (.int x)) st b S
  | .astore_n _ => pR1 st fun x st => ewNL ls i.2.2.1 = true ∧ k (ewSet ls i.2.2.1 (.ref x)) st b S
  | .lstore_n _ => pL1 st fun x st => (ewNL ls i.2.2.1 && Nat.blt (i.2.2.1 + 1) ls.length) = true ∧ k (ewSet2 ls i.2.2.1 (.long x)) st b S
  | .iconst _ => k ls (.int i.2.2.2.2.2 :: st) b S
  | .bipush _ => k ls (.int i.2.2.2.2.2 :: st) b S
  | .sipush _ => k ls (.int i.2.2.2.2.2 :: st) b S
  | .ldc _ => k ls (.int i.2.2.2.2.2 :: st) b S
  | .ldc_w _ => k ls (.int i.2.2.2.2.2 :: st) b S
  | .lconst _ => k ls (.long (Int64.ofNat i.2.2.1) :: st) b S
  | .ldc2_w _ => k ls (.long (Int64.ofNat i.2.2.1) :: st) b S
  | .iadd => pI2 st fun x y st => k ls (.int (x + y) :: st) b S
  | .isub => pI2 st fun x y st => k ls (.int (x - y) :: st) b S
  | .imul => pI2 st fun x y st => k ls (.int (x * y) :: st) b S
  | .iand => pI2 st fun x y st => k ls (.int (x &&& y) :: st) b S
  | .ior => pI2 st fun x y st => k ls (.int (x ||| y) :: st) b S
  | .ixor => pI2 st fun x y st => k ls (.int (x ^^^ y) :: st) b S
  | .idiv => pI2 st fun x y st => ¬ y = 0 ∧ k ls (.int (x / y) :: st) b S
  | .irem => pI2 st fun x y st => ¬ y = 0 ∧ k ls (.int (x - x / y * y) :: st) b S
  | .ishl => pI2 st fun x y st => k ls (.int (x <<< (y &&& 31)) :: st) b S
  | .ishr => pI2 st fun x y st => k ls (.int (x >>> (y &&& 31)) :: st) b S
  | .ineg => pI1 st fun x st => k ls (.int (-x) :: st) b S
  | .iinc _ _ => pLI ls i.2.2.1 fun x => k (ewSet ls i.2.2.1 (.int (x + i.2.2.2.2.2))) st b S
  | .i2l => pI1 st fun x st => k ls (.long x.toInt64 :: st) b S
  | .l2i => pL1 st fun x st => k ls (.int x.toInt32 :: st) b S
  | .lmul => pL2 st fun x y st => k ls (.long (x * y) :: st) b S
  | .lrem => pL2 st fun x y st => ¬ y = 0 ∧ k ls (.long (x - x / y * y) :: st) b S
  | .lcmp => pL2 st fun x y st => k ls (.int (lg_cmp x y) :: st) b S
  | .dup => pD1 st fun v st => k ls (v :: v :: st) b S
  | .pop => pD1 st fun _ st => k ls st b S
  | .dup2 => pD2 st fun v w st => k ls (v :: w :: v :: w :: st) b S
  | .getfield _ => pR1 st fun q st => ewTk S q i.2.2.1 = true ∧ (match i.2.2.2.2.1 with
    | 0 => k ls (.int (S.2.2 q i.2.2.2.1) :: st) b S
    | 1 => k ls (.int (S.2.2 q i.2.2.2.1) :: st) b S
    | 2 => Nat.beq (S.2.1 q i.2.2.2.1) 100000 = false ∧ k ls (.ref (S.2.1 q i.2.2.2.1) :: st) b S
    | n + 3 => (S.2.1 q i.2.2.2.1 = n ∧ Nat.beq n 100000 = false) ∧ k ls (.ref n :: st) b S)
  | .putfield _ => (match i.2.2.2.2.1 with
    | 2 => pRR st fun q x st => ewTk S q i.2.2.1 = true ∧ Nat.beq x 100000 = false ∧ k ls st b (S.1, ewS S.2.1 q (ewU (S.2.1 q) i.2.2.2.1 x), S.2.2)
    | 1 => pIR st fun q x st => ewTk S q i.2.2.1 = true ∧ (x = 0 ∨ x = 1) ∧ k ls st b (S.1, S.2.1, ewS S.2.2 q (upd (S.2.2 q) i.2.2.2.1 x))
    | _ => pIR st fun q x st => ewTk S q i.2.2.1 = true ∧ k ls st b (S.1, S.2.1, ewS S.2.2 q (upd (S.2.2 q) i.2.2.2.1 x)))
  | .getstatic _ => k ls (.ref (200000 + i.2.2.1) :: st) b S
  | .iaload => (match i.2.2.1 with
    | 1 => pIR st fun q j st => Nat.beq q (200000 + i.2.2.2.1) = true ∧ vp_in j (ewSl i.2.2.2.1) ∧ k ls (.int (ewSv i.2.2.2.1 j.toNatClampNeg) :: st) b S
    | 2 => pIR st fun q j st => Nat.beq q 300000 = true ∧ vp_in j X.1 ∧ k ls (.int (X.2 j.toNatClampNeg) :: st) b S
    | _ => pIR st fun q j st => ewTk S q 9 = true ∧ vp_in j (kL q) ∧ k ls (.int (S.2.2 q j.toNatClampNeg) :: st) b S)
  | .baload => pIR st fun q j st => ewTk S q 10 = true ∧ vp_in j (kL q) ∧ k ls (.int (S.2.2 q j.toNatClampNeg) :: st) b S
  | .aaload => pIR st fun q j st => ewTk S q (11 + i.2.2.1) = true ∧ vp_in j (kL q) ∧ Nat.beq (S.2.1 q j.toNatClampNeg) 100000 = false ∧ k ls (.ref (S.2.1 q j.toNatClampNeg) :: st) b S
  | .iastore => pIIR st fun q j x st => ewTk S q 9 = true ∧ vp_in j (kL q) ∧ k ls st b (S.1, S.2.1, ewS S.2.2 q (upd (S.2.2 q) j.toNatClampNeg x))
  | .bastore => pIIR st fun q j x st => ewTk S q 10 = true ∧ vp_in j (kL q) ∧ (x = 0 ∨ x = 1) ∧ k ls st b (S.1, S.2.1, ewS S.2.2 q (upd (S.2.2 q) j.toNatClampNeg x))
  | .aastore => pRIR st fun q j x st => ewTk S q 11 = true ∧ vp_in j (kL q) ∧ ewTk S x 5 = true ∧ Nat.beq x 100000 = false ∧ k ls st b (S.1, ewS S.2.1 q (ewU (S.2.1 q) j.toNatClampNeg x), S.2.2)
  | .arraylength => pR1 st fun q st => (match i.2.2.1 with
    | 2 => Nat.beq q 300000 = true ∧ k ls (.int (Int32.ofNat X.1) :: st) b S
    | _ => ewTk S q 9 = true ∧ k ls (.int (Int32.ofNat (kL q)) :: st) b S)
  | .new _ => Nat.beq (kK S.1) i.2.2.1 = true ∧ Nat.blt S.1 229 = true ∧ S.2.2 S.1 = (fun _ => 0) ∧ S.2.1 S.1 = (fun _ => 100000) ∧ Nat.ble 1 b.1 = true ∧ Nat.ble (ewN i.2.2.1) b.2 = true ∧ k ls (.ref S.1 :: st) (b.1 - 1, b.2 - ewN i.2.2.1) (S.1 + 1, S.2.1, S.2.2)
  | .newarray _ => pI1 st fun n st => Nat.beq (kK S.1) (9 + i.2.2.1) = true ∧ Nat.blt S.1 229 = true ∧ Nat.beq (kL S.1) n.toNatClampNeg = true ∧ ¬ n < 0 ∧ S.2.2 S.1 = (fun _ => 0) ∧ Nat.ble 1 b.1 = true ∧ Nat.ble (kL S.1) b.2 = true ∧ k ls (.ref S.1 :: st) (b.1 - 1, b.2 - kL S.1) (S.1 + 1, S.2.1, S.2.2)
  | .anewarray _ => pI1 st fun n st => Nat.beq (kK S.1) 11 = true ∧ Nat.blt S.1 229 = true ∧ Nat.beq (kL S.1) n.toNatClampNeg = true ∧ ¬ n < 0 ∧ S.2.1 S.1 = (fun _ => 100000) ∧ Nat.ble 1 b.1 = true ∧ Nat.ble (kL S.1) b.2 = true ∧ k ls (.ref S.1 :: st) (b.1 - 1, b.2 - kL S.1) (S.1 + 1, S.2.1, S.2.2)
  | .invokespecial _ => pR1 st fun _ st => Nat.ble (ewSum st) 8 = true ∧ k ls st b S
  | .invokestatic _ => pCpy st fun k0 sp k1 dp n st => Nat.ble (ewSum st) 8 = true ∧ ewTk S k0 9 = true ∧ ewTk S k1 9 = true ∧ ¬ sp < 0 ∧ ¬ dp < 0 ∧ ¬ n < 0 ∧ sp.toNatClampNeg + n.toNatClampNeg ≤ kL k0 ∧ dp.toNatClampNeg + n.toNatClampNeg ≤ kL k1 ∧ k ls st b (S.1, S.2.1, ewS S.2.2 k1 (va_cpy (S.2.2 k0) (S.2.2 k1) sp.toNatClampNeg dp.toNatClampNeg n.toNatClampNeg))
  | _ => False
/-- a row of instructions, the last of them may jump -/
def ewB (X : Nat × (Nat → Int32)) : List eI → Nat → eL → List Value → Nat × Nat → eS → (Nat → eK) → Prop
  | [], pc, ls, st, b, S, k => k pc ls st b S
  | i :: is, pc, ls, st, b, S, k => match i.1 with
    | .goto _ => k i.2.2.1 ls st b S
    | .ifCond c _ => pI1 st fun x st => (match c with
      | .eq => (x = 0 → k i.2.2.1 ls st b S) ∧ (¬ x = 0 → k (pc + 3) ls st b S)
      | .ne => (¬ x = 0 → k i.2.2.1 ls st b S) ∧ (x = 0 → k (pc + 3) ls st b S)
      | .lt => (x < 0 → k i.2.2.1 ls st b S) ∧ (¬ x < 0 → k (pc + 3) ls st b S)
      | .ge => (¬ x < 0 → k i.2.2.1 ls st b S) ∧ (x < 0 → k (pc + 3) ls st b S)
      | .gt => (0 < x → k i.2.2.1 ls st b S) ∧ (¬ 0 < x → k (pc + 3) ls st b S)
      | .le => (¬ 0 < x → k i.2.2.1 ls st b S) ∧ (0 < x → k (pc + 3) ls st b S))
    | .if_icmp c _ => pI2 st fun x y st => (match c with
      | .eq => (x = y → k i.2.2.1 ls st b S) ∧ (¬ x = y → k (pc + 3) ls st b S)
      | .ne => (¬ x = y → k i.2.2.1 ls st b S) ∧ (x = y → k (pc + 3) ls st b S)
      | .lt => (x < y → k i.2.2.1 ls st b S) ∧ (¬ x < y → k (pc + 3) ls st b S)
      | .ge => (¬ x < y → k i.2.2.1 ls st b S) ∧ (x < y → k (pc + 3) ls st b S)
      | .gt => (y < x → k i.2.2.1 ls st b S) ∧ (¬ y < x → k (pc + 3) ls st b S)
      | .le => (¬ y < x → k i.2.2.1 ls st b S) ∧ (y < x → k (pc + 3) ls st b S))
    | _ => ewX X i ls st b S fun ls st b S => ewB X is (pc + i.2.1) ls st b S k
/-- what the tables must say of an instruction of class o -/
def ewLk (o : Nat) (i : eI) : Bool := match i.1 with
  | .iload_n n => Nat.beq n.val i.2.2.1
  | .iload n => Nat.beq n i.2.2.1
  | .lload_n n => Nat.beq n.val i.2.2.1
  | .lload n => Nat.beq n i.2.2.1
  | .aload_n n => Nat.beq n.val i.2.2.1
  | .istore_n n => Nat.beq n.val i.2.2.1
  | .istore n => Nat.beq n i.2.2.1
  | .astore_n n => Nat.beq n.val i.2.2.1
  | .lstore_n n => Nat.beq n.val i.2.2.1
  | .iconst n => decide (Int32.ofInt n = i.2.2.2.2.2)
  | .bipush n => decide ((Int8.ofInt n).toInt32 = i.2.2.2.2.2)
  | .sipush n => decide ((Int16.ofInt n).toInt32 = i.2.2.2.2.2)
  | .lconst n => Nat.beq n.val i.2.2.1
  | .iinc n v => Nat.beq n i.2.2.1 && decide (Int32.ofInt v = i.2.2.2.2.2)
  | .ldc n => decide ((o, n, i.2.2.2.2.2) ∈ ewKI)
  | .ldc_w n => decide ((o, n, i.2.2.2.2.2) ∈ ewKI)
  | .ldc2_w n => decide ((o, n, i.2.2.1) ∈ ewKL)
  | .getfield n => decide ((o, n, i.2.2.1, i.2.2.2.1) ∈ ewFL) && (Nat.beq (ewFT i.2.2.1 i.2.2.2.1) i.2.2.2.2.1 || (Nat.beq (ewFT i.2.2.1 i.2.2.2.1) 2 && Nat.ble 3 i.2.2.2.2.1))
  | .putfield n => decide ((o, n, i.2.2.1, i.2.2.2.1) ∈ ewFL) && Nat.beq (ewFT i.2.2.1 i.2.2.2.1) i.2.2.2.2.1
  | .getstatic n => decide ((o, n, i.2.2.1) ∈ ewSL)
  | .iaload => decide (i.2.2.1 = 1 → i.2.2.2.1 < 6)
  | .aaload => decide (i.2.2.1 = 0 ∨ i.2.2.1 = 1)
  | .newarray t => decide ((t = .int ∧ i.2.2.1 = 0) ∨ (t = .boolean ∧ i.2.2.1 = 1))
  | _ => true
/-- links of new, anewarray, Object.<init>, arraycopy: by their words -/
def ewLw (o : Nat) (i : eI) : Prop := match i.1 with
  | .new n => ∃ (C : String) (T : u_T) (N : Nat), ewCl[i.2.2.1]? = some (C, T, N) ∧ Cond.classLink (ewOwn o) n C ∈ lw_tbl ∧ Cond.instantiable C N ∈ lw_tbl ∧ Cond.initialized C ∈ lw_tbl
  | .anewarray n => Cond.classLink (ewOwn o) n "EightWays$Setting" ∈ lw_tbl
  | .invokespecial n => Cond.methodLink (ewOwn o) n objectInit ∈ lw_tbl
  | .invokestatic n => Cond.methodLink (ewOwn o) n arraycopyName ∈ lw_tbl
  | _ => True
def ewLn : Instr → Nat
  | .iload _ => 2
  | .lload _ => 2
  | .istore _ => 2
  | .bipush _ => 2
  | .sipush _ => 3
  | .ldc _ => 2
  | .ldc_w _ => 3
  | .ldc2_w _ => 3
  | .iinc _ _ => 3
  | .getfield _ => 3
  | .putfield _ => 3
  | .getstatic _ => 3
  | .new _ => 3
  | .newarray _ => 2
  | .anewarray _ => 3
  | .invokespecial _ => 3
  | .invokestatic _ => 3
  | .goto _ => 3
  | .ifCond _ _ => 3
  | .if_icmp _ _ => 3
  | _ => 1
def ewJp (M : ewMt) (pc : Nat) (i : eI) : Bool := match i.1 with
  | .goto off => decide ((pc : Int) + off = (i.2.2.1 : Int))
  | .ifCond _ off => decide ((pc : Int) + off = (i.2.2.1 : Int))
  | .if_icmp _ off => decide ((pc : Int) + off = (i.2.2.1 : Int))
  | .putfield _ => (match ewCl[i.2.2.1]? with
    | some (_, T, _) => !(T i.2.2.2.1).2.2.2 || (decide (M.2.1.name = "<init>") && decide ((T i.2.2.2.1).1 = ewOwn M.2.2.2.2.2.2))
    | none => false)
  | _ => true
/-- the code at pc is these instructions -/
def ewCk (M : ewMt) : Nat → List eI → Bool
  | _, [] => true
  | pc, i :: is => decide (decode M.1 pc = .ok (i.1, i.2.1)) && Nat.beq i.2.1 (ewLn i.1) && ewLk M.2.2.2.2.2.2 i && ewJp M pc i && ewCk M (pc + i.2.1) is
def ewCw (M : ewMt) : List eI → Prop
  | [] => True
  | i :: is => ewLw M.2.2.2.2.2.2 i ∧ ewCw M is
