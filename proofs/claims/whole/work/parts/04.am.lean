/-! THE ABSTRACT MACHINE: ints, longs and references of the system's 44 cells as three functions; a weakest precondition an instruction; a method's meaning as a least fixed point. -/
abbrev aM : Type := Nat → Nat → Int32
abbrev aN : Type := Nat → Nat → Int64
abbrev aP : Type := Nat → Nat → Option Nat
abbrev aL : Type := List (Nat × Value)
abbrev aQ : Type := Option Value → aM → aN → aP → Nat → Prop
abbrev aX : Type := Nat → aL → List Value → aM → aN → aP → Nat → Prop
abbrev aC : Type := Nat → List Value → aM → aN → aP → Nat → aQ → Prop
abbrev aG : Type := Nat × (Nat → Int32)
def uM (M : aM) (a k : Nat) (v : Int32) : aM := va_up M a (va_up (M a) k v)
def uN (N : aN) (a k : Nat) (v : Int64) : aN := va_up N a (va_up (N a) k v)
def uP (P : aP) (a k : Nat) (v : Option Nat) : aP := va_up P a (va_up (P a) k v)
def zM (M : aM) (a : Nat) : aM := va_up M a (fun _ => 0)
def zN (N : aN) (a : Nat) : aN := va_up N a (fun _ => 0)
def zP (P : aP) (a : Nat) : aP := va_up P a (fun _ => none)
/-- the cells in the order of their making: (0, class) an object, (1, n) ints, (2, n) bytes, (3, n) booleans, (4, n) longs -/
def kinds : List (Nat × Nat) := [(0, 6), (0, 2), (0, 4), (2, 700), (1, 8), (1, 22), (1, 22), (1, 22), (0, 5), (1, 89), (1, 5), (0, 3), (1, 6), (1, 6), (1, 6), (1, 7), (0, 0), (0, 3), (1, 6), (1, 6), (1, 6), (1, 7), (0, 5), (1, 89), (1, 5), (0, 1), (1, 1068), (1, 178), (0, 5), (1, 89), (1, 5), (0, 7), (2, 700), (1, 8), (4, 64), (1, 16), (1, 89), (1, 89), (3, 36), (1, 1068), (1, 178), (3, 2), (1, 8), (4, 1)]
def kindOf (a : Nat) : Nat × Nat := kinds.getD a (9, 0)
/-- an object of class ci is at a -/
def okO (nx a ci : Nat) : Prop := kindOf a = (0, ci) ∧ a < nx
/-- a row of kind t is at a, j is a place of it, and i says j -/
def okA (nx a t : Nat) (i : Int32) (j : Nat) : Prop := (kindOf a).1 = t ∧ a < nx ∧ i = nI j ∧ j < (kindOf a).2
def okZ (x : Int32) : Prop := x = 0 ∨ x = 1
/-- what a row of bytes or booleans keeps of x -/
def bst (nx a : Nat) (i : Int32) (k : Nat) (x y : Int32) : Prop := (okA nx a 2 i k ∧ y = x.toInt8.toInt32) ∨ (okA nx a 3 i k ∧ okZ x ∧ y = x)
def lget : aL → Nat → Option Value
  | [], _ => none
  | q :: t, i => bif q.1 == i then some q.2 else lget t i
def lst1 (l : aL) (i : Nat) (v : Value) : aL := (i, v) :: l.filter (fun q => !(q.1 == i) && !(q.1 + 1 == i && q.2.category == 2))
def lst2 (l : aL) (i : Nat) (v : Value) : aL := (i, v) :: l.filter (fun q => !(q.1 == i) && (!(q.1 == i + 1) && !(q.1 + 1 == i && q.2.category == 2)))
def s1i (st : List Value) (k : Int32 → List Value → Prop) : Prop := match st with
  | .int x :: r => k x r
  | _ => False
def s2i (st : List Value) (k : Int32 → Int32 → List Value → Prop) : Prop := match st with
  | .int y :: .int x :: r => k x y r
  | _ => False
def s1l (st : List Value) (k : Int64 → List Value → Prop) : Prop := match st with
  | .long x :: r => k x r
  | _ => False
def s2l (st : List Value) (k : Int64 → Int64 → List Value → Prop) : Prop := match st with
  | .long y :: .long x :: r => k x y r
  | _ => False
def sli (st : List Value) (k : Int64 → Int32 → List Value → Prop) : Prop := match st with
  | .int y :: .long x :: r => k x y r
  | _ => False
def s1r (st : List Value) (k : Nat → List Value → Prop) : Prop := match st with
  | .ref x :: r => k x r
  | _ => False
def ldi (l : aL) (i : Nat) (k : Int32 → Prop) : Prop := match lget l i with
  | some (.int x) => k x
  | _ => False
def ldl (l : aL) (i : Nat) (k : Int64 → Prop) : Prop := match lget l i with
  | some (.long x) => k x
  | _ => False
def lda (l : aL) (i : Nat) (k : Value → Prop) : Prop := match lget l i with
  | some (.ref x) => k (.ref x)
  | some (.retAddr x) => k (.retAddr x)
  | _ => False
def jmp (pc : Nat) (off : Int) (k : Nat → Prop) : Prop := match (pc : Int) + off with
  | .ofNat t => k t
  | .negSucc _ => False
def brc (c : ClassFile.Cond) (x y : Int32) (A B : Prop) : Prop := match c with
  | .eq => (x = y → A) ∧ (¬ x = y → B)
  | .ne => (¬ x = y → A) ∧ (x = y → B)
  | .lt => (x < y → A) ∧ (¬ x < y → B)
  | .ge => (y ≤ x → A) ∧ (¬ y ≤ x → B)
  | .gt => (y < x → A) ∧ (¬ y < x → B)
  | .le => (x ≤ y → A) ∧ (¬ x ≤ y → B)
def swT (x : Int32) (K : Int → Prop) (d : Int) : Int → List Int → Prop
  | _, [] => K d
  | lo, o :: t => (x = kI lo → K o) ∧ (¬ x = kI lo → swT x K d (lo + 1) t)
def swL (x : Int32) (K : Int → Prop) (d : Int) : List (Int × Int) → Prop
  | [] => K d
  | (a, o) :: t => (x = kI a → K o) ∧ (¬ x = kI a → swL x K d t)
def rI (k : Int32 → aM → aN → aP → Nat → Prop) : aQ := fun r M N P nx => match r with
  | some (.int x) => k x M N P nx
  | _ => False
def rJ (k : Int64 → aM → aN → aP → Nat → Prop) : aQ := fun r M N P nx => match r with
  | some (.long x) => k x M N P nx
  | _ => False
def rV (k : aM → aN → aP → Nat → Prop) : aQ := fun r M N P nx => match r with
  | none => k M N P nx
  | _ => False
def catS : List Value → Nat
  | [] => 0
  | v :: t => v.category + catS t
def k8 : Int → Int32
  | .ofNat k => bif Nat.blt k 128 then nI k else (Int8.ofInt (.ofNat k)).toInt32
  | .negSucc 1 => ng2
  | .negSucc k => (Int8.ofInt (.negSucc k)).toInt32
def k16 : Int → Int32
  | .ofNat k => bif Nat.blt k 32768 then nI k else (Int16.ofInt (.ofNat k)).toInt32
  | .negSucc k => (Int16.ofInt (.negSucc k)).toInt32
def postP (rt : Option FieldType) (rest : List Value) (K : List Value → aM → aN → aP → Nat → Prop) : aQ := match rt with
  | none => rV (fun M N P nx => K rest M N P nx)
  | some .long => rJ (fun x M N P nx => K (.long x :: rest) M N P nx)
  | some _ => rI (fun x M N P nx => K (.int x :: rest) M N P nx)
/-- how many values a call takes -/
def mTake (q : Nat) : Nat := bif mKind q == 1 then mArg q else mArg q + 1
def goP (C : aC) (lim q : Nat) (K : List Value → aM → aN → aP → Nat → Prop) (st : List Value) (M : aM) (N : aN) (P : aP) (nx : Nat) : Prop :=
  bif Nat.ble (mTake q) st.length && Nat.ble (catS (st.drop (mTake q))) 8 then (bif mC q == 0 then C q (st.take (mTake q)).reverse M N P nx (postP (mRet q) (st.drop (mTake q)) K) else (nx + mC q ≤ lim ∧ C q (st.take (mTake q)).reverse M N P nx (postP (mRet q) (st.drop (mTake q)) K))) else False
/-- a call: q by its number, its arguments, the receiver's class -/
def callP (C : aC) (lim q : Nat) (K : List Value → aM → aN → aP → Nat → Prop) (st : List Value) (M : aM) (N : aN) (P : aP) (nx : Nat) : Prop :=
  bif mKind q == 1 then goP C lim q K st M N P nx else match (st.take (mTake q)).reverse with
    | .ref a :: _ => okO nx a (mOwn q) ∧ goP C lim q K st M N P nx
    | _ => False
def getP (ty : FieldType) (o k : Nat) (K : Value → Prop) (M : aM) (N : aN) (P : aP) : Prop := match ty with
  | .int => K (.int (M o k))
  | .long => K (.long (N o k))
  | _ => ∃ a, P o k = some a ∧ K (.ref a)
def putP (ty : FieldType) (st : List Value) (k : Nat) (ok : Nat → Prop) (K : List Value → aM → aN → aP → Prop) (M : aM) (N : aN) (P : aP) : Prop := match ty with
  | .int => match st with
    | .int x :: .ref o :: r => ok o ∧ K r (uM M o k x) N P
    | _ => False
  | .long => match st with
    | .long x :: .ref o :: r => ok o ∧ K r M (uN N o k x) P
    | _ => False
  | _ => match st with
    | .ref x :: .ref o :: r => ok o ∧ K r M N (uP P o k (some x))
    | _ => False
def fldFin (ci k : Nat) : Bool := match vwCl[ci]? with
  | some q => (q.2.1 k).2.2.2
  | none => false
def aKind : ArrayType → Nat
  | .int => 1
  | .byte => 2
  | .boolean => 3
  | .long => 4
  | _ => 7
def stepI (C : aC) (G : aG) (j lim : Nat) (Q : aQ) (X : aX) (pc len : Nat) (i : Instr) (lv : aL) (st : List Value) (M : aM) (N : aN) (P : aP) (nx : Nat) : Prop := match i with
  | .iconst n => X (pc + len) lv (.int (kI n) :: st) M N P nx
  | .bipush n => X (pc + len) lv (.int (k8 n) :: st) M N P nx
  | .sipush n => X (pc + len) lv (.int (k16 n) :: st) M N P nx
  | .lconst n => X (pc + len) lv (.long (lN n.val) :: st) M N P nx
  | .ldc2_w x => match lcon (mOwn j) x with
    | some v => X (pc + len) lv (.long (kL v) :: st) M N P nx
    | none => False
  | .ldc x => match scon (mOwn j) x with
    | some k => X (pc + len) lv (.retAddr (k + 1) :: st) M N P nx
    | none => False
  | .ldc_w x => match icon (mOwn j) x with
    | some v => X (pc + len) lv (.int (kI v) :: st) M N P nx
    | none => False
  | .iload n => ldi lv n fun x => X (pc + len) lv (.int x :: st) M N P nx
  | .iload_n n => ldi lv n.val fun x => X (pc + len) lv (.int x :: st) M N P nx
  | .lload n => ldl lv n fun x => X (pc + len) lv (.long x :: st) M N P nx
  | .lload_n n => ldl lv n.val fun x => X (pc + len) lv (.long x :: st) M N P nx
  | .aload n => lda lv n fun v => X (pc + len) lv (v :: st) M N P nx
  | .aload_n n => lda lv n.val fun v => X (pc + len) lv (v :: st) M N P nx
  | .istore n => s1i st fun x r => bif Nat.blt n (mMaxL j) then X (pc + len) (lst1 lv n (.int x)) r M N P nx else False
  | .istore_n n => s1i st fun x r => bif Nat.blt n.val (mMaxL j) then X (pc + len) (lst1 lv n.val (.int x)) r M N P nx else False
  | .lstore n => s1l st fun x r => bif Nat.blt (n + 1) (mMaxL j) then X (pc + len) (lst2 lv n (.long x)) r M N P nx else False
  | .lstore_n n => s1l st fun x r => bif Nat.blt (n.val + 1) (mMaxL j) then X (pc + len) (lst2 lv n.val (.long x)) r M N P nx else False
  | .astore n => s1r st fun x r => bif Nat.blt n (mMaxL j) then X (pc + len) (lst1 lv n (.ref x)) r M N P nx else False
  | .astore_n n => s1r st fun x r => bif Nat.blt n.val (mMaxL j) then X (pc + len) (lst1 lv n.val (.ref x)) r M N P nx else False
  | .iinc n k => ldi lv n fun x => bif Nat.blt n (mMaxL j) then X (pc + len) (lst1 lv n (.int (x + kI k))) st M N P nx else False
  | .iadd => s2i st fun x y r => X (pc + len) lv (.int (x + y) :: r) M N P nx
  | .isub => s2i st fun x y r => X (pc + len) lv (.int (x - y) :: r) M N P nx
  | .imul => s2i st fun x y r => X (pc + len) lv (.int (x * y) :: r) M N P nx
  | .iand => s2i st fun x y r => X (pc + len) lv (.int (x &&& y) :: r) M N P nx
  | .ior => s2i st fun x y r => X (pc + len) lv (.int (x ||| y) :: r) M N P nx
  | .ishl => s2i st fun x y r => X (pc + len) lv (.int (x <<< (y &&& 31)) :: r) M N P nx
  | .ishr => s2i st fun x y r => X (pc + len) lv (.int (x >>> (y &&& 31)) :: r) M N P nx
  | .iushr => s2i st fun x y r => X (pc + len) lv (.int (x.toUInt32 >>> (y.toUInt32 &&& Int32.toUInt32 31)).toInt32 :: r) M N P nx
  | .idiv => s2i st fun x y r => ¬ y = 0 ∧ X (pc + len) lv (.int (x / y) :: r) M N P nx
  | .irem => s2i st fun x y r => ¬ y = 0 ∧ X (pc + len) lv (.int (x - x / y * y) :: r) M N P nx
  | .i2l => s1i st fun x r => X (pc + len) lv (.long x.toInt64 :: r) M N P nx
  | .l2i => s1l st fun x r => X (pc + len) lv (.int x.toInt32 :: r) M N P nx
  | .i2b => s1i st fun x r => X (pc + len) lv (.int x.toInt8.toInt32 :: r) M N P nx
  | .ladd => s2l st fun x y r => X (pc + len) lv (.long (x + y) :: r) M N P nx
  | .lsub => s2l st fun x y r => X (pc + len) lv (.long (x - y) :: r) M N P nx
  | .land => s2l st fun x y r => X (pc + len) lv (.long (x &&& y) :: r) M N P nx
  | .lor => s2l st fun x y r => X (pc + len) lv (.long (x ||| y) :: r) M N P nx
  | .lshl => sli st fun x y r => X (pc + len) lv (.long (x <<< (y.toInt64 &&& 63)) :: r) M N P nx
  | .lshr => sli st fun x y r => X (pc + len) lv (.long (x >>> (y.toInt64 &&& 63)) :: r) M N P nx
  | .lushr => sli st fun x y r => X (pc + len) lv (.long (x.toUInt64 >>> (y.toInt64.toUInt64 &&& Int64.toUInt64 63)).toInt64 :: r) M N P nx
  | .lcmp => s2l st fun x y r => X (pc + len) lv (.int (lg_cmp x y) :: r) M N P nx
  | .dup => match st with
    | v :: r => bif v.category == 1 then X (pc + len) lv (v :: v :: r) M N P nx else False
    | _ => False
  | .dup2 => match st with
    | v :: w :: r => bif v.category == 1 && w.category == 1 then X (pc + len) lv (v :: w :: v :: w :: r) M N P nx else False
    | _ => False
  | .pop => match st with
    | v :: r => bif v.category == 1 then X (pc + len) lv r M N P nx else False
    | _ => False
  | .goto off => jmp pc off fun t => X t lv st M N P nx
  | .ifCond c off => s1i st fun x r => jmp pc off fun t => brc c x 0 (X t lv r M N P nx) (X (pc + len) lv r M N P nx)
  | .if_icmp c off => s2i st fun x y r => jmp pc off fun t => brc c x y (X t lv r M N P nx) (X (pc + len) lv r M N P nx)
  | .tableswitch d lo _ offs => s1i st fun x r => swT x (fun off => jmp pc off fun t => X t lv r M N P nx) d lo offs.toList
  | .lookupswitch d ps => s1i st fun x r => swL x (fun off => jmp pc off fun t => X t lv r M N P nx) d ps.toList
  | .getfield x => s1r st fun o r => match fldOf (mOwn j) x with
    | some (ci, k) => okO nx o ci ∧ getP (cTy ci k) o k (fun v => X (pc + len) lv (v :: r) M N P nx) M N P
    | none => False
  | .putfield x => match fldOf (mOwn j) x with
    | some (ci, k) => bif fldFin ci k && !(mKind j == 2 && mOwn j == ci) then False else putP (cTy ci k) st k (fun o => okO nx o ci) (fun r M N P => X (pc + len) lv r M N P nx) M N P
    | none => False
  | .iaload => match st with
    | .int i :: .ref a :: r => ∃ k, okA nx a 1 i k ∧ X (pc + len) lv (.int (M a k) :: r) M N P nx
    | .int i :: .retAddr 0 :: r => bif j == 217 then ∃ k, i = nI k ∧ k < G.1 ∧ X (pc + len) lv (.int (G.2 k) :: r) M N P nx else False
    | _ => False
  | .baload => match st with
    | .int i :: .ref a :: r => ∃ k, (okA nx a 2 i k ∨ okA nx a 3 i k) ∧ X (pc + len) lv (.int (M a k) :: r) M N P nx
    | _ => False
  | .laload => match st with
    | .int i :: .ref a :: r => ∃ k, okA nx a 4 i k ∧ X (pc + len) lv (.long (N a k) :: r) M N P nx
    | _ => False
  | .iastore => match st with
    | .int x :: .int i :: .ref a :: r => ∃ k, okA nx a 1 i k ∧ X (pc + len) lv r (uM M a k x) N P nx
    | _ => False
  | .bastore => match st with
    | .int x :: .int i :: .ref a :: r => ∃ k y, bst nx a i k x y ∧ X (pc + len) lv r (uM M a k y) N P nx
    | _ => False
  | .lastore => match st with
    | .long x :: .int i :: .ref a :: r => ∃ k, okA nx a 4 i k ∧ X (pc + len) lv r M (uN N a k x) P nx
    | _ => False
  | .arraylength => match st with
    | .ref a :: r => (kindOf a).1 = 1 ∧ a < nx ∧ X (pc + len) lv (.int (nI (kindOf a).2) :: r) M N P nx
    | .retAddr 0 :: r => bif j == 217 then X (pc + len) lv (.int (nI G.1) :: r) M N P nx else False
    | _ => False
  | .new x => bif j == 96 then (bif Nat.ble (catS st) 8 then Q none M N P nx else False) else match newOf (mOwn j) x with
    | some ci => kindOf nx = (0, ci) ∧ nx + 1 ≤ lim ∧ X (pc + len) lv (.ref nx :: st) (zM M nx) (zN N nx) (zP P nx) (nx + 1)
    | none => False
  | .newarray t => s1i st fun n r => (kindOf nx).1 = aKind t ∧ n = nI (kindOf nx).2 ∧ nx + 1 ≤ lim ∧ X (pc + len) lv (.ref nx :: r) (zM M nx) (zN N nx) (zP P nx) (nx + 1)
  | .invokevirtual x => match callOf (mOwn j) x with
    | some q => bif Nat.blt q 1000 && (mKind q == 0 && !(q == 96)) then callP C lim q (fun st M N P nx => X (pc + len) lv st M N P nx) st M N P nx else False
    | none => False
  | .invokespecial x => match callOf (mOwn j) x with
    | some q => bif q == 1000 then s1r st fun _ r => bif Nat.ble (catS r) 8 then X (pc + len) lv r M N P nx else False else (bif Nat.blt q 1000 && mKind q == 2 then callP C lim q (fun st M N P nx => X (pc + len) lv st M N P nx) st M N P nx else False)
    | none => False
  | .invokestatic x => match callOf (mOwn j) x with
    | some q => bif q == 1001 then s2i st fun x y r => bif Nat.ble (catS r) 8 then X (pc + len) lv (.int (if x < y then y else x) :: r) M N P nx else False else bif q == 1002 then s2i st fun x y r => bif Nat.ble (catS r) 8 then X (pc + len) lv (.int (if y < x then y else x) :: r) M N P nx else False else bif q == 1003 then (match st with
        | .int n :: .int dp :: .ref b :: .int sp :: .ref a :: r => bif Nat.ble (catS r) 8 then ((kindOf a).1 = 1 ∧ a < nx ∧ (kindOf b).1 = 1 ∧ b < nx ∧ ∃ sp' dp' n' : Nat, sp = nI sp' ∧ dp = nI dp' ∧ n = nI n' ∧ sp' + n' ≤ (kindOf a).2 ∧ dp' + n' ≤ (kindOf b).2 ∧ X (pc + len) lv r (va_up M b (va_cpy (M a) (M b) sp' dp' n')) N P nx) else False
        | _ => False)
      else bif Nat.blt q 1000 && mKind q == 1 then callP C lim q (fun st M N P nx => X (pc + len) lv st M N P nx) st M N P nx else False
    | none => False
  | .ireturn => match st with
    | [.int x] => match mRet j with
      | some .int => Q (some (.int x)) M N P nx
      | some .boolean => okZ x ∧ Q (some (.int x)) M N P nx
      | _ => False
    | _ => False
  | .lreturn => match st with
    | [.long x] => match mRet j with
      | some .long => Q (some (.long x)) M N P nx
      | _ => False
    | _ => False
  | .return_ => match st with
    | [] => match mRet j with
      | none => Q none M N P nx
      | _ => False
    | _ => False
  | _ => False
def okLen (i : Instr) (len : Nat) : Bool := match i with
  | .bipush _ | .ldc _ | .iload _ | .lload _ | .aload _ | .istore _ | .lstore _ | .astore _ | .newarray _ => len == 2
  | .sipush _ | .ldc2_w _ | .ldc_w _ | .iinc _ _ | .goto _ | .ifCond _ _ | .if_icmp _ _ | .getfield _ | .putfield _ | .new _ | .invokevirtual _ | .invokespecial _ | .invokestatic _ => len == 3
  | .tableswitch _ _ _ _ => true
  | .lookupswitch _ _ => true
  | _ => len == 1
/-- sorted matches, a table of the right size -/
def okSw (i : Instr) : Bool := match i with
  | .tableswitch _ lo hi offs => hi == lo + (offs.size : Int) - 1 && decide (-1000 ≤ lo) && decide (hi ≤ 1000)
  | .lookupswitch _ ps => (ps.toList.zip (ps.toList.drop 1)).all (fun (a, next) => a.1 < next.1) && ps.toList.all (fun q => decide (-1000 ≤ q.1) && decide (q.1 ≤ 1000))
  | _ => true
/-- where stretches meet, only the locals that are still read are known, in their order -/
def nrm (j pc : Nat) (lv : aL) : aL := match lkN (liveL.getD j []) pc with
  | none => lv
  | some ks => ks.filterMap (fun k => (lget lv k).map (fun v => (k, v)))
def nrX (j : Nat) (X : aX) : aX := fun pc lv => X pc (nrm j pc lv)
def stepAt (C : aC) (G : aG) (j lim : Nat) (Q : aQ) (X : aX) : aX := fun pc lv st M N P nx =>
  ∃ (i : Instr) (len : Nat), decode (mCode j) pc = .ok (i, len) ∧ okLen i len = true ∧ okSw i = true ∧ stepI C G j lim Q (nrX j X) pc len i lv st M N P nx
def WP (C : aC) (G : aG) (j lim : Nat) (Q : aQ) : aX := fun pc lv st M N P nx =>
  ∀ X : aX, (∀ pc lv st M N P nx, stepAt C G j lim Q X pc lv st M N P nx → X pc lv st M N P nx) → X pc lv st M N P nx
