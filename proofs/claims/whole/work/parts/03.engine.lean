/-! ===== the abstract machine: values, memory, one instruction, stretches of code ===== -/
/-- an int, a long, a reference (its role, its length, its number) or null -/
abbrev AV : Type := Int32 ⊕ (Int64 ⊕ Option (Nat × Nat × Nat))
abbrev vI (x : Int32) : AV := .inl x
abbrev vL (x : Int64) : AV := .inr (.inl x)
abbrev vO (q : Option (Nat × Nat × Nat)) : AV := .inr (.inr q)
abbrev vR (ro n a : Nat) : AV := .inr (.inr (some (ro, n, a)))
abbrev eLS : Type := List (Option AV)
abbrev MR : Type := Nat → Nat → Option (Nat × Nat × Nat)
abbrev MI : Type := Nat → Nat → Int32
abbrev ML : Type := Nat → Nat → Int64
abbrev HP : Type := Nat → MR → MI → ML → Prop
/-- one place of a memory changed -/
def u2 {α : Type} (f : Nat → Nat → α) (a k : Nat) (v : α) : Nat → Nat → α := fun b => if b = a then (fun j => if j = k then v else f a j) else f b
/-- one cell of a memory made anew -/
def z2 {α : Type} (f : Nat → Nat → α) (a : Nat) (v : α) : Nat → Nat → α := fun b => if b = a then (fun _ => v) else f b
def dflM : MT := (⟨"", "", ""⟩, ⟨#[]⟩, 0, none, [], 0, 0, 9, 99, 0, 0, 0, 0)
def mget (y : Nat) : MT := mm.getD y dflM
def mNm (y : Nat) : MethodName := (mget y).1
def mCd (y : Nat) : ByteArray := (mget y).2.1
def mMx (y : Nat) : Nat := (mget y).2.2.1
def mRt (y : Nat) : Option FieldType := (mget y).2.2.2.1
def mTb (y : Nat) : List Row := (mget y).2.2.2.2.1
def mDp (y : Nat) : Nat := (mget y).2.2.2.2.2.1
def mNa (y : Nat) : Nat := (mget y).2.2.2.2.2.2.1
def mKd (y : Nat) : Nat := (mget y).2.2.2.2.2.2.2.1
def mCi (y : Nat) : Nat := (mget y).2.2.2.2.2.2.2.2.1
/-- the kind of a field -/
def fk (ci k : Nat) : Nat := (fkT.getD ci []).getD k 9
def clN (ci : Nat) : Nat := (fkT.getD ci []).length
/-- numbers that stand in the code -/
def cI (n sg : Nat) : Int32 := match sg with
  | 0 => nI n
  | _ => -(nI n)
def cL (n sg : Nat) : Int64 := match sg with
  | 0 => lN n
  | _ => -(lN n)
def cIK (n sg : Nat) (K : Int32 → Prop) : Prop := match sg with
  | 0 => K (nI n)
  | _ => K (-(nI n))
def cLK (n sg : Nat) (K : Int64 → Prop) : Prop := match sg with
  | 0 => K (lN n)
  | _ => K (-(lN n))
theorem cIK_eq (n sg : Nat) (K : Int32 → Prop) : cIK n sg K = K (cI n sg) := by cases sg <;> rfl
theorem cLK_eq (n sg : Nat) (K : Int64 → Prop) : cLK n sg K = K (cL n sg) := by cases sg <;> rfl
def prC (i : Nat) : Int32 := ([3, 7, 11, 19, 23, 31] : List Int32).getD i 0
-- locals
def lg : eLS → Nat → Option AV
  | [], _ => none
  | x :: _, 0 => x
  | _ :: r, n + 1 => lg r n
def clrK {β : Sort _} (x : Option AV) (K : Option AV → β) : β := match x with
  | none => K none
  | some (.inl a) => K (some (.inl a))
  | some (.inr (.inl _)) => K none
  | some (.inr (.inr q)) => K (some (.inr (.inr q)))
/-- storing a value of one slot -/
def stoK {β : Sort _} : eLS → Nat → AV → (eLS → β) → β
  | [], _, _, K => K []
  | _ :: r, 0, v, K => K (some v :: r)
  | x :: r, 1, v, K => clrK x (fun x' => stoK r 0 v (fun r' => K (x' :: r')))
  | x :: r, i + 2, v, K => stoK r (i + 1) v (fun r' => K (x :: r'))
/-- storing a value of two slots -/
def stoLK {β : Sort _} : eLS → Nat → AV → (eLS → β) → β
  | _ :: _ :: r, 0, v, K => K (some v :: none :: r)
  | x :: r, 1, v, K => clrK x (fun x' => stoLK r 0 v (fun r' => K (x' :: r')))
  | x :: r, i + 2, v, K => stoLK r (i + 1) v (fun r' => K (x :: r'))
  | _, _, _, K => K []
/-- the locals at a method's entry -/
def entK {β : Sort _} : List AV → Nat → (eLS → β) → β
  | [], n, K => K (List.replicate n none)
  | .inr (.inl x) :: r, n, K => entK r (n - 2) (fun l => K (some (.inr (.inl x)) :: none :: l))
  | .inl x :: r, n, K => entK r (n - 1) (fun l => K (some (.inl x) :: l))
  | .inr (.inr q) :: r, n, K => entK r (n - 1) (fun l => K (some (.inr (.inr q)) :: l))
/-- so many values off the stack, the deepest first -/
def popK {β : Sort _} : Nat → List AV → List AV → (List AV → List AV → β) → β → β
  | 0, st, acc, K, _ => K acc st
  | _ + 1, [], _, _, z => z
  | n + 1, v :: st, acc, K, z => popK n st (v :: acc) K z
def catA : AV → Nat
  | .inr (.inl _) => 2
  | _ => 1
def catS : List AV → Nat
  | [] => 0
  | v :: r => catA v + catS r
def psh (rv : Option AV) (t : List AV) : List AV := match rv with
  | none => t
  | some v => v :: t
def suf : List Row → Nat → List Row
  | [], _ => []
  | r :: l, pc => bif Nat.beq r.1 pc then r :: l else suf l pc
/-- what an int answer owes to the type of the method -/
def retK (rt : Option FieldType) (x : Int32) (K : Prop) : Prop := match rt with
  | some .int => K
  | some .boolean => (x = 0 ∨ x = 1) ∧ K
  | some ty => narrow ty (.int x) = .int x ∧ K
  | none => False
def brc (cd : ClassFile.Cond) (x y : Int32) (J N : Prop) : Prop := match cd with
  | .eq => (x = y → J) ∧ (¬ x = y → N)
  | .ne => (¬ x = y → J) ∧ (x = y → N)
  | .lt => (x < y → J) ∧ (¬ x < y → N)
  | .ge => (y ≤ x → J) ∧ (¬ y ≤ x → N)
  | .gt => (y < x → J) ∧ (¬ y < x → N)
  | .le => (x ≤ y → J) ∧ (¬ x ≤ y → N)
def arOK (ro : Nat) : Bool := Nat.blt ro 4 || Nat.beq ro 101 || Nat.beq ro 102 || Nat.beq ro 104
/-- one instruction: N goes on behind it, J at its target, A: it isn't known here, Rt: the method answers, Cl: a call -/
def stp (rt : Option FieldType) (r : Row) (ls : eLS) (st : List AV) (k s c : Nat) (mr : MR) (mi : MI) (ml : ML) (N : eLS → List AV → Nat → Nat → HP) (J : List AV → Prop) (A : Prop) (Rt : Option AV → Prop) (Cl : Prop) : Prop :=
  match r with
  | (_, ins, _, x1, x2, _, v, _) => match ins with
    | .iload i => match lg ls i with
      | some (.inl x) => N ls (.inl x :: st) k s c mr mi ml
      | _ => A
    | .iload_n i => match lg ls i.val with
      | some (.inl x) => N ls (.inl x :: st) k s c mr mi ml
      | _ => A
    | .lload i => match lg ls i with
      | some (.inr (.inl x)) => N ls (.inr (.inl x) :: st) k s c mr mi ml
      | _ => A
    | .lload_n i => match lg ls i.val with
      | some (.inr (.inl x)) => N ls (.inr (.inl x) :: st) k s c mr mi ml
      | _ => A
    | .aload i => match lg ls i with
      | some (.inr (.inr (some q))) => N ls (.inr (.inr (some q)) :: st) k s c mr mi ml
      | _ => A
    | .aload_n i => match lg ls i.val with
      | some (.inr (.inr (some q))) => N ls (.inr (.inr (some q)) :: st) k s c mr mi ml
      | _ => A
    | .istore i => match st with
      | .inl x :: t => stoK ls i (.inl x) (fun ls' => N ls' t k s c mr mi ml)
      | _ => A
    | .istore_n i => match st with
      | .inl x :: t => stoK ls i.val (.inl x) (fun ls' => N ls' t k s c mr mi ml)
      | _ => A
    | .lstore i => match st with
      | .inr (.inl x) :: t => stoLK ls i (.inr (.inl x)) (fun ls' => N ls' t k s c mr mi ml)
      | _ => A
    | .lstore_n i => match st with
      | .inr (.inl x) :: t => stoLK ls i.val (.inr (.inl x)) (fun ls' => N ls' t k s c mr mi ml)
      | _ => A
    | .astore i => match st with
      | .inr (.inr (some q)) :: t => stoK ls i (.inr (.inr (some q))) (fun ls' => N ls' t k s c mr mi ml)
      | _ => A
    | .astore_n i => match st with
      | .inr (.inr (some q)) :: t => stoK ls i.val (.inr (.inr (some q))) (fun ls' => N ls' t k s c mr mi ml)
      | _ => A
    | .iconst _ => cIK x1 x2 (fun w => N ls (.inl w :: st) k s c mr mi ml)
    | .bipush _ => cIK x1 x2 (fun w => N ls (.inl w :: st) k s c mr mi ml)
    | .sipush _ => cIK x1 x2 (fun w => N ls (.inl w :: st) k s c mr mi ml)
    | .lconst _ => cLK x1 x2 (fun w => N ls (.inr (.inl w) :: st) k s c mr mi ml)
    | .ldc _ => match v with
      | 0 => cIK x1 x2 (fun w => N ls (.inl w :: st) k s c mr mi ml)
      | 1 => N ls (.inr (.inr (some (100, 0, x1))) :: st) k s c mr mi ml
      | _ => A
    | .ldc_w _ => match v with
      | 0 => cIK x1 x2 (fun w => N ls (.inl w :: st) k s c mr mi ml)
      | _ => A
    | .ldc2_w _ => match v with
      | 0 => cLK x1 x2 (fun w => N ls (.inr (.inl w) :: st) k s c mr mi ml)
      | _ => A
    | .iinc i _ => match lg ls i with
      | some (.inl x) => cIK x1 x2 (fun w => stoK ls i (.inl (x + w)) (fun ls' => N ls' st k s c mr mi ml))
      | _ => A
    | .iadd => match st with
      | .inl y :: .inl x :: t => N ls (.inl (x + y) :: t) k s c mr mi ml
      | _ => A
    | .isub => match st with
      | .inl y :: .inl x :: t => N ls (.inl (x - y) :: t) k s c mr mi ml
      | _ => A
    | .imul => match st with
      | .inl y :: .inl x :: t => N ls (.inl (x * y) :: t) k s c mr mi ml
      | _ => A
    | .iand => match st with
      | .inl y :: .inl x :: t => N ls (.inl (x &&& y) :: t) k s c mr mi ml
      | _ => A
    | .ior => match st with
      | .inl y :: .inl x :: t => N ls (.inl (x ||| y) :: t) k s c mr mi ml
      | _ => A
    | .ixor => match st with
      | .inl y :: .inl x :: t => N ls (.inl (x ^^^ y) :: t) k s c mr mi ml
      | _ => A
    | .idiv => match st with
      | .inl y :: .inl x :: t => ¬ y = 0 ∧ N ls (.inl (x / y) :: t) k s c mr mi ml
      | _ => A
    | .irem => match st with
      | .inl y :: .inl x :: t => ¬ y = 0 ∧ N ls (.inl (x - x / y * y) :: t) k s c mr mi ml
      | _ => A
    | .ishl => match st with
      | .inl y :: .inl x :: t => N ls (.inl (x <<< (y &&& 31)) :: t) k s c mr mi ml
      | _ => A
    | .ishr => match st with
      | .inl y :: .inl x :: t => N ls (.inl (x >>> (y &&& 31)) :: t) k s c mr mi ml
      | _ => A
    | .iushr => match st with
      | .inl y :: .inl x :: t => N ls (.inl ((x.toUInt32 >>> (y.toUInt32 &&& Int32.toUInt32 31)).toInt32) :: t) k s c mr mi ml
      | _ => A
    | .ineg => match st with
      | .inl x :: t => N ls (.inl (-x) :: t) k s c mr mi ml
      | _ => A
    | .ladd => match st with
      | .inr (.inl y) :: .inr (.inl x) :: t => N ls (.inr (.inl (x + y)) :: t) k s c mr mi ml
      | _ => A
    | .lsub => match st with
      | .inr (.inl y) :: .inr (.inl x) :: t => N ls (.inr (.inl (x - y)) :: t) k s c mr mi ml
      | _ => A
    | .lmul => match st with
      | .inr (.inl y) :: .inr (.inl x) :: t => N ls (.inr (.inl (x * y)) :: t) k s c mr mi ml
      | _ => A
    | .lor => match st with
      | .inr (.inl y) :: .inr (.inl x) :: t => N ls (.inr (.inl (x ||| y)) :: t) k s c mr mi ml
      | _ => A
    | .ldiv => match st with
      | .inr (.inl y) :: .inr (.inl x) :: t => ¬ y = 0 ∧ N ls (.inr (.inl (x / y)) :: t) k s c mr mi ml
      | _ => A
    | .lrem => match st with
      | .inr (.inl y) :: .inr (.inl x) :: t => ¬ y = 0 ∧ N ls (.inr (.inl (x - x / y * y)) :: t) k s c mr mi ml
      | _ => A
    | .lneg => match st with
      | .inr (.inl x) :: t => N ls (.inr (.inl (-x)) :: t) k s c mr mi ml
      | _ => A
    | .lshl => match st with
      | .inl y :: .inr (.inl x) :: t => N ls (.inr (.inl (x <<< (y.toInt64 &&& 63))) :: t) k s c mr mi ml
      | _ => A
    | .i2l => match st with
      | .inl x :: t => N ls (.inr (.inl x.toInt64) :: t) k s c mr mi ml
      | _ => A
    | .l2i => match st with
      | .inr (.inl x) :: t => N ls (.inl x.toInt32 :: t) k s c mr mi ml
      | _ => A
    | .i2b => match st with
      | .inl x :: t => N ls (.inl x.toInt8.toInt32 :: t) k s c mr mi ml
      | _ => A
    | .i2c => match st with
      | .inl x :: t => N ls (.inl (x.toUInt32 % 65536).toInt32 :: t) k s c mr mi ml
      | _ => A
    | .lcmp => match st with
      | .inr (.inl y) :: .inr (.inl x) :: t => N ls (.inl (lg_cmp x y) :: t) k s c mr mi ml
      | _ => A
    | .dup => match st with
      | .inl x :: t => N ls (.inl x :: .inl x :: t) k s c mr mi ml
      | .inr (.inr q) :: t => N ls (.inr (.inr q) :: .inr (.inr q) :: t) k s c mr mi ml
      | _ => A
    | .dup2 => match st with
      | .inr (.inl x) :: t => N ls (.inr (.inl x) :: .inr (.inl x) :: t) k s c mr mi ml
      | .inl y :: .inl x :: t => N ls (.inl y :: .inl x :: .inl y :: .inl x :: t) k s c mr mi ml
      | .inl y :: .inr (.inr q) :: t => N ls (.inl y :: .inr (.inr q) :: .inl y :: .inr (.inr q) :: t) k s c mr mi ml
      | _ => A
    | .pop => match st with
      | .inl _ :: t => N ls t k s c mr mi ml
      | .inr (.inr _) :: t => N ls t k s c mr mi ml
      | _ => A
    | .goto _ => J st
    | .ifCond cd _ => match st with
      | .inl x :: t => brc cd x 0 (J t) (N ls t k s c mr mi ml)
      | _ => A
    | .if_icmp cd _ => match st with
      | .inl y :: .inl x :: t => brc cd x y (J t) (N ls t k s c mr mi ml)
      | _ => A
    | .getfield _ => match st with
      | .inr (.inr (some (ro, _, a))) :: t =>
        bif Nat.beq x1 90 then (bif Nat.beq ro 100 then (match x2 with
          | 0 => N ls (.inr (.inr (some (102, strN.getD a 0, a))) :: t) k s c mr mi ml
          | 1 => N ls (.inl 0 :: t) k s c mr mi ml
          | _ => A) else A)
        else (bif Nat.beq ro (x1 + 10) then (match fk x1 x2 with
          | 0 => N ls (.inl (mi a x2) :: t) k s c mr mi ml
          | 1 => N ls (.inr (.inl (ml a x2)) :: t) k s c mr mi ml
          | 2 => N ls (.inr (.inr (mr a x2)) :: t) k s c mr mi ml
          | 3 => N ls (.inl (mi a x2) :: t) k s c mr mi ml
          | _ => A) else A)
      | _ => A
    | .putfield _ => match st with
      | w :: .inr (.inr (some (ro, _, a))) :: t =>
        bif Nat.beq ro (x1 + 10) then (match fk x1 x2, w with
          | 0, .inl x => N ls t k s c mr (u2 mi a x2 x) ml
          | 1, .inr (.inl x) => N ls t k s c mr mi (u2 ml a x2 x)
          | 2, .inr (.inr q) => N ls t k s c (u2 mr a x2 q) mi ml
          | 3, .inl x => (x = 0 ∨ x = 1) ∧ N ls t k s c mr (u2 mi a x2 x) ml
          | _, _ => A) else A
      | _ => A
    | .iaload => match st with
      | .inl i :: .inr (.inr (some (ro, n, a))) :: t =>
        bif Nat.beq ro 0 then (vp_in i n ∧ N ls (.inl (mi a i.toNatClampNeg) :: t) k s c mr mi ml)
        else bif Nat.beq ro 104 then (vp_in i n ∧ N ls (.inl (mi 0 i.toNatClampNeg) :: t) k s c mr mi ml)
        else bif Nat.beq ro 101 then (vp_in i n ∧ N ls (.inl (prC i.toNatClampNeg) :: t) k s c mr mi ml) else A
      | _ => A
    | .baload => match st with
      | .inl i :: .inr (.inr (some (ro, n, a))) :: t =>
        bif Nat.beq ro 2 then (vp_in i n ∧ N ls (.inl (mi a i.toNatClampNeg) :: t) k s c mr mi ml)
        else bif Nat.beq ro 102 then (vp_in i n ∧ N ls (.inl ((strB.getD a []).getD i.toNatClampNeg 0) :: t) k s c mr mi ml) else A
      | _ => A
    | .laload => match st with
      | .inl i :: .inr (.inr (some (ro, n, a))) :: t => bif Nat.beq ro 1 then (vp_in i n ∧ N ls (.inr (.inl (ml a i.toNatClampNeg)) :: t) k s c mr mi ml) else A
      | _ => A
    | .aaload => match st with
      | .inl i :: .inr (.inr (some (ro, n, a))) :: t => bif Nat.beq ro 3 then (vp_in i n ∧ ∃ q, mr a i.toNatClampNeg = some q ∧ N ls (.inr (.inr (some q)) :: t) k s c mr mi ml) else A
      | _ => A
    | .iastore => match st with
      | .inl x :: .inl i :: .inr (.inr (some (ro, n, a))) :: t => bif Nat.beq ro 0 then (vp_in i n ∧ N ls t k s c mr (u2 mi a i.toNatClampNeg x) ml) else A
      | _ => A
    | .bastore => match st with
      | .inl x :: .inl i :: .inr (.inr (some (ro, n, a))) :: t => bif Nat.beq ro 2 then (vp_in i n ∧ N ls t k s c mr (u2 mi a i.toNatClampNeg (vp_nar .byte x)) ml) else A
      | _ => A
    | .lastore => match st with
      | .inr (.inl x) :: .inl i :: .inr (.inr (some (ro, n, a))) :: t => bif Nat.beq ro 1 then (vp_in i n ∧ N ls t k s c mr mi (u2 ml a i.toNatClampNeg x)) else A
      | _ => A
    | .arraylength => match st with
      | .inr (.inr (some (ro, n, _))) :: t => bif arOK ro then N ls (.inl (nI n) :: t) k s c mr mi ml else A
      | _ => A
    | .getstatic _ => match x1 with
      | 0 => N ls (.inl 1 :: st) k s c mr mi ml
      | 1 => N ls (.inr (.inr (some (101, 6, 0))) :: st) k s c mr mi ml
      | 2 => N ls (.inr (.inr (some (103, 0, 0))) :: st) k s c mr mi ml
      | _ => A
    | .new _ => match k with
      | 0 => A
      | k' + 1 => bif (Nat.blt x1 10 && Nat.ble (clN x1) s) then N ls (.inr (.inr (some (x1 + 10, 0, c))) :: st) k' (s - clN x1) (c + 1) (z2 mr c none) (z2 mi c 0) (z2 ml c 0) else A
    | .newarray ty => match st with
      | .inl n :: t => ∃ m : Nat, n = nI m ∧ m ≤ 65536 ∧ 1 ≤ k ∧ m ≤ s ∧ (match ty with
        | .int => N ls (.inr (.inr (some (0, m, c))) :: t) (k - 1) (s - m) (c + 1) (z2 mr c none) (z2 mi c 0) (z2 ml c 0)
        | .long => N ls (.inr (.inr (some (1, m, c))) :: t) (k - 1) (s - m) (c + 1) (z2 mr c none) (z2 mi c 0) (z2 ml c 0)
        | .byte => N ls (.inr (.inr (some (2, m, c))) :: t) (k - 1) (s - m) (c + 1) (z2 mr c none) (z2 mi c 0) (z2 ml c 0)
        | _ => False)
      | _ => A
    | .invokevirtual _ => Cl
    | .invokestatic _ => match x2 with
      | 5 => (match st with
        | .inl y :: .inl x :: t => bif Nat.ble (catS t) 8 then N ls (.inl (if x < y then y else x) :: t) k s c mr mi ml else A
        | _ => A)
      | 6 => (match st with
        | .inl y :: .inl x :: t => bif Nat.ble (catS t) 8 then N ls (.inl (if y < x then y else x) :: t) k s c mr mi ml else A
        | _ => A)
      | 7 => (match st with
        | .inr (.inl x) :: t => bif Nat.ble (catS t) 8 then N ls (.inr (.inl (if 0 < x then x else -x)) :: t) k s c mr mi ml else A
        | _ => A)
      | _ => Cl
    | .invokespecial _ => bif Nat.beq x2 4 then (match st with
        | .inr (.inr (some _)) :: t => N ls t k s c mr mi ml
        | _ => A) else Cl
    | .ireturn => match st with
      | [.inl x] => retK rt x (Rt (some (.inl x)))
      | _ => A
    | .lreturn => match st with
      | [.inr (.inl x)] => Rt (some (.inr (.inl x)))
      | _ => A
    | .return_ => match st with
      | [] => Rt none
      | _ => A
    | _ => A
