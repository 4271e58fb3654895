/-! ===== what the machine holds of it ===== -/
/-- outside: the texts' cells and their rows of bytes, the primes, the script with its length and its ints, one more value -/
abbrev XT : Type := (Nat → Nat) × (Nat → Nat) × Nat × Nat × Nat × (Nat → Int32) × Value
abbrev AC : Type := ClassId × ClassId × ClassId × ClassId
def cq (X : XT) (B : Nat) (q : Nat × Nat × Nat) : Value :=
  if q.1 < 100 then .ref (B + q.2.2)
  else if q.1 = 100 then .ref (X.1 q.2.2)
  else if q.1 = 102 then .ref (X.2.1 q.2.2)
  else if q.1 = 101 then .ref X.2.2.1
  else if q.1 = 104 then .ref X.2.2.2.1
  else X.2.2.2.2.2.2
def cv (X : XT) (B : Nat) : AV → Value
  | .inl x => .int x
  | .inr (.inl x) => .long x
  | .inr (.inr none) => .null
  | .inr (.inr (some q)) => cq X B q
def okq (X : XT) (sh : List (Nat × Nat)) (q : Nat × Nat × Nat) : Prop :=
  if q.1 < 100 then sh[q.2.2]? = some (q.1, q.2.1)
  else if q.1 = 100 then q.2.2 < nStr
  else if q.1 = 102 then q.2.2 < nStr ∧ q.2.1 = strN.getD q.2.2 0
  else if q.1 = 101 then q.2.1 = 6
  else if q.1 = 104 then q.2.1 = X.2.2.2.2.1
  else True
def okv (X : XT) (sh : List (Nat × Nat)) : AV → Prop
  | .inr (.inr (some q)) => okq X sh q
  | _ => True
def fv (X : XT) (B : Nat) (mr : MR) (mi : MI) (ml : ML) (a ci k : Nat) : Value := match fk ci k with
  | 0 => .int (mi a k)
  | 1 => .long (ml a k)
  | 2 => cv X B (.inr (.inr (mr a k)))
  | 3 => .int (mi a k)
  | _ => .null
def cE (X : XT) (B : Nat) (aC : AC) (mr : MR) (mi : MI) (ml : ML) (a ro n : Nat) : va_E :=
  if ro = 0 then .inl (aC.1, n, .inl (mi a))
  else if ro = 1 then .inl (aC.2.1, n, .inr (.inl (ml a)))
  else if ro = 2 then .inl (aC.2.2.1, n, .inl (mi a))
  else if ro = 3 then .inl (aC.2.2.2, n, .inr (.inr (.inr (.inr (fun i => (mr a i).map (fun q => B + q.2.2))))))
  else .inr (ro - 10, (List.range (clN (ro - 10))).map (fv X B mr mi ml a (ro - 10)))
def KN (D : va_G) (aC : AC) (U : State) : Prop := va_K D clT [(aC.1, .int), (aC.2.1, .long), (aC.2.2.1, .byte), (aC.2.2.2, .array .long)] U
/-- the heap: B and what lies below is old; cell a of ours is at B + a; cell 0 is nobody's, its ints are the script's -/
def RH (X : XT) (D : va_G) (aC : AC) (B : Nat) (sh : List (Nat × Nat)) (c : Nat) (mr : MR) (mi : MI) (ml : ML) (H : Heap) : Prop :=
  H.size = B + c ∧ sh.length = c ∧ sh[0]? = some (99, 0) ∧ (∀ a ro n, sh[a]? = some (ro, n) → ro < 20 → va_at D clT (B + a, cE X B aC mr mi ml a ro n) H) ∧ (∀ a k q, mr a k = some q → okq X sh q) ∧ (∀ a n i q, sh[a]? = some (3, n) → mr a i = some q → q.1 < 100) ∧ (∀ j, j < X.2.2.2.2.1 → mi 0 j = X.2.2.2.2.2.1 j)
def arB (comp : ClassId) (x : Class) : Bool := match x.kind with
  | .array component _ => component == comp
  | _ => false
/-- the class of rows of rows of longs is the one over rows of longs -/
def aov (U : State) : Prop := ∃ (comp c : ClassId) (k : Class), U.vm.findClass (FieldType.array .long).toString = some comp ∧ U.vm.findClass ("[" ++ (FieldType.array .long).toString) = some c ∧ U.vm.classes.findIdx? (arB comp) = some c ∧ U.vm.classes[c]? = some k ∧ k.kind = .array comp (.array .long)
theorem aov.of {args : Array Value} {s : State} (h : (Cond.arrayOver (.array .long)).before args s = true) : aov s := by
  have h : (Cond.arrayOver (.array .long)).holds args s none s [] = true := h
  simp only [Cond.holds, Cond.value, beq_iff_eq] at h
  cases hc : s.vm.findClass (FieldType.array .long).toString with
  | none => simp [hc] at h
  | some comp =>
    simp only [hc, Option.bind_some, Option.bind_eq_some_iff, Option.map_eq_some_iff] at h
    obtain ⟨c, hi, k, hk, hb⟩ := h
    have hi : s.vm.classes.findIdx? (arB comp) = some c := hi
    obtain ⟨hlt, hp, -⟩ := Array.findIdx?_eq_some_iff_getElem.mp hi
    have hkk : s.vm.classes[c] = k := (Array.getElem?_eq_some_iff.mp hk).2
    rw [hkk] at hp
    unfold arB at hp
    cases hkind : k.kind with
    | array component ty =>
      rw [hkind] at hb hp
      simp at hb hp
      exact ⟨comp, c, k, hc, hb.2, hi, hk, by rw [hkind, hp, hb.1]⟩
    | _ => rw [hkind] at hb; simp at hb
theorem aov.use {args : Array Value} {s : State} (h : aov s) : (Cond.arrayOver (.array .long)).before args s = true := by
  obtain ⟨comp, c, k, h1, h2, h3, h4, h5⟩ := h
  show (Cond.arrayOver (.array .long)).holds args s none s [] = true
  simp only [Cond.holds, Cond.value]
  rw [h1, Option.bind_some]
  show (Option.bind (s.vm.classes.findIdx? (arB comp)) _ == some true) = true
  rw [h3, Option.bind_some, h4]
  simp [h5, h2]
theorem aov.moved {u U : State} (hvm : u.vm.Alike U.vm) (h : aov u) : aov U := by
  obtain ⟨comp, c, k, h1, h2, h3, h4, h5⟩ := h
  obtain ⟨k', h6, h7⟩ := hvm.2.2 _ _ h4
  refine ⟨comp, c, k', by rw [hvm.findClass]; exact h1, by rw [hvm.findClass]; exact h2, ?_, h6, by rw [h7]; exact h5⟩
  obtain ⟨hlt, hp, hq⟩ := Array.findIdx?_eq_some_iff_getElem.mp h3
  have key : ∀ (i : Nat) (h1 : i < u.vm.classes.size) (h2 : i < U.vm.classes.size), arB comp U.vm.classes[i] = arB comp u.vm.classes[i] := by
    intro i a1 a2
    obtain ⟨k2, e1, e2⟩ := hvm.2.2 i _ (Array.getElem?_eq_getElem a1)
    have e3 : U.vm.classes[i] = k2 := by
      rw [Array.getElem?_eq_getElem a2] at e1
      exact Option.some.inj e1
    rw [e3, e2]
    rfl
  have hsz := hvm.2.1
  refine Array.findIdx?_eq_some_iff_getElem.mpr ⟨by omega, ?_, fun j hj => ?_⟩
  · rw [key c hlt (by omega)]; exact hp
  · rw [key j (by omega) (by omega)]; exact hq j hj
def EX (X : XT) (B : Nat) (U : State) : Prop :=
  vk_S nStr strN strB X.1 X.2.1 (fun q => B < q) U U.heap ∧ (∀ q ∈ ldT, vk_R q.1 q.2.1 q.2.2.1 (X.1 q.2.2.2) U)
  ∧ va_Z "java/lang/String" "COMPACT_STRINGS" "Z" (.int 1) (fun q => B < q) U U.heap
  ∧ va_Z "WeighingPlates$Reader" "PRIMES" "[I" (.ref X.2.2.1) (fun q => B < q) U U.heap
  ∧ va_T .int X.2.2.1 6 (fun j => .int (prC j)) (fun q => B < q) U U.heap
  ∧ va_Z "jdk/internal/util/Preconditions" "SIOOBE_FORMATTER" "Ljava/util/function/BiFunction;" X.2.2.2.2.2.2 (fun q => B < q) U U.heap
  ∧ (X.2.2.2.2.2.2 = .null ∨ ∃ a, X.2.2.2.2.2.2 = .ref a)
  ∧ va_X X.2.2.2.1 X.2.2.2.2.1 X.2.2.2.2.2.1 U U.heap ∧ X.2.2.2.1 ≤ B ∧ B < U.heap.size
  ∧ (∀ q ∈ nestT, va_Nw (.methodLinkNest q.1 q.2.1 q.2.2 "WeighingPlates") U) ∧ aov U
  ∧ vx_Zq Bundle.tN "UNASSIGNED_STACK" Bundle.steD (fun q => B < q) U U.heap ∧ vx_Zq Bundle.tN "SUPPRESSED_SENTINEL" Bundle.listD (fun q => B < q) U U.heap
def wsy (y : Nat) : List Cond := Cond.code (mNm y) (mCd y) (mMx y) (mRt y) :: WT
def mLo (y : Nat) : Nat := match mKd y with
  | 8 => 478
  | _ => 38 * mDp y
def rmm (y mc ms : Nat) : Room := { frames := mDp y, cells := mc, slots := ms, locals := mLo y }
def CX (y : Nat) (p : Program) (S : State) (m : MethodId) (args : Array Value) (meth : Method) (cd : Code) (X : XT) (D : va_G) (aC : AC) (B : Nat) : Prop :=
  p.tables.exec = Jvm.exec ∧ cd.code = mCd y ∧ cd.maxLocals = mMx y ∧ meth.sig.returnType = mRt y ∧ meth.locks = false ∧ S.vm.findClass (mNm y).cls = some m.cls ∧ ((mNm y).name = "<init>" → meth.name = "<init>") ∧ (∀ w ∈ WT, w.before args S = true) ∧ KN D aC S ∧ EX X B S
def LVs (X : XT) (B : Nat) (sh : List (Nat × Nat)) (lsC : Array Slot) (n : Nat) (ls : eLS) : Prop :=
  lsC.size = n ∧ lv_wf lsC ∧ ∀ i v, lg ls i = some v → lsC[i]? = some (.val (cv X B v)) ∧ okv X sh v
def QC (X : XT) (D : va_G) (aC : AC) (B : Nat) (sh0 : List (Nat × Nat)) (Q : Option AV → HP) : Array Value → State → Outcome → State → Prop := fun _ st o t =>
  (∃ (r : Option AV) (c : Nat) (mr : MR) (mi : MI) (ml : ML) (sh : List (Nat × Nat)), o = .returned (r.map (cv X B)) ∧ Q r c mr mi ml ∧ RH X D aC B sh c mr mi ml t.heap ∧ sh0 <+: sh ∧ (∀ v, r = some v → okv X sh v)) ∧ va_F (fun q => B < q) st t
def PC (X : XT) (D : va_G) (aC : AC) (B : Nat) (sh : List (Nat × Nat)) (as : List AV) (c : Nat) (mr : MR) (mi : MI) (ml : ML) : Array Value → State → Prop := fun v U =>
  v = (as.map (cv X B)).toArray ∧ RH X D aC B sh c mr mi ml U.heap ∧ (∀ a ∈ as, okv X sh a) ∧ KN D aC U ∧ EX X B U
/-- what the end of a method must be -/
abbrev FT : Type := List Frame → Array Value → State → Nat → Nat → XT → va_G → AC → Nat → List (Nat × Nat) → State → Prop
/-- an answer with Q -/
def Zq (Q : Option AV → HP) : FT := fun below args S mc ms X D aC B sh0 => MQ below (QC X D aC B sh0 Q) args S mc ms (fun q => B < q)
/-- an answer with Q will do -/
def RetOK (Z : FT) (Q : Option AV → HP) : Prop := ∀ below args S mc ms X D aC B sh0 t, MQ below (QC X D aC B sh0 Q) args S mc ms (fun q => B < q) t → Z below args S mc ms X D aC B sh0 t
/-- method y from pc on, with k cells of s slots that it may still make, comes to an answer with Q -/
def At (y pc : Nat) (ls : eLS) (st : List AV) (k s : Nat) (Z : FT) : HP := fun c mr mi ml =>
  ∀ (l : Launch) (p : Program) (e : Env) (S : State) (m : MethodId) (args : Array Value) (below : List Frame) (meth : Method) (cd : Code) (H : Heap) (locs : List Loc) (cells slots mc ms : Nat) (lsC : Array Slot) (X : XT) (D : va_G) (aC : AC) (B : Nat) (sh0 sh : List (Nat × Nat)),
    l.flags = flags0 → CX y p S m args meth cd X D aC B → RH X D aC B sh c mr mi ml H → sh0 <+: sh → (∀ v ∈ st, okv X sh v) → LVs X B sh lsC (mMx y) ls → va_S (fun q => B < q) S.heap H locs → cells + k ≤ mc → slots + s ≤ ms →
    W p l e (rmm y mc ms) S m args below meth cd H locs cells slots (Z below args S mc ms X D aC B sh0) (F0 m pc lsC (st.map (cv X B)))
/-- method y, called with these -/
def Ok (y mc ms : Nat) (as : List AV) (Q : Option AV → HP) : HP := fun c mr mi ml =>
  ∀ (l : Launch) (X : XT) (D : va_G) (aC : AC) (B : Nat) (sh : List (Nat × Nat)), l.flags = flags0 → Met l (mNm y) (wsy y) (rmm y mc ms) (PC X D aC B sh as c mr mi ml) (QC X D aC B sh Q) mc ms (fun q => B < q)
