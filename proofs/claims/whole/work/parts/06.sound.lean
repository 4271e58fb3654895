/-! ===== soundness: locals, the heap, one instruction each ===== -/
theorem CX.ml {y : Nat} {p : Program} {S : State} {m : MethodId} {args : Array Value} {meth : Method} {cd : Code} {X : XT} {D : va_G} {aC : AC} {B : Nat} (h : CX y p S m args meth cd X D aC B) : cd.maxLocals = mMx y := h.2.2.1
theorem CX.rt {y : Nat} {p : Program} {S : State} {m : MethodId} {args : Array Value} {meth : Method} {cd : Code} {X : XT} {D : va_G} {aC : AC} {B : Nat} (h : CX y p S m args meth cd X D aC B) : meth.sig.returnType = mRt y := h.2.2.2.1
theorem CX.lk {y : Nat} {p : Program} {S : State} {m : MethodId} {args : Array Value} {meth : Method} {cd : Code} {X : XT} {D : va_G} {aC : AC} {B : Nat} (h : CX y p S m args meth cd X D aC B) : meth.locks = false := h.2.2.2.2.1
theorem CX.own {y : Nat} {p : Program} {S : State} {m : MethodId} {args : Array Value} {meth : Method} {cd : Code} {X : XT} {D : va_G} {aC : AC} {B : Nat} (h : CX y p S m args meth cd X D aC B) : S.vm.findClass (mNm y).cls = some m.cls := h.2.2.2.2.2.1
theorem CX.nam {y : Nat} {p : Program} {S : State} {m : MethodId} {args : Array Value} {meth : Method} {cd : Code} {X : XT} {D : va_G} {aC : AC} {B : Nat} (h : CX y p S m args meth cd X D aC B) : (mNm y).name = "<init>" → meth.name = "<init>" := h.2.2.2.2.2.2.1
theorem CX.wds {y : Nat} {p : Program} {S : State} {m : MethodId} {args : Array Value} {meth : Method} {cd : Code} {X : XT} {D : va_G} {aC : AC} {B : Nat} (h : CX y p S m args meth cd X D aC B) : ∀ w ∈ WT, w.before args S = true := h.2.2.2.2.2.2.2.1
theorem CX.kn {y : Nat} {p : Program} {S : State} {m : MethodId} {args : Array Value} {meth : Method} {cd : Code} {X : XT} {D : va_G} {aC : AC} {B : Nat} (h : CX y p S m args meth cd X D aC B) : KN D aC S := h.2.2.2.2.2.2.2.2.1
theorem CX.ext {y : Nat} {p : Program} {S : State} {m : MethodId} {args : Array Value} {meth : Method} {cd : Code} {X : XT} {D : va_G} {aC : AC} {B : Nat} (h : CX y p S m args meth cd X D aC B) : EX X B S := h.2.2.2.2.2.2.2.2.2
theorem EX.lds {X : XT} {B : Nat} {U : State} (h : EX X B U) : ∀ q ∈ ldT, vk_R q.1 q.2.1 q.2.2.1 (X.1 q.2.2.2) U := h.2.1
theorem EX.cs {X : XT} {B : Nat} {U : State} (h : EX X B U) : va_Z "java/lang/String" "COMPACT_STRINGS" "Z" (.int 1) (fun q => B < q) U U.heap := h.2.2.1
theorem EX.prz {X : XT} {B : Nat} {U : State} (h : EX X B U) : va_Z "WeighingPlates$Reader" "PRIMES" "[I" (.ref X.2.2.1) (fun q => B < q) U U.heap := h.2.2.2.1
theorem EX.prt {X : XT} {B : Nat} {U : State} (h : EX X B U) : va_T .int X.2.2.1 6 (fun j => .int (prC j)) (fun q => B < q) U U.heap := h.2.2.2.2.1
theorem EX.sf {X : XT} {B : Nat} {U : State} (h : EX X B U) : va_Z "jdk/internal/util/Preconditions" "SIOOBE_FORMATTER" "Ljava/util/function/BiFunction;" X.2.2.2.2.2.2 (fun q => B < q) U U.heap := h.2.2.2.2.2.1
theorem EX.fm {X : XT} {B : Nat} {U : State} (h : EX X B U) : X.2.2.2.2.2.2 = .null ∨ ∃ a, X.2.2.2.2.2.2 = .ref a := h.2.2.2.2.2.2.1
theorem EX.scr {X : XT} {B : Nat} {U : State} (h : EX X B U) : va_X X.2.2.2.1 X.2.2.2.2.1 X.2.2.2.2.2.1 U U.heap := h.2.2.2.2.2.2.2.1
theorem EX.scB {X : XT} {B : Nat} {U : State} (h : EX X B U) : X.2.2.2.1 ≤ B := h.2.2.2.2.2.2.2.2.1
theorem EX.bsz {X : XT} {B : Nat} {U : State} (h : EX X B U) : B < U.heap.size := h.2.2.2.2.2.2.2.2.2.1
theorem EX.nst {X : XT} {B : Nat} {U : State} (h : EX X B U) : ∀ q ∈ nestT, va_Nw (.methodLinkNest q.1 q.2.1 q.2.2 "WeighingPlates") U := h.2.2.2.2.2.2.2.2.2.2.1
theorem EX.ao {X : XT} {B : Nat} {U : State} (h : EX X B U) : aov U := h.2.2.2.2.2.2.2.2.2.2.2.1
theorem EX.tU {X : XT} {B : Nat} {U : State} (h : EX X B U) : vx_Zq Bundle.tN "UNASSIGNED_STACK" Bundle.steD (fun q => B < q) U U.heap := h.2.2.2.2.2.2.2.2.2.2.2.2.1
theorem EX.tN {X : XT} {B : Nat} {U : State} (h : EX X B U) : vx_Zq Bundle.tN "SUPPRESSED_SENTINEL" Bundle.listD (fun q => B < q) U U.heap := h.2.2.2.2.2.2.2.2.2.2.2.2.2
theorem av_cat {X : XT} {B : Nat} (hX : X.2.2.2.2.2.2 = .null ∨ ∃ a, X.2.2.2.2.2.2 = .ref a) (v : AV) : (cv X B v).category = catA v := by
  rcases v with x | x | q
  · rfl
  · rfl
  · cases q with
    | none => rfl
    | some q =>
      show (cq X B q).category = 1
      unfold cq
      split
      · rfl
      split
      · rfl
      split
      · rfl
      split
      · rfl
      split
      · rfl
      rcases hX with h | ⟨a, h⟩ <;> rw [h] <;> rfl
theorem catS_map {X : XT} {B : Nat} (hX : X.2.2.2.2.2.2 = .null ∨ ∃ a, X.2.2.2.2.2.2 = .ref a) (t : List AV) : ((t.map (cv X B)).map fun v => v.category).sum = catS t := by
  induction t with
  | nil => rfl
  | cons v t ih => simp only [List.map_cons, List.sum_cons, catS, av_cat hX, ih]
theorem tl_ok {P : AV → Prop} {a : AV} {t : List AV} (h : ∀ v ∈ a :: t, P v) : ∀ v ∈ t, P v := fun v hv => h v (List.mem_cons_of_mem _ hv)
theorem tl2_ok {P : AV → Prop} {a b : AV} {t : List AV} (h : ∀ v ∈ a :: b :: t, P v) : ∀ v ∈ t, P v := tl_ok (tl_ok h)
theorem tl3_ok {P : AV → Prop} {a b d : AV} {t : List AV} (h : ∀ v ∈ a :: b :: d :: t, P v) : ∀ v ∈ t, P v := tl_ok (tl2_ok h)
theorem cn_ok {P : AV → Prop} {a : AV} {t : List AV} (h1 : P a) (h : ∀ v ∈ t, P v) : ∀ v ∈ a :: t, P v := List.forall_mem_cons.mpr ⟨h1, h⟩
-- locals
theorem clrK_eq {β : Sort _} (x : Option AV) (K : Option AV → β) : clrK x K = K (clrK x id) := by
  rcases x with _ | x | x | x <;> rfl
theorem stoK_e0 (v : AV) : ∀ (ls : eLS) (i : Nat) (K : eLS → eLS), stoK ls i v K = K (stoK ls i v id)
  | [], _, _ => by unfold stoK; rfl
  | x :: r, 0, _ => by unfold stoK; rfl
  | x :: r, 1, K => by
    show clrK x (fun x' => stoK r 0 v (fun r' => K (x' :: r'))) = K (clrK x (fun x' => stoK r 0 v (fun r' => id (x' :: r'))))
    rw [clrK_eq, clrK_eq x (fun x' => stoK r 0 v (fun r' => id (x' :: r'))), stoK_e0 v r 0 (fun r' => K _), stoK_e0 v r 0 (fun r' => id (clrK x id :: r'))]
    rfl
  | x :: r, i + 2, K => by
    show stoK r (i + 1) v (fun r' => K (x :: r')) = K (stoK r (i + 1) v (fun r' => id (x :: r')))
    rw [stoK_e0 v r (i + 1) (fun r' => K _), stoK_e0 v r (i + 1) (fun r' => id (x :: r'))]
    rfl
theorem stoK_eq {β : Sort _} (v : AV) : ∀ (ls : eLS) (i : Nat) (K : eLS → β), stoK ls i v K = K (stoK ls i v id)
  | [], _, _ => by unfold stoK; rfl
  | x :: r, 0, _ => by unfold stoK; rfl
  | x :: r, 1, K => by
    show clrK x (fun x' => stoK r 0 v (fun r' => K (x' :: r'))) = K (clrK x (fun x' => stoK r 0 v (fun r' => id (x' :: r'))))
    rw [clrK_eq, clrK_eq x (fun x' => stoK r 0 v (fun r' => id (x' :: r'))), stoK_eq v r 0 (fun r' => K _), stoK_e0 v r 0 (fun r' => id (clrK x id :: r'))]
    rfl
  | x :: r, i + 2, K => by
    show stoK r (i + 1) v (fun r' => K (x :: r')) = K (stoK r (i + 1) v (fun r' => id (x :: r')))
    rw [stoK_eq v r (i + 1) (fun r' => K _), stoK_e0 v r (i + 1) (fun r' => id (x :: r'))]
    rfl
theorem clr_some {x : Option AV} {w : AV} (h : clrK x id = some w) : x = some w ∧ catA w = 1 := by
  rcases x with _ | x | x | x
  · cases h
  · cases h; exact ⟨rfl, rfl⟩
  · cases h
  · cases h; exact ⟨rfl, rfl⟩
theorem sto_lg (v : AV) : ∀ (ls : eLS) (i j : Nat) (w : AV), lg (stoK ls i v id) j = some w → (j = i ∧ w = v) ∨ (j ≠ i ∧ lg ls j = some w ∧ (j + 1 = i → catA w = 1))
  | [], i, j, w, h => by unfold stoK at h; cases h
  | x :: r, 0, j, w, h => by
    unfold stoK at h
    cases j with
    | zero => exact Or.inl ⟨rfl, (Option.some.inj h).symm⟩
    | succ j => exact Or.inr ⟨Nat.succ_ne_zero j, h, fun z => by omega⟩
  | x :: r, 1, j, w, h => by
    have e : stoK (x :: r) 1 v id = clrK x id :: stoK r 0 v id := by
      show clrK x (fun x' => stoK r 0 v (fun r' => id (x' :: r'))) = _
      rw [clrK_eq, stoK_eq]; rfl
    rw [e] at h
    cases j with
    | zero =>
      obtain ⟨h1, h2⟩ := clr_some (show clrK x id = some w from h)
      exact Or.inr ⟨by omega, h1, fun _ => h2⟩
    | succ j =>
      rcases sto_lg v r 0 j w h with ⟨h1, h2⟩ | ⟨h1, h2, h3⟩
      · exact Or.inl ⟨by omega, h2⟩
      · exact Or.inr ⟨by omega, h2, fun z => by omega⟩
  | x :: r, i + 2, j, w, h => by
    have e : stoK (x :: r) (i + 2) v id = x :: stoK r (i + 1) v id := by
      show stoK r (i + 1) v (fun r' => id (x :: r')) = _
      rw [stoK_eq]; rfl
    rw [e] at h
    cases j with
    | zero => exact Or.inr ⟨by omega, h, fun z => by omega⟩
    | succ j =>
      rcases sto_lg v r (i + 1) j w h with ⟨h1, h2⟩ | ⟨h1, h2, h3⟩
      · exact Or.inl ⟨by omega, h2⟩
      · exact Or.inr ⟨by omega, h2, fun z => h3 (by omega)⟩
theorem stoLK_1 {β : Sort _} (v : AV) (x : Option AV) (r : eLS) (K : eLS → β) : stoLK (x :: r) 1 v K = clrK x (fun x' => stoLK r 0 v (fun r' => K (x' :: r'))) := by cases r <;> rfl
theorem stoLK_2 {β : Sort _} (v : AV) (x : Option AV) (r : eLS) (i : Nat) (K : eLS → β) : stoLK (x :: r) (i + 2) v K = stoLK r (i + 1) v (fun r' => K (x :: r')) := by cases r <;> rfl
theorem stoLK_e0 (v : AV) : ∀ (ls : eLS) (i : Nat) (K : eLS → eLS), stoLK ls i v K = K (stoLK ls i v id)
  | [], i, _ => by cases i with
    | zero => rfl
    | succ i => cases i <;> rfl
  | [x], 0, _ => rfl
  | x :: x' :: r, 0, _ => rfl
  | x :: r, 1, K => by
    rw [stoLK_1 v x r K, stoLK_1 v x r id, clrK_eq, clrK_eq x (fun x' => stoLK r 0 v (fun r' => id (x' :: r'))), stoLK_e0 v r 0 (fun r' => K _), stoLK_e0 v r 0 (fun r' => id (clrK x id :: r'))]
    rfl
  | x :: r, i + 2, K => by
    rw [stoLK_2 v x r i K, stoLK_2 v x r i id, stoLK_e0 v r (i + 1) (fun r' => K _), stoLK_e0 v r (i + 1) (fun r' => id (x :: r'))]
    rfl
theorem stoLK_eq {β : Sort _} (v : AV) : ∀ (ls : eLS) (i : Nat) (K : eLS → β), stoLK ls i v K = K (stoLK ls i v id)
  | [], i, _ => by cases i with
    | zero => rfl
    | succ i => cases i <;> rfl
  | [x], 0, _ => rfl
  | x :: x' :: r, 0, _ => rfl
  | x :: r, 1, K => by
    rw [stoLK_1 v x r K, stoLK_1 v x r id, clrK_eq, clrK_eq x (fun x' => stoLK r 0 v (fun r' => id (x' :: r'))), stoLK_eq v r 0 (fun r' => K _), stoLK_e0 v r 0 (fun r' => id (clrK x id :: r'))]
    rfl
  | x :: r, i + 2, K => by
    rw [stoLK_2 v x r i K, stoLK_2 v x r i id, stoLK_eq v r (i + 1) (fun r' => K _), stoLK_e0 v r (i + 1) (fun r' => id (x :: r'))]
    rfl
theorem stoL_lg (v : AV) : ∀ (ls : eLS) (i j : Nat) (w : AV), lg (stoLK ls i v id) j = some w → (j = i ∧ w = v) ∨ (j ≠ i ∧ j ≠ i + 1 ∧ lg ls j = some w ∧ (j + 1 = i → catA w = 1))
  | [], i, j, w, h => by
    have e : stoLK [] i v id = [] := by cases i with
      | zero => rfl
      | succ i => cases i <;> rfl
    rw [e] at h; cases h
  | [x], 0, j, w, h => by cases h
  | x :: x' :: r, 0, j, w, h => by
    match j, h with
    | 0, h => exact Or.inl ⟨rfl, (Option.some.inj h).symm⟩
    | 1, h => cases h
    | j + 2, h => exact Or.inr ⟨by omega, by omega, h, fun z => by omega⟩
  | x :: r, 1, j, w, h => by
    have e : stoLK (x :: r) 1 v id = clrK x id :: stoLK r 0 v id := by
      have e0 : stoLK (x :: r) 1 v id = clrK x (fun x' => stoLK r 0 v (fun r' => id (x' :: r'))) := by cases r <;> rfl
      rw [e0, clrK_eq, stoLK_eq]; rfl
    rw [e] at h
    cases j with
    | zero =>
      obtain ⟨h1, h2⟩ := clr_some (show clrK x id = some w from h)
      exact Or.inr ⟨by omega, by omega, h1, fun _ => h2⟩
    | succ j =>
      rcases stoL_lg v r 0 j w h with ⟨h1, h2⟩ | ⟨h1, h4, h2, h3⟩
      · exact Or.inl ⟨by omega, h2⟩
      · exact Or.inr ⟨by omega, by omega, h2, fun z => by omega⟩
  | x :: r, i + 2, j, w, h => by
    have e : stoLK (x :: r) (i + 2) v id = x :: stoLK r (i + 1) v id := by
      have e0 : stoLK (x :: r) (i + 2) v id = stoLK r (i + 1) v (fun r' => id (x :: r')) := by cases r <;> rfl
      rw [e0, stoLK_eq]; rfl
    rw [e] at h
    cases j with
    | zero => exact Or.inr ⟨by omega, by omega, h, fun z => by omega⟩
    | succ j =>
      rcases stoL_lg v r (i + 1) j w h with ⟨h1, h2⟩ | ⟨h1, h4, h2, h3⟩
      · exact Or.inl ⟨by omega, h2⟩
      · exact Or.inr ⟨by omega, by omega, h2, fun z => h3 (by omega)⟩
def lvl (X : XT) (B : Nat) (ls : eLS) (n : Nat) : List (Nat × Value) := (List.range n).filterMap (fun j => (lg ls j).map (fun v => (j, cv X B v)))
theorem lvl_mem {X : XT} {B : Nat} {ls : eLS} {n j : Nat} {v : AV} (hj : j < n) (h : lg ls j = some v) : (j, cv X B v) ∈ lvl X B ls n := List.mem_filterMap.mpr ⟨j, List.mem_range.mpr hj, by rw [h]; rfl⟩
theorem lvl_has {X : XT} {B : Nat} {sh : List (Nat × Nat)} {lsC : Array Slot} {n : Nat} {ls : eLS} (h : LVs X B sh lsC n ls) : lv_has lsC n (lvl X B ls n) := by
  refine ⟨h.1, h.2.1, fun q hq => ?_⟩
  obtain ⟨j, -, hj⟩ := List.mem_filterMap.mp hq
  cases hl : lg ls j with
  | none => rw [hl] at hj; cases hj
  | some v =>
    rw [hl] at hj
    cases hj
    exact (h.2.2 j v hl).1
theorem lvs_lt {X : XT} {B : Nat} {sh : List (Nat × Nat)} {lsC : Array Slot} {n : Nat} {ls : eLS} (h : LVs X B sh lsC n ls) {j : Nat} {v : AV} (hj : lg ls j = some v) : j < n := by
  rw [← h.1]; exact lv_lt (h.2.2 j v hj).1
theorem lvs_sto {X : XT} {B : Nat} {sh : List (Nat × Nat)} {lsC ls' : Array Slot} {n : Nat} {ls : eLS} (hX : X.2.2.2.2.2.2 = .null ∨ ∃ a, X.2.2.2.2.2.2 = .ref a) (h : LVs X B sh lsC n ls) (i : Nat) {v : AV} (hv : okv X sh v)
    (h' : lv_has ls' n ((i, cv X B v) :: (lvl X B ls n).filter (fun q => !(q.1 == i) && !(q.1 + 1 == i && q.2.category == 2)))) : LVs X B sh ls' n (stoK ls i v id) := by
  refine ⟨h'.1, h'.2.1, fun j w hj => ?_⟩
  rcases sto_lg v ls i j w hj with ⟨rfl, rfl⟩ | ⟨h1, h2, h3⟩
  · exact ⟨h'.2.2 _ List.mem_cons_self, hv⟩
  · refine ⟨h'.2.2 (j, cv X B w) (List.mem_cons_of_mem _ (List.mem_filter.mpr ⟨lvl_mem (lvs_lt h h2) h2, ?_⟩)), (h.2.2 j w h2).2⟩
    show (!(j == i) && !(j + 1 == i && (cv X B w).category == 2)) = true
    rw [av_cat hX]
    by_cases z : j + 1 = i
    · simp [h1, h3 z]
    · simp [h1, z]
theorem lvs_stoL {X : XT} {B : Nat} {sh : List (Nat × Nat)} {lsC ls' : Array Slot} {n : Nat} {ls : eLS} (hX : X.2.2.2.2.2.2 = .null ∨ ∃ a, X.2.2.2.2.2.2 = .ref a) (h : LVs X B sh lsC n ls) (i : Nat) {v : AV} (hv : okv X sh v)
    (h' : lv_has ls' n ((i, cv X B v) :: (lvl X B ls n).filter (fun q => !(q.1 == i) && (!(q.1 == i + 1) && !(q.1 + 1 == i && q.2.category == 2))))) : LVs X B sh ls' n (stoLK ls i v id) := by
  refine ⟨h'.1, h'.2.1, fun j w hj => ?_⟩
  rcases stoL_lg v ls i j w hj with ⟨rfl, rfl⟩ | ⟨h1, h4, h2, h3⟩
  · exact ⟨h'.2.2 _ List.mem_cons_self, hv⟩
  · refine ⟨h'.2.2 (j, cv X B w) (List.mem_cons_of_mem _ (List.mem_filter.mpr ⟨lvl_mem (lvs_lt h h2) h2, ?_⟩)), (h.2.2 j w h2).2⟩
    show (!(j == i) && (!(j == i + 1) && !(j + 1 == i && (cv X B w).category == 2))) = true
    rw [av_cat hX]
    by_cases z : j + 1 = i
    · simp [h1, h4, h3 z]
    · simp [h1, h4, z]
theorem lvs_pre {X : XT} {B : Nat} {sh sh' : List (Nat × Nat)} {lsC : Array Slot} {n : Nat} {ls : eLS} (hs : ∀ v, okv X sh v → okv X sh' v) (h : LVs X B sh lsC n ls) : LVs X B sh' lsC n ls := ⟨h.1, h.2.1, fun i v hv => ⟨(h.2.2 i v hv).1, hs v (h.2.2 i v hv).2⟩⟩
-- the heap
theorem okv_pre {X : XT} {sh sh' : List (Nat × Nat)} (h : sh <+: sh') (v : AV) (hv : okv X sh v) : okv X sh' v := by
  rcases v with x | x | q
  · trivial
  · trivial
  · cases q with
    | none => trivial
    | some q =>
      show okq X sh' q
      have hv : okq X sh q := hv
      unfold okq at hv ⊢
      split
      · rename_i h1
        rw [if_pos h1] at hv
        obtain ⟨r, rfl⟩ := h
        rw [List.getElem?_append_left (List.getElem?_eq_some_iff.mp hv).1]
        exact hv
      · rename_i h1
        rw [if_neg h1] at hv
        exact hv
theorem okq_pre {X : XT} {sh sh' : List (Nat × Nat)} (h : sh <+: sh') (q : Nat × Nat × Nat) (hv : okq X sh q) : okq X sh' q := okv_pre h (.inr (.inr (some q))) hv
theorem cE_congr {X : XT} {B : Nat} {aC : AC} {mr mr' : MR} {mi mi' : MI} {ml ml' : ML} {a ro n : Nat} (h1 : mr' a = mr a) (h2 : mi' a = mi a) (h3 : ml' a = ml a) : cE X B aC mr' mi' ml' a ro n = cE X B aC mr mi ml a ro n := by
  have e : fv X B mr' mi' ml' a (ro - 10) = fv X B mr mi ml a (ro - 10) := by
    funext k; unfold fv; rw [h1, h2, h3]
  unfold cE; rw [h1, h2, h3, e]
theorem RH.upd {X : XT} {D : va_G} {aC : AC} {B : Nat} {sh : List (Nat × Nat)} {c : Nat} {mr mr' : MR} {mi mi' : MI} {ml ml' : ML} {H H1 : Heap} {a ro n : Nat} (h : RH X D aC B sh c mr mi ml H) (ha : sh[a]? = some (ro, n)) (hro : ro < 20) (h1 : H1.size = H.size) (h2 : ∀ q, q ≠ B + a → H1[q]? = H[q]?) (hb : ∀ b, b ≠ a → mr' b = mr b ∧ mi' b = mi b ∧ ml' b = ml b)
    (hat : va_at D clT (B + a, cE X B aC mr' mi' ml' a ro n) H1) (hmr : ∀ k q, mr' a k = some q → okq X sh q) (h3 : ro = 3 → ∀ i q, mr' a i = some q → q.1 < 100) : RH X D aC B sh c mr' mi' ml' H1 := by
  obtain ⟨r1, r2, r3, r4, r5, r6, r7⟩ := h
  have ha0 : a ≠ 0 := by
    intro z; subst z
    rw [r3] at ha
    cases ha
    omega
  refine ⟨h1.trans r1, r2, r3, fun b ro' n' hb' hro' => ?_, fun b k q hq => ?_, fun b n' i q hb' hq => ?_, fun j hj => ?_⟩
  · by_cases e : b = a
    · subst e
      rw [ha] at hb'
      cases hb'
      exact hat
    · obtain ⟨e1, e2, e3⟩ := hb b e
      rw [cE_congr e1 e2 e3]
      exact (r4 b ro' n' hb' hro').kept (h2 _ (by show B + b ≠ B + a; omega))
  · by_cases e : b = a
    · subst e; exact hmr k q hq
    · rw [(hb b e).1] at hq; exact r5 b k q hq
  · by_cases e : b = a
    · subst e
      rw [ha] at hb'
      cases hb'
      exact h3 rfl i q hq
    · rw [(hb b e).1] at hq; exact r6 b n' i q hb' hq
  · rw [(hb 0 (fun z => ha0 z.symm)).2.1]; exact r7 j hj
theorem RH.new {X : XT} {D : va_G} {aC : AC} {B : Nat} {sh : List (Nat × Nat)} {c : Nat} {mr : MR} {mi : MI} {ml : ML} {H H1 : Heap} {ro n : Nat} (h : RH X D aC B sh c mr mi ml H) (h1 : H1.size = H.size + 1) (h2 : ∀ q, q < H.size → H1[q]? = H[q]?)
    (hat : ro < 20 → va_at D clT (B + c, cE X B aC (z2 mr c none) (z2 mi c 0) (z2 ml c 0) c ro n) H1) : RH X D aC B (sh ++ [(ro, n)]) (c + 1) (z2 mr c none) (z2 mi c 0) (z2 ml c 0) H1 := by
  obtain ⟨r1, r2, r3, r4, r5, r6, r7⟩ := h
  have hp : sh <+: sh ++ [(ro, n)] := List.prefix_append _ _
  have hc0 : 0 < c := by rw [← r2]; exact (List.getElem?_eq_some_iff.mp r3).1
  have key : ∀ b x, (sh ++ [(ro, n)])[b]? = some x → (b ≠ c ∧ sh[b]? = some x) ∨ (b = c ∧ x = (ro, n)) := by
    intro b x hb
    by_cases hl : b < sh.length
    · rw [List.getElem?_append_left hl] at hb
      exact Or.inl ⟨by omega, hb⟩
    · rw [List.getElem?_append_right (by omega)] at hb
      have hz : b - sh.length < 1 := (List.getElem?_eq_some_iff.mp hb).1
      rw [show b - sh.length = 0 by omega] at hb
      exact Or.inr ⟨by omega, (Option.some.inj hb).symm⟩
  have zr : ∀ b, b ≠ c → z2 mr c none b = mr b := fun b hb => if_neg hb
  have zi : ∀ b, b ≠ c → z2 mi c 0 b = mi b := fun b hb => if_neg hb
  have zl : ∀ b, b ≠ c → z2 ml c 0 b = ml b := fun b hb => if_neg hb
  have zc : ∀ k, z2 mr c none c k = none := fun k => by unfold z2; rw [if_pos rfl]
  refine ⟨by rw [h1, r1]; omega, by rw [List.length_append, r2]; rfl, ?_, fun b ro' n' hb hro => ?_, fun b k q hq => ?_, fun b n' i q hb hq => ?_, fun j hj => ?_⟩
  · rw [List.getElem?_append_left (by rw [r2]; exact hc0)]; exact r3
  · rcases key b _ hb with ⟨e, hb⟩ | ⟨e, hx⟩
    · rw [cE_congr (zr b e) (zi b e) (zl b e)]
      have hv := r4 b ro' n' hb hro
      exact hv.kept (h2 _ hv.lt)
    · cases hx; subst e; exact hat hro
  · by_cases e : b = c
    · subst e; rw [zc] at hq; cases hq
    · rw [zr b e] at hq; exact okq_pre hp q (r5 b k q hq)
  · rcases key b _ hb with ⟨e, hb⟩ | ⟨e, hx⟩
    · rw [zr b e] at hq; exact r6 b n' i q hb hq
    · subst e; rw [zc] at hq; cases hq
  · rw [zi 0 (by omega)]; exact r7 j hj
/-- a cell of the heap, by its number -/
theorem RH.cell {X : XT} {D : va_G} {aC : AC} {B : Nat} {sh : List (Nat × Nat)} {c : Nat} {mr : MR} {mi : MI} {ml : ML} {H : Heap} {a ro n : Nat} (h : RH X D aC B sh c mr mi ml H) (hq : okq X sh (ro, n, a)) (hro : ro < 20) : sh[a]? = some (ro, n) ∧ va_P D clT [(B + a, cE X B aC mr mi ml a ro n)] H := by
  have e : sh[a]? = some (ro, n) := by
    have hq : okq X sh (ro, n, a) := hq
    unfold okq at hq
    rw [if_pos (show ro < 100 by omega)] at hq
    exact hq
  refine ⟨e, fun k q hk => ?_⟩
  cases k with
  | zero => cases hk; exact h.2.2.2.1 a ro n e hro
  | succ k => cases hk
theorem cq_in {X : XT} {B ro n a : Nat} (h : ro < 100) : cq X B (ro, n, a) = .ref (B + a) := if_pos h
