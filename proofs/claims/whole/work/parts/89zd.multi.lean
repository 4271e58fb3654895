/-! ===== new long[N][K] ===== -/
def zM {α : Type} (f : Nat → Nat → α) (c N : Nat) (v : α) : Nat → Nat → α := fun a => if c ≤ a ∧ a ≤ c + N then (fun _ => v) else f a
def mM (mr : MR) (c N K : Nat) : MR := fun a => if a = c then (fun i => if i < N then some (1, K, c + 1 + i) else none) else zM mr c N none a
theorem zM_o {α : Type} (f : Nat → Nat → α) {c N a : Nat} (v : α) (h : a < c) : zM f c N v a = f a := if_neg (by omega)
theorem zM_i {α : Type} (f : Nat → Nat → α) {c N a : Nat} (v : α) (h : c ≤ a) (h2 : a ≤ c + N) : zM f c N v a = fun _ => v := if_pos ⟨h, h2⟩
theorem mM_o (mr : MR) {c N K a : Nat} (h : a < c) : mM mr c N K a = mr a := by
  unfold mM; rw [if_neg (by omega), zM_o _ _ h]
theorem mM_c (mr : MR) {c N K : Nat} (i : Nat) : mM mr c N K c i = if i < N then some (1, K, c + 1 + i) else none := by
  unfold mM; rw [if_pos rfl]
theorem mM_i (mr : MR) {c N K a : Nat} (h : c < a) (h2 : a ≤ c + N) (i : Nat) : mM mr c N K a i = none := by
  unfold mM; rw [if_neg (by omega), zM_i _ _ (by omega) h2]
theorem mM_f (mr : MR) {c N K a : Nat} (h : c + N < a) : mM mr c N K a = mr a := by
  unfold mM zM; rw [if_neg (by omega), if_neg (by omega)]
theorem RH.newM {X : XT} {D : va_G} {aC : AC} {B : Nat} {sh : List (Nat × Nat)} {c : Nat} {mr : MR} {mi : MI} {ml : ML} {H H1 : Heap} {N K : Nat} (h : RH X D aC B sh c mr mi ml H) (h1 : H1.size = H.size + 1 + N) (h2 : ∀ q, q < H.size → H1[q]? = H[q]?)
    (ho : H1[H.size]? = some (vp_cell aC.2.2.2 (N, .inr (.inr (.inr (.inr (fun i => if i < N then some (H.size + 1 + i) else none)))))))
    (hi : ∀ j, j < N → H1[H.size + 1 + j]? = some (vp_cell aC.2.1 (K, .inr (.inl (fun _ => 0))))) :
    RH X D aC B (sh ++ ((3, N) :: List.replicate N (1, K))) (c + 1 + N) (mM mr c N K) (zM mi c N 0) (zM ml c N 0) H1 := by
  obtain ⟨r1, r2, r3, r4, r5, r6, r7⟩ := h
  have hp : sh <+: sh ++ ((3, N) :: List.replicate N (1, K)) := List.prefix_append _ _
  have hc0 : 0 < c := by rw [← r2]; exact (List.getElem?_eq_some_iff.mp r3).1
  have key : ∀ b x, (sh ++ ((3, N) :: List.replicate N (1, K)))[b]? = some x → (b < c ∧ sh[b]? = some x) ∨ (b = c ∧ x = (3, N)) ∨ (∃ j, j < N ∧ b = c + 1 + j ∧ x = (1, K)) := by
    intro b x hb
    by_cases hl : b < sh.length
    · rw [List.getElem?_append_left hl] at hb
      exact Or.inl ⟨by omega, hb⟩
    · rw [List.getElem?_append_right (by omega)] at hb
      cases hz : b - sh.length with
      | zero =>
        rw [hz] at hb
        exact Or.inr (Or.inl ⟨by omega, (Option.some.inj hb).symm⟩)
      | succ j =>
        rw [hz, List.getElem?_cons_succ, List.getElem?_replicate] at hb
        by_cases hj : j < N
        · rw [if_pos hj] at hb
          exact Or.inr (Or.inr ⟨j, hj, by omega, (Option.some.inj hb).symm⟩)
        · rw [if_neg hj] at hb; cases hb
  have hrow : ∀ j, j < N → (sh ++ ((3, N) :: List.replicate N (1, K)))[c + 1 + j]? = some (1, K) := by
    intro j hj
    rw [List.getElem?_append_right (by omega), show c + 1 + j - sh.length = j + 1 by omega, List.getElem?_cons_succ, List.getElem?_replicate, if_pos hj]
  refine ⟨by rw [h1, r1]; omega, by rw [List.length_append, List.length_cons, List.length_replicate, r2]; omega, ?_, fun b ro' n' hb hro => ?_, fun b k q hq => ?_, fun b n' i q hb hq => ?_, fun j hj => ?_⟩
  · rw [List.getElem?_append_left (by rw [r2]; exact hc0)]; exact r3
  · rcases key b _ hb with ⟨e, hb⟩ | ⟨e, hx⟩ | ⟨j, hj, e, hx⟩
    · rw [cE_congr (mM_o mr e) (zM_o mi 0 e) (zM_o ml 0 e)]
      have hv := r4 b ro' n' hb hro
      exact hv.kept (h2 _ hv.lt)
    · cases hx
      subst e
      show H1[B + b]? = some (vp_cell aC.2.2.2 (N, .inr (.inr (.inr (.inr (fun i => (mM mr b N K b i).map (fun q => B + q.2.2)))))))
      rw [← r1, ho]
      have e2 : (fun i => if i < N then some (H.size + 1 + i) else none) = (fun i => (mM mr b N K b i).map (fun q => B + q.2.2)) := by
        funext i
        rw [mM_c]
        by_cases hi : i < N
        · rw [if_pos hi, if_pos hi, r1]
          show some (B + b + 1 + i) = some (B + (b + 1 + i))
          congr 1; omega
        · rw [if_neg hi, if_neg hi]; rfl
      rw [e2]
    · cases hx
      subst e
      show H1[B + (c + 1 + j)]? = some (vp_cell aC.2.1 (K, .inr (.inl (zM ml c N 0 (c + 1 + j)))))
      rw [show B + (c + 1 + j) = H.size + 1 + j by omega, hi j hj, zM_i ml 0 (by omega) (by omega)]
  · by_cases e : b < c
    · rw [mM_o mr e] at hq; exact okq_pre hp q (r5 b k q hq)
    · by_cases e1 : b = c
      · subst e1
        rw [mM_c] at hq
        by_cases hk : k < N
        · rw [if_pos hk] at hq
          cases hq
          show okq X _ (1, K, b + 1 + k)
          unfold okq
          rw [if_pos (show (1 : Nat) < 100 by decide)]
          exact hrow k hk
        · rw [if_neg hk] at hq; cases hq
      · by_cases e2 : b ≤ c + N
        · rw [mM_i mr (by omega) e2] at hq; cases hq
        · rw [mM_f mr (by omega)] at hq
          exact okq_pre hp q (r5 b k q hq)
  · rcases key b _ hb with ⟨e, hb⟩ | ⟨e, hx⟩ | ⟨j, hj, e, hx⟩
    · rw [mM_o mr e] at hq; exact r6 b n' i q hb hq
    · subst e
      rw [mM_c] at hq
      by_cases hk : i < N
      · rw [if_pos hk] at hq; cases hq; show 1 < 100; decide
      · rw [if_neg hk] at hq; cases hq
    · cases hx
  · rw [zM_o mi 0 hc0]; exact r7 j hj
theorem vS_newM {A : Nat → Prop} {H0 H H1 : Heap} {locs : List Loc} {n : Nat} (hS : va_S A H0 H locs) (z1 : H1.size = H.size + 1 + n) (o1 : ∀ q, q < H.size → H1[q]? = H[q]?) : va_S A H0 H1 locs :=
  ⟨Nat.le_trans hS.1 (by omega), fun q h1 h2 => (o1 q (Nat.lt_of_lt_of_le h1 hS.1)).trans (hS.2.1 q h1 h2), hS.2.2⟩
/-! the machine makes rows of rows of longs: the state after i rows (the library's laws of it lie where rounds don't reach: followed here for longs) -/
def mO (cA : ClassId) (N h0 i : Nat) : Cell := arrV cA N (fun j => va_rf (if j < i then some (h0 + 1 + j) else none))
def mI (cm : ClassId) (M : Nat) : Cell := arrV cm M (fun _ => .long 0)
def mnS (T : State) (cA cm : ClassId) (N M : Nat) : Nat → State
  | 0 => T.pushCell (mO cA N T.heap.size 0)
  | i + 1 => ((mnS T cA cm N M i).pushCell (mI cm M)).setCell T.heap.size (mO cA N T.heap.size (i + 1))
theorem mO_z (cA : ClassId) (N h0 : Nat) : ({ cls := cA, slots := Array.replicate N Value.null, vm := .none } : Cell) = mO cA N h0 0 := by
  rw [arrV_new]
  refine congrArg (arrV cA N) (funext fun j => ?_)
  simp [va_rf]
theorem mO_n (cA : ClassId) (N h0 i : Nat) : (mO cA N h0 i).setSlot i (.ref (h0 + 1 + i)) = mO cA N h0 (i + 1) := by
  unfold mO
  rw [arrV_store]
  refine congrArg (arrV cA N) (funext fun j => ?_)
  by_cases e : j = i
  · subst e
    simp [updV, va_rf]
  · by_cases h : j < i
    · simp [updV, e, h, Nat.lt_succ_of_lt h]
    · simp [updV, e, h, show ¬ j < i + 1 by omega]
theorem mO_f (cA : ClassId) (N h0 i : Nat) : (mO cA N h0 i).cls = cA ∧ (mO cA N h0 i).vm = .none ∧ (mO cA N h0 i).slots.size = N := ⟨rfl, rfl, arrV_size _ _ _⟩
theorem mS_f (T : State) (cA cm : ClassId) (N M : Nat) : ∀ i, (mnS T cA cm N M i).heap.size = T.heap.size + 1 + i ∧ (mnS T cA cm N M i).heap[T.heap.size]? = some (mO cA N T.heap.size i) ∧ (mnS T cA cm N M i).vm = T.vm ∧ (mnS T cA cm N M i).slotsUsed = T.slotsUsed + N + i * M
  | 0 => ⟨by simp [mnS], State.heap_pushCell_size _ _, rfl, by simp [mnS, mO, arrV]⟩
  | i + 1 => by
    obtain ⟨a, b, d, u⟩ := mS_f T cA cm N M i
    have hlt : T.heap.size < (mnS T cA cm N M i).heap.size := by omega
    have hb' : ((mnS T cA cm N M i).pushCell (mI cm M)).heap[T.heap.size]? = some (mO cA N T.heap.size i) := by rw [State.heap_pushCell_of_lt (h := hlt)]; exact b
    refine ⟨?_, State.heap_setCell_self hb', by simp [mnS, d], ?_⟩
    · simp [mnS, State.setCell, a]; omega
    · simp [mnS, u, mI, arrV, Nat.succ_mul]; omega
theorem mS_o (T : State) (cA cm : ClassId) (N M : Nat) {a : Addr} (ha : a < T.heap.size) : ∀ i, (mnS T cA cm N M i).heap[a]? = T.heap[a]?
  | 0 => State.heap_pushCell_of_lt _ _ ha
  | i + 1 => by
    have f1 := (mS_f T cA cm N M i).1
    have hlt : a < (mnS T cA cm N M i).heap.size := Nat.lt_of_lt_of_le ha (by rw [f1]; omega)
    show (((mnS T cA cm N M i).pushCell (mI cm M)).setCell T.heap.size _).heap[a]? = _
    rw [State.heap_setCell_other (Nat.ne_of_gt ha), State.heap_pushCell_of_lt (h := hlt)]
    exact mS_o T cA cm N M ha i
theorem mS_i (T : State) (cA cm : ClassId) (N M : Nat) : ∀ i j, j < i → (mnS T cA cm N M i).heap[T.heap.size + 1 + j]? = some (mI cm M)
  | 0, _, h => absurd h (Nat.not_lt_zero _)
  | i + 1, j, h => by
    have f1 := (mS_f T cA cm N M i).1
    show (((mnS T cA cm N M i).pushCell (mI cm M)).setCell T.heap.size _).heap[T.heap.size + 1 + j]? = _
    rw [State.heap_setCell_other (show T.heap.size ≠ T.heap.size + 1 + j by omega)]
    rcases Nat.lt_or_ge j i with hj | hj
    · have hlt : T.heap.size + 1 + j < (mnS T cA cm N M i).heap.size := by rw [f1]; omega
      rw [State.heap_pushCell_of_lt (h := hlt)]
      exact mS_i T cA cm N M i j hj
    · have e : j = i := by omega
      subst e
      rw [← f1]
      exact State.heap_pushCell_size _ _
theorem mS_t (T : State) (f : JFrame) (cA cm : ClassId) (N M : Nat) : ∀ i, mnS (T.setTop f) cA cm N M i = (mnS T cA cm N M i).setTop f
  | 0 => rfl
  | i + 1 => by simp only [mnS, mS_t T f cA cm N M i, State.heap_setTop, State.pushCell_setTop, State.setCell_setTop]
section
variable {E : CtlPost} {e : Env} {d : Bool} {acts : List Action} {s : State}
theorem wp_nA {c comp : ClassId} {k : Class} {type : FieldType} {len : Nat} {init : Value} (hk : s.vm.classes[c]? = some k) (hkind : k.kind = .array comp type)
    (hlimit : ¬ len > e.platform.arrayLengthLimit) (hheap : ¬ len * componentBytes type > e.platform.maxHeapBytes) (hfit : fits type init = true) (hdef : init.isDefault = true) {Q : Addr → Pre}
    (h1 : s.heap.size < e.platform.maxCells) (h2 : s.slotsUsed + len ≤ e.platform.maxSlots)
    (hq : Q s.heap.size d acts (s.pushCell { cls := c, slots := Array.replicate len init, vm := .none })) :
    Sem.wp (_root_.Jvm.newArray c len init) Q E e d acts s := by
  have hfits : ∀ i v, (Array.replicate len init)[i]? = some v → s.fitsSlot c .none i v = true := by
    intro i v hv
    simp only [Array.getElem?_replicate] at hv
    split at hv
    · cases hv; simp [State.fitsSlot, State.slotType?, hk, hkind, hfit]
    · cases hv
  have hda : allocActs (Array.replicate len init) s.heap.size acts = acts := by
    have hall : ((Array.replicate len init).all (·.isDefault)) = true := by
      rw [Array.all_replicate]; split <;> simp [hdef]
    unfold allocActs; rw [if_pos hall]
  simp only [_root_.Jvm.newArray, _root_.Jvm.arrayFits, Sem.wp_bind', _root_.Jvm.W.ask, _root_.Jvm.W.ite, hlimit, if_false, Sem.wp_pure', _root_.Jvm.W.theClass, hk, hkind, hheap, _root_.Jvm.W.alloc, _root_.Jvm.W.stop, Option.some.injEq, exists_eq_left', Array.size_replicate, hda]
  rw [if_neg (by omega)]
  exact ⟨h1, h2, hfits, hq⟩
theorem wp_m1 {comp cc : ClassId} {kc : Class} {m : Int32} (hkc : s.vm.classes[comp]? = some kc) (hkindc : kc.kind = .array cc .long) (hm : ¬ m < 0)
    (hl2 : ¬ m.toNatClampNeg > e.platform.arrayLengthLimit) (hh2 : ¬ m.toNatClampNeg * componentBytes .long > e.platform.maxHeapBytes)
    (h1 : s.heap.size < e.platform.maxCells) (h2 : s.slotsUsed + m.toNatClampNeg ≤ e.platform.maxSlots)
    {Q : Addr → Pre} (hq : Q s.heap.size d acts (s.pushCell (mI comp m.toNatClampNeg))) :
    Sem.wp (Op.multianewarray.make comp [m]) Q E e d acts s := by
  rw [Op.multianewarray.make]
  simp only [Sem.wp_bind', _root_.Jvm.W.ite, hm, if_false, Sem.wp_pure', _root_.Jvm.W.theClass, hkc, hkindc, Option.some.injEq, exists_eq_left']
  refine wp_nA hkc hkindc hl2 hh2 rfl rfl h1 h2 ?_
  rw [arrV_new]; exact hq
theorem wp_m2 {c comp cc : ClassId} {k kc : Class} {n m : Int32} (hk : s.vm.classes[c]? = some k) (hkind : k.kind = .array comp (.array .long))
    (hkc : s.vm.classes[comp]? = some kc) (hkindc : kc.kind = .array cc .long) (hn : ¬ n < 0) (hm : ¬ m < 0)
    (hl1 : ¬ n.toNatClampNeg > e.platform.arrayLengthLimit) (hh1 : ¬ n.toNatClampNeg * componentBytes (.array .long) > e.platform.maxHeapBytes)
    (hl2 : ¬ m.toNatClampNeg > e.platform.arrayLengthLimit) (hh2 : ¬ m.toNatClampNeg * componentBytes .long > e.platform.maxHeapBytes)
    (hc : s.heap.size + 1 + n.toNatClampNeg ≤ e.platform.maxCells) (hs : s.slotsUsed + n.toNatClampNeg + n.toNatClampNeg * m.toNatClampNeg ≤ e.platform.maxSlots)
    {Q : Addr → Pre} (hq : ∀ d' acts', Q s.heap.size d' acts' (mnS s c comp n.toNatClampNeg m.toNatClampNeg n.toNatClampNeg)) :
    Sem.wp (Op.multianewarray.make c [n, m]) Q E e d acts s := by
  have hfind : ([m].find? (· < 0)) = none := by simp [hm]
  rw [Op.multianewarray.make]
  simp only [Sem.wp_bind', _root_.Jvm.W.ite, hn, if_false, Sem.wp_pure', _root_.Jvm.W.theClass, hk, hkind, Option.some.injEq, exists_eq_left']
  refine wp_nA hk hkind hl1 hh1 rfl rfl (by omega) (by have := Nat.zero_le (n.toNatClampNeg * m.toNatClampNeg); omega) ?_
  rw [mO_z c n.toNatClampNeg s.heap.size]
  simp only [hfind]
  rw [ite_self, Sem.wp_bind', Std.Legacy.Range.forIn_eq_forIn_range']
  have hsz : ([:n.toNatClampNeg] : Std.Legacy.Range).size = n.toNatClampNeg := by simp [Std.Legacy.Range.size]
  rw [hsz]
  show Sem.wp (forIn (List.range' 0 n.toNatClampNeg 1) PUnit.unit _) _ E e d acts _
  refine wp_forIn_inv (fun rest s' => ∃ i, i ≤ n.toNatClampNeg ∧ rest = List.range' i (n.toNatClampNeg - i) ∧ s' = mnS s c comp n.toNatClampNeg m.toNatClampNeg i) _ _ ⟨0, Nat.zero_le _, rfl, rfl⟩ ?_ ?_
  · rintro x rest s' d' acts' Q' ⟨i, hi, hl, rfl⟩ hnext
    have hlt : i < n.toNatClampNeg := by
      rcases Nat.lt_or_ge i n.toNatClampNeg with h | h
      · exact h
      · rw [show n.toNatClampNeg - i = 0 from by omega] at hl; simp at hl
    obtain ⟨rfl, hrest⟩ : x = i ∧ rest = List.range' (i + 1) (n.toNatClampNeg - (i + 1)) := by
      rw [show n.toNatClampNeg - i = (n.toNatClampNeg - (i + 1)) + 1 from by omega, List.range'_succ] at hl
      exact ⟨(List.cons.inj hl).1, (List.cons.inj hl).2⟩
    obtain ⟨f1, f2, f3, f4⟩ := mS_f s c comp n.toNatClampNeg m.toNatClampNeg x
    obtain ⟨o1, o2, o3⟩ := mO_f c n.toNatClampNeg s.heap.size x
    have hmul : x * m.toNatClampNeg + m.toNatClampNeg ≤ n.toNatClampNeg * m.toNatClampNeg := by
      have := Nat.mul_le_mul_right m.toNatClampNeg (show x + 1 ≤ n.toNatClampNeg from hlt)
      rw [Nat.succ_mul] at this; exact this
    simp only [Sem.wp_bind']
    refine wp_m1 (by rw [f3]; exact hkc) hkindc hm hl2 hh2 (by rw [f1]; omega) (by rw [f4]; omega) ?_
    have hlt0 : s.heap.size < (mnS s c comp n.toNatClampNeg m.toNatClampNeg x).heap.size := by rw [f1]; omega
    simp only [Sem.wp_bind', _root_.Jvm.W.writeLoc, Sem.wp_pure']
    refine ⟨mO c n.toNatClampNeg s.heap.size x, by rw [State.heap_pushCell_of_lt (h := hlt0)]; exact f2, by rw [o2]; simp, by rw [o3]; exact hlt, ?_, hnext _ _ _ ⟨x + 1, hlt, hrest, ?_⟩⟩
    · rw [o1, o2]
      simp [State.fitsSlot, State.slotType?, f3, hk, hkind]
      rfl
    · rw [f1, mO_n]; rfl
  · rintro s' d' acts' ⟨i, hi, hl, rfl⟩
    have hiN : i = n.toNatClampNeg := by
      rcases Nat.lt_or_ge i n.toNatClampNeg with h | h
      · rw [show n.toNatClampNeg - i = (n.toNatClampNeg - (i + 1)) + 1 from by omega, List.range'_succ] at hl; cases hl
      · omega
    subst hiN
    simp only [Sem.wp_pure']
    exact hq _ _
end
section
variable {p : Program} {l : Launch} {e : Env} {R : Room} {s : State} {m : MethodId} {args : Array Value} {below : List Frame} {meth : Method} {c : Code} {T : State} {locs : List Loc} {cells slots : Nat}
theorem mS_X (X : Stand p l e R s m args below meth c T locs cells slots) (cA comp : ClassId) (N M : Nat) :
    ∀ i, Stand p l e R s m args below meth c (mnS T cA comp N M i) (locs ++ (List.range i).map fun j => ⟨T.heap.size, j⟩) (cells + 1 + i) (slots + N + i * M)
  | 0 => by
    have h := X.pushed (mO cA N T.heap.size 0)
    rw [(mO_f cA N T.heap.size 0).2.2] at h
    simpa [mnS] using h
  | i + 1 => by
    have Xi := mS_X X cA comp N M i
    obtain ⟨f1, f2, f3, f4⟩ := mS_f T cA comp N M i
    have hlt0 : T.heap.size < (mnS T cA comp N M i).heap.size := by rw [f1]; omega
    have hcell : ((mnS T cA comp N M i).pushCell (mI comp M)).heap[T.heap.size]? = some (mO cA N T.heap.size i) := by rw [State.heap_pushCell_of_lt (h := hlt0)]; exact f2
    have h := (Xi.pushed (mI comp M)).stored hcell i (.ref (T.heap.size + 1 + i))
    have e1 : (mI comp M).slots.size = M := arrV_size _ _ _
    rw [e1, mO_n] at h
    have e2 : (locs ++ (List.range (i + 1)).map fun j => (⟨T.heap.size, j⟩ : Loc)) = (locs ++ (List.range i).map fun j => (⟨T.heap.size, j⟩ : Loc)) ++ [⟨T.heap.size, i⟩] := by simp [List.range_succ, List.append_assoc]
    have e3 : slots + N + (i + 1) * M = slots + N + i * M + M := by rw [Nat.succ_mul]; omega
    rw [e2, e3]
    exact h
theorem mS_step (X : Stand p l e R s m args below meth c T locs cells slots) (hexec : p.tables.exec = Jvm.exec) {own : String} {index : Nat} {comp cA cc : ClassId} {kA kC : Class}
    (hown : s.vm.findClass own = some m.cls) (hclink : (Cond.classLink own index ("[" ++ (FieldType.array .long).toString)).before args s = true)
    (hkA : s.vm.classes[cA]? = some kA) (hkindA : kA.kind = .array comp (.array .long)) (hnameA : s.vm.findClass ("[" ++ (FieldType.array .long).toString) = some cA) (hkC : s.vm.classes[comp]? = some kC) (hkindC : kC.kind = .array cc .long)
    {g : JFrame} (hg : g.method = m) (hdg : decode c.code g.pc = .ok (.multianewarray index 2, 4)) {n k : Int32} {rest : List Value} (hstack : g.stack = .int k :: .int n :: rest)
    (hn : ¬ n < 0) (hk : ¬ k < 0) (hb1 : n.toNatClampNeg * 4 ≤ 536870912) (hb2 : k.toNatClampNeg * 8 ≤ 536870912)
    (hcells : cells + (1 + n.toNatClampNeg) ≤ R.cells) (hslots : slots + (n.toNatClampNeg + n.toNatClampNeg * k.toNatClampNeg) ≤ R.slots) :
    ∃ vm₁ : Vm, Stand p l e R s m args below meth c (mnS (T.setVm vm₁) cA comp n.toNatClampNeg k.toNatClampNeg n.toNatClampNeg) (locs ++ (List.range n.toNatClampNeg).map fun j => ⟨T.heap.size, j⟩) (cells + 1 + n.toNatClampNeg) (slots + n.toNatClampNeg + n.toNatClampNeg * k.toNatClampNeg) ∧
      ∀ target, Steps p.tables e below ((mnS (T.setVm vm₁) cA comp n.toNatClampNeg k.toNatClampNeg n.toNatClampNeg).setTop { g with pc := g.pc + 4, stack := .ref T.heap.size :: rest }) target → Steps p.tables e below (T.setTop g) target := by
  subst hg
  have hpl : e.platform.magicAccessors = ({} : Platform).magicAccessors := by rw [X.admits.platform]
  obtain ⟨c0, hfc0, hcl⟩ := Cond.classLink_spec hown hclink e.platform hpl
  cases hnameA.symm.trans hfc0
  obtain ⟨hg₁, hwarm₁, hready₁⟩ := State.classEntry (e := e) X.warmed hcl
  generalize T.vm.noted g.method.cls index (.cls cA) = vm₁ at hg₁ hwarm₁ hready₁
  have hal : s.vm.Alike vm₁ := hwarm₁.alike
  obtain ⟨kA₁, hkA₁, heA⟩ := hal.2.2 _ _ hkA
  obtain ⟨kC₁, hkC₁, heC⟩ := hal.2.2 _ _ hkC
  have hkindA₁ : kA₁.kind = .array comp (.array .long) := by rw [heA]; exact hkindA
  have hkindC₁ : kC₁.kind = .array cc .long := by rw [heC]; exact hkindC
  have X₁ := X.noted hwarm₁
  obtain ⟨hr1, hr2⟩ := X.roomAbove hcells hslots
  refine ⟨vm₁, mS_X X₁ cA comp _ _ _, fun target hrest => ?_⟩
  have hl1 : ¬ n.toNatClampNeg > e.platform.arrayLengthLimit := by rw [Launch.admits_arrayLengthLimit X.admits]; omega
  have hh1 : ¬ n.toNatClampNeg * componentBytes (.array .long) > e.platform.maxHeapBytes := by
    rw [Launch.admits_maxHeapBytes X.admits]; show ¬ n.toNatClampNeg * 4 > 536870912; omega
  have hl2 : ¬ k.toNatClampNeg > e.platform.arrayLengthLimit := by rw [Launch.admits_arrayLengthLimit X.admits]; omega
  have hh2 : ¬ k.toNatClampNeg * componentBytes .long > e.platform.maxHeapBytes := by
    rw [Launch.admits_maxHeapBytes X.admits]; show ¬ k.toNatClampNeg * 8 > 536870912; omega
  jvm_step X.here [hexec, hdg]
  simp only [Op.multianewarray.sem, Sem.wp_bind', _root_.Jvm.W.resolveClassAt_links (State.method?_setTop g X.here.top) hg₁]
  rw [_root_.Jvm.W.popN, if_neg (by decide)]
  refine ⟨g, State.topJava?_setTop' (s := T.setVm vm₁) g X.here.top, [.int n, .int k], rest, rfl, hstack, ?_⟩
  simp only [List.mapM_cons, List.mapM_nil, Sem.wp_bind', Sem.wp_pure']
  refine wp_m2 (k := kA₁) (kc := kC₁) (comp := comp) (cc := cc) hkA₁ hkindA₁ hkC₁ hkindC₁ hn hk hl1 hh1 hl2 hh2 (by show T.heap.size + 1 + _ ≤ _; omega) (by show T.slotsUsed + _ + _ ≤ _; omega) (fun d' acts' => ?_)
  have XF := mS_X X₁ cA comp n.toNatClampNeg k.toNatClampNeg n.toNatClampNeg
  have eS : ((T.setTop g).setVm vm₁).setTop { g with stack := rest } = (T.setVm vm₁).setTop { g with stack := rest } := by
    show ((T.setVm vm₁).setTop g).setTop _ = _
    rw [State.setTop_setTop]
  rw [eS, mS_t]
  simp only [Sem.wp_bind', _root_.Jvm.W.mark, _root_.Jvm.W.pushRef, State.topJava?_setTop' _ XF.here.top, Option.some.injEq, exists_eq_left', State.setTop_setTop, State.heap_setTop]
  intro acts
  simp [jvm, XF.here.top]
  exact hrest
end
theorem at_mna {y pc : Nat} {ls : eLS} {t : List AV} {k s : Nat} {Z : FT} {c : Nat} {mr : MR} {mi : MI} {ml : ML} {idx N K : Nat} (hd : decode (mCd y) pc = .ok (.multianewarray idx 2, 4)) (hN : N ≤ 65536) (hK : K ≤ 65536) (hl : Cond.classLink (mNm y).cls idx ("[" ++ (FieldType.array .long).toString) ∈ WT) (hk : 1 + N ≤ k) (hs : N + N * K ≤ s)
    (K1 : At y (pc + 4) ls (vR 3 N c :: t) (k - (1 + N)) (s - (N + N * K)) Z (c + 1 + N) (mM mr c N K) (zM mi c N 0) (zM ml c N 0)) : At y pc ls (.inl (nI K) :: .inl (nI N) :: t) k s Z c mr mi ml := by
  intro l p e S m args below meth cd H locs cells slots mc ms lsC X D aC B sh0 sh hfl hC hR hsh hst hL hS hc1 hs1
  have eN : (nI N).toNatClampNeg = N := nI_clamp (by omega)
  have eK : (nI K).toNatClampNeg = K := nI_clamp (by omega)
  intro T hT Xs
  obtain ⟨comp, cA, kA, fC, fA, -, hkA, hkindA⟩ := hC.ext.ao
  have e1 : comp = aC.2.1 := Option.some.inj (fC.symm.trans (hC.kn.2 1 _ rfl).2)
  have e2 : cA = aC.2.2.2 := Option.some.inj (fA.symm.trans (hC.kn.2 3 _ rfl).2)
  subst e1
  subst e2
  obtain ⟨comp2, kC, cc, hcomp2, hkC, hkindC⟩ := Cond.arrayClass_spec (hC.wds _ (arr_words .long (by simp)))
  cases Option.some.inj (hcomp2.symm.trans fC)
  obtain ⟨vm₁, X', step⟩ := mS_step Xs hC.1 hC.own (hC.wds _ hl) hkA hkindA fA hkC hkindC (g := F0 m pc lsC (.int (nI K) :: .int (nI N) :: t.map (cv X B))) rfl (by rw [hC.2.1]; exact hd) rfl (nI_pos (by omega)) (nI_pos (by omega)) (by rw [eN]; omega) (by rw [eK]; omega) (by rw [eN]; show cells + (1 + N) ≤ mc; omega) (by rw [eN, eK]; show slots + (N + N * K) ≤ ms; omega)
  rw [eN, eK] at X' step
  have hTh : (T.setVm vm₁).heap = H := hT
  obtain ⟨f1, f2, -, -⟩ := mS_f (T.setVm vm₁) aC.2.2.2 aC.2.1 N K N
  have hold : ∀ x : Nat, x < H.size → (mnS (T.setVm vm₁) aC.2.2.2 aC.2.1 N K N).heap[x]? = H[x]? := fun x hx => by
    have := mS_o (T.setVm vm₁) aC.2.2.2 aC.2.1 N K (a := x) (by rw [hTh]; exact hx) N
    rw [hTh] at this
    exact this
  have hrow : ∀ j : Nat, j < N → (mnS (T.setVm vm₁) aC.2.2.2 aC.2.1 N K N).heap[H.size + 1 + j]? = some (vp_cell aC.2.1 (K, .inr (.inl (fun _ => 0)))) := fun j hj => by
    have := mS_i (T.setVm vm₁) aC.2.2.2 aC.2.1 N K N j hj
    rw [hTh] at this
    rw [this, vp_cell_l]
    rfl
  generalize hF : mnS (T.setVm vm₁) aC.2.2.2 aC.2.1 N K N = F at X' step f1 f2 hold hrow
  rw [hTh] at f1 f2
  have f2 : F.heap[H.size]? = some (vp_cell aC.2.2.2 (N, .inr (.inr (.inr (.inr (fun i => if i < N then some (H.size + 1 + i) else none)))))) := by
    rw [f2, vp_cell_q]
    rfl
  have hsz : F.heap.size = H.size + 1 + N := by rw [f1]
  have hR1 := hR.newM hsz hold f2 hrow
  have hp : sh <+: sh ++ ((3, N) :: List.replicate N (1, K)) := List.prefix_append _ _
  have hS1 : va_S (fun q => B < q) S.heap F.heap (locs ++ (List.range N).map fun j => (⟨T.heap.size, j⟩ : Loc)) := by
    obtain ⟨g1, g2, g3⟩ := vS_newM hS hsz hold
    refine ⟨g1, g2, fun q hq => ?_⟩
    rcases List.mem_append.mp hq with h | h
    · exact g3 q h
    · obtain ⟨j, -, rfl⟩ := List.mem_map.mp h
      show B < T.heap.size
      have hc0 : 0 < c := by rw [← hR.2.1]; exact (List.getElem?_eq_some_iff.mp hR.2.2.1).1
      rw [hT, hR.1]; omega
  obtain ⟨t9, a1, b1⟩ := K1 l p e S m args below meth cd F.heap _ (cells + 1 + N) (slots + N + N * K) mc ms lsC X D aC B sh0 _ hfl hC hR1 (hsh.trans hp) (cn_ok (show okq X (sh ++ ((3, N) :: List.replicate N (1, K))) (3, N, c) from (by
    unfold okq; rw [if_pos (show (3 : Nat) < 100 by decide)]
    show (sh ++ ((3, N) :: List.replicate N (1, K)))[c]? = _
    rw [List.getElem?_append_right (by rw [hR.2.1]; exact Nat.le_refl _), hR.2.1, Nat.sub_self]; rfl)) (fun v hv => okv_pre hp v (tl2_ok hst v hv))) (lvs_pre (okv_pre hp) hL) hS1 (by omega) (by omega) F rfl X'
  refine ⟨t9, step t9 ?_, b1⟩
  have e3 : T.heap.size = B + c := by rw [hT]; exact hR.1
  rw [e3]
  exact a1
