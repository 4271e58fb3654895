/-! THE CLAIM OUT OF ONE WALK OF THE LAW'S BODY. Your part is whole_start (and what it stands on); all else here is the same for every law, but numbers. -/
def R_law : String := "WeighingPlatesLaw"
def lw_P (b : Addr) (xs : List Int32) (args : Array Value) (s : State) : Prop := args = #[.ref b] ∧ s.IntsAt b xs ∧ xs.length ≤ 3072 ∧ (Jvm.Cond.and given_1 narrow_1).before args s = true
def lw_Q (_ : Array Value) (s : State) (o : Outcome) (t : State) : Prop := o = .returned (some (.int 1)) ∧ Framed s o t [] 601024 7293034
def lw_Z (below : List Frame) (a : Array Value) (s : State) : State → Prop := fun t => ∃ o, t.status = .running ∧ Ended t below o ∧ lw_Q a s o t
/-- the law's own end, with 1 on the stack, nothing written that was there before, its room as the claim has it -/
theorem lw_ret {p : Program} {l : Launch} {e : Env} {s : State} {m : MethodId} {below : List Frame} {meth : Method} {c : Code} {b : Nat} (hx : p.tables.exec = Jvm.exec) (hb : c.code = code) (hr : meth.sig.returnType = ret) (hlocks : meth.locks = false) {pc : Nat} {H : Heap} {ls : Array Slot} (hdg : decode code pc = .ok (.ireturn, 1)) : W p l e room_1 s m #[Value.ref b] below meth c H [] 601024 7293034 (lw_Z below #[Value.ref b] s) (F0 m pc ls [.int 1]) := by
  intro T hT X
  obtain ⟨fs, hret, hrun, hended, hW, hframe⟩ := X.leave (v := some (.int 1)) (hlocks := hlocks) (fun h => by rw [hr] at h; cases h)
  have hmeth' : T.vm.method? m = some meth := X.method'
  refine ⟨T.setFrames fs, ?_, .returned (some (.int 1)), hrun, hended, rfl, ⟨_, rfl⟩, hW, hframe⟩
  jvm_step X.here [X.here.top, hx, hb, hdg, hmeth', hr, ret, narrow_b1]
  (try refine ⟨rfl, ?_⟩); (try refine ⟨rfl, ?_⟩)
  first | (intro acts; rw [hret _ acts rfl rfl rfl]) | rw [hret _ _ rfl rfl rfl]
  exact Steps.refl _
/-- what holds at the law's entry: the machine, the code, the tables' words (any of lw_tbl by 'hts w (by decide +kernel)'), the script of L ints xs at the cell b, what the Statement gives of the start (any of its parts by flat_of_before) -/
def lw_At (p : Program) (s : State) (m : MethodId) (meth : Method) (c : Code) (b L : Nat) (xs : Nat → Int32) : Prop :=
  p.tables.exec = Jvm.exec ∧ c.code = code ∧ meth.sig.returnType = ret ∧ c.maxLocals = 7 ∧ s.vm.findClass R_law = some m.cls ∧ (∀ w ∈ lw_tbl, w.before #[Value.ref b] s = true) ∧ va_X b L xs s s.heap ∧ b < s.heap.size ∧ meth.locks = false ∧ (Jvm.Cond.and given_1 narrow_1).before #[Value.ref b] s = true

-- ===== the start: what is known there =====
theorem aover {args : Array Value} {s : State} (h : (Cond.arrayOver (.array .long)).before args s = true) : ∃ comp c k, s.vm.classes[c]? = some k ∧ k.kind = .array comp (.array .long) ∧ s.vm.findClass ("[" ++ (FieldType.array .long).toString) = some c := by
  have h : (Cond.arrayOver (.array .long)).holds args s none s [] = true := h
  simp only [Cond.holds, Cond.value, beq_iff_eq] at h
  cases hc : s.vm.findClass (FieldType.array .long).toString with
  | none => simp [hc] at h
  | some comp =>
    simp only [hc, Option.bind_some, Option.bind_eq_some_iff, Option.map_eq_some_iff] at h
    obtain ⟨c, hi, k, hk, hb⟩ := h
    obtain ⟨hlt, hp, -⟩ := Array.findIdx?_eq_some_iff_getElem.mp hi
    have hkk : s.vm.classes[c] = k := (Array.getElem?_eq_some_iff.mp hk).2
    rw [hkk] at hp
    cases hkind : k.kind with
    | array component ty =>
      rw [hkind] at hb hp
      simp at hb hp
      exact ⟨comp, c, k, hk, by rw [hkind, hp, hb.1], hb.2⟩
    | _ => rw [hkind] at hb; simp at hb
theorem WT_in {w : Cond} (h : w ∈ WT) : w ∈ lw_tbl := (List.mem_filter.mp h).1
theorem aov_in : Cond.arrayOver (.array .long) ∈ lw_tbl := by decide +kernel
theorem KN_start {args : Array Value} {s : State} (hts : ∀ w ∈ lw_tbl, w.before args s = true) : ∃ (D : va_G) (aC : AC), KN D aC s := by
  have h0 : ∀ ci : Nat, ∃ q : ClassId × (Nat → Nat), ∀ x, clT[ci]? = some x → u_Kn s x.1 x.2.1 x.2.2 q.1 q.2 := by
    intro ci
    cases hx : clT[ci]? with
    | none => exact ⟨(0, fun _ => 0), fun x h => by cases h⟩
    | some x =>
      obtain ⟨C, T, N⟩ := x
      obtain ⟨-, h1, h2, -⟩ := clOK_of hx
      obtain ⟨cC, iS, hk⟩ := u_known (C := C) (T := T) (N := N) (n := N) hts (fun w hw => WT_in (h1 w hw)) (hts _ (WT_in h2))
      exact ⟨(cC, iS), fun x h => by cases h; exact hk⟩
  obtain ⟨f, hf⟩ := Classical.axiomOfChoice h0
  have ha : ∀ ty ∈ [FieldType.int, .long, .byte], ∃ c, ArrOfT s c ty ∧ s.vm.findClass ("[" ++ ty.toString) = some c := fun ty hty => by
    obtain ⟨c, k, comp, e1, e2, e3⟩ := Cond.arrayClass_spec (args := args) (first := s) (o := none) (s := s) (idx := []) (hts _ (WT_in (arr_words ty hty)))
    exact ⟨c, fun n z => ⟨fun k h => (by cases h), k, e2, comp, e3⟩, e1⟩
  obtain ⟨c1, a1, b1⟩ := ha .int (by simp)
  obtain ⟨c2, a2, b2⟩ := ha .long (by simp)
  obtain ⟨c3, a3, b3⟩ := ha .byte (by simp)
  obtain ⟨comp, c4, k4, e1, e2, e3⟩ := aover (hts _ aov_in)
  refine ⟨(fun ci => (f ci).1, fun ci => (f ci).2), (c1, c2, c3, c4), fun ci x hx => hf ci x hx, fun k q hk => ?_⟩
  match k, hk with
  | 0, hk => cases hk; exact ⟨a1, b1⟩
  | 1, hk => cases hk; exact ⟨a2, b2⟩
  | 2, hk => cases hk; exact ⟨a3, b3⟩
  | 3, hk => cases hk; exact ⟨fun n z => ⟨fun k h => (by cases h), k4, e1, comp, e2⟩, e3⟩
  | k + 4, hk => cases hk
/-- the texts' terms -/
def tmS (i : Nat) : Term := match ldT.find? (fun q => q.2.2.2 == i && q.1 != "WeighingPlatesModel") with
  | some q => .string q.1 q.2.1
  | none => .int 0
abbrev gvL : List Cond := flatC (Jvm.Cond.and given_1 narrow_1)
theorem gv_ex : ∀ i, i < nStr → Cond.exactly (tmS i) "java/lang/String" ∈ gvL := by decide +kernel
theorem gv_co : ∀ i, i < nStr → Cond.eq (.field (tmS i) "java/lang/String" "coder" "B") (.int 0) ∈ gvL := by decide +kernel
theorem gv_ar : ∀ i, i < nStr → Cond.arrayOf (.field (tmS i) "java/lang/String" "value" "[B") .byte ∈ gvL := by decide +kernel
theorem gv_le : ∀ i, i < nStr → Cond.eq (.length (.field (tmS i) "java/lang/String" "value" "[B")) (.int (Int32.ofNat (strN.getD i 0))) ∈ gvL := by decide +kernel
theorem gv_el : ∀ i, i < nStr → ∀ j, j < strN.getD i 0 → Cond.eq (.elem (.field (tmS i) "java/lang/String" "value" "[B") (.int (Int32.ofNat j))) (.int ((strB.getD i []).getD j 0)) ∈ gvL := by decide +kernel
theorem str_len : ∀ i, i < nStr → strN.getD i 0 < 2 ^ 31 := by decide +kernel
theorem str_ne : ∀ i, i < nStr → ∀ j, j < nStr → strN.getD i 0 = strN.getD j 0 → (∀ k, k < strN.getD i 0 → (strB.getD i []).getD k 0 = (strB.getD j []).getD k 0) → i = j := by decide +kernel

