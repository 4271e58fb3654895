/-! THE CLAIM OUT OF ONE WALK OF THE LAW'S BODY. Your part is whole_start (and what it stands on); all else here is the same for every law, but numbers. -/
def R_law : String := "WeighingPlatesLaw"
def lw_P (b : Addr) (xs : List Int32) (args : Array Value) (s : State) : Prop := args = #[.ref b] ∧ s.IntsAt b xs ∧ xs.length ≤ 3072 ∧ (Jvm.Cond.and given_1 narrow_1).before args s = true
def lw_Q (_ : Array Value) (s : State) (o : Outcome) (t : State) : Prop := o = .returned (some (.int 1)) ∧ Framed s o t [] 601024 7293034
def lw_Z (below : List Frame) (a : Array Value) (s : State) : State → Prop := fun t => ∃ o, t.status = .running ∧ Ended t below o ∧ lw_Q a s o t
/-- the law's own end, with 1 on the stack, nothing written that was there before, its room as the claim has it -/
theorem lw_ret {p : Program} {l : Launch} {e : Env} {s : State} {m : MethodId} {below : List Frame} {meth : Method} {c : Code} {b : Nat} (hx : p.tables.exec = Jvm.exec) (hb : c.code = code) (hr : meth.sig.returnType = ret) (hlocks : meth.locks = false) {pc : Nat} {H : Heap} {ls : Array Slot} (hdg : decode code pc = .ok (.ireturn, 1)) : W p l e room_1 s m #[Value.ref b] below meth c H [] 601024 7293034 (lw_Z below #[Value.ref b] s) (F0 m pc ls [.int 1]) := by
  intro T hT X
  obtain ⟨fs, hret, hrun, hended, hW, hframe⟩ := X.leave (v := some (.int 1)) (hlocks := hlocks) (fun h => by rw [hr] at h; cases h)
  have hmeth' : T.vm.method? m = some meth := X.method'
  refine ⟨T.setFrames fs, ?_, .returned (some (.int 1)), hrun, hended, rfl, ⟨_, rfl⟩, hW, hframe⟩
  jvm_step X.here [X.here.top, hx, hb, hdg, hmeth', hr, ret, narrow_b1]
  (try refine ⟨rfl, ?_⟩); (try refine ⟨rfl, ?_⟩)
  first | (intro acts; rw [hret _ acts rfl rfl rfl]) | rw [hret _ _ rfl rfl rfl]
  exact Steps.refl _
/-- what holds at the law's entry: the machine, the code, the tables' words (any of lw_tbl by 'hts w (by decide +kernel)'), the script of L ints xs at the cell b, what the Statement gives of the start (any of its parts by flat_of_before) -/
def lw_At (p : Program) (s : State) (m : MethodId) (meth : Method) (c : Code) (b L : Nat) (xs : Nat → Int32) : Prop :=
  p.tables.exec = Jvm.exec ∧ c.code = code ∧ meth.sig.returnType = ret ∧ c.maxLocals = 7 ∧ s.vm.findClass R_law = some m.cls ∧ (∀ w ∈ lw_tbl, w.before #[Value.ref b] s = true) ∧ va_X b L xs s s.heap ∧ b < s.heap.size ∧ meth.locks = false ∧ (Jvm.Cond.and given_1 narrow_1).before #[Value.ref b] s = true

-- ===== the start: what is known there =====
theorem aover {args : Array Value} {s : State} (h : (Cond.arrayOver (.array .long)).before args s = true) : ∃ comp c k, s.vm.classes[c]? = some k ∧ k.kind = .array comp (.array .long) ∧ s.vm.findClass ("[" ++ (FieldType.array .long).toString) = some c := by
  have h : (Cond.arrayOver (.array .long)).holds args s none s [] = true := h
  simp only [Cond.holds, Cond.value, beq_iff_eq] at h
  cases hc : s.vm.findClass (FieldType.array .long).toString with
  | none => simp [hc] at h
  | some comp =>
    simp only [hc, Option.bind_some, Option.bind_eq_some_iff, Option.map_eq_some_iff] at h
    obtain ⟨c, hi, k, hk, hb⟩ := h
    obtain ⟨hlt, hp, -⟩ := Array.findIdx?_eq_some_iff_getElem.mp hi
    have hkk : s.vm.classes[c] = k := (Array.getElem?_eq_some_iff.mp hk).2
    rw [hkk] at hp
    cases hkind : k.kind with
    | array component ty =>
      rw [hkind] at hb hp
      simp at hb hp
      exact ⟨comp, c, k, hk, by rw [hkind, hp, hb.1], hb.2⟩
    | _ => rw [hkind] at hb; simp at hb
theorem WT_in {w : Cond} (h : w ∈ WT) : w ∈ lw_tbl := (List.mem_filter.mp h).1
theorem aov_in : Cond.arrayOver (.array .long) ∈ lw_tbl := by decide +kernel
theorem KN_start {args : Array Value} {s : State} (hts : ∀ w ∈ lw_tbl, w.before args s = true) : ∃ (D : va_G) (aC : AC), KN D aC s := by
  have h0 : ∀ ci : Nat, ∃ q : ClassId × (Nat → Nat), ∀ x, clT[ci]? = some x → u_Kn s x.1 x.2.1 x.2.2 q.1 q.2 := by
    intro ci
    cases hx : clT[ci]? with
    | none => exact ⟨(0, fun _ => 0), fun x h => by cases h⟩
    | some x =>
      obtain ⟨C, T, N⟩ := x
      obtain ⟨-, h1, h2, -⟩ := clOK_of hx
      obtain ⟨cC, iS, hk⟩ := u_known (C := C) (T := T) (N := N) (n := N) hts (fun w hw => WT_in (h1 w hw)) (hts _ (WT_in h2))
      exact ⟨(cC, iS), fun x h => by cases h; exact hk⟩
  obtain ⟨f, hf⟩ := Classical.axiomOfChoice h0
  have ha : ∀ ty ∈ [FieldType.int, .long, .byte], ∃ c, ArrOfT s c ty ∧ s.vm.findClass ("[" ++ ty.toString) = some c := fun ty hty => by
    obtain ⟨c, k, comp, e1, e2, e3⟩ := Cond.arrayClass_spec (args := args) (first := s) (o := none) (s := s) (idx := []) (hts _ (WT_in (arr_words ty hty)))
    exact ⟨c, fun n z => ⟨fun k h => (by cases h), k, e2, comp, e3⟩, e1⟩
  obtain ⟨c1, a1, b1⟩ := ha .int (by simp)
  obtain ⟨c2, a2, b2⟩ := ha .long (by simp)
  obtain ⟨c3, a3, b3⟩ := ha .byte (by simp)
  obtain ⟨comp, c4, k4, e1, e2, e3⟩ := aover (hts _ aov_in)
  refine ⟨(fun ci => (f ci).1, fun ci => (f ci).2), (c1, c2, c3, c4), fun ci x hx => hf ci x hx, fun k q hk => ?_⟩
  match k, hk with
  | 0, hk => cases hk; exact ⟨a1, b1⟩
  | 1, hk => cases hk; exact ⟨a2, b2⟩
  | 2, hk => cases hk; exact ⟨a3, b3⟩
  | 3, hk => cases hk; exact ⟨fun n z => ⟨fun k h => (by cases h), k4, e1, comp, e2⟩, e3⟩
  | k + 4, hk => cases hk
/-- the texts' terms -/
def tmS (i : Nat) : Term := match ldT.find? (fun q => q.2.2.2 == i && q.1 != "WeighingPlatesModel") with
  | some q => .string q.1 q.2.1
  | none => .int 0
abbrev gvL : List Cond := flatC (Jvm.Cond.and given_1 narrow_1)
theorem gv_ex : ∀ i, i < nStr → Cond.exactly (tmS i) "java/lang/String" ∈ gvL := by decide +kernel
theorem gv_co : ∀ i, i < nStr → Cond.eq (.field (tmS i) "java/lang/String" "coder" "B") (.int 0) ∈ gvL := by decide +kernel
theorem gv_ar : ∀ i, i < nStr → Cond.arrayOf (.field (tmS i) "java/lang/String" "value" "[B") .byte ∈ gvL := by decide +kernel
theorem gv_le : ∀ i, i < nStr → Cond.eq (.length (.field (tmS i) "java/lang/String" "value" "[B")) (.int (Int32.ofNat (strN.getD i 0))) ∈ gvL := by decide +kernel
theorem gv_el : ∀ i, i < nStr → ∀ j, j < strN.getD i 0 → Cond.eq (.elem (.field (tmS i) "java/lang/String" "value" "[B") (.int (Int32.ofNat j))) (.int ((strB.getD i []).getD j 0)) ∈ gvL := by decide +kernel
theorem str_len : ∀ i, i < nStr → strN.getD i 0 < 2 ^ 31 := by decide +kernel
theorem str_ne : ∀ i, i < nStr → ∀ j, j < nStr → strN.getD i 0 = strN.getD j 0 → (∀ k, k < strN.getD i 0 → (strB.getD i []).getD k 0 = (strB.getD j []).getD k 0) → i = j := by decide +kernel

theorem str_start {args : Array Value} {s : State} {A : Nat → Prop} (hs : ∀ c ∈ gvL, c.before args s = true) (hA : ∀ a : Nat, a < s.heap.size → ¬ A a) : ∃ adK adV : Nat → Nat, vk_S nStr strN strB adK adV A s s.heap ∧ ∀ i : Nat, i < nStr → (tmS i).eval args s none [] s = some (.ref (adK i)) := by
  have h0 : ∀ i : Nat, ∃ q : Nat × Nat, i < nStr → (tmS i).eval args s none [] s = some (.ref q.1) ∧ va_O "java/lang/String" q.1 A s s.heap ∧ va_OF "java/lang/String" "coder" "B" (.int 0) q.1 A s s.heap ∧ va_OF "java/lang/String" "value" "[B" (.ref q.2) q.1 A s s.heap ∧ va_T .byte q.2 (strN.getD i 0) (fun j => .int ((strB.getD i []).getD j 0)) A s s.heap := by
    intro i
    by_cases hi : i < nStr
    · obtain ⟨a, c, cA, kA, q1, q2, q3, q4, q5, q6, -⟩ := Cond.exactly_spec (args := args) (first := s) (o := none) (s := s) (idx := []) (t := tmS i) (cls := "java/lang/String") (hs _ (gv_ex i hi))
      obtain ⟨t, ht, hT⟩ := va_Tof (f := fun j => .int ((strB.getD i []).getD j 0)) (A := A) (str_len i hi) (hs _ (gv_ar i hi)) (va_eqt (hs _ (gv_le i hi))) (fun j hj => va_eqt (hs _ (gv_el i hi j hj))) hA
      exact ⟨(a, t), fun _ => ⟨q1, ⟨cA, q3, q5, by rw [q6]; exact q2, hA a (Array.getElem?_eq_some_iff.mp q3).1⟩, vk_OFof q1 (va_eqt (hs _ (gv_co i hi))) hA, vk_OFof q1 ht hA, hT⟩⟩
    · exact ⟨(0, 0), fun h => absurd h hi⟩
  obtain ⟨ad, had⟩ := Classical.axiomOfChoice h0
  refine ⟨fun i => (ad i).1, fun i => (ad i).2, ⟨fun i hi => (had i hi).2, fun i j hi hj e => ?_⟩, fun i hi => (had i hi).1⟩
  obtain ⟨-, -, -, ⟨cf, kf, fi, f, cell, a1, a2, a3, a4, a5, -⟩, ⟨cA, b1, b2, b3, b4, b5, b6, -⟩⟩ := had i hi
  obtain ⟨-, -, -, ⟨cf', kf', fi', f', cell', c1, c2, c3, c4, c5, -⟩, ⟨cA', d1, d2, d3, d4, d5, d6, -⟩⟩ := had j hj
  have ef : f = f' := by have := a1.symm.trans c1; simp at this; exact this.2.2.2
  subst ef
  have e : (ad i).1 = (ad j).1 := e
  rw [e] at a3
  have ec : cell = cell' := Option.some.inj (a3.symm.trans c3)
  subst ec
  have ev : (ad i).2 = (ad j).2 := Value.ref.inj (Option.some.inj (a5.symm.trans c5))
  rw [ev] at b1
  have eA : cA = cA' := Option.some.inj (b1.symm.trans d1)
  subst eA
  have el : strN.getD i 0 = strN.getD j 0 := by
    have h1 : Int32.ofNat (strN.getD i 0) = Int32.ofNat (strN.getD j 0) := b5.symm.trans d5
    exact (nI_eq (str_len i hi) (str_len j hj)).mp h1
  refine str_ne i hi j hj el (fun k hk => ?_)
  have h2 := (b6 k hk).symm.trans (d6 k (by rw [← el]; exact hk))
  exact Value.int.inj (Option.some.inj h2)
theorem ld_ref : ∀ q ∈ ldT, Cond.stringRef q.1 q.2.1 q.2.2.1 ∈ lw_tbl := by decide +kernel
theorem ld_tm : ∀ q ∈ ldT, Term.string q.1 q.2.1 = tmS q.2.2.2 ∨ Cond.eq (tmS q.2.2.2) (.string q.1 q.2.1) ∈ gvL ∨ Cond.eq (.string q.1 q.2.1) (tmS q.2.2.2) ∈ gvL := by decide +kernel
theorem ns_in : ∀ q ∈ nestT, Cond.methodLinkNest q.1 q.2.1 q.2.2 "WeighingPlates" ∈ lw_tbl := by decide +kernel
theorem st_ws : Cond.laysStatic "java/lang/String" "COMPACT_STRINGS" "Z" ∈ lw_tbl ∧ Cond.initialized "java/lang/String" ∈ lw_tbl ∧ Cond.laysStatic "WeighingPlates$Reader" "PRIMES" "[I" ∈ lw_tbl ∧ Cond.initialized "WeighingPlates$Reader" ∈ lw_tbl ∧ Cond.laysStatic "jdk/internal/util/Preconditions" "SIOOBE_FORMATTER" "Ljava/util/function/BiFunction;" ∈ lw_tbl ∧ Cond.initialized "jdk/internal/util/Preconditions" ∈ lw_tbl := by decide +kernel
theorem gv_st : Cond.eq (.static "java/lang/String" "COMPACT_STRINGS" "Z") (.int 1) ∈ gvL ∧ Cond.isRef (.static "jdk/internal/util/Preconditions" "SIOOBE_FORMATTER" "Ljava/util/function/BiFunction;") ∈ gvL ∧ Cond.arrayOf (.static "WeighingPlates$Reader" "PRIMES" "[I") .int ∈ gvL ∧ Cond.eq (.length (.static "WeighingPlates$Reader" "PRIMES" "[I")) (.int (Int32.ofNat 6)) ∈ gvL ∧ ∀ j, j < 6 → Cond.eq (.elem (.static "WeighingPlates$Reader" "PRIMES" "[I") (.int (Int32.ofNat j))) (.int (prC j)) ∈ gvL := by decide +kernel
theorem th_ws : Cond.laysStatic Bundle.tN "UNASSIGNED_STACK" Bundle.steD ∈ lw_tbl ∧ Cond.initialized Bundle.tN ∈ lw_tbl ∧ Cond.laysStatic Bundle.tN "SUPPRESSED_SENTINEL" Bundle.listD ∈ lw_tbl := by decide +kernel
theorem th_gv : Cond.isRef (.static Bundle.tN "UNASSIGNED_STACK" Bundle.steD) ∈ gvL ∧ Cond.isRef (.static Bundle.tN "SUPPRESSED_SENTINEL" Bundle.listD) ∈ gvL := by decide +kernel
theorem eqR {args : Array Value} {s : State} {t u : Term} {a : Nat} (h : (Cond.eq t u).before args s = true ∨ (Cond.eq u t).before args s = true) (ht : t.eval args s none [] s = some (.ref a)) : u.eval args s none [] s = some (.ref a) := by
  rcases h with h | h
  · cases hu : u.eval args s none [] s with
    | none => simp [Cond.before, Cond.holds, Cond.value, ht, hu] at h
    | some w =>
      simp only [Cond.before, Cond.holds, Cond.value, ht, hu] at h
      cases w <;> simp_all
  · exact Cond.eq_refs (args := args) (first := s) (t := s) (out := none) (idx := []) h ht rfl
theorem EX_start {args : Array Value} {s : State} {b L : Nat} {xs : Nat → Int32} (hts : ∀ w ∈ lw_tbl, w.before args s = true) (hs : ∀ c ∈ gvL, c.before args s = true) (hX : va_X b L xs s s.heap) (hb : b < s.heap.size) : ∃ X : XT, X.2.2.2.1 = b ∧ X.2.2.2.2.1 = L ∧ X.2.2.2.2.2.1 = xs ∧ EX X (s.heap.size - 1) s := by
  have hA : ∀ a : Nat, a < s.heap.size → ¬ (fun q => s.heap.size - 1 < q) a := fun a ha h => by
    have h : s.heap.size - 1 < a := h
    omega
  obtain ⟨adK, adV, hS, hev⟩ := str_start hs hA
  obtain ⟨g1, g2, g3, g4, g5⟩ := gv_st
  obtain ⟨w1, w2, w3, w4, w5, w6⟩ := st_ws
  obtain ⟨pr, hpr, hT⟩ := va_Tof (f := fun j => .int (prC j)) (by decide) (hs _ g3) (va_eqt (hs _ g4)) (fun j hj => va_eqt (hs _ (g5 j hj))) hA
  have hfm : ∃ v : Value, va_Z "jdk/internal/util/Preconditions" "SIOOBE_FORMATTER" "Ljava/util/function/BiFunction;" v (fun q => s.heap.size - 1 < q) s s.heap ∧ (v = .null ∨ ∃ a, v = .ref a) := by
    rcases va_Zqof (hts _ w5) (hts _ w6) (hs _ g2) hA with h | ⟨t, h⟩
    · exact ⟨_, h, Or.inl rfl⟩
    · exact ⟨_, h, Or.inr ⟨t, rfl⟩⟩
  obtain ⟨fm, hfm, hfm2⟩ := hfm
  refine ⟨(adK, adV, pr, b, L, xs, fm), rfl, rfl, rfl, hS, fun q hq => ?_, va_Zof (hts _ w1) (hts _ w2) (va_eqi (hs _ g1)) hA, va_Zref (hts _ w3) (hts _ w4) hpr hA, hT, hfm, hfm2, hX, by show b ≤ _; omega, by omega, fun q hq => va_Nw.of rfl (hts _ (ns_in q hq)), aov.of (hts _ aov_in), vx_Zqof (hts _ th_ws.1) (hts _ th_ws.2.1) (hs _ th_gv.1) hA, vx_Zqof (hts _ th_ws.2.2) (hts _ th_ws.2.1) (hs _ th_gv.2) hA⟩
  have hi := ld_str q hq
  refine vk_R.of (A := args) (hts _ (ld_ref q hq)) ?_
  rcases ld_tm q hq with e | e
  · rw [e]; exact hev _ hi
  · exact eqR (e.imp (hs _) (hs _)) (hev _ hi)
theorem forgetF {s t : State} {o : Outcome} {L : List Loc} {k n : Nat} (h : FrameEnd s o t L k n) (hL : ∀ q ∈ L, s.heap.size ≤ q.base) : Framed s o t [] k n := by
  obtain ⟨h1, h2, h3⟩ := h
  exact ⟨h1, h2, h3.weaken (fun y hy hlt => absurd hlt (Nat.not_lt.mpr (hL y hy))) (Nat.le_refl _) (Nat.le_refl _)⟩
/-- the walk of the law's body, out of its walk over the abstract machine -/
theorem whole_open (LAW : ∀ (L : Nat) (mi : MI), L ≤ 3072 → At m_l_law 0 [some (vR 104 L 0), none, none, none, none, none, none] [] 601024 7293034 (Zq (fun r _ _ _ _ => r = some (vI 1))) 1 (fun _ _ => none) mi (fun _ _ => 0)) {p : Program} {e : Env} {s : State} {m : MethodId} {below : List Frame} {meth : Method} {c : Code} (l : Launch) (hflags : l.flags = flags0) {b L : Nat} {xs : Nat → Int32} (hL : L ≤ 3072) (C0 : lw_At p s m meth c b L xs) : W p l e room_1 s m #[Value.ref b] below meth c s.heap [] 0 0 (lw_Z below #[Value.ref b] s) (entryFrame m ([Value.ref b] : List Value).toArray 7) := by
  obtain ⟨hx, hb, hr, hml, hown, hts, hX, hbl, hlocks, hgv⟩ := C0
  obtain ⟨D, aC, hK⟩ := KN_start hts
  obtain ⟨X, e1, e2, e3, hE⟩ := EX_start hts (flat_of_before _ hgv) hX hbl
  have hC : CX m_l_law p s m #[Value.ref b] meth c X D aC (s.heap.size - 1) := ⟨hx, hb, hml, hr, hlocks, hown, fun hn => absurd hn (by decide), fun w hw => hts w (WT_in hw), hK, hE⟩
  have hR : RH X D aC (s.heap.size - 1) [(99, 0)] 1 (fun _ _ => none) (fun a j => if a = 0 then xs j else 0) (fun _ _ => 0) s.heap := by
    refine ⟨by omega, rfl, rfl, fun a ro n ha hro => ?_, fun a k q hq => ?_, fun a n i q ha hq => ?_, fun j hj => ?_⟩
    · cases a with
      | zero => cases ha; omega
      | succ a => cases ha
    · cases hq
    · cases hq
    · rw [e3]; rfl
  have hLV := lvs_entry (X := X) (B := s.heap.size - 1) (sh := [(99, 0)]) hE.fm (as := [vR 104 L 0]) (n := 7) (Nat.le_of_ble_eq_true rfl) (fun v hv => by
    rw [List.mem_singleton.mp hv]
    exact e2.symm)
  have hcv : [vR 104 L 0].map (cv X (s.heap.size - 1)) = [Value.ref b] := by
    show [cq X (s.heap.size - 1) (104, L, 0)] = _
    unfold cq
    simp [e1]
  have h := LAW L (fun a j => if a = 0 then xs j else 0) hL l p e s m #[Value.ref b] below meth c s.heap [] 0 0 601024 7293034 _ X D aC (s.heap.size - 1) [(99, 0)] [(99, 0)] hflags hC hR (List.prefix_refl _) (fun v hv => by cases hv) hLV va_S.rf (by omega) (by omega)
  rw [hcv] at h
  rw [lg_entry_eq]
  intro T hT Xs
  obtain ⟨t, a1, o, b1, b2, ⟨⟨r, c', mr', mi', ml', sh', q1, q2, -⟩, -⟩, L', hF, hL'⟩ := h T hT Xs
  refine ⟨t, a1, o, b1, b2, ?_, forgetF hF (fun q hq => by have := hL' q hq; omega)⟩
  rw [q1, q2]; rfl
