/-! ===== one run, told twice ===== -/
theorem Met.two {l : Launch} {y : MethodName} {ws : List Cond} {rm : Room} {Pc : Array Value → State → Prop} {Q1 Q2 : Array Value → State → Outcome → State → Prop} {mc ms : Nat} {free : Addr → Prop} (h1 : Met l y ws rm Pc Q1 mc ms free) (h2 : Met l y ws rm Pc Q2 mc ms free) : Met l y ws rm Pc (fun a s o t => Q1 a s o t ∧ Q2 a s o t) mc ms free := by
  intro p e ha hc hk s m args below hf happ hP hK
  obtain ⟨n, o, w1, r1, e1, q1, L, f1⟩ := h1 p e ha hc hk s m args below hf happ hP hK
  obtain ⟨n2, o2, w2, r2, e2, q2, -⟩ := h2 p e ha hc hk s m args below hf happ hP hK
  obtain ⟨en, eo⟩ := the_end_unique (f := fun k => stepsAlone p.tables e k s) w1 e1 w2 e2
  subst en
  subst eo
  exact ⟨n, o, w1, r1, e1, ⟨q1, q2⟩, L, f1⟩
/-- two tellings of one cell have the same numbers -/
def agC (ro n a : Nat) (mi mi2 : MI) (ml ml2 : ML) : Prop :=
  (ro = 0 → ∀ k, k < n → mi a k = mi2 a k) ∧ (ro = 1 → ∀ k, k < n → ml a k = ml2 a k) ∧ (∀ ci, ro = ci + 10 → ∀ k, k < clN ci → ((fk ci k = 0 ∨ fk ci k = 3) → mi a k = mi2 a k) ∧ (fk ci k = 1 → ml a k = ml2 a k))
theorem arrV_inj {c : ClassId} {n : Nat} {f g : Nat → Value} (h : arrV c n f = arrV c n g) : ∀ k, k < n → f k = g k := by
  intro k hk
  have h1 : (arrV c n f).slots[k]? = (arrV c n g).slots[k]? := by rw [h]
  simpa [arrV, hk] using h1
theorem vpV_map {g : Nat → Value} {N k : Nat} (h : k < N) : vp_V ((List.range N).map g) k = g k := by
  unfold vp_V
  simp [List.getD_eq_getElem?_getD, h]
theorem agC_of {X : XT} {D : va_G} {aC : AC} {B : Nat} {mr mr2 : MR} {mi mi2 : MI} {ml ml2 : ML} {a ro n : Nat} {H : Heap} (h1 : va_at D clT (B + a, cE X B aC mr mi ml a ro n) H) (h2 : va_at D clT (B + a, cE X B aC mr2 mi2 ml2 a ro n) H) : agC ro n a mi mi2 ml ml2 := by
  refine ⟨fun e => ?_, fun e => ?_, fun ci e k hk => ?_⟩
  · subst e
    have a1 : H[B + a]? = some (vp_cell aC.1 (n, .inl (mi a))) := h1
    have a2 : H[B + a]? = some (vp_cell aC.1 (n, .inl (mi2 a))) := h2
    have e := Option.some.inj (a1.symm.trans a2)
    rw [vp_cell_i, vp_cell_i] at e
    intro k hk
    exact Value.int.inj (arrV_inj e k hk)
  · subst e
    have a1 : H[B + a]? = some (vp_cell aC.2.1 (n, .inr (.inl (ml a)))) := h1
    have a2 : H[B + a]? = some (vp_cell aC.2.1 (n, .inr (.inl (ml2 a)))) := h2
    have e := Option.some.inj (a1.symm.trans a2)
    rw [vp_cell_l, vp_cell_l] at e
    intro k hk
    exact Value.long.inj (arrV_inj e k hk)
  · subst e
    rw [cE_obj] at h1 h2
    obtain ⟨r, c1, cell, d1, -, -, v1⟩ := h1
    obtain ⟨r', c1', cell', d1', -, -, v1'⟩ := h2
    have er : r = r' := Option.some.inj (c1.symm.trans c1')
    subst er
    have ec : cell = cell' := Option.some.inj (d1.symm.trans d1')
    subst ec
    obtain ⟨C, T, N⟩ := r
    have hN : N = clN ci := (clOK_of c1).2.2.2.2.1
    have hkN : k < N := by omega
    have e1 := v1 k hkN
    have e2 := v1' k hkN
    have e3 := Option.some.inj (e1.symm.trans e2)
    rw [vpV_map hk, vpV_map hk] at e3
    unfold fv at e3
    refine ⟨fun z => ?_, fun z => ?_⟩
    · rcases z with z | z <;> rw [z] at e3 <;> exact Value.int.inj e3
    · rw [z] at e3; exact Value.long.inj e3
def isN : AV → Bool
  | .inr (.inr _) => false
  | _ => true
theorem isV_N {y : Nat} : ∀ v : AV, isV y v = true → isN v = true
  | .inl _, _ => rfl
  | .inr (.inl _), _ => rfl
  | .inr (.inr _), h => by
    unfold isV at h
    split at h <;> cases h
theorem isN_eq {X : XT} {B : Nat} : ∀ v w : AV, isN v = true → isN w = true → cv X B v = cv X B w → v = w
  | .inl x, .inl y, _, _, h => by rw [Value.int.inj h]
  | .inl _, .inr (.inl _), _, _, h => by cases h
  | .inr (.inl _), .inl _, _, _, h => by cases h
  | .inr (.inl x), .inr (.inl y), _, _, h => by rw [Value.long.inj h]
  | .inr (.inr _), _, h, _, _ => by cases h
  | .inl _, .inr (.inr _), _, h, _ => by cases h
  | .inr (.inl _), .inr (.inr _), _, h, _ => by cases h
theorem pre_get {α : Type} {l l' : List α} (h : l <+: l') {i : Nat} {x : α} (hx : l[i]? = some x) : l'[i]? = some x := by
  obtain ⟨z, rfl⟩ := h
  rw [List.getElem?_append_left (List.getElem?_eq_some_iff.mp hx).1]
  exact hx
theorem Ok.two {y mc ms : Nat} {as : List AV} {Q1 Q2 : Option AV → HP} {c : Nat} {mr : MR} {mi : MI} {ml : ML} (h1 : Ok y mc ms as Q1 c mr mi ml) (h2 : Ok y mc ms as Q2 c mr mi ml) :
    Ok y mc ms as (fun r c' mr' mi' ml' => Q1 r c' mr' mi' ml' ∧ ∃ (r2 : Option AV) (c2 : Nat) (mr2 : MR) (mi2 : MI) (ml2 : ML), Q2 r2 c2 mr2 mi2 ml2 ∧ (∀ v w, r = some v → r2 = some w → isN v = true → isN w = true → v = w) ∧ ∀ ro n a, (vR ro n a ∈ as ∨ ∃ a' k, mr a' k = some (ro, n, a)) → ro < 20 → agC ro n a mi' mi2 ml' ml2) c mr mi ml := by
  intro l X D aC B sh hfl
  have hm := Met.two (h1 l X D aC B sh hfl) (h2 l X D aC B sh hfl)
  refine MetFree.mono hm (fun _ _ z => z) (fun _ _ _ _ _ z => z) (fun av st o t hP hq => ?_)
  obtain ⟨⟨⟨⟨r, c1, mr1, mi1, ml1, sh1, o1, q1, R1, p1, v1⟩, F1⟩, ⟨⟨r2, c2, mr2, mi2, ml2, sh2, o2, q2, R2, p2, v2⟩, F2⟩⟩, G⟩ := hq
  refine ⟨⟨⟨r, c1, mr1, mi1, ml1, sh1, o1, ⟨q1, r2, c2, mr2, mi2, ml2, q2, ?_, ?_⟩, R1, p1, v1⟩, F1⟩, G⟩
  · intro v w hv hw nv nw
    have e := Outcome.returned.inj (o1.symm.trans o2)
    rw [hv, hw] at e
    exact isN_eq v w nv nw (Option.some.inj e)
  · intro ro n a ha hro
    have hq : okq X sh (ro, n, a) := by
      rcases ha with h | ⟨a', k, h⟩
      · exact hP.2.2.1 _ h
      · exact hP.2.1.2.2.2.2.1 a' k _ h
    have hsh : sh[a]? = some (ro, n) := by
      unfold okq at hq
      rw [if_pos (show ro < 100 by omega)] at hq
      exact hq
    exact agC_of (R1.2.2.2.1 a ro n (pre_get p1 hsh) hro) (R2.2.2.2.1 a ro n (pre_get p2 hsh) hro)
theorem WF.tl {σ : SG} (h : WF σ) : 0 ≤ σ 0 4 ∧ σ 0 4 ≤ 800 := h.2.2.2.2.2.2.2.1
theorem WF.tb {σ : SG} (h : WF σ) : ∀ k, 0 ≤ σ 8 k ∧ σ 8 k ≤ 255 := h.2.2.2.2.2.2.2.2.2.2.2.2.2
section
variable {nb db b : Nat} {by_ rs : RX} {c : Nat} {σ σ' : SG} {m m2 mj mj2 : MI} {l l2 mk : ML} {as : List AV}
theorem FC.of (hbb : nb = 43 ∨ nb = 5) (F : FC σ nb m2 l2) (e1 : ∀ k, k = 8 ∨ k = 9 ∨ k = 10 ∨ k = 11 → m 1 k = m2 1 k) (e2 : m 2 1 = m2 2 1) (e3 : ∀ k, k < 800 → m 3 k = m2 3 k) (e11 : ∀ k, k < 4 → m 11 k = m2 11 k) (e114 : l 11 4 = l2 11 4) (e12 : ∀ k, k < 20 → m 12 k = m2 12 k) (e13 : ∀ k, k < 20 → m 13 k = m2 13 k) (e14 : ∀ k, k < 31 → m 14 k = m2 14 k) (e15 : ∀ k, k < 31 → m 15 k = m2 15 k) (e16 : ∀ k, k < 31 → l 16 k = l2 16 k) (e39 : m 39 0 = m2 39 0) (e40 : ∀ k, k < 10 → m 40 k = m2 40 k) (e41 : ∀ k, k < 10 → m 41 k = m2 41 k) (e42 : ∀ k, k < 10 → m 42 k = m2 42 k) (b0 : ∀ k, k < 8 → m nb k = m2 nb k) (b1 : ∀ k, k < 31 → m (nb + 1) k = m2 (nb + 1) k) (b2 : ∀ k, k < 31 → m (nb + 2) k = m2 (nb + 2) k) (b3 : ∀ k, k < 31 → m (nb + 3) k = m2 (nb + 3) k) (b4 : ∀ k, k < 12 → m (nb + 4) k = m2 (nb + 4) k) : FC σ nb m l := by
  obtain ⟨⟨hW, ⟨a1, a2, a3, a4, a5, a6, a7, a8, a9, a10, a11⟩, hB⟩, hL, hl, hN, hA, hR⟩ := F
  have hnn := hW.nn
  have htl := hW.tl
  have hlg := hW.lg
  have hac := hW.ac
  have hms := hW.ms
  refine ⟨⟨hW, ⟨?_, ?_, ?_, fun e => ?_, ?_, fun k hk => ?_, ?_, ?_, ?_, ?_, ?_⟩, fun hr => ?_⟩, hL, fun i hi => ?_, fun h12 => ?_, hA, fun i hi => ?_⟩
  · rw [e1 8 (by omega)]; exact a1
  · rw [e1 9 (by omega)]; exact a2
  · rw [e1 10 (by omega)]; exact a3
  · rw [e1 11 (by omega)]; exact a4 e
  · rw [e2]; exact a5
  · rw [e3 k (by omega)]; exact a6 k hk
  · rw [e11 0 (by omega)]; exact a7
  · rw [e11 1 (by omega)]; exact a8
  · rw [e11 2 (by omega)]; exact a9
  · rw [e11 3 (by omega)]; exact a10
  · rw [e39]; exact a11
  · obtain ⟨q0, q1, q2, q3, q4, q5, q6, q7, q8, q9, q10, q11⟩ := hB hr
    refine ⟨?_, ?_, ?_, ?_, ?_, ?_, ?_, ?_, fun i hi => ?_, fun i hi => ?_, fun i hi => ?_, fun i hi => ?_⟩
    · rw [b0 0 (by omega)]; exact q0
    · rw [b0 1 (by omega)]; exact q1
    · rw [b0 2 (by omega)]; exact q2
    · rw [b0 3 (by omega)]; exact q3
    · rw [b0 4 (by omega)]; exact q4
    · rw [b0 5 (by omega)]; exact q5
    · rw [b0 6 (by omega)]; exact q6
    · rw [b0 7 (by omega)]; exact q7
    · rw [b1 i (by omega)]; exact q8 i hi
    · rw [b2 i (by omega)]; exact q9 i hi
    · rw [b3 i (by omega)]; exact q10 i hi
    · rw [b4 i (by omega)]; exact q11 i hi
  · rw [e12 i (by omega), e13 i (by omega)]; exact hl i hi
  · obtain ⟨n1, n2, n3⟩ := hN h12
    exact ⟨fun k hk hz => by rw [e14 k (by omega)]; exact n1 k hk hz, fun k hk hz => by rw [e15 k (by omega)]; exact n2 k hk hz, fun hz => ⟨by rw [e114]; exact (n3 hz).1, fun k hk => by rw [e16 k (by omega)]; exact (n3 hz).2 k hk⟩⟩
  · rw [e40 i (by omega), e41 i (by omega), e42 i (by omega)]; exact hR i hi
theorem FC.fr (hbb : nb = 43 ∨ nb = 5) (F : FC σ nb m2 l2) (e : ∀ a, a < 48 → m a = m2 a) (e' : ∀ a, a < 48 → l a = l2 a) : FC σ nb m l :=
  FC.of hbb F (fun k _ => by rw [e 1 (by decide)]) (by rw [e 2 (by decide)]) (fun k _ => by rw [e 3 (by decide)]) (fun k _ => by rw [e 11 (by decide)]) (by rw [e' 11 (by decide)]) (fun k _ => by rw [e 12 (by decide)]) (fun k _ => by rw [e 13 (by decide)]) (fun k _ => by rw [e 14 (by decide)]) (fun k _ => by rw [e 15 (by decide)]) (fun k _ => by rw [e' 16 (by decide)]) (by rw [e 39 (by decide)]) (fun k _ => by rw [e 40 (by decide)]) (fun k _ => by rw [e 41 (by decide)]) (fun k _ => by rw [e 42 (by decide)]) (fun k _ => by rw [e nb (by omega)]) (fun k _ => by rw [e (nb + 1) (by omega)]) (fun k _ => by rw [e (nb + 2) (by omega)]) (fun k _ => by rw [e (nb + 3) (by omega)]) (fun k _ => by rw [e (nb + 4) (by omega)])
theorem FC.ag (hb : nb = 43 ∧ db = 5 ∨ nb = 5 ∧ db = 43) (F : FC σ nb m2 l2) (G : ∀ ro n a, (vR ro n a ∈ vR 10 0 1 :: as ∨ ∃ a' k, MRc nb db by_ rs a' k = some (ro, n, a)) → ro < 20 → agC ro n a m m2 l l2) : FC σ nb m l := by
  have g1 := (G 10 0 1 (Or.inl List.mem_cons_self) (by decide)).2.2 0 rfl
  have g2 := (G 11 0 2 (Or.inr ⟨1, 0, rfl⟩) (by decide)).2.2 1 rfl
  have g3 := (G 0 800 3 (Or.inr ⟨2, 0, rfl⟩) (by decide)).1 rfl
  have g11 := (G 14 0 11 (Or.inr ⟨1, 2, rfl⟩) (by decide)).2.2 4 rfl
  have g12 := (G 0 20 12 (Or.inr ⟨11, 5, rfl⟩) (by decide)).1 rfl
  have g13 := (G 0 20 13 (Or.inr ⟨11, 6, rfl⟩) (by decide)).1 rfl
  have g14 := (G 0 31 14 (Or.inr ⟨11, 7, rfl⟩) (by decide)).1 rfl
  have g15 := (G 0 31 15 (Or.inr ⟨11, 8, rfl⟩) (by decide)).1 rfl
  have g16 := (G 1 31 16 (Or.inr ⟨11, 9, rfl⟩) (by decide)).2.1 rfl
  have g39 := (G 18 0 39 (Or.inr ⟨1, 6, rfl⟩) (by decide)).2.2 8 rfl
  have g40 := (G 0 10 40 (Or.inr ⟨39, 1, rfl⟩) (by decide)).1 rfl
  have g41 := (G 0 10 41 (Or.inr ⟨39, 2, rfl⟩) (by decide)).1 rfl
  have g42 := (G 0 10 42 (Or.inr ⟨39, 3, rfl⟩) (by decide)).1 rfl
  have gb := (G 13 0 nb (Or.inr ⟨1, 7, rfl⟩) (by decide)).2.2 3 rfl
  have gb1 : agC 0 31 (nb + 1) m m2 l l2 := by rcases hb with ⟨rfl, rfl⟩ | ⟨rfl, rfl⟩; exact G 0 31 44 (Or.inr ⟨43, 8, rfl⟩) (by decide); exact G 0 31 6 (Or.inr ⟨5, 8, rfl⟩) (by decide)
  have gb2 : agC 0 31 (nb + 2) m m2 l l2 := by rcases hb with ⟨rfl, rfl⟩ | ⟨rfl, rfl⟩; exact G 0 31 45 (Or.inr ⟨43, 9, rfl⟩) (by decide); exact G 0 31 7 (Or.inr ⟨5, 9, rfl⟩) (by decide)
  have gb3 : agC 0 31 (nb + 3) m m2 l l2 := by rcases hb with ⟨rfl, rfl⟩ | ⟨rfl, rfl⟩; exact G 0 31 46 (Or.inr ⟨43, 10, rfl⟩) (by decide); exact G 0 31 8 (Or.inr ⟨5, 10, rfl⟩) (by decide)
  have gb4 : agC 0 12 (nb + 4) m m2 l l2 := by rcases hb with ⟨rfl, rfl⟩ | ⟨rfl, rfl⟩; exact G 0 12 47 (Or.inr ⟨43, 11, rfl⟩) (by decide); exact G 0 12 9 (Or.inr ⟨5, 11, rfl⟩) (by decide)
  have f3 : ∀ k, k < 8 → fk 3 k = 0 := by decide
  have c3 : clN 3 = 12 := rfl
  refine FC.of (hbb_of hb) F (fun k hk => ?_) ((g2 1 (by decide)).1 (Or.inl rfl)) g3 (fun k hk => ?_) ((g11 4 (by decide)).2 rfl) g12 g13 g14 g15 g16 ((g39 0 (by decide)).1 (Or.inl rfl)) g40 g41 g42 (fun k hk => (gb k (by omega)).1 (Or.inl (f3 k hk))) (gb1.1 rfl) (gb2.1 rfl) (gb3.1 rfl) (gb4.1 rfl)
  · rcases hk with rfl | rfl | rfl | rfl
    · exact (g1 8 (by decide)).1 (Or.inr rfl)
    · exact (g1 9 (by decide)).1 (Or.inl rfl)
    · exact (g1 10 (by decide)).1 (Or.inl rfl)
    · exact (g1 11 (by decide)).1 (Or.inl rfl)
  · have h4 : ∀ k, k < 4 → k < clN 4 ∧ (fk 4 k = 0 ∨ fk 4 k = 3) := by decide
    exact (g11 k (h4 k hk).1).1 (h4 k hk).2
theorem FR.fr (R : FR σ mj) (e : ∀ a, 48 ≤ a → mj2 a = mj a) : FR σ mj2 := by
  obtain ⟨⟨hW, ⟨a1, a2, a3, a4, a5, a6, a7, a8, a9, a10, a11, a12, a13, a14, a15⟩, hB⟩, hl, hN, hP⟩ := R
  have e48 := e 48 (by decide)
  refine ⟨⟨hW, ⟨by rw [e48]; exact a1, by rw [e48]; exact a2, by rw [e48]; exact a3, by rw [e48]; exact a4, by rw [e48]; exact a5, by rw [e48]; exact a6, by rw [e48]; exact a7, by rw [e48]; exact a8, by rw [e48]; exact a9, by rw [e48]; exact a10, by rw [e48]; exact a11, by rw [e48]; exact a12, fun k hk => by rw [e 57 (by decide)]; exact a13 k hk, fun hr => by rw [e48]; exact a14 hr, by rw [e 54 (by decide)]; exact a15⟩, hB.eq (fun a ha => e a (by omega))⟩, fun i hi => by rw [e 58 (by decide), e 59 (by decide)]; exact hl i hi, fun h k hk hz => by rw [e 60 (by decide)]; exact hN h k hk hz, fun d d0 hd k hk hr => by rw [e 56 (by decide)]; exact hP d d0 hd k hk hr⟩
/-- class, then reference, in one memory -/
def PairQ (yw yr : Nat) (as : List AV) (nb db : Nat) (by_ rs : RX) (σ : SG) (c : Nat) (m : MI) (l : ML) : Option AV → HP := fun r c' mr' m' l' =>
  c' = c ∧ mr' = MRc nb db by_ rs ∧ m' 0 = m 0 ∧ ∃ (v : AV) (σ' : SG) (mj : MI) (mk : ML), isV yw v = true ∧ r = some v ∧ Ret yr (vR 19 0 48 :: as) (some v) c (MRc nb db by_ rs) m' l' mj mk ∧ FC σ' nb mj mk ∧ FR σ' mj ∧ (σ' 4 = σ 4 ∧ σ' 0 9 = σ 0 9 ∧ σ' 0 5 = σ 0 5 ∧ σ' 0 0 = σ 0 0 ∧ σ' 0 6 = σ 0 6)
    ∧ (∀ a, (a = 0 ∨ (19 ≤ a ∧ a ≤ 38) ∨ 65 < a) → mj a = m a) ∧ ∀ a, (17 ≤ a ∧ a < 48 ∨ 65 < a) → mk a = l a
theorem Pair.of {yw yr : Nat} (hb : nb = 43 ∧ db = 5 ∨ nb = 5 ∧ db = 43) (R : FR σ m) (V : ∀ (mj : MI) (mk : ML), FR σ mj → Adv yw yr as nb db by_ rs σ m l mj mk) (c : Nat) : Ok yw 0 0 (vR 10 0 1 :: as) (PairQ yw yr as nb db by_ rs σ c m l) c (MRc nb db by_ rs) m l := by
  obtain ⟨v0, σ0, m0, l0, mj0, mk0, a1, -, -, -, -, a2, a3, a4, -, -, n0⟩ := V m l R c
  have R0 : FR σ m0 := R.fr (fun a ha => a3 a (Or.inr ha))
  obtain ⟨v1, σ1, m1, l1, mj1, mk1, b1, b2, b3, b4, b5, -, -, -, b6, b7, n1⟩ := V m0 l0 R0 c
  have T := Ok.two (a1 (fun r c' mr' m' l' => r = some v0 ∧ c' = c ∧ mr' = MRc nb db by_ rs ∧ m' = m0 ∧ l' = l0) ⟨rfl, rfl, rfl, rfl, rfl⟩) (b1 (fun r c' mr' m' l' => r = some v1 ∧ c' = c ∧ mr' = MRc nb db by_ rs ∧ m' = m1 ∧ l' = l1) ⟨rfl, rfl, rfl, rfl, rfl⟩)
  refine T.mono (fun r c' mr' m' l' h => ?_)
  obtain ⟨⟨er, ec, em, e1, e2⟩, r2, c2, mr2, m2, l2, ⟨er2, -, -, e3, e4⟩, hv, hag⟩ := h
  rw [e1, e2, e3, e4] at hag
  have ev := hv v0 v1 er er2 (isV_N v0 n0) (isV_N v1 n1)
  have FC0 : FC σ1 nb m0 l0 := FC.ag hb b3 hag
  refine ⟨ec, em, by rw [e1]; exact a3 0 (Or.inl rfl), v0, σ1, mj1, mk1, n0, er, by rw [e1, e2, ev]; exact b2, FC0.fr (hbb_of hb) (fun a ha => b6 a (Or.inl ha)) (fun a ha => b7 a (Or.inl ha)), b4, b5, fun a ha => ?_, fun a ha => ?_⟩
  · rw [b6 a (by omega)]
    rcases ha with h | h | h
    · exact a3 a (Or.inl h)
    · exact a2 a h.1 h.2
    · exact a3 a (Or.inr (by omega))
  · rw [b7 a (by omega)]
    exact a4 a (by omega)
end
