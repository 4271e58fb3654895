/-! ===== instructions on the heap ===== -/
theorem clOK_of {ci : Nat} {C : String} {T : u_T} {N : Nat} (h : clT[ci]? = some (C, T, N)) : ci < 10 ∧ (∀ w ∈ u_ws C T N, w ∈ WT) ∧ Cond.instantiable C N ∈ WT ∧ Cond.initialized C ∈ WT ∧ N = clN ci ∧ (∀ k, k < N → ftOK (fk ci k) (T k).2.2.1 = true) ∧ (∀ a, a < N → ∀ b, b < N → a ≠ b → (T a).2.1 ≠ (T b).2.1) := by
  have hci : ci < 10 := (List.getElem?_eq_some_iff.mp h).1
  have h1 := List.all_eq_true.mp clOK_all ci (List.mem_range.mpr hci)
  unfold clOK at h1
  rw [h] at h1
  simp only [Bool.and_eq_true, List.all_eq_true, decide_eq_true_eq, List.mem_range, Bool.or_eq_true, Nat.beq_eq_true_eq] at h1
  obtain ⟨⟨⟨⟨⟨⟨⟨h1, h2⟩, h3⟩, h4⟩, h5⟩, h6⟩, h7⟩, h8⟩ := h1
  refine ⟨hci, fun w hw => List.mem_filter.mpr (h1 w hw), List.mem_filter.mpr ⟨h2, h3⟩, List.mem_filter.mpr ⟨h4, h5⟩, Nat.eq_of_beq_eq_true h6, h7, fun a ha b hb hab => ?_⟩
  rcases h8 a ha b hb with e | e
  · exact absurd (Nat.eq_of_beq_eq_true e) hab
  · exact e
theorem ftOK_some {kd : Nat} {d : String} (h : ftOK kd d = true) : ∃ ty, parseFieldDescriptor d = some ty ∧ ((kd = 0 ∧ ty = .int) ∨ (kd = 1 ∧ ty = .long) ∨ (kd = 3 ∧ ty = .boolean) ∨ (kd = 2 ∧ ty.isReference = true)) := by
  unfold ftOK at h
  split at h
  · rename_i e; exact ⟨_, e, Or.inl ⟨rfl, rfl⟩⟩
  · rename_i e; exact ⟨_, e, Or.inr (Or.inl ⟨rfl, rfl⟩)⟩
  · rename_i e; exact ⟨_, e, Or.inr (Or.inr (Or.inl ⟨rfl, rfl⟩))⟩
  · rename_i ty e; exact ⟨ty, e, Or.inr (Or.inr (Or.inr ⟨rfl, h⟩))⟩
  · cases h
def tyF (T : u_T) (k : Nat) : FieldType := (parseFieldDescriptor (T k).2.2.1).getD .int
theorem tyF_ok {ci : Nat} {C : String} {T : u_T} {N : Nat} (h : clT[ci]? = some (C, T, N)) : ∀ k, k < N → parseFieldDescriptor (T k).2.2.1 = some (tyF T k) := by
  intro k hk
  obtain ⟨ty, e, -⟩ := ftOK_some ((clOK_of h).2.2.2.2.2.1 k hk)
  unfold tyF
  rw [e]; rfl
theorem cE_obj {X : XT} {B : Nat} {aC : AC} {mr : MR} {mi : MI} {ml : ML} {a x1 n : Nat} : cE X B aC mr mi ml a (x1 + 10) n = .inr (x1, (List.range (clN x1)).map (fv X B mr mi ml a x1)) := by
  unfold cE
  rw [if_neg (by omega), if_neg (by omega), if_neg (by omega), if_neg (by omega), Nat.add_sub_cancel]
theorem at_getf {y pc : Nat} {ls : eLS} {t : List AV} {k s : Nat} {Q : FT} {c : Nat} {mr : MR} {mi : MI} {ml : ML} {idx x1 x2 n a : Nat} {C : String} {T : u_T} {N : Nat} {v : AV} (hd : decode (mCd y) pc = .ok (.getfield idx, 3)) (hc : clT[x1]? = some (C, T, N)) (hx : x2 < N) (hw : Cond.fieldLink (mNm y).cls idx C (T x2).2.1 (T x2).2.2.1 ∈ WT) (hdc : (T x2).1 = C)
    (hv : (fk x1 x2 = 0 ∧ v = .inl (mi a x2)) ∨ (fk x1 x2 = 1 ∧ v = .inr (.inl (ml a x2))) ∨ (fk x1 x2 = 2 ∧ v = .inr (.inr (mr a x2))) ∨ (fk x1 x2 = 3 ∧ v = .inl (mi a x2)))
    (K : At y (pc + 3) ls (v :: t) k s Q c mr mi ml) : At y pc ls (.inr (.inr (some (x1 + 10, n, a))) :: t) k s Q c mr mi ml := by
  intro l p e S m args below meth cd H locs cells slots mc ms lsC X D aC B sh0 sh hfl hC hR hsh hst hL hS hc1 hs1
  obtain ⟨h10, hin, -, -, hN, -, -⟩ := clOK_of hc
  have hq : okq X sh (x1 + 10, n, a) := hst _ List.mem_cons_self
  obtain ⟨-, hP⟩ := hR.cell hq (by omega)
  rw [cE_obj] at hP
  have hfv : ((List.range (clN x1)).map (fv X B mr mi ml a x1))[x2]? = some (cv X B v) := by
    rw [List.getElem?_map, List.getElem?_range (by omega)]
    show some (fv X B mr mi ml a x1 x2) = _
    unfold fv
    rcases hv with ⟨e, rfl⟩ | ⟨e, rfl⟩ | ⟨e, rfl⟩ | ⟨e, rfl⟩ <;> rw [e] <;> rfl
  have hok : okv X sh v := by
    rcases hv with ⟨-, rfl⟩ | ⟨-, rfl⟩ | ⟨-, rfl⟩ | ⟨-, rfl⟩
    · trivial
    · trivial
    · show okv X sh (.inr (.inr (mr a x2)))
      cases e : mr a x2 with
      | none => trivial
      | some q => exact hR.2.2.2.2.1 a x2 q e
    · trivial
  have hcq : cv X B (.inr (.inr (some (x1 + 10, n, a)))) = .ref (B + a) := cq_in (by omega)
  show W p l e (rmm y mc ms) S m args below meth cd H locs cells slots _ (F0 m pc lsC (cv X B (.inr (.inr (some (x1 + 10, n, a)))) :: t.map (cv X B)))
  rw [hcq]
  exact va_get hC.1 hC.2.1 (Ts := WT) hC.wds hin hC.own hC.kn hP 0 rfl hc x2 hx (hC.wds _ hw) (by rw [hdc]; exact fun x h => h) hfv hd (K l p e S m args below meth cd H locs cells slots mc ms lsC X D aC B sh0 sh hfl hC hR hsh (cn_ok hok (tl_ok hst)) hL hS hc1 hs1)
section PUT
variable {p : Program} {l : Launch} {e : Env} {R : Room} {s : State} {m : MethodId} {args : Array Value} {below : List Frame} {meth : Method} {c : Code} {H : Heap} {locs : List Loc} {cells slots : Nat} {Q : State → Prop}
theorem putX {cc : ByteArray} {pc : Nat} {ls : Array Slot} {rest : List Value} {D : va_G} {cl : List vw_C} {a : Nat} {tys : List (ClassId × FieldType)} (hexec : p.tables.exec = Jvm.exec) (hb : c.code = cc) {own ref C : String} {T : u_T} {N ci index : Nat} {Ts : List Cond} (hts : ∀ w ∈ Ts, w.before args s = true) (hin : ∀ w ∈ u_ws C T N, w ∈ Ts) (ty0 : Nat → FieldType) (hty : ∀ k, k < N → parseFieldDescriptor (T k).2.2.1 = some (ty0 k)) (hnm : ∀ a, a < N → ∀ b, b < N → a ≠ b → (T a).2.1 ≠ (T b).2.1) (hown : s.vm.findClass own = some m.cls) (hK : va_K D cl tys s) {fs : List Value} (hat : va_at D cl (a, .inr (ci, fs)) H) (hc : cl[ci]? = some (C, T, N)) (k : Nat) (hk : k < N) (hlink : (Cond.fieldLink own index ref (T k).2.1 (T k).2.2.1).before args s = true)
    (hsame : ∀ x, s.fieldFound? (T k).1 (T k).2.1 (T k).2.2.1 = some x → s.fieldFound? ref (T k).2.1 (T k).2.2.1 = some x) (hfin : (T k).2.2.2 = true → meth.name = "<init>" ∧ (T k).1 = own) {ty : FieldType} {v : Value} (hd : parseFieldDescriptor (T k).2.2.1 = some ty) (hn : narrow ty v = v) (hfit : fits ty v = true) (hl : k < fs.length) (hdg : decode cc pc = .ok (.putfield index, 3))
    (kk : ∀ (H1 : Heap) (z : Nat), va_at D cl (a, .inr (ci, fs.set k v)) H1 → H1.size = H.size → (∀ q : Nat, q ≠ a → H1[q]? = H[q]?) → W p l e R s m args below meth c H1 (locs ++ [⟨a, z⟩]) cells slots Q (F0 m (pc + 3) ls rest)) : W p l e R s m args below meth c H locs cells slots Q (F0 m pc ls (v :: .ref a :: rest)) := by
  have hap := va_apart (own := own) hts hin ty0 hty hnm hK hc
  obtain ⟨r, h1, cell, q1, q2, q3, q4⟩ := hat
  have hr : r = (C, T, N) := Option.some.inj (h1.symm.trans hc)
  subst hr
  obtain ⟨hS, hfc, kC, hkC, hkind⟩ := hK.1 ci _ hc
  obtain ⟨cf, kf, fi, f, hi, hsl⟩ := hS k hk
  have hlay := hts _ (hin _ (u_in_lay hk))
  unfold u_lay at hlay
  have hst := (u_facts hfc hkC (u_lays hts hin hk) hi).1
  by_cases hf : (T k).2.2.2 = true
  · obtain ⟨hin2, hdecl⟩ := hfin hf
    rw [if_pos hf] at hlay
    have hcf : m.cls = cf := by
      obtain ⟨_, _, c', _, _, _, -, -, hf', -, -, -, hown2, -⟩ := Cond.laysFinal_spec hlay
      have e1 : c' = cf := by have := hi.symm.trans hf'; simp at this; exact this.1.symm
      rw [hdecl] at hown2
      rw [← e1]; exact Option.some.inj (hown.symm.trans hown2)
    have h6 := u_fits hfc hkC hkind (Or.inr hlay) hi hd hn hfit
    refine W.putFinK hexec hb hown hlink (hsame _ hi) hst hcf hin2 (by rw [q2]; exact h6) q1 q3 (by rw [hsl]; exact k2_hasslot (q4 k hk)) rfl rfl hdg fun H' e1 e2 e3 => ?_
    rw [hsl] at e1 ⊢
    exact kk H' _ ⟨_, hc, t_OB.to (V := updV (vp_V fs) k v) ⟨_, e1, q2, q3, t_set q4 hap hk v⟩ (fun j _ => vp_updV_set hl v j)⟩ e2 e3
  · rw [if_neg hf] at hlay
    have h6 := u_store hfc hkC hkind hlay hi hd hn hfit
    refine W.putK hexec hb (f := f) ⟨hown, hlink, ⟨_, _, _, hsame _ hi⟩, hst⟩ (by rw [q2]; exact h6) q1 q3 (by rw [hsl]; exact k2_hasslot (q4 k hk)) rfl rfl hdg fun H' e1 e2 e3 => ?_
    rw [hsl] at e1 ⊢
    exact kk H' _ ⟨_, hc, t_OB.to (V := updV (vp_V fs) k v) ⟨_, e1, q2, q3, t_set q4 hap hk v⟩ (fun j _ => vp_updV_set hl v j)⟩ e2 e3
end PUT
theorem map_set {α : Type} {f g : Nat → α} {n x : Nat} {w : α} (h1 : g x = w) (h2 : ∀ j, j ≠ x → g j = f j) : (List.range n).map g = ((List.range n).map f).set x w := by
  apply List.ext_getElem?
  intro j
  rw [List.getElem?_set, List.getElem?_map, List.getElem?_map, List.length_map, List.length_range]
  by_cases hj : j < n
  · rw [List.getElem?_range hj]
    by_cases e : x = j
    · subst e; rw [if_pos rfl, if_pos hj]; show some (g x) = _; rw [h1]
    · rw [if_neg e]; show some (g j) = some (f j); rw [h2 j (fun z => e z.symm)]
  · have e1 : (List.range n)[j]? = none := by rw [List.getElem?_eq_none_iff, List.length_range]; omega
    rw [e1]
    by_cases e : x = j
    · subst e; rw [if_pos rfl, if_neg hj]; rfl
    · rw [if_neg e]; rfl
theorem u2_s {α : Type} (f : Nat → Nat → α) (a k : Nat) (v : α) : u2 f a k v a k = v := by simp [u2]
theorem u2_k {α : Type} (f : Nat → Nat → α) (a : Nat) {k j : Nat} (v : α) (h : j ≠ k) : u2 f a k v a j = f a j := by simp [u2, h]
theorem u2_n {α : Type} (f : Nat → Nat → α) {a b : Nat} (k : Nat) (v : α) (h : b ≠ a) : u2 f a k v b = f b := if_neg h
theorem u2_a {α : Type} (f : Nat → Nat → α) (a k : Nat) (v : α) : u2 f a k v a = fun j => if j = k then v else f a j := if_pos rfl
theorem at_putf {y pc : Nat} {ls : eLS} {t : List AV} {k s : Nat} {Q : FT} {c : Nat} {mr mr' : MR} {mi mi' : MI} {ml ml' : ML} {idx x1 x2 n a : Nat} {C : String} {T : u_T} {N : Nat} {w : AV} (hd : decode (mCd y) pc = .ok (.putfield idx, 3)) (hc : clT[x1]? = some (C, T, N)) (hx : x2 < N) (hw : Cond.fieldLink (mNm y).cls idx C (T x2).2.1 (T x2).2.2.1 ∈ WT) (hdc : (T x2).1 = C) (hfin : (T x2).2.2.2 = true → (mNm y).name = "<init>" ∧ C = (mNm y).cls)
    (hu : ∀ X B j, fv X B mr' mi' ml' a x1 j = if j = x2 then cv X B w else fv X B mr mi ml a x1 j) (hot : ∀ b, b ≠ a → mr' b = mr b ∧ mi' b = mi b ∧ ml' b = ml b)
    (hmr : ∀ j q, mr' a j = some q → mr a j = some q ∨ w = .inr (.inr (some q))) (hft : ∀ v : Value, (∀ X : XT, ∀ B, (X.2.2.2.2.2.2 = .null ∨ ∃ a, X.2.2.2.2.2.2 = .ref a) → cv X B w = v → narrow (tyF T x2) v = v ∧ fits (tyF T x2) v = true))
    (K : At y (pc + 3) ls t k s Q c mr' mi' ml') : At y pc ls (w :: .inr (.inr (some (x1 + 10, n, a))) :: t) k s Q c mr mi ml := by
  intro l p e S m args below meth cd H locs cells slots mc ms lsC X D aC B sh0 sh hfl hC hR hsh hst hL hS hc1 hs1
  obtain ⟨h10, hin, -, -, hN, -, hnm⟩ := clOK_of hc
  have hq : okq X sh (x1 + 10, n, a) := tl_ok hst _ List.mem_cons_self
  have hwk : okv X sh w := hst _ List.mem_cons_self
  obtain ⟨hsa, hP⟩ := hR.cell hq (by omega)
  have hat := hP 0 _ rfl
  rw [cE_obj] at hat
  have hcq : cv X B (.inr (.inr (some (x1 + 10, n, a)))) = .ref (B + a) := cq_in (by omega)
  show W p l e (rmm y mc ms) S m args below meth cd H locs cells slots _ (F0 m pc lsC (cv X B w :: cv X B (.inr (.inr (some (x1 + 10, n, a)))) :: t.map (cv X B)))
  rw [hcq]
  obtain ⟨f1, f2⟩ := hft _ X B hC.ext.fm rfl
  refine putX hC.1 hC.2.1 (Ts := WT) hC.wds hin (tyF T) (tyF_ok hc) hnm hC.own hC.kn hat hc x2 hx (hC.wds _ hw) (by rw [hdc]; exact fun x h => h) (fun h => ?_) (tyF_ok hc x2 hx) f1 f2 (by simp; omega) hd (fun H1 z g1 g2 g3 => ?_)
  · obtain ⟨e1, e2⟩ := hfin h
    exact ⟨hC.nam e1, hdc.trans e2⟩
  · have hR1 : RH X D aC B sh c mr' mi' ml' H1 := by
      refine hR.upd hsa (by omega) g2 g3 hot ?_ (fun j q hj => ?_) (fun z => by omega)
      · rw [cE_obj, map_set (f := fv X B mr mi ml a x1) (w := cv X B w) (x := x2) (by rw [hu, if_pos rfl]) (fun j hj => by rw [hu, if_neg hj])]
        exact g1
      · rcases hmr j q hj with h | h
        · exact hR.2.2.2.2.1 a j q h
        · rw [h] at hwk; exact hwk
    have hBa : B < B + a := by
      rcases Nat.eq_zero_or_pos a with z | z
      · subst z
        have := hR.2.2.1
        rw [hsa] at this
        cases this
        omega
      · omega
    exact K l p e S m args below meth cd H1 _ cells slots mc ms lsC X D aC B sh0 sh hfl hC hR1 hsh (tl2_ok hst) hL (hS.put g2 g3 hBa) hc1 hs1
