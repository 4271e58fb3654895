/-! ===== fields by kinds; arrays; new cells; what is outside ===== -/
theorem fv_u2i {X : XT} {B : Nat} {mr : MR} {mi : MI} {ml : ML} {a x1 x2 : Nat} {x : Int32} (hk : fk x1 x2 = 0 ∨ fk x1 x2 = 3) (j : Nat) : fv X B mr (u2 mi a x2 x) ml a x1 j = if j = x2 then .int x else fv X B mr mi ml a x1 j := by
  unfold fv
  by_cases e : j = x2
  · subst e; rw [if_pos rfl]; rcases hk with h | h <;> rw [h] <;> simp only [u2_s]
  · rw [if_neg e, u2_k _ _ _ e]
theorem fv_u2l {X : XT} {B : Nat} {mr : MR} {mi : MI} {ml : ML} {a x1 x2 : Nat} {x : Int64} (hk : fk x1 x2 = 1) (j : Nat) : fv X B mr mi (u2 ml a x2 x) a x1 j = if j = x2 then .long x else fv X B mr mi ml a x1 j := by
  unfold fv
  by_cases e : j = x2
  · subst e; rw [if_pos rfl, hk]; simp only [u2_s]
  · rw [if_neg e, u2_k _ _ _ e]
theorem fv_u2r {X : XT} {B : Nat} {mr : MR} {mi : MI} {ml : ML} {a x1 x2 : Nat} {x : Option (Nat × Nat × Nat)} (hk : fk x1 x2 = 2) (j : Nat) : fv X B (u2 mr a x2 x) mi ml a x1 j = if j = x2 then cv X B (.inr (.inr x)) else fv X B mr mi ml a x1 j := by
  unfold fv
  by_cases e : j = x2
  · subst e; rw [if_pos rfl, hk]; simp only [u2_s]
  · rw [if_neg e, u2_k _ _ _ e]
theorem tyF_kd {x1 x2 : Nat} {C : String} {T : u_T} {N : Nat} (hc : clT[x1]? = some (C, T, N)) (hx : x2 < N) : (fk x1 x2 = 0 ∧ tyF T x2 = .int) ∨ (fk x1 x2 = 1 ∧ tyF T x2 = .long) ∨ (fk x1 x2 = 3 ∧ tyF T x2 = .boolean) ∨ (fk x1 x2 = 2 ∧ (tyF T x2).isReference = true) := by
  obtain ⟨ty, e, h⟩ := ftOK_some ((clOK_of hc).2.2.2.2.2.1 x2 hx)
  have e2 : tyF T x2 = ty := by unfold tyF; rw [e]; rfl
  rw [e2]; exact h
theorem ref_fit {ty : FieldType} (h : ty.isReference = true) {v : Value} (hv : v = .null ∨ ∃ a, v = .ref a) : narrow ty v = v ∧ fits ty v = true := by
  cases ty <;> first | (cases h; done) | (rcases hv with rfl | ⟨a, rfl⟩ <;> exact ⟨rfl, rfl⟩)
theorem at_put {y pc : Nat} {ls : eLS} {t : List AV} {k s : Nat} {Q : FT} {c : Nat} {mr mr' : MR} {mi mi' : MI} {ml ml' : ML} {idx x1 x2 n a : Nat} {C : String} {T : u_T} {N : Nat} {w : AV} (hd : decode (mCd y) pc = .ok (.putfield idx, 3)) (hc : clT[x1]? = some (C, T, N)) (hx : x2 < N) (hw : Cond.fieldLink (mNm y).cls idx C (T x2).2.1 (T x2).2.2.1 ∈ WT) (hdc : (T x2).1 = C) (hfin : (T x2).2.2.2 = true → (mNm y).name = "<init>" ∧ C = (mNm y).cls)
    (hk : (fk x1 x2 = 0 ∧ ∃ x, w = .inl x ∧ mr' = mr ∧ mi' = u2 mi a x2 x ∧ ml' = ml) ∨ (fk x1 x2 = 1 ∧ ∃ x, w = .inr (.inl x) ∧ mr' = mr ∧ mi' = mi ∧ ml' = u2 ml a x2 x) ∨ (fk x1 x2 = 2 ∧ ∃ x, w = .inr (.inr x) ∧ mr' = u2 mr a x2 x ∧ mi' = mi ∧ ml' = ml) ∨ (fk x1 x2 = 3 ∧ ∃ x, w = .inl x ∧ (x = 0 ∨ x = 1) ∧ mr' = mr ∧ mi' = u2 mi a x2 x ∧ ml' = ml))
    (K : At y (pc + 3) ls t k s Q c mr' mi' ml') : At y pc ls (w :: .inr (.inr (some (x1 + 10, n, a))) :: t) k s Q c mr mi ml := by
  have hty := tyF_kd hc hx
  rcases hk with ⟨hk, x, rfl, rfl, rfl, rfl⟩ | ⟨hk, x, rfl, rfl, rfl, rfl⟩ | ⟨hk, x, rfl, rfl, rfl, rfl⟩ | ⟨hk, x, rfl, hx01, rfl, rfl, rfl⟩
  · refine at_putf hd hc hx hw hdc hfin (fun X B j => fv_u2i (Or.inl hk) j) (fun b hb => ⟨rfl, u2_n _ _ _ hb, rfl⟩) (fun j q h => Or.inl h) (fun v X B hX e => ?_) K
    rcases hty with ⟨-, z⟩ | ⟨z, -⟩ | ⟨z, -⟩ | ⟨z, -⟩
    · rw [z, ← e]; exact ⟨rfl, rfl⟩
    · omega
    · omega
    · omega
  · refine at_putf hd hc hx hw hdc hfin (fun X B j => fv_u2l hk j) (fun b hb => ⟨rfl, rfl, u2_n _ _ _ hb⟩) (fun j q h => Or.inl h) (fun v X B hX e => ?_) K
    rcases hty with ⟨z, -⟩ | ⟨-, z⟩ | ⟨z, -⟩ | ⟨z, -⟩
    · omega
    · rw [z, ← e]; exact ⟨rfl, rfl⟩
    · omega
    · omega
  · refine at_putf hd hc hx hw hdc hfin (fun X B j => fv_u2r hk j) (fun b hb => ⟨u2_n _ _ _ hb, rfl, rfl⟩) (fun j q h => ?_) (fun v X B hX e => ?_) K
    · by_cases z : j = x2
      · subst z; rw [u2_s] at h; exact Or.inr (by rw [h])
      · rw [u2_k _ _ _ z] at h; exact Or.inl h
    · rcases hty with ⟨z, -⟩ | ⟨z, -⟩ | ⟨z, -⟩ | ⟨-, z⟩
      · omega
      · omega
      · omega
      · rw [← e]
        refine ref_fit z ?_
        cases x with
        | none => exact Or.inl rfl
        | some q => rcases cq_ref (B := B) hX q with h | h
                    · exact Or.inr h
                    · exact Or.inl h
  · refine at_putf hd hc hx hw hdc hfin (fun X B j => fv_u2i (Or.inr hk) j) (fun b hb => ⟨rfl, u2_n _ _ _ hb, rfl⟩) (fun j q h => Or.inl h) (fun v X B hX e => ?_) K
    rcases hty with ⟨z, -⟩ | ⟨z, -⟩ | ⟨-, z⟩ | ⟨z, -⟩
    · omega
    · omega
    · rw [z, ← e]; rcases hx01 with rfl | rfl
      · exact (by decide : narrow .boolean (.int 0) = .int 0 ∧ fits .boolean (.int 0) = true)
      · exact (by decide : narrow .boolean (.int 1) = .int 1 ∧ fits .boolean (.int 1) = true)
    · omega
section ARR
variable {y pc : Nat} {ls : eLS} {t : List AV} {k s : Nat} {Q : FT} {c : Nat} {mr : MR} {mi : MI} {ml : ML}
theorem at_iald {n a : Nat} {i : Int32} (hd : decode (mCd y) pc = .ok (.iaload, 1)) (hi : vp_in i n) (K : At y (pc + 1) ls (.inl (mi a i.toNatClampNeg) :: t) k s Q c mr mi ml) : At y pc ls (.inl i :: .inr (.inr (some (0, n, a))) :: t) k s Q c mr mi ml := by
  intro l p e S m args below meth cd H locs cells slots mc ms lsC X D aC B sh0 sh hfl hC hR hsh hst hL hS hc1 hs1
  obtain ⟨-, hP⟩ := hR.cell (tl_ok hst _ List.mem_cons_self : okq X sh (0, n, a)) (by omega)
  exact va_iald hC.1 hC.2.1 hC.kn hP 0 0 rfl rfl hi hd (K l p e S m args below meth cd H locs cells slots mc ms lsC X D aC B sh0 sh hfl hC hR hsh (cn_ok trivial (tl2_ok hst)) hL hS hc1 hs1)
theorem at_bald {n a : Nat} {i : Int32} (hd : decode (mCd y) pc = .ok (.baload, 1)) (hi : vp_in i n) (K : At y (pc + 1) ls (.inl (mi a i.toNatClampNeg) :: t) k s Q c mr mi ml) : At y pc ls (.inl i :: .inr (.inr (some (2, n, a))) :: t) k s Q c mr mi ml := by
  intro l p e S m args below meth cd H locs cells slots mc ms lsC X D aC B sh0 sh hfl hC hR hsh hst hL hS hc1 hs1
  obtain ⟨-, hP⟩ := hR.cell (tl_ok hst _ List.mem_cons_self : okq X sh (2, n, a)) (by omega)
  exact va_bald hC.1 hC.2.1 hC.kn hP 0 2 rfl rfl hi hd (K l p e S m args below meth cd H locs cells slots mc ms lsC X D aC B sh0 sh hfl hC hR hsh (cn_ok trivial (tl2_ok hst)) hL hS hc1 hs1)
theorem at_lald {n a : Nat} {i : Int32} (hd : decode (mCd y) pc = .ok (.laload, 1)) (hi : vp_in i n) (K : At y (pc + 1) ls (.inr (.inl (ml a i.toNatClampNeg)) :: t) k s Q c mr mi ml) : At y pc ls (.inl i :: .inr (.inr (some (1, n, a))) :: t) k s Q c mr mi ml := by
  intro l p e S m args below meth cd H locs cells slots mc ms lsC X D aC B sh0 sh hfl hC hR hsh hst hL hS hc1 hs1
  obtain ⟨-, hP⟩ := hR.cell (tl_ok hst _ List.mem_cons_self : okq X sh (1, n, a)) (by omega)
  exact va_lald hC.1 hC.2.1 hC.kn hP 0 1 rfl rfl hi hd (K l p e S m args below meth cd H locs cells slots mc ms lsC X D aC B sh0 sh hfl hC hR hsh (cn_ok trivial (tl2_ok hst)) hL hS hc1 hs1)
theorem at_aald {n a : Nat} {i : Int32} (hd : decode (mCd y) pc = .ok (.aaload, 1)) (hi : vp_in i n) (K : At y (pc + 1) ls (.inr (.inr (mr a i.toNatClampNeg)) :: t) k s Q c mr mi ml) : At y pc ls (.inl i :: .inr (.inr (some (3, n, a))) :: t) k s Q c mr mi ml := by
  intro l p e S m args below meth cd H locs cells slots mc ms lsC X D aC B sh0 sh hfl hC hR hsh hst hL hS hc1 hs1
  obtain ⟨hsa, hP⟩ := hR.cell (tl_ok hst _ List.mem_cons_self : okq X sh (3, n, a)) (by omega)
  have hlt : i.toNatClampNeg < n := Nat.not_le.mp fun q => hi (Or.inr q)
  have hv : va_rf ((mr a i.toNatClampNeg).map (fun q => B + q.2.2)) = cv X B (.inr (.inr (mr a i.toNatClampNeg))) := by
    cases h : mr a i.toNatClampNeg with
    | none => rfl
    | some q => exact (cq_in (n := q.2.1) (hR.2.2.2.2.2.1 a n _ q hsa h)).symm
  have hok : okv X sh (.inr (.inr (mr a i.toNatClampNeg))) := by
    cases h : mr a i.toNatClampNeg with
    | none => trivial
    | some q => exact hR.2.2.2.2.1 a _ q h
  refine W.aald (v := cv X B (.inr (.inr (mr a i.toNatClampNeg)))) (ty := .array .long) hC.1 hC.2.1 (hP 0 _ rfl) ((hC.kn.2 3 _ rfl).1 n (fun j => va_rf ((mr a j).map (fun q => B + q.2.2)))) rfl (fun q => by cases q) ?_ ?_ rfl rfl hd (K l p e S m args below meth cd H locs cells slots mc ms lsC X D aC B sh0 sh hfl hC hR hsh (cn_ok hok (tl2_ok hst)) hL hS hc1 hs1)
  · show ¬ (i < 0 ∨ (arrV _ _ _).slots.size ≤ _); rw [arrV_size]; exact hi
  · show (arrV _ _ _).slots[_]? = _; rw [arrV_read _ _ hlt, hv]
theorem B_lt {X : XT} {D : va_G} {aC : AC} {B : Nat} {sh : List (Nat × Nat)} {c : Nat} {mr : MR} {mi : MI} {ml : ML} {H : Heap} {a ro n : Nat} (h : RH X D aC B sh c mr mi ml H) (ha : sh[a]? = some (ro, n)) (hro : ro < 20) : B < B + a := by
  rcases Nat.eq_zero_or_pos a with z | z
  · subst z
    have := h.2.2.1
    rw [ha] at this
    cases this
    omega
  · omega
theorem at_iast {n a : Nat} {i x : Int32} (hd : decode (mCd y) pc = .ok (.iastore, 1)) (hi : vp_in i n) (K : At y (pc + 1) ls t k s Q c mr (u2 mi a i.toNatClampNeg x) ml) : At y pc ls (.inl x :: .inl i :: .inr (.inr (some (0, n, a))) :: t) k s Q c mr mi ml := by
  intro l p e S m args below meth cd H locs cells slots mc ms lsC X D aC B sh0 sh hfl hC hR hsh hst hL hS hc1 hs1
  obtain ⟨hsa, hP⟩ := hR.cell (tl2_ok hst _ List.mem_cons_self : okq X sh (0, n, a)) (by omega)
  refine W.iast hC.1 hC.2.1 (hP 0 _ rfl) ((hC.kn.2 0 _ rfl).1 n (fun j => .int (mi a j))) (fun q => by cases q) (by show ¬ (i < 0 ∨ (arrV _ _ _).slots.size ≤ _); rw [arrV_size]; exact hi) rfl rfl hd fun H1 e1 z oq => ?_
  have hR1 : RH X D aC B sh c mr (u2 mi a i.toNatClampNeg x) ml H1 := by
    refine hR.upd hsa (by omega) z oq (fun b hb => ⟨rfl, u2_n _ _ _ hb, rfl⟩) ?_ (fun j q h => hR.2.2.2.2.1 a j q h) (fun h => by omega)
    show H1[B + a]? = some (vp_cell aC.1 (n, .inl (u2 mi a i.toNatClampNeg x a)))
    rw [e1]
    show some ((arrV aC.1 n (fun j => .int (mi a j))).setSlot i.toNatClampNeg (.int x)) = some (arrV aC.1 n (fun j => .int (u2 mi a i.toNatClampNeg x a j)))
    rw [arrV_store]
    congr 2
    funext j
    by_cases hj : j = i.toNatClampNeg
    · subst hj; simp [updV, u2_s]
    · simp [updV, hj, u2_k]
  exact K l p e S m args below meth cd H1 _ cells slots mc ms lsC X D aC B sh0 sh hfl hC hR1 hsh (tl3_ok hst) hL (hS.put z oq (B_lt hR hsa (by omega))) hc1 hs1
theorem at_bast {n a : Nat} {i x : Int32} (hd : decode (mCd y) pc = .ok (.bastore, 1)) (hi : vp_in i n) (K : At y (pc + 1) ls t k s Q c mr (u2 mi a i.toNatClampNeg (vp_nar .byte x)) ml) : At y pc ls (.inl x :: .inl i :: .inr (.inr (some (2, n, a))) :: t) k s Q c mr mi ml := by
  intro l p e S m args below meth cd H locs cells slots mc ms lsC X D aC B sh0 sh hfl hC hR hsh hst hL hS hc1 hs1
  obtain ⟨hsa, hP⟩ := hR.cell (tl2_ok hst _ List.mem_cons_self : okq X sh (2, n, a)) (by omega)
  refine W.bast hC.1 hC.2.1 (hP 0 _ rfl) ((hC.kn.2 2 _ rfl).1 n (fun j => .int (mi a j))) (fun q => by cases q) (by show ¬ (i < 0 ∨ (arrV _ _ _).slots.size ≤ _); rw [arrV_size]; exact hi) rfl rfl hd fun H1 e1 z oq => ?_
  have hR1 : RH X D aC B sh c mr (u2 mi a i.toNatClampNeg (vp_nar .byte x)) ml H1 := by
    refine hR.upd hsa (by omega) z oq (fun b hb => ⟨rfl, u2_n _ _ _ hb, rfl⟩) ?_ (fun j q h => hR.2.2.2.2.1 a j q h) (fun h => by omega)
    show H1[B + a]? = some (vp_cell aC.2.2.1 (n, .inl (u2 mi a i.toNatClampNeg (vp_nar .byte x) a)))
    rw [e1]
    show some ((arrV aC.2.2.1 n (fun j => .int (mi a j))).setSlot i.toNatClampNeg _) = some (arrV aC.2.2.1 n (fun j => .int (u2 mi a i.toNatClampNeg (vp_nar .byte x) a j)))
    rw [arrV_store]
    congr 2
    funext j
    by_cases hj : j = i.toNatClampNeg
    · subst hj; simp [updV, u2_s, vp_nar]; try rfl
    · simp [updV, hj, u2_k]
  exact K l p e S m args below meth cd H1 _ cells slots mc ms lsC X D aC B sh0 sh hfl hC hR1 hsh (tl3_ok hst) hL (hS.put z oq (B_lt hR hsa (by omega))) hc1 hs1
theorem at_last {n a : Nat} {i : Int32} {x : Int64} (hd : decode (mCd y) pc = .ok (.lastore, 1)) (hi : vp_in i n) (K : At y (pc + 1) ls t k s Q c mr mi (u2 ml a i.toNatClampNeg x)) : At y pc ls (.inr (.inl x) :: .inl i :: .inr (.inr (some (1, n, a))) :: t) k s Q c mr mi ml := by
  intro l p e S m args below meth cd H locs cells slots mc ms lsC X D aC B sh0 sh hfl hC hR hsh hst hL hS hc1 hs1
  obtain ⟨hsa, hP⟩ := hR.cell (tl2_ok hst _ List.mem_cons_self : okq X sh (1, n, a)) (by omega)
  refine W.last hC.1 hC.2.1 (hP 0 _ rfl) ((hC.kn.2 1 _ rfl).1 n (fun j => .long (ml a j))) (fun q => by cases q) (by show ¬ (i < 0 ∨ (arrV _ _ _).slots.size ≤ _); rw [arrV_size]; exact hi) rfl rfl hd fun H1 e1 z oq => ?_
  have hR1 : RH X D aC B sh c mr mi (u2 ml a i.toNatClampNeg x) H1 := by
    refine hR.upd hsa (by omega) z oq (fun b hb => ⟨rfl, rfl, u2_n _ _ _ hb⟩) ?_ (fun j q h => hR.2.2.2.2.1 a j q h) (fun h => by omega)
    show H1[B + a]? = some (vp_cell aC.2.1 (n, .inr (.inl (u2 ml a i.toNatClampNeg x a))))
    rw [e1]
    show some ((arrV aC.2.1 n (fun j => .long (ml a j))).setSlot i.toNatClampNeg (.long x)) = some (arrV aC.2.1 n (fun j => .long (u2 ml a i.toNatClampNeg x a j)))
    rw [arrV_store]
    congr 2
    funext j
    by_cases hj : j = i.toNatClampNeg
    · subst hj; simp [updV, u2_s]
    · simp [updV, hj, u2_k]
  exact K l p e S m args below meth cd H1 _ cells slots mc ms lsC X D aC B sh0 sh hfl hC hR1 hsh (tl3_ok hst) hL (hS.put z oq (B_lt hR hsa (by omega))) hc1 hs1
theorem at_alen {ro n a : Nat} (hro : arOK ro = true) (hd : decode (mCd y) pc = .ok (.arraylength, 1)) (K : At y (pc + 1) ls (.inl (nI n) :: t) k s Q c mr mi ml) : At y pc ls (.inr (.inr (some (ro, n, a))) :: t) k s Q c mr mi ml := by
  intro l p e S m args below meth cd H locs cells slots mc ms lsC X D aC B sh0 sh hfl hC hR hsh hst hL hS hc1 hs1
  have K2 := K l p e S m args below meth cd H locs cells slots mc ms lsC X D aC B sh0 sh hfl hC hR hsh (cn_ok trivial (tl_ok hst)) hL hS hc1 hs1
  have hq : okq X sh (ro, n, a) := hst _ List.mem_cons_self
  simp only [arOK, Bool.or_eq_true, Nat.blt_eq] at hro
  have hro : ((ro < 4 ∨ ro = 101) ∨ ro = 102) ∨ ro = 104 := hro.imp (fun h => h.imp (fun h => h.imp id Nat.eq_of_beq_eq_true) Nat.eq_of_beq_eq_true) Nat.eq_of_beq_eq_true
  rcases hro with ((h | h) | h) | h
  · obtain ⟨-, hP⟩ := hR.cell hq (by omega)
    have h4 : ro = 0 ∨ ro = 1 ∨ ro = 2 ∨ ro = 3 := by omega
    rcases h4 with rfl | rfl | rfl | rfl
    · exact va_alen hC.1 hC.2.1 hC.kn hP 0 0 rfl rfl rfl hd K2
    · exact va_alen hC.1 hC.2.1 hC.kn hP 0 1 rfl rfl rfl hd K2
    · exact va_alen hC.1 hC.2.1 hC.kn hP 0 2 rfl rfl rfl hd K2
    · exact va_alen hC.1 hC.2.1 hC.kn hP 0 3 rfl rfl rfl hd K2
  · subst h
    have hn : n = 6 := hq
    subst hn
    exact va_tlen hC.1 hC.2.1 hC.ext.prt hS rfl hd K2
  · subst h
    obtain ⟨ha, hn⟩ : a < nStr ∧ n = strN.getD a 0 := hq
    rw [hn] at K2
    exact va_tlen hC.1 hC.2.1 (hC.ext.1.1 a ha).2.2.2 hS rfl hd K2
  · subst h
    have hn : n = X.2.2.2.2.1 := hq
    rw [hn] at K2
    exact va_slen hC.1 hC.2.1 hC.ext.scr (Nat.lt_of_le_of_lt hC.ext.scB hC.ext.bsz) (Nat.not_lt.mpr hC.ext.scB) hS hd K2
theorem at_xald {n a : Nat} {i : Int32} (hd : decode (mCd y) pc = .ok (.iaload, 1)) (hi : vp_in i n) (K : At y (pc + 1) ls (.inl (mi 0 i.toNatClampNeg) :: t) k s Q c mr mi ml) : At y pc ls (.inl i :: .inr (.inr (some (104, n, a))) :: t) k s Q c mr mi ml := by
  intro l p e S m args below meth cd H locs cells slots mc ms lsC X D aC B sh0 sh hfl hC hR hsh hst hL hS hc1 hs1
  have K2 := K l p e S m args below meth cd H locs cells slots mc ms lsC X D aC B sh0 sh hfl hC hR hsh (cn_ok trivial (tl2_ok hst)) hL hS hc1 hs1
  have hn : n = X.2.2.2.2.1 := (tl_ok hst _ List.mem_cons_self : okq X sh (104, n, a))
  have hlt : i.toNatClampNeg < X.2.2.2.2.1 := by rw [← hn]; exact Nat.not_le.mp fun q => hi (Or.inr q)
  have e2 := hR.2.2.2.2.2.2 _ hlt
  rw [hn] at hi
  rw [e2] at K2
  exact va_sld hC.1 hC.2.1 hC.ext.scr (Nat.lt_of_le_of_lt hC.ext.scB hC.ext.bsz) (Nat.not_lt.mpr hC.ext.scB) hS hi hd K2
theorem at_pald {n a : Nat} {i : Int32} (hd : decode (mCd y) pc = .ok (.iaload, 1)) (hi : vp_in i n) (K : At y (pc + 1) ls (.inl (prC i.toNatClampNeg) :: t) k s Q c mr mi ml) : At y pc ls (.inl i :: .inr (.inr (some (101, n, a))) :: t) k s Q c mr mi ml := by
  intro l p e S m args below meth cd H locs cells slots mc ms lsC X D aC B sh0 sh hfl hC hR hsh hst hL hS hc1 hs1
  have hn : n = 6 := (tl_ok hst _ List.mem_cons_self : okq X sh (101, n, a))
  subst hn
  exact va_ti hC.1 hC.2.1 hC.ext.prt hS hi rfl hd (K l p e S m args below meth cd H locs cells slots mc ms lsC X D aC B sh0 sh hfl hC hR hsh (cn_ok trivial (tl2_ok hst)) hL hS hc1 hs1)
theorem at_sald {n a : Nat} {i : Int32} (hd : decode (mCd y) pc = .ok (.baload, 1)) (hi : vp_in i n) (K : At y (pc + 1) ls (.inl ((strB.getD a []).getD i.toNatClampNeg 0) :: t) k s Q c mr mi ml) : At y pc ls (.inl i :: .inr (.inr (some (102, n, a))) :: t) k s Q c mr mi ml := by
  intro l p e S m args below meth cd H locs cells slots mc ms lsC X D aC B sh0 sh hfl hC hR hsh hst hL hS hc1 hs1
  obtain ⟨ha, hn⟩ : a < nStr ∧ n = strN.getD a 0 := (tl_ok hst _ List.mem_cons_self : okq X sh (102, n, a))
  rw [hn] at hi
  exact va_tb hC.1 hC.2.1 (hC.ext.1.1 a ha).2.2.2 hS hi rfl hd (K l p e S m args below meth cd H locs cells slots mc ms lsC X D aC B sh0 sh hfl hC hR hsh (cn_ok trivial (tl2_ok hst)) hL hS hc1 hs1)
theorem at_sval {idx n a : Nat} (hd : decode (mCd y) pc = .ok (.getfield idx, 3)) (hw : Cond.fieldLink (mNm y).cls idx "java/lang/String" "value" "[B" ∈ WT) (K : At y (pc + 3) ls (.inr (.inr (some (102, strN.getD a 0, a))) :: t) k s Q c mr mi ml) : At y pc ls (.inr (.inr (some (100, n, a))) :: t) k s Q c mr mi ml := by
  intro l p e S m args below meth cd H locs cells slots mc ms lsC X D aC B sh0 sh hfl hC hR hsh hst hL hS hc1 hs1
  have ha : a < nStr := (hst _ List.mem_cons_self : okq X sh (100, n, a))
  exact vk_getf hC.1 hC.2.1 (hC.ext.1.1 a ha).2.2.1 hS hC.own (hC.wds _ hw) (fun x h => h) hd (K l p e S m args below meth cd H locs cells slots mc ms lsC X D aC B sh0 sh hfl hC hR hsh (cn_ok (show okq X sh (102, strN.getD a 0, a) from ⟨ha, rfl⟩) (tl_ok hst)) hL hS hc1 hs1)
theorem at_scod {idx n a : Nat} (hd : decode (mCd y) pc = .ok (.getfield idx, 3)) (hw : Cond.fieldLink (mNm y).cls idx "java/lang/String" "coder" "B" ∈ WT) (K : At y (pc + 3) ls (.inl 0 :: t) k s Q c mr mi ml) : At y pc ls (.inr (.inr (some (100, n, a))) :: t) k s Q c mr mi ml := by
  intro l p e S m args below meth cd H locs cells slots mc ms lsC X D aC B sh0 sh hfl hC hR hsh hst hL hS hc1 hs1
  have ha : a < nStr := (hst _ List.mem_cons_self : okq X sh (100, n, a))
  exact vk_getf hC.1 hC.2.1 (hC.ext.1.1 a ha).2.1 hS hC.own (hC.wds _ hw) (fun x h => h) hd (K l p e S m args below meth cd H locs cells slots mc ms lsC X D aC B sh0 sh hfl hC hR hsh (cn_ok trivial (tl_ok hst)) hL hS hc1 hs1)
theorem at_gs0 {idx : Nat} (hd : decode (mCd y) pc = .ok (.getstatic idx, 3)) (hw : Cond.fieldLink (mNm y).cls idx "java/lang/String" "COMPACT_STRINGS" "Z" ∈ WT) (K : At y (pc + 3) ls (.inl 1 :: t) k s Q c mr mi ml) : At y pc ls t k s Q c mr mi ml := by
  intro l p e S m args below meth cd H locs cells slots mc ms lsC X D aC B sh0 sh hfl hC hR hsh hst hL hS hc1 hs1
  exact va_gets hC.1 hC.2.1 hC.ext.cs hS hC.own (hC.wds _ hw) (fun x h => h) hd (K l p e S m args below meth cd H locs cells slots mc ms lsC X D aC B sh0 sh hfl hC hR hsh (cn_ok trivial hst) hL hS hc1 hs1)
theorem at_gs1 {idx : Nat} (hd : decode (mCd y) pc = .ok (.getstatic idx, 3)) (hw : Cond.fieldLink (mNm y).cls idx "WeighingPlates$Reader" "PRIMES" "[I" ∈ WT) (K : At y (pc + 3) ls (.inr (.inr (some (101, 6, 0))) :: t) k s Q c mr mi ml) : At y pc ls t k s Q c mr mi ml := by
  intro l p e S m args below meth cd H locs cells slots mc ms lsC X D aC B sh0 sh hfl hC hR hsh hst hL hS hc1 hs1
  exact va_gets hC.1 hC.2.1 hC.ext.prz hS hC.own (hC.wds _ hw) (fun x h => h) hd (K l p e S m args below meth cd H locs cells slots mc ms lsC X D aC B sh0 sh hfl hC hR hsh (cn_ok (show okq X sh (101, 6, 0) from rfl) hst) hL hS hc1 hs1)
theorem at_gs2 {idx : Nat} (hd : decode (mCd y) pc = .ok (.getstatic idx, 3)) (hw : Cond.fieldLink (mNm y).cls idx "jdk/internal/util/Preconditions" "SIOOBE_FORMATTER" "Ljava/util/function/BiFunction;" ∈ WT) (K : At y (pc + 3) ls (.inr (.inr (some (103, 0, 0))) :: t) k s Q c mr mi ml) : At y pc ls t k s Q c mr mi ml := by
  intro l p e S m args below meth cd H locs cells slots mc ms lsC X D aC B sh0 sh hfl hC hR hsh hst hL hS hc1 hs1
  exact va_gets hC.1 hC.2.1 hC.ext.sf hS hC.own (hC.wds _ hw) (fun x h => h) hd (K l p e S m args below meth cd H locs cells slots mc ms lsC X D aC B sh0 sh hfl hC hR hsh (cn_ok (show okq X sh (103, 0, 0) from trivial) hst) hL hS hc1 hs1)
end ARR
