/-! ===== new cells, calls, answers, the entry ===== -/
section NEW
variable {y pc : Nat} {ls : eLS} {t : List AV} {k s : Nat} {Q : FT} {c : Nat} {mr : MR} {mi : MI} {ml : ML}
theorem vS_new {A : Nat → Prop} {H0 H H1 : Heap} {locs : List Loc} (hS : va_S A H0 H locs) (z1 : H1.size = H.size + 1) (o1 : ∀ q, q < H.size → H1[q]? = H[q]?) : va_S A H0 H1 locs :=
  ⟨Nat.le_trans hS.1 (by omega), fun q h1 h2 => (o1 q (Nat.lt_of_lt_of_le h1 hS.1)).trans (hS.2.1 q h1 h2), hS.2.2⟩
theorem at_new {idx x1 : Nat} {C : String} {T : u_T} {N : Nat} (hd : decode (mCd y) pc = .ok (.new idx, 3)) (hc : clT[x1]? = some (C, T, N)) (hw : Cond.classLink (mNm y).cls idx C ∈ WT) (hs : clN x1 ≤ s)
    (K : At y (pc + 3) ls (.inr (.inr (some (x1 + 10, 0, c))) :: t) k (s - clN x1) Q (c + 1) (z2 mr c none) (z2 mi c 0) (z2 ml c 0)) : At y pc ls t (k + 1) s Q c mr mi ml := by
  intro l p e S m args below meth cd H locs cells slots mc ms lsC X D aC B sh0 sh hfl hC hR hsh hst hL hS hc1 hs1
  obtain ⟨h10, hin, hins, hini, hN, -, -⟩ := clOK_of hc
  have hKn := hC.kn.1 x1 _ hc
  refine W.newcK hC.1 hC.2.1 hC.own (hC.wds _ hw) (hC.wds _ hins) (hC.wds _ hini) rfl hd (show cells + 1 ≤ mc by omega) (show slots + N ≤ ms by omega) hKn.2.1 rfl fun H1 kC hkC e1 z1 o1 => ?_
  have hp : sh <+: sh ++ [(x1 + 10, 0)] := List.prefix_append _ _
  have hR1 : RH X D aC B (sh ++ [(x1 + 10, 0)]) (c + 1) (z2 mr c none) (z2 mi c 0) (z2 ml c 0) H1 := by
    refine hR.new z1 o1 (fun _ => ?_)
    rw [cE_obj]
    rw [hR.1] at e1
    refine ⟨_, hc, (u_born (tyF T) hC.wds hin hKn hkC e1 (tyF_ok hc)).to (fun j hj => ?_)⟩
    have e2 : vp_V ((List.range (clN x1)).map (fv X B (z2 mr c none) (z2 mi c 0) (z2 ml c 0) c x1)) j = fv X B (z2 mr c none) (z2 mi c 0) (z2 ml c 0) c x1 j := by
      unfold vp_V
      rw [List.getD_eq_getElem?_getD, List.getElem?_map, List.getElem?_range (by omega)]; rfl
    rw [e2]
    unfold fv
    rcases tyF_kd hc hj with ⟨e3, e4⟩ | ⟨e3, e4⟩ | ⟨e3, e4⟩ | ⟨e3, e4⟩
    · rw [e3, e4]; simp [z2, defaultValue]
    · rw [e3, e4]; simp [z2, defaultValue]
    · rw [e3, e4]; simp [z2, defaultValue]
    · rw [e3]
      have e5 : defaultValue (tyF T j) = .null := by
        generalize tyF T j = ty at e4
        cases ty <;> first | rfl | (cases e4; done)
      rw [e5]; simp [z2, cv]
  have hcq : cv X B (.inr (.inr (some (x1 + 10, 0, c)))) = .ref H.size := by rw [hR.1]; exact cq_in (by omega)
  have K2 := K l p e S m args below meth cd H1 locs (cells + 1) (slots + N) mc ms lsC X D aC B sh0 _ hfl hC hR1 (hsh.trans hp) (cn_ok (show okq X (sh ++ [(x1 + 10, 0)]) (x1 + 10, 0, c) from (by
    unfold okq; rw [if_pos (show x1 + 10 < 100 by omega)]
    show (sh ++ [(x1 + 10, 0)])[c]? = _
    rw [← hR.2.1, List.getElem?_concat_length])) (fun v hv => okv_pre hp v (hst v hv))) (lvs_pre (okv_pre hp) hL) (vS_new hS z1 o1) (by omega) (by omega)
  have K2 : W p l e (rmm y mc ms) S m args below meth cd H1 locs (cells + 1) (slots + N) _ (F0 m (pc + 3) lsC (cv X B (.inr (.inr (some (x1 + 10, 0, c)))) :: t.map (cv X B))) := K2
  rw [hcq] at K2
  exact K2
theorem at_newa {aty : ArrayType} {ro n : Nat} (hd : decode (mCd y) pc = .ok (.newarray aty, 2)) (hro : (aty = .int ∧ ro = 0) ∨ (aty = .long ∧ ro = 1) ∨ (aty = .byte ∧ ro = 2)) (hn : n ≤ 65536) (hk : 1 ≤ k) (hs : n ≤ s)
    (K : At y (pc + 2) ls (.inr (.inr (some (ro, n, c))) :: t) (k - 1) (s - n) Q (c + 1) (z2 mr c none) (z2 mi c 0) (z2 ml c 0)) : At y pc ls (.inl (nI n) :: t) k s Q c mr mi ml := by
  intro l p e S m args below meth cd H locs cells slots mc ms lsC X D aC B sh0 sh hfl hC hR hsh hst hL hS hc1 hs1
  have hw : Cond.arrayClass (newarray.typeOf aty) ∈ WT := by
    rcases hro with ⟨rfl, -⟩ | ⟨rfl, -⟩ | ⟨rfl, -⟩
    · exact arr_words _ (by simp [newarray.typeOf])
    · exact arr_words _ (by simp [newarray.typeOf])
    · exact arr_words _ (by simp [newarray.typeOf])
  have hby : n * componentBytes (newarray.typeOf aty) ≤ 536870912 := by
    rcases hro with ⟨rfl, -⟩ | ⟨rfl, -⟩ | ⟨rfl, -⟩
    · show n * 4 ≤ _; omega
    · show n * 8 ≤ _; omega
    · show n * 1 ≤ _; omega
  have hro4 : ro < 4 := by rcases hro with ⟨-, rfl⟩ | ⟨-, rfl⟩ | ⟨-, rfl⟩ <;> omega
  refine va_newaK hC.1 hC.2.1 (hC.wds _ hw) rfl hd rfl (nI_pos (by omega)) (nI_clamp (by omega)) hby (show cells + 1 ≤ mc by omega) (show slots + n ≤ ms by omega) rfl fun H1 cA e1 z1 o1 hA hF => ?_
  have hp : sh <+: sh ++ [(ro, n)] := List.prefix_append _ _
  have hR1 : RH X D aC B (sh ++ [(ro, n)]) (c + 1) (z2 mr c none) (z2 mi c 0) (z2 ml c 0) H1 := by
    refine hR.new z1 o1 (fun _ => ?_)
    rw [hR.1] at e1
    rcases hro with ⟨rfl, rfl⟩ | ⟨rfl, rfl⟩ | ⟨rfl, rfl⟩
    · have e2 : cA = aC.1 := Option.some.inj (hF.symm.trans (hC.kn.2 0 _ rfl).2)
      subst e2
      show H1[B + c]? = some (vp_cell aC.1 (n, .inl (z2 mi c 0 c)))
      rw [e1, vp_cell_i]; simp [z2, newarray.typeOf, defaultValue]
    · have e2 : cA = aC.2.1 := Option.some.inj (hF.symm.trans (hC.kn.2 1 _ rfl).2)
      subst e2
      show H1[B + c]? = some (vp_cell aC.2.1 (n, .inr (.inl (z2 ml c 0 c))))
      rw [e1, vp_cell_l]; simp [z2, newarray.typeOf, defaultValue]
    · have e2 : cA = aC.2.2.1 := Option.some.inj (hF.symm.trans (hC.kn.2 2 _ rfl).2)
      subst e2
      show H1[B + c]? = some (vp_cell aC.2.2.1 (n, .inl (z2 mi c 0 c)))
      rw [e1, vp_cell_i]; simp [z2, newarray.typeOf, defaultValue]
  have hcq : cv X B (.inr (.inr (some (ro, n, c)))) = .ref H.size := by rw [hR.1]; exact cq_in (by omega)
  have K2 := K l p e S m args below meth cd H1 locs (cells + 1) (slots + n) mc ms lsC X D aC B sh0 _ hfl hC hR1 (hsh.trans hp) (cn_ok (show okq X (sh ++ [(ro, n)]) (ro, n, c) from (by
    unfold okq; rw [if_pos (show ro < 100 by omega)]
    show (sh ++ [(ro, n)])[c]? = _
    rw [← hR.2.1, List.getElem?_concat_length])) (fun v hv => okv_pre hp v (tl_ok hst v hv))) (lvs_pre (okv_pre hp) hL) (vS_new hS z1 o1) (by omega) (by omega)
  have K2 : W p l e (rmm y mc ms) S m args below meth cd H1 locs (cells + 1) (slots + n) _ (F0 m (pc + 2) lsC (cv X B (.inr (.inr (some (ro, n, c)))) :: t.map (cv X B))) := K2
  rw [hcq] at K2
  exact K2
end NEW
-- what is outside stays
theorem EX.same {X : XT} {B : Nat} {U V : State} (h : EX X B U) (hv : V.vm = U.vm) (hh : V.heap = U.heap) : EX X B V := by
  have ha : U.vm.Alike V.vm := by rw [hv]; exact Vm.Alike.refl U.vm
  refine ⟨by rw [hh]; exact h.1.moved ha, fun q hq => vk_R.same hv (h.lds q hq), by rw [hh]; exact h.cs.moved ha, by rw [hh]; exact h.prz.moved ha, by rw [hh]; exact h.prt.moved ha, by rw [hh]; exact h.sf.moved ha, h.fm, by rw [hh]; exact h.scr.moved ha, h.scB, by rw [hh]; exact h.bsz, fun q hq => va_Nw.same rfl hv.symm (h.nst q hq), h.ao.moved ha, by rw [hh]; exact h.tU.moved ha, by rw [hh]; exact h.tN.moved ha⟩
theorem EX.next {X : XT} {B : Nat} {S U : State} {H : Heap} {locs : List Loc} (h : EX X B S) (hS : va_S (fun q => B < q) S.heap H locs) (hh : U.heap = H) (hW : S.WarmedH U.vm) : EX X B U := by
  have ha : S.vm.Alike U.vm := hW.alike
  have hk : ∀ a : Nat, a < S.heap.size → ¬ B < a → H[a]? = S.heap[a]? := fun a h1 h2 => hS.2.1 a h1 h2
  refine ⟨by rw [hh]; exact (h.1.kept hk).moved ha, fun q hq => vk_R.warm hW (h.lds q hq), by rw [hh]; exact (h.cs.kept hk).moved ha, by rw [hh]; exact (h.prz.kept hk).moved ha, by rw [hh]; exact (h.prt.kept hk).moved ha, by rw [hh]; exact (h.sf.kept hk).moved ha, h.fm, ?_, h.scB, by rw [hh]; exact Nat.lt_of_lt_of_le h.bsz hS.1, fun q hq => va_Nw.warmM hW (h.nst q hq), h.ao.moved ha, by rw [hh]; exact (h.tU.kept hk).moved ha, by rw [hh]; exact (h.tN.kept hk).moved ha⟩
  rw [hh]
  exact (h.scr.kept (hS.2.1 _ (Nat.lt_of_le_of_lt h.scB h.bsz) (Nat.not_lt.mpr h.scB))).moved ha
theorem PC_blind {X : XT} {D : va_G} {aC : AC} {B : Nat} {sh : List (Nat × Nat)} {as : List AV} {c : Nat} {mr : MR} {mi : MI} {ml : ML} : FrameBlind (PC X D aC B sh as c mr mi ml) := fun a U g mk q =>
  ⟨q.1, q.2.1, q.2.2.1, va_K.moved (u := U) (U := U.calling g mk a) (Vm.Alike.refl U.vm) q.2.2.2.1, q.2.2.2.2.same rfl rfl⟩
-- what the checks say of a method
theorem mm_len : mm.length = 282 := by decide +kernel
theorem mget_ok {y : Nat} (hy : y < 282) : okT (mget y) = true := by
  have e : mget y ∈ mm := by
    unfold mget
    rw [List.getD_eq_getElem?_getD, List.getElem?_eq_getElem (by rw [mm_len]; exact hy)]
    exact List.getElem_mem _
  exact okT_all _ e
theorem dp_all : mm.all (fun M => Nat.beq M.2.2.2.2.2.2.2.1 8 || (Nat.ble M.2.2.2.2.2.1 11 && (!Nat.beq M.2.2.2.2.2.2.2.1 2 || M.2.2.2.1 == none))) = true := by decide +kernel
theorem mget_dp {y : Nat} (hy : y < 282) (hk : mKd y ≠ 8) : mDp y ≤ 11 ∧ (mKd y = 2 → mRt y = none) := by
  have e : mget y ∈ mm := by
    unfold mget
    rw [List.getD_eq_getElem?_getD, List.getElem?_eq_getElem (by rw [mm_len]; exact hy)]
    exact List.getElem_mem _
  have h := List.all_eq_true.mp dp_all _ e
  simp only [Bool.or_eq_true, Bool.and_eq_true, Bool.not_eq_true'] at h
  rcases h with h | ⟨h1, h2⟩
  · exact absurd (Nat.eq_of_beq_eq_true h) hk
  · refine ⟨Nat.le_of_ble_eq_true h1, fun z => ?_⟩
    rcases h2 with h2 | h2
    · have e2 : Nat.beq (mKd y) 2 = false := h2
      rw [z] at e2; cases e2
    · exact eq_of_beq h2
theorem okH_of {y : Nat} (hy : y < 282) : (∀ r ∈ mTb y, rwOK (mNm y).cls (mNm y).name (mCd y) (mMx y) r = true) ∧ chn (mTb y) = true ∧ (∃ r T, mTb y = r :: T ∧ r.1 = 0) ∧ plainName (mNm y).cls = true ∧ mMx y ≤ 19 ∧ (parseMethodDescriptor (mNm y).desc).map (fun d => d.parameters.length) = some (mNa y) ∧ (mNm y).cls ≠ "java/lang/invoke/MethodHandle" ∧ (mNm y).cls ≠ "java/lang/invoke/VarHandle"
    ∧ (mKd y = 0 → Cond.code (mNm y) (mCd y) (mMx y) (mRt y) ∈ WT ∧ Cond.initialized (mNm y).cls ∈ WT ∧ Cond.instanceMethod (mNm y) ∈ WT ∧ Cond.selects (mNm y).cls (mNm y) (mNm y) ∈ WT ∧ ((mCi y = 90 ∧ (mNm y).cls = "java/lang/String") ∨ ∃ T N, clT[mCi y]? = some ((mNm y).cls, T, N)))
    ∧ (mKd y = 1 → Cond.code (mNm y) (mCd y) (mMx y) (mRt y) ∈ WT ∧ Cond.initialized (mNm y).cls ∈ WT ∧ Cond.static (mNm y) ∈ WT)
    ∧ (mKd y = 2 → Cond.code (mNm y) (mCd y) (mMx y) (mRt y) ∈ WT ∧ Cond.initialized (mNm y).cls ∈ WT ∧ Cond.instanceMethod (mNm y) ∈ WT ∧ (mNm y).name = "<init>") := by
  have h := mget_ok hy
  unfold mNm mCd mMx mRt mTb mNa mKd mCi
  generalize mget y = M at h
  obtain ⟨nm, cd, mx, rt, T, dp, na, kd, ci, wc, wi, wa, wb⟩ := M
  unfold okT okH at h
  simp only [Bool.and_eq_true, decide_eq_true_eq, List.all_eq_true] at h
  obtain ⟨h0, ⟨⟨⟨⟨⟨⟨h1, h2⟩, h3⟩, h4⟩, h5⟩, h6⟩, h7⟩, h8⟩ := h
  refine ⟨h0, h1, ?_, h3, Nat.le_of_ble_eq_true h4, h5, h6, h7, fun z => ?_, fun z => ?_, fun z => ?_⟩
  · cases T with
    | nil => cases h2
    | cons r T => exact ⟨r, T, rfl, Nat.eq_of_beq_eq_true h2⟩
  · have z : kd = 0 := z
    subst z
    simp only [Bool.and_eq_true] at h8
    obtain ⟨⟨⟨⟨a1, a2⟩, a3⟩, a4⟩, a5⟩ := h8
    refine ⟨wAt_mem a1, wAt_mem a2, wAt_mem a3, wAt_mem a4, ?_⟩
    cases hb : Nat.beq ci 90 with
    | true =>
      rw [hb] at a5
      exact Or.inl ⟨Nat.eq_of_beq_eq_true hb, of_decide_eq_true a5⟩
    | false =>
      rw [hb] at a5
      simp only [cond_false] at a5
      split at a5
      · rename_i C T' N' e
        have := of_decide_eq_true a5
        exact Or.inr ⟨T', N', by show clT[ci]? = _; rw [e, this]⟩
      · cases a5
  · have z : kd = 1 := z
    subst z
    simp only [Bool.and_eq_true] at h8
    exact ⟨wAt_mem h8.1.1, wAt_mem h8.1.2, wAt_mem h8.2⟩
  · have z : kd = 2 := z
    subst z
    simp only [Bool.and_eq_true] at h8
    exact ⟨wAt_mem h8.1.1.1, wAt_mem h8.1.1.2, wAt_mem h8.1.2, of_decide_eq_true h8.2⟩
theorem WT_good {w : Cond} (h : w ∈ WT) : (w.onTables && w.keeps) = true ∨ ∃ ty, w = .arrayClass ty := good_of_word (List.mem_filter.mp h).2
theorem wsy_good {y : Nat} (h : Cond.code (mNm y) (mCd y) (mMx y) (mRt y) ∈ WT) : GoodIn WT (wsy y) := by
  intro w hw
  have hw : w ∈ WT := by
    rcases List.mem_cons.mp hw with rfl | hw
    · exact h
    · exact hw
  exact ⟨hw, WT_good hw⟩
theorem mLo_le {y y' : Nat} (hy' : y' < 282) (hk : mKd y' ≠ 8) (hm : mMx y' ≤ 19) (hd : mDp y' < mDp y) : mDp y' + 1 ≤ mDp y ∧ 8 + (mMx y' + 11) + mLo y' ≤ mLo y := by
  have h10 := (mget_dp hy' hk).1
  have e1 : mLo y' = 38 * mDp y' := by unfold mLo; split; exact absurd (by assumption) hk; rfl
  refine ⟨hd, ?_⟩
  rw [e1]
  unfold mLo
  split <;> omega
