/-! ===== calls ===== -/
section CALL
variable {y pc : Nat} {ls : eLS} {t : List AV} {k s : Nat} {Q : FT} {Q0 : Option AV → HP} {c : Nat} {mr : MR} {mi : MI} {ml : ML}
theorem psh_map (X : XT) (B : Nat) (r : Option AV) (t : List AV) : (r.map (cv X B)).toList ++ t.map (cv X B) = (psh r t).map (cv X B) := by
  cases r <;> rfl
/-- behind a call -/
theorem at_run {y' mc' ms' : Nat} {Q1 : Option AV → HP} {A : Array Value} (hmc : mc' ≤ k) (hms : ms' ≤ s)
    (K : ∀ rv c' mr' mi' ml', Q1 rv c' mr' mi' ml' → At y (pc + 3) ls (psh rv t) (k - mc') (s - ms') Q c' mr' mi' ml')
    {l : Launch} {p : Program} {e : Env} {S : State} {m : MethodId} {args : Array Value} {below : List Frame} {meth : Method} {cd : Code} {H : Heap} {locs : List Loc} {cells slots mc ms : Nat} {lsC : Array Slot} {X : XT} {D : va_G} {aC : AC} {B : Nat} {sh0 sh : List (Nat × Nat)} {st0 : List Value}
    (hfl : l.flags = flags0) (hC : CX y p S m args meth cd X D aC B) (hsh : sh0 <+: sh) (hst : ∀ v ∈ t, okv X sh v) (hL : LVs X B sh lsC (mMx y) ls) (hS : va_S (fun q => B < q) S.heap H locs) (hc1 : cells + k ≤ mc) (hs1 : slots + s ≤ ms)
    (hr : va_Run p l e (rmm y mc ms) S m args below meth cd H locs cells slots mc' ms' (F0 m pc lsC st0) (t.map (cv X B)) (QC X D aC B sh Q1 A) (fun q => B < q)) :
    W p l e (rmm y mc ms) S m args below meth cd H locs cells slots (Q below args S mc ms X D aC B sh0) (F0 m pc lsC st0) := by
  intro T hT Xs
  obtain ⟨v, st₀, u, T', L, h0, X', hLo, e1, e2, ⟨⟨r, c', mr', mi', ml', sh', hv, hQ, hR', hp, hok⟩, hF⟩, st⟩ := hr T hT Xs
  have hv : v = r.map (cv X B) := Outcome.returned.inj hv
  have hS' : va_S (fun q => B < q) S.heap T'.heap (locs ++ L) := by
    obtain ⟨f1, f2⟩ := hF
    rw [h0] at f1 f2
    refine ⟨Nat.le_trans hS.1 (by rw [e1]; exact f1), fun q h1 h2 => ?_, fun q hq => ?_⟩
    · rw [e1, f2 q (Nat.lt_of_lt_of_le h1 hS.1) h2]; exact hS.2.1 q h1 h2
    · rcases List.mem_append.mp hq with h | h
      · exact hS.2.2 q h
      · exact hLo q h
  have hst' : ∀ v ∈ psh r t, okv X sh' v := by
    cases r with
    | none => exact fun v hv => okv_pre hp v (hst v hv)
    | some w => exact cn_ok (hok w rfl) (fun v hv => okv_pre hp v (hst v hv))
  have K2 := K r c' mr' mi' ml' hQ l p e S m args below meth cd T'.heap (locs ++ L) (cells + mc') (slots + ms') mc ms lsC X D aC B sh0 sh' hfl hC (by rw [e1]; exact hR') (hsh.trans hp) hst' (lvs_pre (okv_pre hp) hL) hS' (by omega) (by omega)
  obtain ⟨t2, a1, b1⟩ := K2 T' rfl X'
  rw [← psh_map, ← hv] at a1
  exact ⟨t2, st t2 a1, b1⟩
theorem pc_at {X : XT} {D : va_G} {aC : AC} {B : Nat} {sh : List (Nat × Nat)} {as : List AV} {p : Program} {S : State} {m : MethodId} {args : Array Value} {meth : Method} {cd : Code} {H : Heap} {locs : List Loc} (hC : CX y p S m args meth cd X D aC B) (hR : RH X D aC B sh c mr mi ml H) (hS : va_S (fun q => B < q) S.heap H locs) (hok : ∀ v ∈ as, okv X sh v) : ∀ U : State, U.heap = H → S.WarmedH U.vm → PC X D aC B sh as c mr mi ml (as.map (cv X B)).toArray U :=
  fun U hU hW => ⟨rfl, by rw [hU]; exact hR, hok, va_K.moved hW.alike hC.kn, hC.ext.next hS hU hW⟩
theorem as_ok {X : XT} {sh : List (Nat × Nat)} {as : List AV} (h : ∀ v ∈ as.reverse ++ t, okv X sh v) : (∀ v ∈ as, okv X sh v) ∧ ∀ v ∈ t, okv X sh v :=
  ⟨fun v hv => h v (List.mem_append_left _ (List.mem_reverse.mpr hv)), fun v hv => h v (List.mem_append_right _ hv)⟩
theorem callB {R : Room} {y' mc' ms' idx : Nat} {S : State} {args : Array Value} {own : String} (hy' : y' < 282) (hk : mKd y' ≠ 8) (hwd : ∀ w ∈ WT, w.before args S = true) (hcd : Cond.code (mNm y') (mCd y') (mMx y') (mRt y') ∈ WT) (hin : Cond.initialized (mNm y').cls ∈ WT) (hl : Cond.methodLink own idx (mNm y') ∈ WT) (hR : mDp y' + 1 ≤ R.frames ∧ 8 + (mMx y' + 11) + mLo y' ≤ R.locals) :
    CallB R S args own idx (mNm y') (mCd y') (mMx y') (mRt y') (wsy y') (rmm y' mc' ms') mc' ms' (mNa y') := by
  obtain ⟨-, -, -, -, -, hpar, hn1, hn2, -⟩ := okH_of hy'
  exact callB_of (mNa y') hwd (wsy_good hcd) rfl rfl rfl (hwd _ hin) (hwd _ hl) ⟨hn1, hn2, hpar⟩ hR
theorem at_callS {y' mc' ms' idx : Nat} {as : List AV} {Q1 : Option AV → HP} (hd : decode (mCd y) pc = .ok (.invokestatic idx, 3)) (hy' : y' < 282) (hk : mKd y' = 1) (hl : Cond.methodLink (mNm y).cls idx (mNm y') ∈ WT) (hdp : mDp y' < mDp y) (hcat : catS t ≤ 8) (hlen : as.length = mNa y') (O : Ok y' mc' ms' as Q1 c mr mi ml) (hmc : mc' ≤ k) (hms : ms' ≤ s)
    (K : ∀ rv c' mr' mi' ml', Q1 rv c' mr' mi' ml' → At y (pc + 3) ls (psh rv t) (k - mc') (s - ms') Q c' mr' mi' ml') : At y pc ls (as.reverse ++ t) k s Q c mr mi ml := by
  intro l p e S m args below meth cd H locs cells slots mc ms lsC X D aC B sh0 sh hfl hC hR hsh hst hL hS hc1 hs1
  obtain ⟨-, -, -, -, hmx, -, -, -, -, hs1', -⟩ := okH_of hy'
  obtain ⟨w1, w2, w3⟩ := hs1' hk
  obtain ⟨o1, o2⟩ := as_ok hst
  rw [List.map_append, List.map_reverse]
  refine at_run (y' := y') hmc hms K hfl hC hsh o2 hL hS hc1 hs1 (va_runS (As := as.map (cv X B)) (rest := t.map (cv X B)) (n := mNa y') ⟨hC.1, hC.2.1, hC.ml, hC.own, hC.wds⟩ (O l X D aC B sh hfl) ⟨callB hy' (by omega) hC.wds w1 w2 hl (mLo_le hy' (by omega) hmx hdp), hC.wds _ w3⟩ ⟨PC_blind, pc_at hC hR hS o1⟩ rfl (by rw [List.length_map]; exact hlen) hL.1 rfl (lv_room (by rw [catS_map hC.ext.fm]; exact hcat)) hd ⟨?_, ?_⟩)
  · show cells + mc' ≤ mc; omega
  · show slots + ms' ≤ ms; omega
theorem at_callV {y' mc' ms' idx n a : Nat} {as : List AV} {Q1 : Option AV → HP} (hd : decode (mCd y) pc = .ok (.invokevirtual idx, 3)) (hy' : y' < 282) (hk : mKd y' = 0) (hl : Cond.methodLink (mNm y).cls idx (mNm y') ∈ WT) (hdp : mDp y' < mDp y) (hcat : catS t ≤ 8) (hlen : as.length = mNa y') (O : Ok y' mc' ms' (.inr (.inr (some (mCi y' + 10, n, a))) :: as) Q1 c mr mi ml) (hmc : mc' ≤ k) (hms : ms' ≤ s)
    (K : ∀ rv c' mr' mi' ml', Q1 rv c' mr' mi' ml' → At y (pc + 3) ls (psh rv t) (k - mc') (s - ms') Q c' mr' mi' ml') : At y pc ls ((.inr (.inr (some (mCi y' + 10, n, a))) :: as).reverse ++ t) k s Q c mr mi ml := by
  intro l p e S m args below meth cd H locs cells slots mc ms lsC X D aC B sh0 sh hfl hC hR hsh hst hL hS hc1 hs1
  obtain ⟨-, -, -, -, hmx, -, -, -, hs0, -, -⟩ := okH_of hy'
  obtain ⟨w1, w2, w3, w4, w5⟩ := hs0 hk
  obtain ⟨o1, o2⟩ := as_ok hst
  have hrc : ∃ b, cv X B (.inr (.inr (some (mCi y' + 10, n, a)))) = .ref b ∧ ∃ cellB : Cell, H[b]? = some cellB ∧ cellB.vm.isStatics = false ∧ S.vm.findClass (mNm y').cls = some cellB.cls := by
    have hq : okq X sh (mCi y' + 10, n, a) := o1 _ List.mem_cons_self
    rcases w5 with ⟨e1, e2⟩ | ⟨T, N, e1⟩
    · rw [e1] at hq ⊢
      rw [e2]
      exact ⟨X.1 a, rfl, vk_recv hC.ext.1 (show a < nStr from hq) hS⟩
    · obtain ⟨h10, -⟩ := clOK_of e1
      refine ⟨B + a, cq_in (by omega), ?_⟩
      obtain ⟨-, hP⟩ := hR.cell hq (by omega)
      rw [cE_obj] at hP
      exact va_recv hC.kn hP e1 (q0 := 0) rfl
  obtain ⟨b, hb, hcell⟩ := hrc
  have hpc := pc_at hC hR hS o1
  rw [List.map_append, List.map_reverse]
  rw [List.map_cons, hb] at hpc ⊢
  rw [List.reverse_cons, List.append_assoc]
  refine at_run (y' := y') (A := (Value.ref b :: as.map (cv X B)).toArray) hmc hms K hfl hC hsh o2 hL hS hc1 hs1 (va_runV (C := (mNm y').cls) (b := b) (As := as.map (cv X B)) (rest := t.map (cv X B)) (n := mNa y') ⟨hC.1, hC.2.1, hC.ml, hC.own, hC.wds⟩ (O l X D aC B sh hfl) ⟨callB hy' (by omega) hC.wds w1 w2 hl (mLo_le hy' (by omega) hmx hdp), hC.wds _ w3, hC.wds _ w4⟩ ⟨PC_blind, hcell, hpc⟩ rfl (by rw [List.length_map]; exact hlen) hL.1 rfl (lv_room (by rw [catS_map hC.ext.fm]; exact hcat)) hd ⟨?_, ?_⟩)
  · show cells + mc' ≤ mc; omega
  · show slots + ms' ≤ ms; omega
theorem at_callI {y' mc' ms' idx n a ro : Nat} {as : List AV} {Q1 : Option AV → HP} (hd : decode (mCd y) pc = .ok (.invokespecial idx, 3)) (hy' : y' < 282) (hk : mKd y' = 2) (hro : ro < 100) (hl : Cond.methodLink (mNm y).cls idx (mNm y') ∈ WT ∨ ((mNm y).cls, idx, mNm y') ∈ nestT) (hdp : mDp y' < mDp y) (hcat : catS t ≤ 8) (hlen : as.length = mNa y') (O : Ok y' mc' ms' (.inr (.inr (some (ro, n, a))) :: as) Q1 c mr mi ml) (hmc : mc' ≤ k) (hms : ms' ≤ s)
    (K : ∀ rv c' mr' mi' ml', Q1 rv c' mr' mi' ml' → At y (pc + 3) ls (psh rv t) (k - mc') (s - ms') Q c' mr' mi' ml') : At y pc ls ((.inr (.inr (some (ro, n, a))) :: as).reverse ++ t) k s Q c mr mi ml := by
  intro l p e S m args below meth cd H locs cells slots mc ms lsC X D aC B sh0 sh hfl hC hR hsh hst hL hS hc1 hs1
  obtain ⟨-, -, -, -, hmx, hpar, hn1, hn2, -, -, hs2⟩ := okH_of hy'
  obtain ⟨w1, w2, w3, w4⟩ := hs2 hk
  obtain ⟨o1, o2⟩ := as_ok hst
  have hb : cv X B (.inr (.inr (some (ro, n, a)))) = .ref (B + a) := cq_in hro
  have hpc := pc_at hC hR hS o1
  have hrt := (mget_dp hy' (by omega)).2 hk
  rw [List.map_append, List.map_reverse]
  rw [List.map_cons, hb] at hpc ⊢
  rw [List.reverse_cons, List.append_assoc]
  have hf : cells + mc' ≤ (rmm y mc ms).cells ∧ slots + ms' ≤ (rmm y mc ms).slots := ⟨by show cells + mc' ≤ mc; omega, by show slots + ms' ≤ ms; omega⟩
  have hlo := mLo_le hy' (by omega) hmx hdp
  rcases hl with hl | hl
  · have hcb := callB (R := rmm y mc ms) (mc' := mc') (ms' := ms') hy' (by omega) hC.wds w1 w2 hl hlo
    rw [hrt] at hcb
    exact at_run (y' := y') (A := (Value.ref (B + a) :: as.map (cv X B)).toArray) hmc hms K hfl hC hsh o2 hL hS hc1 hs1 (va_runI (b := B + a) (As := as.map (cv X B)) (rest := t.map (cv X B)) (n := mNa y') ⟨hC.1, hC.2.1, hC.ml, hC.own, hC.wds⟩ (O l X D aC B sh hfl) ⟨hcb, w4, hC.wds _ w3⟩ ⟨PC_blind, hpc⟩ rfl (by rw [List.length_map]; exact hlen) hL.1 rfl (lv_room (by rw [catS_map hC.ext.fm]; exact hcat)) hd hf)
  · have hcn := va_cnB (R := rmm y mc ms) (mc := mc') (ms := ms') (rm := rmm y' mc' ms') (ws := wsy y') (mNa y') hC.wds (wsy_good w1) rfl rfl rfl (hC.ext.nst _ hl) (hC.wds _ w2) ⟨hn1, hn2, hpar⟩ hlo
    rw [hrt] at hcn
    exact at_run (y' := y') (A := (Value.ref (B + a) :: as.map (cv X B)).toArray) hmc hms K hfl hC hsh o2 hL hS hc1 hs1 (va_runIN (b := B + a) (As := as.map (cv X B)) (rest := t.map (cv X B)) (n := mNa y') ⟨hC.1, hC.2.1, hC.ml, hC.own, hC.wds⟩ (O l X D aC B sh hfl) ⟨hcn, w4, hC.wds _ w3⟩ ⟨PC_blind, hpc⟩ rfl (by rw [List.length_map]; exact hlen) hL.1 rfl (lv_room (by rw [catS_map hC.ext.fm]; exact hcat)) hd hf)
theorem obj_words : wAt 138 (.instanceMethod Lib.objectInit) = true ∧ wAt 139 (.code Lib.objectInit ⟨#[0xb1]⟩ 1 none) = true := by decide +kernel
theorem mLo_38 (hy : y < 282) (hdp : 1 ≤ mDp y) : 38 ≤ mLo y := by unfold mLo; split <;> omega
theorem at_obj {idx : Nat} {q : Nat × Nat × Nat} (hy : y < 282) (hdp : 1 ≤ mDp y) (hq : q.1 < 100) (hcat : catS t ≤ 8) (hd : decode (mCd y) pc = .ok (.invokespecial idx, 3)) (hl : Cond.methodLink (mNm y).cls idx Lib.objectInit ∈ WT) (K : At y (pc + 3) ls t k s Q c mr mi ml) : At y pc ls (.inr (.inr (some q)) :: t) k s Q c mr mi ml := by
  intro l p e S m args below meth cd H locs cells slots mc ms lsC X D aC B sh0 sh hfl hC hR hsh hst hL hS hc1 hs1
  have hb : cv X B (.inr (.inr (some q))) = .ref (B + q.2.2) := if_pos hq
  show W p l e (rmm y mc ms) S m args below meth cd H locs cells slots _ (F0 m pc lsC (cv X B (.inr (.inr (some q))) :: t.map (cv X B)))
  rw [hb]
  have h38 := mLo_38 hy hdp
  have hr : 2 * (F0 m pc lsC (Value.ref (B + q.2.2) :: t.map (cv X B))).monitorRoom + ((t.map (cv X B)).map fun v => v.category).sum ≤ 8 := lv_room (by rw [catS_map hC.ext.fm]; exact hcat)
  refine W.objInit hC.1 hC.2.1 hC.own (hC.wds _ hl) (hC.wds _ (wAt_mem obj_words.1)) (hC.wds _ (wAt_mem obj_words.2)) rfl (hL.1.trans hC.ml.symm) rfl hd (show 1 ≤ mDp y from hdp) ?_ (K l p e S m args below meth cd H locs cells slots mc ms lsC X D aC B sh0 sh hfl hC hR hsh (tl_ok hst) hL hS hc1 hs1)
  show _ ≤ mLo y
  omega
theorem math_words : (wAt 1063 (.code Lib.Math.max.name Lib.Math.max.code 2 (some .int)) && wAt 1062 (.static Lib.Math.max.name) && wAt 492 (.code Lib.Math.min.name Lib.Math.min.code 2 (some .int)) && wAt 491 (.static Lib.Math.min.name) && wAt 849 (.code Lib.MathLoose.abs_long.x Lib.MathLoose.abs_long.code 2 (some .long)) && wAt 848 (.static Lib.MathLoose.abs_long.x) && wAt 121 (.initialized "java/lang/Math")) = true := by decide +kernel
theorem at_mmax {idx : Nat} {u w : Int32} (hy : y < 282) (hdp : 1 ≤ mDp y) (hcat : catS t ≤ 8) (hd : decode (mCd y) pc = .ok (.invokestatic idx, 3)) (hl : Cond.methodLink (mNm y).cls idx Lib.Math.max.name ∈ WT) (K : At y (pc + 3) ls (.inl (if u < w then w else u) :: t) k s Q c mr mi ml) : At y pc ls (.inl w :: .inl u :: t) k s Q c mr mi ml := by
  intro l p e S m args below meth cd H locs cells slots mc ms lsC X D aC B sh0 sh hfl hC hR hsh hst hL hS hc1 hs1
  have hw := math_words
  simp only [Bool.and_eq_true] at hw
  have h38 := mLo_38 hy hdp
  exact va_mmax hC.1 hC.2.1 (hC.ml.trans hL.1.symm) hC.own (hC.wds _ hl) (hC.wds _ (wAt_mem hw.1.1.1.1.1.2)) (hC.wds _ (wAt_mem hw.2)) (hC.wds _ (wAt_mem hw.1.1.1.1.1.1)) (show 1 ≤ mDp y from hdp) (by rw [catS_map hC.ext.fm]; show _ ≤ mLo y; omega) (show cells ≤ mc by omega) (show slots ≤ ms by omega) hd (K l p e S m args below meth cd H locs cells slots mc ms lsC X D aC B sh0 sh hfl hC hR hsh (cn_ok trivial (tl2_ok hst)) hL hS hc1 hs1)
theorem at_mmin {idx : Nat} {u w : Int32} (hy : y < 282) (hdp : 1 ≤ mDp y) (hcat : catS t ≤ 8) (hd : decode (mCd y) pc = .ok (.invokestatic idx, 3)) (hl : Cond.methodLink (mNm y).cls idx Lib.Math.min.name ∈ WT) (K : At y (pc + 3) ls (.inl (if w < u then w else u) :: t) k s Q c mr mi ml) : At y pc ls (.inl w :: .inl u :: t) k s Q c mr mi ml := by
  intro l p e S m args below meth cd H locs cells slots mc ms lsC X D aC B sh0 sh hfl hC hR hsh hst hL hS hc1 hs1
  have hw := math_words
  simp only [Bool.and_eq_true] at hw
  have h38 := mLo_38 hy hdp
  exact va_mmin hC.1 hC.2.1 (hC.ml.trans hL.1.symm) hC.own (hC.wds _ hl) (hC.wds _ (wAt_mem hw.1.1.1.2)) (hC.wds _ (wAt_mem hw.2)) (hC.wds _ (wAt_mem hw.1.1.1.1.2)) (show 1 ≤ mDp y from hdp) (by rw [catS_map hC.ext.fm]; show _ ≤ mLo y; omega) (show cells ≤ mc by omega) (show slots ≤ ms by omega) hd (K l p e S m args below meth cd H locs cells slots mc ms lsC X D aC B sh0 sh hfl hC hR hsh (cn_ok trivial (tl2_ok hst)) hL hS hc1 hs1)
theorem at_mabs {idx : Nat} {u : Int64} (hy : y < 282) (hdp : 1 ≤ mDp y) (hcat : catS t ≤ 8) (hd : decode (mCd y) pc = .ok (.invokestatic idx, 3)) (hl : Cond.methodLink (mNm y).cls idx Lib.MathLoose.abs_long.x ∈ WT) (K : At y (pc + 3) ls (.inr (.inl (if 0 < u then u else -u)) :: t) k s Q c mr mi ml) : At y pc ls (.inr (.inl u) :: t) k s Q c mr mi ml := by
  intro l p e S m args below meth cd H locs cells slots mc ms lsC X D aC B sh0 sh hfl hC hR hsh hst hL hS hc1 hs1
  have hw := math_words
  simp only [Bool.and_eq_true] at hw
  have h38 := mLo_38 hy hdp
  exact va_mabs_long hC.1 hC.2.1 (hC.ml.trans hL.1.symm) hC.own (hC.wds _ hl) (hC.wds _ (wAt_mem hw.1.2)) (hC.wds _ (wAt_mem hw.2)) (hC.wds _ (wAt_mem hw.1.1.2)) (show 1 ≤ mDp y from hdp) (by rw [catS_map hC.ext.fm]; show _ ≤ mLo y; omega) (show cells ≤ mc by omega) (show slots ≤ ms by omega) hd (K l p e S m args below meth cd H locs cells slots mc ms lsC X D aC B sh0 sh hfl hC hR hsh (cn_ok trivial (tl_ok hst)) hL hS hc1 hs1)
-- answers
theorem W_mono {p : Program} {l : Launch} {e : Env} {R : Room} {S : State} {m : MethodId} {args : Array Value} {below : List Frame} {meth : Method} {cd : Code} {H : Heap} {locs : List Loc} {cells slots : Nat} {F F' : State → Prop} {g : JFrame} (h : ∀ t, F t → F' t) (w : W p l e R S m args below meth cd H locs cells slots F g) : W p l e R S m args below meth cd H locs cells slots F' g := fun T hT X => by
  obtain ⟨t, a, b⟩ := w T hT X
  exact ⟨t, a, h t b⟩
theorem at_iret {x : Int32} (hZ : RetOK Q Q0) (hd : decode (mCd y) pc = .ok (.ireturn, 1)) (hq : retK (mRt y) x (Q0 (some (.inl x)) c mr mi ml)) : At y pc ls [.inl x] k s Q c mr mi ml := by
  intro l p e S m args below meth cd H locs cells slots mc ms lsC X D aC B sh0 sh hfl hC hR hsh hst hL hS hc1 hs1
  refine W_mono (hZ below args S mc ms X D aC B sh0) ?_
  refine W.widen (k := mc) (n := ms) (by omega) (by omega) ?_
  have key : Q0 (some (.inl x)) c mr mi ml → ∀ u : State, u.heap = H → S.WarmedH u.vm → QC X D aC B sh0 Q0 args S (.returned (some (.int x))) u := fun hq u hu _ => ⟨⟨some (.inl x), c, mr, mi, ml, sh, rfl, hq, by rw [hu]; exact hR, hsh, fun v hv => by cases hv; trivial⟩, hS.F hu⟩
  unfold retK at hq
  split at hq
  · rename_i h
    exact W.iret hC.1 hC.2.1 (hC.rt.trans h) (key hq) (fun q hq => hS.2.2 q hq) hd hC.lk
  · rename_i h
    refine W.zret hC.1 hC.2.1 (hC.rt.trans h) ?_ (key hq.2) (fun q hq => hS.2.2 q hq) hd hC.lk
    rcases hq.1 with rfl | rfl <;> decide
  · rename_i ty _ _ h
    exact W.zret hC.1 hC.2.1 (hC.rt.trans h) hq.1 (key hq.2) (fun q hq => hS.2.2 q hq) hd hC.lk
  · exact hq.elim
theorem at_lret {x : Int64} (hZ : RetOK Q Q0) (hr : mRt y = some .long) (hd : decode (mCd y) pc = .ok (.lreturn, 1)) (hq : Q0 (some (.inr (.inl x))) c mr mi ml) : At y pc ls [.inr (.inl x)] k s Q c mr mi ml := by
  intro l p e S m args below meth cd H locs cells slots mc ms lsC X D aC B sh0 sh hfl hC hR hsh hst hL hS hc1 hs1
  refine W_mono (hZ below args S mc ms X D aC B sh0) ?_
  refine W.widen (k := mc) (n := ms) (by omega) (by omega) ?_
  exact W.lret hC.1 hC.2.1 (hC.rt.trans hr) (fun u hu _ => ⟨⟨some (.inr (.inl x)), c, mr, mi, ml, sh, rfl, hq, by rw [hu]; exact hR, hsh, fun v hv => by cases hv; trivial⟩, hS.F hu⟩) (fun q hq => hS.2.2 q hq) hd hC.lk
theorem at_vret (hZ : RetOK Q Q0) (hr : mRt y = none) (hd : decode (mCd y) pc = .ok (.return_, 1)) (hq : Q0 none c mr mi ml) : At y pc ls [] k s Q c mr mi ml := by
  intro l p e S m args below meth cd H locs cells slots mc ms lsC X D aC B sh0 sh hfl hC hR hsh hst hL hS hc1 hs1
  refine W_mono (hZ below args S mc ms X D aC B sh0) ?_
  refine W.widen (k := mc) (n := ms) (by omega) (by omega) ?_
  exact W.vret hC.1 hC.2.1 (hC.rt.trans hr) (fun u hu _ => ⟨⟨none, c, mr, mi, ml, sh, rfl, hq, by rw [hu]; exact hR, hsh, fun v hv => by cases hv⟩, hS.F hu⟩) (fun q hq => hS.2.2 q hq) hd hC.lk
end CALL
