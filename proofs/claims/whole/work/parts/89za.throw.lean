/-! ===== a method that throws ===== -/
theorem RH.more {X : XT} {D : va_G} {aC : AC} {B : Nat} {sh : List (Nat × Nat)} {c : Nat} {mr : MR} {mi : MI} {ml : ML} {H H1 : Heap} (h : RH X D aC B sh c mr mi ml H) (h1 : H.size ≤ H1.size) (h2 : ∀ q, q < H.size → H1[q]? = H[q]?) :
    RH X D aC B (sh ++ List.replicate (H1.size - H.size) (99, 0)) (c + (H1.size - H.size)) mr mi ml H1 := by
  obtain ⟨r1, r2, r3, r4, r5, r6, r7⟩ := h
  have hp : sh <+: sh ++ List.replicate (H1.size - H.size) (99, 0) := List.prefix_append _ _
  have hc0 : 0 < c := by rw [← r2]; exact (List.getElem?_eq_some_iff.mp r3).1
  have key : ∀ (b : Nat) (x : Nat × Nat), (sh ++ List.replicate (H1.size - H.size) (99, 0))[b]? = some x → sh[b]? = some x ∨ x = (99, 0) := by
    intro b x hb
    by_cases hl : b < sh.length
    · rw [List.getElem?_append_left hl] at hb
      exact Or.inl hb
    · rw [List.getElem?_append_right (by omega), List.getElem?_replicate] at hb
      split at hb
      · exact Or.inr (Option.some.inj hb).symm
      · cases hb
  refine ⟨by omega, by rw [List.length_append, List.length_replicate, r2], ?_, fun b ro n hb hro => ?_, fun b k q hq => okq_pre hp q (r5 b k q hq), fun b n i q hb hq => ?_, r7⟩
  · rw [List.getElem?_append_left (by rw [r2]; exact hc0)]; exact r3
  · rcases key b _ hb with hb | hx
    · have hv := r4 b ro n hb hro
      exact hv.kept (h2 _ hv.lt)
    · cases hx; omega
  · rcases key b _ hb with hb | hx
    · exact r6 b n i q hb hq
    · cases hx
/-- what is known where it has thrown -/
def XQ (X : XT) (D : va_G) (aC : AC) (B : Nat) (sh0 : List (Nat × Nat)) (QX : HP) : String → State → State → Prop := fun E st t =>
  E = nseN ∧ (∃ (c : Nat) (mr : MR) (mi : MI) (ml : ML) (sh : List (Nat × Nat)), QX c mr mi ml ∧ RH X D aC B sh c mr mi ml t.heap ∧ sh0 <+: sh) ∧ va_F (fun q => B < q) st t
def NMD (y : Nat) (S : State) (args : Array Value) (below : List Frame) : Prop := ∀ m : MethodId, S.frames = .invoking m args :: below → S.methodNamed? (mNm y) = some m
def Zx (y : Nat) (Q : Option AV → HP) (QX : HP) : FT := fun below args S mc ms X D aC B sh0 t => NMD y S args below → vx_MQ below (QC X D aC B sh0 Q) (XQ X D aC B sh0 QX) args S mc ms (fun q => B < q) t
theorem Zx_ok {y : Nat} {Q : Option AV → HP} {QX : HP} : RetOK (Zx y Q QX) Q := by
  intro below args S mc ms X D aC B sh0 t h _
  obtain ⟨o, b1, b2, b3, b4⟩ := h
  exact ⟨o, b1, b2, Or.inl ⟨b3, b4⟩⟩
def OkX (y mc ms : Nat) (as : List AV) (Q : Option AV → HP) (QX : HP) : HP := fun c mr mi ml =>
  ∀ (l : Launch) (X : XT) (D : va_G) (aC : AC) (B : Nat) (sh : List (Nat × Nat)), l.flags = flags0 → vx_Met l (mNm y) (wsy y) (rmm y mc ms) (PC X D aC B sh as c mr mi ml) (QC X D aC B sh Q) (XQ X D aC B sh QX) mc ms (fun q => B < q)
theorem okx_at {y mc ms : Nat} {as : List AV} {Q : Option AV → HP} {QX : HP} {c : Nat} {mr : MR} {mi : MI} {ml : ML} (hy : y < 282) (hn : catS as ≤ mMx y) (K : At y 0 (entK as (mMx y) id) [] mc ms (Zx y Q QX) c mr mi ml) : OkX y mc ms as Q QX c mr mi ml := by
  intro l X D aC B sh hfl
  obtain ⟨-, -, -, hpl, -⟩ := okH_of hy
  refine vx_ofW (cc := mCd y) (maxL := mMx y) (ret := mRt y) hpl rfl ?_
  intro p e S m args below meth cd s₁ Bd hml htb hv
  obtain ⟨rfl, hR, hok, hK, hE⟩ := hv
  have hts := atoms_spec (ws := wsy y) Bd.pre
  have hC : CX y p S m (as.map (cv X B)).toArray meth cd X D aC B := ⟨Bd.exec, Bd.bytes, hml, Bd.returns, Bd.notSynchronized, findClass_of_methodNamed Bd.named, fun hn => (name_of_methodNamed Bd.named Bd.method).1.trans hn, fun w hw => hts w (List.mem_cons_of_mem _ hw), hK, hE⟩
  have X₀ : Stand p l e (rmm y mc ms) S m (as.map (cv X B)).toArray below meth cd s₁ [] 0 0 := Stand.of_body Bd
  have hN : NMD y S (as.map (cv X B)).toArray below := by
    intro m' hm
    rw [X₀.frames] at hm
    have e : m = m' := by
      have := (List.cons.inj hm).1
      cases this
      rfl
    rw [← e]; exact Bd.named
  rw [lg_entry_eq]
  exact W_mono (fun t h => h hN) (K l p e S m _ below meth cd S.heap [] 0 0 mc ms _ X D aC B sh sh hfl hC hR (List.prefix_refl _) (fun v hv => by cases hv) (lvs_entry hE.fm hn hok) va_S.rf (by omega) (by omega))
theorem st_code : Cond.code (mNm m_w_stuck) (mCd m_w_stuck) (mMx m_w_stuck) (mRt m_w_stuck) ∈ WT := by decide +kernel
theorem st_w1 : Cond.classLink "WeighingPlates" 352 nseN ∈ WT ∧ Cond.initialized nseN ∈ WT := by decide +kernel
theorem st_good0 : ∀ w ∈ (nseF "WeighingPlates" 356).filter goodWord, w ∈ lw_tbl := by decide +kernel
theorem st_good : ∀ w ∈ (nseF "WeighingPlates" 356).filter goodWord, w ∈ WT := fun w hw => List.mem_filter.mpr ⟨st_good0 w hw, (List.mem_filter.mp hw).2⟩
theorem st_bad : (nseF "WeighingPlates" 356).filter (fun w => !goodWord w) = [Cond.declares (Bundle.initS rtN), Cond.declares (Bundle.initS exN), Cond.declares (Bundle.initS Bundle.tN), Cond.castable nseN nseN] := by decide +kernel
theorem st_ini : Cond.instanceMethod (Bundle.initS rtN) ∈ lw_tbl ∧ Cond.instanceMethod (Bundle.initS exN) ∈ lw_tbl ∧ Cond.instanceMethod (Bundle.initS Bundle.tN) ∈ lw_tbl := by decide +kernel
def isCd (x : MethodName) (w : Cond) : Bool := match w with
  | .code y _ _ _ => decide (y = x)
  | _ => false
theorem isCd_of {x : MethodName} {w : Cond} (h : isCd x w = true) : ∃ bs mx ret, w = Cond.code x bs mx ret := by
  unfold isCd at h
  split at h
  · exact ⟨_, _, _, by rw [of_decide_eq_true h]⟩
  · cases h
theorem st_cod : lw_tbl.any (isCd (Bundle.initS rtN)) = true ∧ lw_tbl.any (isCd (Bundle.initS exN)) = true ∧ lw_tbl.any (isCd (Bundle.initS Bundle.tN)) = true := by decide +kernel
theorem cd_of {args : Array Value} {S : State} {x : MethodName} (h : lw_tbl.any (isCd x) = true) (hwd : ∀ w ∈ WT, w.before args S = true) : ∃ bs mx ret, (Cond.code x bs mx ret).before args S = true := by
  obtain ⟨w, hw, hx⟩ := List.any_eq_true.mp h
  obtain ⟨bs, mx, ret, rfl⟩ := isCd_of hx
  exact ⟨bs, mx, ret, hwd _ (List.mem_filter.mpr ⟨hw, rfl⟩)⟩
theorem decl_of {args : Array Value} {S : State} {x : MethodName} {bs : ByteArray} {mx : Nat} {ret : Option FieldType} (h1 : (Cond.instanceMethod x).before args S = true) (h2 : (Cond.code x bs mx ret).before args S = true) : (Cond.declares x).before args S = true := by
  obtain ⟨m, meth, hn, hm, hst, -⟩ := Cond.instanceMethod_spec h1
  obtain ⟨meth', c, hm', -, -, -, -, -, -, hp⟩ := Cond.code_spec hn h2
  cases hm.symm.trans hm'
  show (Cond.declares x).holds args S none S [] = true
  simp [Cond.holds, Cond.value, hn, hm, hst, hp]
theorem decl_at {args : Array Value} {S : State} {x : MethodName} (h1 : (Cond.instanceMethod x).before args S = true) (h2 : ∃ bs mx ret, (Cond.code x bs mx ret).before args S = true) : (Cond.declares x).before args S = true := by
  obtain ⟨bs, mx, ret, h⟩ := h2
  exact decl_of h1 h
theorem cast_self {args : Array Value} {S : State} (h : (Cond.initialized nseN).before args S = true) : (Cond.castable nseN nseN).before args S = true := by
  have h : (Cond.initialized nseN).holds args S none S [] = true := h
  show (Cond.castable nseN nseN).holds args S none S [] = true
  simp only [Cond.holds, Cond.value] at h ⊢
  cases hc : S.vm.findClass nseN with
  | none => simp [hc] at h
  | some c =>
    have e : S.vm.assignable c c = true := by
      show S.vm.assignableAux (255 + 1) c c = true
      unfold Vm.assignableAux
      simp
    simp [e]
theorem st_ot : ∀ w ∈ Cond.classLink "WeighingPlates" 352 nseN :: Cond.initialized nseN :: nseF "WeighingPlates" 356, vx_ot w = true := by decide +kernel
theorem st_dec : decode (mCd m_w_stuck) 49 = .ok (.new 352, 3) ∧ decode (mCd m_w_stuck) 52 = .ok (.dup, 1) ∧ decode (mCd m_w_stuck) 53 = .ok (.ldc_w 354, 3) ∧ decode (mCd m_w_stuck) 56 = .ok (.invokespecial 356, 3) ∧ decode (mCd m_w_stuck) 59 = .ok (.athrow, 1) := by decide +kernel
theorem st_ld : ("WeighingPlates", 354, "no such colour is stuck", 0) ∈ ldT := by decide
theorem w_in {w : Cond} (h : w ∈ lw_tbl) (hg : goodWord w = true := by rfl) : w ∈ WT := List.mem_filter.mpr ⟨h, hg⟩
theorem tr_off {l : Launch} (h : l.flags = flags0) : l.stackTraces = false := by
  unfold Launch.stackTraces
  rw [h]
  decide +kernel
theorem at_thr {ls : eLS} {k s : Nat} {Q : Option AV → HP} {QX : HP} {c : Nat} {mr : MR} {mi : MI} {ml : ML} (hk : 1 ≤ k) (hs : 6 ≤ s) (h : ∀ c', c ≤ c' → QX c' mr mi ml) : At m_w_stuck 49 ls [] k s (Zx m_w_stuck Q QX) c mr mi ml := by
  intro l p e S m args below meth cd H locs cells slots mc ms lsC X D aC B sh0 sh hfl hC hR hsh hst hL hS hc1 hs1
  intro T hT Xs
  by_cases hN : NMD m_w_stuck S args below
  · have hnm := hN m Xs.frames
    obtain ⟨meth9, c9, h1, h2, -, -, -, -, h7, -⟩ := Cond.code_spec hnm (hC.wds _ st_code)
    cases Option.some.inj (h1.symm.trans Xs.method)
    cases Option.some.inj (h2.symm.trans Xs.code)
    have hout : ∀ x ∈ cd.exceptionTable.toList, covers x (49 + 10) = false := fun x hx => by
      rw [Array.isEmpty_iff.mp h7] at hx
      cases hx
    have hat : ∀ w ∈ nseF "WeighingPlates" 356, w.before args S = true :=
      vx_hat (B := [Cond.declares (Bundle.initS rtN), Cond.declares (Bundle.initS exN), Cond.declares (Bundle.initS Bundle.tN), Cond.castable nseN nseN]) (fun w hw => hC.wds w (st_good w hw)) (fun w hw => by rw [st_bad] at hw; exact hw)
        (vx_c (decl_at (hC.wds _ (w_in st_ini.1)) (cd_of st_cod.1 hC.wds)) (vx_c (decl_at (hC.wds _ (w_in st_ini.2.1)) (cd_of st_cod.2.1 hC.wds)) (vx_c (decl_at (hC.wds _ (w_in st_ini.2.2)) (cd_of st_cod.2.2 hC.wds)) (vx_c (cast_self (hC.wds _ st_w1.2)) vx_n))))
    obtain ⟨d0, d3, d4, d7, d10⟩ := st_dec
    have k : W p l e (rmm m_w_stuck mc ms) S m args below meth cd H locs cells slots (vx_MQ below (QC X D aC B sh0 Q) (XQ X D aC B sh0 QX) args S mc ms (fun q => B < q)) (F0 m 49 lsC []) := by
      refine nx_throw (cc := mCd m_w_stuck) (own := "WeighingPlates") (text := "no such colour is stuck") (ik := 352) (is := 354) (ic := 356) (sa := X.1 0) (A := fun q => B < q) hC.1 hC.2.1 (tr_off hfl) hC.own (hC.wds _ st_w1.1) (hC.wds _ st_w1.2) (hC.ext.lds _ st_ld) hat st_ot hC.ext.tU hC.ext.tN hS (hL.1.trans hC.ml.symm) d0 d3 d4 d7 d10 hout (show 2 + 3 < mDp m_w_stuck by decide +kernel) (show 0 + (13 * (2 + 1) + 43) ≤ mLo m_w_stuck by decide +kernel) (show cells + 1 ≤ mc by omega) (show slots + 6 ≤ ms by omega) hC.lk (fun t _ z1 z2 => ?_) (fun z hz => hS.2.2 z hz) (by omega) (by omega)
      exact ⟨rfl, ⟨_, mr, mi, ml, _, h _ (Nat.le_add_right c (t.heap.size - H.size)), hR.more z1 z2, hsh.trans (List.prefix_append _ _)⟩, Nat.le_trans hS.1 z1, fun q q1 q2 => by rw [z2 q (Nat.lt_of_lt_of_le q1 hS.1)]; exact hS.2.1 q q1 q2⟩
    obtain ⟨t, a1, b1⟩ := k T hT Xs
    exact ⟨t, a1, fun _ => b1⟩
  · exact ⟨_, Steps.refl _, fun z => absurd z hN⟩
