/-! ===== the law's own stuck, which catches ===== -/
def yLs : MethodName := ⟨"WeighingPlatesLaw", "stuck", "(LWeighingPlates;I[J)I"⟩
def hLs : List (Nat × Nat × Nat × Nat) := [(0, 9, 12, 13)]
def wsLs : List Cond := Cond.codeWith yLs method_3_code 4 (some .int) hLs :: WT
def rmLs (mc ms : Nat) : Room := { frames := 12, cells := mc, slots := ms, locals := 445 }
theorem ls_dec : decode method_3_code 0 = .ok (.aload_n 2, 1) ∧ decode method_3_code 1 = .ok (.iconst 0, 1) ∧ decode method_3_code 2 = .ok (.aload_n 0, 1) ∧ decode method_3_code 3 = .ok (.iload_n 1, 1) ∧ decode method_3_code 4 = .ok (.invokevirtual 7, 3) ∧ decode method_3_code 7 = .ok (.i2l, 1) ∧ decode method_3_code 8 = .ok (.lastore, 1) ∧ decode method_3_code 9 = .ok (.goto 6, 3) ∧ decode method_3_code 12 = .ok (.astore_n 3, 1) ∧ decode method_3_code 13 = .ok (.iconst 1, 1) ∧ decode method_3_code 14 = .ok (.ireturn, 1) ∧ decode method_3_code 15 = .ok (.iconst 0, 1) ∧ decode method_3_code 16 = .ok (.ireturn, 1) := by decide +kernel
theorem ls_w : Cond.codeWith yLs method_3_code 4 (some .int) hLs ∈ lw_tbl ∧ Cond.static yLs ∈ lw_tbl ∧ Cond.initialized "WeighingPlatesLaw" ∈ lw_tbl ∧ Cond.methodLink "WeighingPlatesLaw" 7 (mNm m_w_stuck) ∈ lw_tbl ∧ Cond.classLink "WeighingPlatesLaw" 13 nseN ∈ lw_tbl := by decide +kernel
theorem OkLs {x : Int32} {Q QL : Option AV → HP} {QX : HP} {c : Nat} {mr : MR} {mi : MI} {ml : ML} (OX : OkX m_w_stuck 1 6 [vR 10 0 1, vI x] Q QX c mr mi ml)
    (H1 : ∀ r c' mr' mi' ml', Q r c' mr' mi' ml' → ∃ i : Int32, r = some (vI i) ∧ QL (some (vI 0)) c' mr' mi' (u2 ml' 66 (0 : Int32).toNatClampNeg i.toInt64))
    (H2 : ∀ c' mr' mi' ml', QX c' mr' mi' ml' → QL (some (vI 1)) c' mr' mi' ml') :
    ∀ (l : Launch) (X : XT) (D : va_G) (aC : AC) (B : Nat) (sh : List (Nat × Nat)), l.flags = flags0 → Met l yLs wsLs (rmLs 1 6) (PC X D aC B sh [vR 10 0 1, vI x, vR 1 1 66] c mr mi ml) (QC X D aC B sh QL) 1 6 (fun q => B < q) := by
  intro l X D aC B sh hfl
  have V : vx_Met l yLs wsLs (rmLs 1 6) (PC X D aC B sh [vR 10 0 1, vI x, vR 1 1 66] c mr mi ml) (QC X D aC B sh QL) (fun _ _ _ => False) 1 6 (fun q => B < q) := by
    refine vx_ofWH (cc := method_3_code) (maxL := 4) (ret := some .int) (hh := hLs) (by decide +kernel) rfl ?_
    intro p e S m args below meth cd s₁ Bd hml hv
    obtain ⟨rfl, hR, hok, hK, hE⟩ := hv
    have hts := atoms_spec (ws := wsLs) Bd.pre
    have hT : cd.exceptionTable.toList = tableOf hLs := vx_table (x := yLs) Bd (hts _ List.mem_cons_self)
    have hwd : ∀ w ∈ WT, w.before ([vR 10 0 1, vI x, vR 1 1 66].map (cv X B)).toArray S = true := fun w hw => hts w (List.mem_cons_of_mem _ hw)
    have hown : S.vm.findClass "WeighingPlatesLaw" = some m.cls := findClass_of_methodNamed Bd.named
    have hex := Bd.exec
    have hby := Bd.bytes
    have hrt := Bd.returns
    have hlk : meth.locks = false := Bd.notSynchronized
    refine vx_ret ?_
    rw [lg_entry_eq]
    have hL := lvs_entry (X := X) (B := B) (sh := sh) hE.fm (as := [vR 10 0 1, vI x, vR 1 1 66]) (n := 4) (Nat.le_of_ble_eq_true rfl) hok
    generalize (lg_sl ([vR 10 0 1, vI x, vR 1 1 66].map (cv X B)) ++ List.replicate (4 - (lg_sl ([vR 10 0 1, vI x, vR 1 1 66].map (cv X B))).length) Slot.unset).toArray = lsC at hL ⊢
    obtain ⟨d0, d1, d2, d3, d4, d7, d8, d9, d12, d13, d14, d15, d16⟩ := ls_dec
    have hb1 : cv X B (vR 10 0 1) = .ref (B + 1) := cq_in (by decide)
    have hb66 : cv X B (vR 1 1 66) = .ref (B + 66) := cq_in (by decide)
    have q0 : lsC[0]? = some (.val (.ref (B + 1))) := by rw [← hb1]; exact (hL.2.2 0 _ rfl).1
    have q1 : lsC[1]? = some (.val (.int x)) := (hL.2.2 1 (vI x) rfl).1
    have q2 : lsC[2]? = some (.val (.ref (B + 66))) := by rw [← hb66]; exact (hL.2.2 2 _ rfl).1
    have o66 : okq X sh (1, 1, 66) := hok (vR 1 1 66) (by simp)
    have o1 : okq X sh (10, 0, 1) := hok (vR 10 0 1) (by simp)
    refine lv_aload_n hex hby d0 rfl q2 ?_
    refine lv_iconst hex hby d1 (v := 0) rfl ?_
    refine lv_aload_n hex hby d2 rfl q0 ?_
    refine lv_iload_n hex hby d3 rfl q1 ?_
    obtain ⟨-, -, -, -, hmx, -, -, -, hs0, -, -⟩ := okH_of (y := m_w_stuck) (by decide)
    obtain ⟨w1, w2, w3, w4, w5⟩ := hs0 (by decide +kernel)
    have hcell : ∃ cellB : Cell, S.heap[B + 1]? = some cellB ∧ cellB.vm.isStatics = false ∧ S.vm.findClass "WeighingPlates" = some cellB.cls := by
      rcases w5 with ⟨e1, -⟩ | ⟨T, N, e1⟩
      · exact absurd e1 (by decide +kernel)
      · obtain ⟨-, hP⟩ := hR.cell o1 (by decide)
        have hP : va_P D clT [(B + 1, cE X B aC mr mi ml 1 (0 + 10) 0)] S.heap := hP
        rw [cE_obj] at hP
        have e1 : clT[0]? = some ("WeighingPlates", T, N) := e1
        exact va_recv hK hP e1 (q0 := 0) rfl
    have hpc : ∀ U : State, U.heap = S.heap → S.WarmedH U.vm → PC X D aC B sh [vR 10 0 1, vI x] c mr mi ml (Value.ref (B + 1) :: [Value.int x]).toArray U := fun U hU hW => ⟨by rw [List.map_cons, hb1]; rfl, by rw [hU]; exact hR, fun v hv => hok v (by
      rcases List.mem_cons.mp hv with h | h
      · rw [h]; exact List.mem_cons_self
      · rw [List.mem_singleton.mp h]; exact List.mem_cons_of_mem _ List.mem_cons_self), va_K.moved hW.alike hK, hE.next va_S.rf hU hW⟩
    have hr := vx_runV (R := rmLs 1 6) (H := S.heap) (locs := []) (cells := 0) (slots := 0) (C := "WeighingPlates") (b := B + 1) (As := [Value.int x]) (rest := [Value.int 0, Value.ref (B + 66)]) (n := mNa m_w_stuck) (nL := 4) (Ts := WT) (own := "WeighingPlatesLaw") (index := 7) (g := F0 m 4 lsC [Value.int x, Value.ref (B + 1), Value.int 0, Value.ref (B + 66)]) (below := below) (meth := meth) (e := e) ⟨hex, hby, hml, hown, hwd⟩ (OX l X D aC B sh hfl) ⟨callB (R := rmLs 1 6) (mc' := 1) (ms' := 6) (by decide) (by decide +kernel) hwd w1 w2 (w_in ls_w.2.2.2.1) ⟨show mDp m_w_stuck + 1 ≤ 12 by decide +kernel, show 8 + (mMx m_w_stuck + 11) + mLo m_w_stuck ≤ 445 by decide +kernel⟩, hwd _ w3, hwd _ w4⟩ ⟨PC_blind, hcell, hpc⟩ rfl (show 1 = mNa m_w_stuck by decide +kernel) hL.1 rfl (lv_room (by show 1 + (1 + 0) ≤ 8; decide)) d4 ⟨by decide, by decide⟩
    intro T hT' Xs
    rcases hr T hT' Xs with ⟨v, st₀, u, T', L, h0, X', hLo, e1, e2, ⟨⟨r, c', mr', mi', ml', sh', hv, hQ, hR', hp, hok'⟩, hF⟩, st⟩ | ⟨q, st₀, u, T', L, E, ce, h0, X', hLo, e1, e2, ⟨hE1, ⟨c', mr', mi', ml', sh', hX, hR', hp⟩, hF⟩, hce, hcv, hcl, st⟩
    · have hS' : va_S (fun q => B < q) S.heap T'.heap ([] ++ L) := by
        obtain ⟨f1, f2⟩ := hF
        rw [h0] at f1 f2
        exact ⟨by rw [e1]; exact f1, fun q h1 h2 => by rw [e1]; exact f2 q h1 h2, fun q hq => hLo q (by simpa using hq)⟩
      obtain ⟨i, rfl, hQL⟩ := H1 _ _ _ _ _ hQ
      have hv : v = some (.int i) := Outcome.returned.inj hv
      subst hv
      rw [← e1] at hR'
      have K : W p l e (rmLs 1 6) S m ([vR 10 0 1, vI x, vR 1 1 66].map (cv X B)).toArray below meth cd T'.heap ([] ++ L) (0 + 1) (0 + 6) (MQ below (QC X D aC B sh QL) ([vR 10 0 1, vI x, vR 1 1 66].map (cv X B)).toArray S 1 6 (fun q => B < q)) (F0 m 7 lsC [Value.int i, Value.int 0, Value.ref (B + 66)]) := by
        refine lv_i2l hex hby d7 rfl ?_
        obtain ⟨hsa, hP⟩ := hR'.cell (okq_pre hp _ o66) (by decide)
        refine W.last hex hby (hP 0 _ rfl) ((hK.2 1 _ rfl).1 1 (fun j => .long (ml' 66 j))) (fun q => by cases q) (by show ¬ ((0 : Int32) < 0 ∨ (arrV _ _ _).slots.size ≤ _); rw [arrV_size]; show ¬ ((0 : Int32) < 0 ∨ 1 ≤ (0 : Int32).toNatClampNeg); decide) rfl rfl d8 fun H1 e3 z oq => ?_
        have hR1 : RH X D aC B sh' c' mr' mi' (u2 ml' 66 (0 : Int32).toNatClampNeg i.toInt64) H1 := by
          refine hR'.upd hsa (by decide) z oq (fun b hb => ⟨rfl, rfl, u2_n _ _ _ hb⟩) ?_ (fun j q h => hR'.2.2.2.2.1 66 j q h) (fun h => by omega)
          show H1[B + 66]? = some (vp_cell aC.2.1 (1, .inr (.inl (u2 ml' 66 (0 : Int32).toNatClampNeg i.toInt64 66))))
          rw [e3]
          show some ((arrV aC.2.1 1 (fun j => .long (ml' 66 j))).setSlot (0 : Int32).toNatClampNeg (.long i.toInt64)) = some (arrV aC.2.1 1 (fun j => .long (u2 ml' 66 (0 : Int32).toNatClampNeg i.toInt64 66 j)))
          rw [arrV_store]
          congr 2
          funext j
          by_cases hj : j = (0 : Int32).toNatClampNeg
          · subst hj; simp [updV, u2_s]
          · rw [u2_ne2 _ _ (Or.inr hj)]
            exact if_neg hj
        have hS1 := hS'.put (k := (0 : Int32).toNatClampNeg) z oq (B_lt hR' hsa (by decide))
        refine lv_goto hex hby d9 (tgt := 15) rfl ?_
        refine lv_iconst hex hby d15 (v := 0) rfl ?_
        exact W.iret hex hby hrt (fun u' hu _ => ⟨⟨some (vI 0), c', mr', mi', _, sh', rfl, hQL, by rw [hu]; exact hR1, hp, fun v hv => by cases hv; trivial⟩, hS1.F hu⟩) (fun q hq => hS1.2.2 q hq) d16 hlk
      obtain ⟨t2, a1, b1⟩ := K T' rfl X'
      exact ⟨t2, st t2 a1, b1⟩
    · have hS' : va_S (fun q => B < q) S.heap T'.heap ([] ++ L) := by
        obtain ⟨f1, f2⟩ := hF
        rw [h0] at f1 f2
        exact ⟨by rw [e1]; exact f1, fun q h1 h2 => by rw [e1]; exact f2 q h1 h2, fun q hq => hLo q (by simpa using hq)⟩
      subst hE1
      rw [← e1] at hR' hce
      have K : W p l e (rmLs 1 6) S m ([vR 10 0 1, vI x, vR 1 1 66].map (cv X B)).toArray below meth cd T'.heap ([] ++ L) (0 + 1) (0 + 6) (MQ below (QC X D aC B sh QL) ([vR 10 0 1, vI x, vR 1 1 66].map (cv X B)).toArray S 1 6 (fun q => B < q)) (F0 m 12 lsC [Value.ref q]) := by
        refine lv_astore_n hex hby d12 rfl (lvl_has hL) (by decide) rfl (fun ls1 _ => ?_)
        refine lv_iconst hex hby d13 (v := 1) rfl ?_
        exact W.iret hex hby hrt (fun u' hu _ => ⟨⟨some (vI 1), c', mr', mi', ml', sh', rfl, H2 _ _ _ _ hX, by rw [hu]; exact hR', hp, fun v hv => by cases hv; trivial⟩, hS'.F hu⟩) (fun q hq => hS'.2.2 q hq) d14 hlk
      have C := vx_catch (pc := 4) (ls := lsC) (rest := [Value.int 0, Value.ref (B + 66)]) (own := "WeighingPlatesLaw") (name := nseN) hown [] ⟨0, 9, 12, 13⟩ [] hT (fun z hz => nomatch hz) (by decide) (by decide) (hwd _ (w_in ls_w.2.2.2.2)) (cast_self (hwd _ st_w1.2)) hce hcv hcl K
      obtain ⟨t2, a1, b1⟩ := C T' rfl X'
      exact ⟨t2, st.trans a1, b1⟩
  refine MetFree.mono V (fun _ _ z => z) (fun _ _ _ _ _ z => z) (fun a st o t hP hq => ?_)
  rcases hq with h | ⟨q, -, E, ce, L, h, -⟩
  · exact h
  · exact h.elim
theorem at_callL {pc idx : Nat} {ls : eLS} {t as : List AV} {k s : Nat} {Q : FT} {QL : Option AV → HP} {c : Nat} {mr : MR} {mi : MI} {ml : ML} (hd : decode (mCd m_l_law) pc = .ok (.invokestatic idx, 3)) (hl : Cond.methodLink "WeighingPlatesLaw" idx yLs ∈ WT) (hcat : catS t ≤ 8) (hlen : as.length = 3)
    (O : ∀ (l : Launch) (X : XT) (D : va_G) (aC : AC) (B : Nat) (sh : List (Nat × Nat)), l.flags = flags0 → Met l yLs wsLs (rmLs 1 6) (PC X D aC B sh as c mr mi ml) (QC X D aC B sh QL) 1 6 (fun q => B < q)) (hk : 1 ≤ k) (hs : 6 ≤ s)
    (K : ∀ rv c' mr' mi' ml', QL rv c' mr' mi' ml' → At m_l_law (pc + 3) ls (psh rv t) (k - 1) (s - 6) Q c' mr' mi' ml') : At m_l_law pc ls (as.reverse ++ t) k s Q c mr mi ml := by
  intro l p e S m args below meth cd H locs cells slots mc ms lsC X D aC B sh0 sh hfl hC hR hsh hst hL hS hc1 hs1
  obtain ⟨o1, o2⟩ := as_ok hst
  rw [List.map_append, List.map_reverse]
  have hG : GoodIn WT (va_wsS "WeighingPlatesLaw" idx yLs wsLs) := fun w hw => by
    have hw : w ∈ WT := by
      unfold va_wsS wsLs at hw
      simp only [List.mem_append, List.mem_cons, List.not_mem_nil, or_false] at hw
      rcases hw with (h | h | h) | h | h
      · rw [h]; exact hl
      · rw [h]; exact w_in ls_w.2.1
      · rw [h]; exact w_in ls_w.2.2.1
      · rw [h]; exact w_in ls_w.1
      · exact h
    exact ⟨hw, WT_good hw⟩
  have cw := vx_cwSW (R := rmm m_l_law mc ms) (s := S) (args := args) (own := "WeighingPlatesLaw") (index := idx) (y := yLs) (bytes := method_3_code) (maxL := 4) (ret := some .int) (hh := hLs) (rm := rmLs 1 6) (mc := 1) (ms := 6) 3 hC.wds hG rfl rfl rfl ⟨by decide, by decide, by decide +kernel⟩ ⟨show 12 + 1 ≤ mDp m_l_law by decide +kernel, show 8 + (4 + 11) + 445 ≤ mLo m_l_law by decide +kernel⟩
  refine at_run (y' := 0) hk hs K hfl hC hsh o2 hL hS hc1 hs1 (vx_runSW (As := as.map (cv X B)) (rest := t.map (cv X B)) (n := 3) ⟨hC.1, hC.2.1, hC.ml, hC.own, hC.wds⟩ (O l X D aC B sh hfl) cw ⟨PC_blind, pc_at hC hR hS o1⟩ rfl (by rw [List.length_map]; exact hlen) hL.1 rfl (lv_room (by rw [catS_map hC.ext.fm]; exact hcat)) hd ⟨?_, ?_⟩)
  · show cells + 1 ≤ mc; omega
  · show slots + 6 ≤ ms; omega
