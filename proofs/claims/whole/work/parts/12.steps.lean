theorem brc_imp {cd : ClassFile.Cond} {x y : Int32} {J N J' N' : Prop} (hJ : J → J') (hN : N → N') (h : brc cd x y J N) : brc cd x y J' N' := by
  cases cd <;> exact ⟨fun z => hJ (h.1 z), fun z => hN (h.2 z)⟩
theorem retK_imp {rt : Option FieldType} {x : Int32} {K K' : Prop} (hK : K → K') (h : retK rt x K) : retK rt x K' := by
  cases rt with
  | none => exact h.elim
  | some ty => cases ty <;> first | exact hK h | exact ⟨h.1, hK h.2⟩
/-! ===== stretches of code ===== -/
def isObj (r : Row) : Bool := match r with
  | (_, .invokespecial _, _, _, x2, _, _, _) => Nat.beq x2 4
  | _ => false
def nxq (A : Nat → eLS → List AV → Nat → Nat → HP) (G : List Row → eLS → List AV → Nat → Nat → HP) (code : List Row) : eLS → List AV → Nat → Nat → HP := match code with
  | (pc, _, _, _, _, _, _, true) :: _ => A pc
  | _ => G code
def rcv (x2 y' : Nat) (as : List AV) : Bool := match x2 with
  | 1 => true
  | 0 => (match as with
    | .inr (.inr (some (ro, _, _))) :: _ => Nat.beq ro (mCi y' + 10)
    | _ => false)
  | _ => (match as with
    | .inr (.inr (some (ro, _, _))) :: _ => Nat.blt ro 100
    | _ => false)
/-- stretches of code: 'inl' are the methods that are walked where they are called -/
def wq (inl : Nat → Bool) : Nat → Nat → List Row → (Option AV → HP) → (Nat → eLS → List AV → Nat → Nat → HP) → List Row → eLS → List AV → Nat → Nat → HP
  | 0, _, _, _, _, _ => fun _ _ _ _ _ _ _ _ => False
  | _ + 1, _, _, _, _, [] => fun _ _ _ _ _ _ _ _ => False
  | f + 1, y, T, Q, A, r :: rest => fun ls st k s c mr mi ml =>
    bif isObj r then (match st with
      | .inr (.inr (some (ro, _, _))) :: t => bif (Nat.blt ro 100 && Nat.ble (catS t) 8) then nxq A (wq inl f y T Q A) rest ls t k s c mr mi ml else A r.1 ls st k s c mr mi ml
      | _ => A r.1 ls st k s c mr mi ml)
    else stp (mRt y) r ls st k s c mr mi ml
      (nxq A (wq inl f y T Q A) rest)
      (fun st' => nxq A (wq inl f y T Q A) (suf T r.2.2.2.1) ls st' k s c mr mi ml)
      (A r.1 ls st k s c mr mi ml)
      (fun rv => Q rv c mr mi ml)
      (popK (mNa r.2.2.2.1 + (bif Nat.beq r.2.2.2.2.1 1 then 0 else 1)) st [] (fun as t =>
          bif (Nat.ble (catS t) 8 && Nat.blt (mDp r.2.2.2.1) (mDp y) && Nat.blt r.2.2.2.2.1 4 && Nat.ble (catS as) (mMx r.2.2.2.1) && rcv r.2.2.2.2.1 r.2.2.2.1 as) then
            (bif inl r.2.2.2.1 then entK as (mMx r.2.2.2.1) (fun ls0 => wq inl f r.2.2.2.1 (mTb r.2.2.2.1) (fun rv => nxq A (wq inl f y T Q A) rest ls (psh rv t) k s) (fun _ _ _ _ _ _ _ _ _ => False) (mTb r.2.2.2.1) ls0 [] 0 0 c mr mi ml)
            else ∃ mc ms, mc ≤ k ∧ ms ≤ s ∧ Ok r.2.2.2.1 mc ms as (fun rv => nxq A (wq inl f y T Q A) rest ls (psh rv t) (k - mc) (s - ms)) c mr mi ml)
          else A r.1 ls st k s c mr mi ml) (A r.1 ls st k s c mr mi ml))
def rtCk (M : MT) : Bool := Nat.ble 1 M.2.2.2.2.2.1 && M.2.2.2.2.1.all (fun r => match r.2.1 with
  | .lreturn => decide (M.2.2.2.1 = some .long)
  | .return_ => decide (M.2.2.2.1 = none)
  | _ => true)
theorem rt_all : mm.all rtCk = true := by decide +kernel
theorem mget_rt {y : Nat} (hy : y < 282) : 1 ≤ mDp y ∧ ∀ r ∈ mTb y, (r.2.1 = .lreturn → mRt y = some .long) ∧ (r.2.1 = .return_ → mRt y = none) := by
  have e : mget y ∈ mm := by
    unfold mget
    rw [List.getD_eq_getElem?_getD, List.getElem?_eq_getElem (by rw [mm_len]; exact hy)]
    exact List.getElem_mem _
  have h := List.all_eq_true.mp rt_all _ e
  unfold rtCk at h
  simp only [Bool.and_eq_true, List.all_eq_true] at h
  refine ⟨Nat.le_of_ble_eq_true h.1, fun r hr => ?_⟩
  have h2 := h.2 r hr
  exact ⟨fun e => by rw [e] at h2; exact of_decide_eq_true h2, fun e => by rw [e] at h2; exact of_decide_eq_true h2⟩
theorem ld_str : ∀ q ∈ ldT, q.2.2.2 < nStr := by decide +kernel
theorem fCk_of {own : String} {idx x1 x2 x3 : Nat} (h : fCk own idx x1 x2 x3 = true) : ∃ C T N, clT[x1]? = some (C, T, N) ∧ x2 < N ∧ Cond.fieldLink own idx C (T x2).2.1 (T x2).2.2.1 ∈ WT ∧ (T x2).1 = C := by
  unfold fCk at h
  split at h
  · rename_i C T N e
    simp only [Bool.and_eq_true, decide_eq_true_eq] at h
    exact ⟨C, T, N, e, by simpa using h.1.1.1, wAt_mem h.1.1.2, h.1.2⟩
  · cases h
set_option maxHeartbeats 4000000 in
theorem stp_ok {y : Nat} (hy : y < 282) {r : Row} (hr : r ∈ mTb y) {ls : eLS} {st : List AV} {k s : Nat} {Q : FT} {Q0 : Option AV → HP} (hZ : RetOK Q Q0) {c : Nat} {mr : MR} {mi : MI} {ml : ML} {N : eLS → List AV → Nat → Nat → HP} {J : List AV → Prop} {A : Prop} {Rt : Option AV → Prop} {Cl : Prop} (h : stp (mRt y) r ls st k s c mr mi ml N J A Rt Cl) (hno : isObj r = false)
    (hN : ∀ ls st k s c mr mi ml, N ls st k s c mr mi ml → At y r.2.2.1 ls st k s Q c mr mi ml) (hJ : ∀ st', J st' → At y r.2.2.2.1 ls st' k s Q c mr mi ml) (hA : A → At y r.1 ls st k s Q c mr mi ml) (hRt : ∀ rv, Rt rv → Q0 rv c mr mi ml) (hCl : (∃ i, r.2.1 = .invokevirtual i ∨ r.2.1 = .invokestatic i ∨ r.2.1 = .invokespecial i) → Cl → At y r.1 ls st k s Q c mr mi ml) : At y r.1 ls st k s Q c mr mi ml := by
  have hw := (okH_of hy).1 r hr
  obtain ⟨hdp, hret⟩ := mget_rt hy
  replace hret := hret r hr
  obtain ⟨pc, ins, nx, x1, x2, x3, v, hh⟩ := r
  unfold rwOK at hw
  simp only [Bool.and_eq_true, decide_eq_true_eq] at hw
  obtain ⟨⟨hd, hnx⟩, hx⟩ := hw
  replace hnx := Nat.eq_of_beq_eq_true hnx
  dsimp only at hN hJ hA hCl hret ⊢
  cases ins
  case iload i =>
    simp only [rlen] at hd hnx
    subst hnx
    simp only [stp] at h
    split at h
    · rename_i x e; exact at_iload hd (by assumption) (hN _ _ _ _ _ _ _ _ h)
    · exact hA h
  case iload_n i =>
    simp only [rlen] at hd hnx
    subst hnx
    simp only [stp] at h
    split at h
    · rename_i x e; exact at_iload_n hd (by assumption) (hN _ _ _ _ _ _ _ _ h)
    · exact hA h
  case lload i =>
    simp only [rlen] at hd hnx
    subst hnx
    simp only [stp] at h
    split at h
    · rename_i x e; exact at_lload hd (by assumption) (hN _ _ _ _ _ _ _ _ h)
    · exact hA h
  case lload_n i =>
    simp only [rlen] at hd hnx
    subst hnx
    simp only [stp] at h
    split at h
    · rename_i x e; exact at_lload_n hd (by assumption) (hN _ _ _ _ _ _ _ _ h)
    · exact hA h
  case aload i =>
    simp only [rlen] at hd hnx
    subst hnx
    simp only [stp] at h
    split at h
    · rename_i x e; exact at_aload hd (by assumption) (hN _ _ _ _ _ _ _ _ h)
    · exact hA h
  case aload_n i =>
    simp only [rlen] at hd hnx
    subst hnx
    simp only [stp] at h
    split at h
    · rename_i x e; exact at_aload_n hd (by assumption) (hN _ _ _ _ _ _ _ _ h)
    · exact hA h
  case istore i =>
    simp only [rlen] at hd hnx
    subst hnx
    simp only [stp] at h
    split at h
    · rename_i x t; rw [stoK_eq] at h; exact at_istore hd (by simpa using hx) (hN _ _ _ _ _ _ _ _ h)
    · exact hA h
  case istore_n i =>
    simp only [rlen] at hd hnx
    subst hnx
    simp only [stp] at h
    split at h
    · rename_i x t; rw [stoK_eq] at h; exact at_istore_n hd (by simpa using hx) (hN _ _ _ _ _ _ _ _ h)
    · exact hA h
  case astore i =>
    simp only [rlen] at hd hnx
    subst hnx
    simp only [stp] at h
    split at h
    · rename_i x t; rw [stoK_eq] at h; exact at_astore hd (by simpa using hx) (hN _ _ _ _ _ _ _ _ h)
    · exact hA h
  case astore_n i =>
    simp only [rlen] at hd hnx
    subst hnx
    simp only [stp] at h
    split at h
    · rename_i x t; rw [stoK_eq] at h; exact at_astore_n hd (by simpa using hx) (hN _ _ _ _ _ _ _ _ h)
    · exact hA h
  case lstore i =>
    simp only [rlen] at hd hnx
    subst hnx
    simp only [stp] at h
    split at h
    · rename_i x t; rw [stoLK_eq] at h; exact at_lstore hd (by simpa using hx) (hN _ _ _ _ _ _ _ _ h)
    · exact hA h
  case lstore_n i =>
    simp only [rlen] at hd hnx
    subst hnx
    simp only [stp] at h
    split at h
    · rename_i x t; rw [stoLK_eq] at h; exact at_lstore_n hd (by simpa using hx) (hN _ _ _ _ _ _ _ _ h)
    · exact hA h
  case iconst n =>
    simp only [rlen] at hd hnx
    subst hnx
    simp only [stp] at h
    rw [cIK_eq] at h; exact at_iconst hd (by simpa using hx) (hN _ _ _ _ _ _ _ _ h)
  case bipush n =>
    simp only [rlen] at hd hnx
    subst hnx
    simp only [stp] at h
    rw [cIK_eq] at h; exact at_bipush hd (by simpa using hx) (hN _ _ _ _ _ _ _ _ h)
  case sipush n =>
    simp only [rlen] at hd hnx
    subst hnx
    simp only [stp] at h
    rw [cIK_eq] at h; exact at_sipush hd (by simpa using hx) (hN _ _ _ _ _ _ _ _ h)
  case lconst n =>
    simp only [rlen] at hd hnx
    subst hnx
    simp only [stp] at h
    rw [cLK_eq] at h; exact at_lconst hd (by simpa using hx) (hN _ _ _ _ _ _ _ _ h)
  case ldc n =>
    simp only [rlen] at hd hnx
    subst hnx
    simp only [stp] at h
    split at h
    · rw [cIK_eq] at h; exact at_ldc hd (wAt_mem hx) (hN _ _ _ _ _ _ _ _ h)
    · have hx : (match ldT[x2]? with
        | some (o, i, _, t) => decide (o = (mNm y).cls) && Nat.beq i n && Nat.beq t x1
        | none => false) = true := hx
      split at hx
      · rename_i o i tx t e
        simp only [Bool.and_eq_true, decide_eq_true_eq] at hx
        obtain ⟨⟨e1, e2⟩, e3⟩ := hx
        have e2 := Nat.eq_of_beq_eq_true e2
        have e3 := Nat.eq_of_beq_eq_true e3
        subst e1; subst e2; subst e3
        have hm := List.mem_of_getElem? e
        exact at_ldcS hd hm (ld_str _ hm) (hN _ _ _ _ _ _ _ _ h)
      · cases hx
    · exact hA h
  case ldc_w n =>
    simp only [rlen] at hd hnx
    subst hnx
    simp only [stp] at h
    split at h
    · rw [cIK_eq] at h; exact at_ldc_w hd (wAt_mem hx) (hN _ _ _ _ _ _ _ _ h)
    · exact hA h
  case ldc2_w n =>
    simp only [rlen] at hd hnx
    subst hnx
    simp only [stp] at h
    split at h
    · rw [cLK_eq] at h; exact at_ldc2 hd (wAt_mem hx) (hN _ _ _ _ _ _ _ _ h)
    · exact hA h
  case iinc i n =>
    simp only [rlen] at hd hnx
    subst hnx
    simp only [stp] at h
    split at h
    · rename_i x e; rw [cIK_eq, stoK_eq] at h; simp only [Bool.and_eq_true, decide_eq_true_eq] at hx; exact at_iinc hd e (by simpa using hx.1) hx.2 (hN _ _ _ _ _ _ _ _ h)
    · exact hA h
  case iadd =>
    simp only [rlen] at hd hnx
    subst hnx
    simp only [stp] at h
    split at h
    · rename_i a b t; exact at_iadd hd (hN _ _ _ _ _ _ _ _ h)
    · exact hA h
  case isub =>
    simp only [rlen] at hd hnx
    subst hnx
    simp only [stp] at h
    split at h
    · rename_i a b t; exact at_isub hd (hN _ _ _ _ _ _ _ _ h)
    · exact hA h
  case imul =>
    simp only [rlen] at hd hnx
    subst hnx
    simp only [stp] at h
    split at h
    · rename_i a b t; exact at_imul hd (hN _ _ _ _ _ _ _ _ h)
    · exact hA h
  case iand =>
    simp only [rlen] at hd hnx
    subst hnx
    simp only [stp] at h
    split at h
    · rename_i a b t; exact at_iand hd (hN _ _ _ _ _ _ _ _ h)
    · exact hA h
  case ior =>
    simp only [rlen] at hd hnx
    subst hnx
    simp only [stp] at h
    split at h
    · rename_i a b t; exact at_ior hd (hN _ _ _ _ _ _ _ _ h)
    · exact hA h
  case ixor =>
    simp only [rlen] at hd hnx
    subst hnx
    simp only [stp] at h
    split at h
    · rename_i a b t; exact at_ixor hd (hN _ _ _ _ _ _ _ _ h)
    · exact hA h
  case ishl =>
    simp only [rlen] at hd hnx
    subst hnx
    simp only [stp] at h
    split at h
    · rename_i a b t; exact at_ishl hd (hN _ _ _ _ _ _ _ _ h)
    · exact hA h
  case ishr =>
    simp only [rlen] at hd hnx
    subst hnx
    simp only [stp] at h
    split at h
    · rename_i a b t; exact at_ishr hd (hN _ _ _ _ _ _ _ _ h)
    · exact hA h
  case iushr =>
    simp only [rlen] at hd hnx
    subst hnx
    simp only [stp] at h
    split at h
    · rename_i a b t; exact at_iushr hd (hN _ _ _ _ _ _ _ _ h)
    · exact hA h
  case ladd =>
    simp only [rlen] at hd hnx
    subst hnx
    simp only [stp] at h
    split at h
    · rename_i a b t; exact at_ladd hd (hN _ _ _ _ _ _ _ _ h)
    · exact hA h
  case lsub =>
    simp only [rlen] at hd hnx
    subst hnx
    simp only [stp] at h
    split at h
    · rename_i a b t; exact at_lsub hd (hN _ _ _ _ _ _ _ _ h)
    · exact hA h
  case lmul =>
    simp only [rlen] at hd hnx
    subst hnx
    simp only [stp] at h
    split at h
    · rename_i a b t; exact at_lmul hd (hN _ _ _ _ _ _ _ _ h)
    · exact hA h
  case lor =>
    simp only [rlen] at hd hnx
    subst hnx
    simp only [stp] at h
    split at h
    · rename_i a b t; exact at_lor hd (hN _ _ _ _ _ _ _ _ h)
    · exact hA h
  case lcmp =>
    simp only [rlen] at hd hnx
    subst hnx
    simp only [stp] at h
    split at h
    · rename_i a b t; exact at_lcmp hd (hN _ _ _ _ _ _ _ _ h)
    · exact hA h
  case lshl =>
    simp only [rlen] at hd hnx
    subst hnx
    simp only [stp] at h
    split at h
    · rename_i a b t; exact at_lshl hd (hN _ _ _ _ _ _ _ _ h)
    · exact hA h
  case idiv =>
    simp only [rlen] at hd hnx
    subst hnx
    simp only [stp] at h
    split at h
    · rename_i a b t; exact at_idiv hd h.1 (hN _ _ _ _ _ _ _ _ h.2)
    · exact hA h
  case irem =>
    simp only [rlen] at hd hnx
    subst hnx
    simp only [stp] at h
    split at h
    · rename_i a b t; exact at_irem hd h.1 (hN _ _ _ _ _ _ _ _ h.2)
    · exact hA h
  case ldiv =>
    simp only [rlen] at hd hnx
    subst hnx
    simp only [stp] at h
    split at h
    · rename_i a b t; exact at_ldiv hd h.1 (hN _ _ _ _ _ _ _ _ h.2)
    · exact hA h
  case lrem =>
    simp only [rlen] at hd hnx
    subst hnx
    simp only [stp] at h
    split at h
    · rename_i a b t; exact at_lrem hd h.1 (hN _ _ _ _ _ _ _ _ h.2)
    · exact hA h
  case ineg =>
    simp only [rlen] at hd hnx
    subst hnx
    simp only [stp] at h
    split at h
    · rename_i a t; exact at_ineg hd (hN _ _ _ _ _ _ _ _ h)
    · exact hA h
  case lneg =>
    simp only [rlen] at hd hnx
    subst hnx
    simp only [stp] at h
    split at h
    · rename_i a t; exact at_lneg hd (hN _ _ _ _ _ _ _ _ h)
    · exact hA h
  case i2l =>
    simp only [rlen] at hd hnx
    subst hnx
    simp only [stp] at h
    split at h
    · rename_i a t; exact at_i2l hd (hN _ _ _ _ _ _ _ _ h)
    · exact hA h
  case l2i =>
    simp only [rlen] at hd hnx
    subst hnx
    simp only [stp] at h
    split at h
    · rename_i a t; exact at_l2i hd (hN _ _ _ _ _ _ _ _ h)
    · exact hA h
  case i2b =>
    simp only [rlen] at hd hnx
    subst hnx
    simp only [stp] at h
    split at h
    · rename_i a t; exact at_i2b hd (hN _ _ _ _ _ _ _ _ h)
    · exact hA h
  case i2c =>
    simp only [rlen] at hd hnx
    subst hnx
    simp only [stp] at h
    split at h
    · rename_i a t; exact at_i2c hd (hN _ _ _ _ _ _ _ _ h)
    · exact hA h
  case dup =>
    simp only [rlen] at hd hnx
    subst hnx
    simp only [stp] at h
    split at h
    · exact at_dup_i hd (hN _ _ _ _ _ _ _ _ h)
    · exact at_dup_q hd (hN _ _ _ _ _ _ _ _ h)
    · exact hA h
  case dup2 =>
    simp only [rlen] at hd hnx
    subst hnx
    simp only [stp] at h
    split at h
    · exact at_dup2_l hd (hN _ _ _ _ _ _ _ _ h)
    · exact at_dup2_ii hd (hN _ _ _ _ _ _ _ _ h)
    · exact at_dup2_iq hd (hN _ _ _ _ _ _ _ _ h)
    · exact hA h
  case pop =>
    simp only [rlen] at hd hnx
    subst hnx
    simp only [stp] at h
    split at h
    · exact at_pop_i hd (hN _ _ _ _ _ _ _ _ h)
    · exact at_pop_q hd (hN _ _ _ _ _ _ _ _ h)
    · exact hA h
  case goto off =>
    simp only [rlen] at hd hnx
    subst hnx
    simp only [stp] at h
    exact at_goto hd (by simpa using hx) (hJ _ h)
  case ifCond cnd off =>
    simp only [rlen] at hd hnx
    subst hnx
    simp only [stp] at h
    split at h
    · exact at_if hd (by simpa using hx) (brc_imp (hJ _) (hN _ _ _ _ _ _ _ _) h)
    · exact hA h
  case if_icmp cnd off =>
    simp only [rlen] at hd hnx
    subst hnx
    simp only [stp] at h
    split at h
    · exact at_icmp hd (by simpa using hx) (brc_imp (hJ _) (hN _ _ _ _ _ _ _ _) h)
    · exact hA h
  case getfield idx =>
    simp only [rlen] at hd hnx
    subst hnx
    simp only [stp] at h
    split at h
    · rename_i ro n a t
      cases h90 : Nat.beq x1 90 with
      | true =>
        rw [h90] at h hx
        simp only [cond_true] at h hx
        cases h100 : Nat.beq ro 100 with
        | true =>
          rw [h100] at h
          simp only [cond_true] at h
          have e := Nat.eq_of_beq_eq_true h100
          subst e
          split at h
          · exact at_sval hd (wAt_mem hx) (hN _ _ _ _ _ _ _ _ h)
          · exact at_scod hd (wAt_mem hx) (hN _ _ _ _ _ _ _ _ h)
          · exact hA h
        | false => rw [h100] at h; exact hA h
      | false =>
        rw [h90] at h hx
        simp only [cond_false] at h hx
        cases hro : Nat.beq ro (x1 + 10) with
        | true =>
          rw [hro] at h
          simp only [cond_true] at h
          have e := Nat.eq_of_beq_eq_true hro
          subst e
          have hx : fCk (mNm y).cls idx x1 x2 x3 = true ∨ x1 = 99 := by
            rcases (Bool.or_eq_true _ _).mp hx with z | z
            · exact Or.inr (Nat.eq_of_beq_eq_true z)
            · exact Or.inl z
          rcases hx with hx | hx
          · obtain ⟨C, T, M, e1, e2, e3, e4⟩ := fCk_of hx
            split at h
            · exact at_getf hd e1 e2 e3 e4 (Or.inl ⟨by assumption, rfl⟩) (hN _ _ _ _ _ _ _ _ h)
            · exact at_getf hd e1 e2 e3 e4 (Or.inr (Or.inl ⟨by assumption, rfl⟩)) (hN _ _ _ _ _ _ _ _ h)
            · exact at_getf hd e1 e2 e3 e4 (Or.inr (Or.inr (Or.inl ⟨by assumption, rfl⟩))) (hN _ _ _ _ _ _ _ _ h)
            · exact at_getf hd e1 e2 e3 e4 (Or.inr (Or.inr (Or.inr ⟨by assumption, rfl⟩))) (hN _ _ _ _ _ _ _ _ h)
            · exact hA h
          · subst hx
            have e9 : fk 99 x2 = 9 := by simp [fk, fkT]
            rw [e9] at h
            exact hA h
        | false => rw [hro] at h; exact hA h
    · exact hA h
  case putfield idx =>
    simp only [rlen] at hd hnx
    subst hnx
    simp only [stp] at h
    split at h
    · rename_i w ro n a t
      cases hro : Nat.beq ro (x1 + 10) with
      | true =>
        rw [hro] at h
        simp only [cond_true] at h
        have e := Nat.eq_of_beq_eq_true hro
        subst e
        simp only [Bool.and_eq_true, Bool.or_eq_true, Bool.not_eq_true', decide_eq_true_eq] at hx
        obtain ⟨hx, hf⟩ := hx
        obtain ⟨C, T, M, e1, e2, e3, e4⟩ := fCk_of hx
        have hfin : (T x2).2.2.2 = true → (mNm y).name = "<init>" ∧ C = (mNm y).cls := by
          intro z
          unfold fFin at hf
          rw [e1] at hf
          dsimp only at hf
          rw [z] at hf
          rcases hf with hf | hf
          · cases hf
          · simpa using hf
        split at h
        · exact at_put hd e1 e2 e3 e4 hfin (Or.inl ⟨by assumption, _, rfl, rfl, rfl, rfl⟩) (hN _ _ _ _ _ _ _ _ h)
        · exact at_put hd e1 e2 e3 e4 hfin (Or.inr (Or.inl ⟨by assumption, _, rfl, rfl, rfl, rfl⟩)) (hN _ _ _ _ _ _ _ _ h)
        · exact at_put hd e1 e2 e3 e4 hfin (Or.inr (Or.inr (Or.inl ⟨by assumption, _, rfl, rfl, rfl, rfl⟩))) (hN _ _ _ _ _ _ _ _ h)
        · exact at_put hd e1 e2 e3 e4 hfin (Or.inr (Or.inr (Or.inr ⟨by assumption, _, rfl, h.1, rfl, rfl, rfl⟩))) (hN _ _ _ _ _ _ _ _ h.2)
        · exact hA h
      | false => rw [hro] at h; exact hA h
    · exact hA h
  case iaload =>
    simp only [rlen] at hd hnx
    subst hnx
    simp only [stp] at h
    split at h
    · rename_i i ro n a t
      cases h0 : Nat.beq ro 0 with
      | true =>
        rw [h0] at h
        have e := Nat.eq_of_beq_eq_true h0
        subst e
        exact at_iald hd h.1 (hN _ _ _ _ _ _ _ _ h.2)
      | false =>
        rw [h0] at h
        simp only [cond_false] at h
        cases h104 : Nat.beq ro 104 with
        | true =>
          rw [h104] at h
          have e := Nat.eq_of_beq_eq_true h104
          subst e
          exact at_xald hd h.1 (hN _ _ _ _ _ _ _ _ h.2)
        | false =>
          rw [h104] at h
          simp only [cond_false] at h
          cases h101 : Nat.beq ro 101 with
          | true =>
            rw [h101] at h
            have e := Nat.eq_of_beq_eq_true h101
            subst e
            exact at_pald hd h.1 (hN _ _ _ _ _ _ _ _ h.2)
          | false =>
            rw [h101] at h
            simp only [cond_false] at h
            exact hA h
    · exact hA h
  case baload =>
    simp only [rlen] at hd hnx
    subst hnx
    simp only [stp] at h
    split at h
    · rename_i i ro n a t
      cases h2 : Nat.beq ro 2 with
      | true =>
        rw [h2] at h
        have e := Nat.eq_of_beq_eq_true h2
        subst e
        exact at_bald hd h.1 (hN _ _ _ _ _ _ _ _ h.2)
      | false =>
        rw [h2] at h
        simp only [cond_false] at h
        cases h102 : Nat.beq ro 102 with
        | true =>
          rw [h102] at h
          have e := Nat.eq_of_beq_eq_true h102
          subst e
          exact at_sald hd h.1 (hN _ _ _ _ _ _ _ _ h.2)
        | false =>
          rw [h102] at h
          simp only [cond_false] at h
          exact hA h
    · exact hA h
  case laload =>
    simp only [rlen] at hd hnx
    subst hnx
    simp only [stp] at h
    split at h
    · rename_i i ro n a t
      cases h1 : Nat.beq ro 1 with
      | true =>
        rw [h1] at h
        have e := Nat.eq_of_beq_eq_true h1
        subst e
        exact at_lald hd h.1 (hN _ _ _ _ _ _ _ _ h.2)
      | false =>
        rw [h1] at h
        simp only [cond_false] at h
        exact hA h
    · exact hA h
  case aaload =>
    simp only [rlen] at hd hnx
    subst hnx
    simp only [stp] at h
    split at h
    · rename_i i ro n a t
      cases h3 : Nat.beq ro 3 with
      | true =>
        rw [h3] at h
        have e := Nat.eq_of_beq_eq_true h3
        subst e
        obtain ⟨h1, q, hq, h⟩ := h
        exact at_aald hd h1 (by rw [hq]; exact hN _ _ _ _ _ _ _ _ h)
      | false => rw [h3] at h; exact hA h
    · exact hA h
  case iastore =>
    simp only [rlen] at hd hnx
    subst hnx
    simp only [stp] at h
    split at h
    · rename_i x i ro n a t
      cases h0 : Nat.beq ro 0 with
      | true =>
        rw [h0] at h
        have e := Nat.eq_of_beq_eq_true h0
        subst e
        exact at_iast hd h.1 (hN _ _ _ _ _ _ _ _ h.2)
      | false =>
        rw [h0] at h
        simp only [cond_false] at h
        exact hA h
    · exact hA h
  case bastore =>
    simp only [rlen] at hd hnx
    subst hnx
    simp only [stp] at h
    split at h
    · rename_i x i ro n a t
      cases h2 : Nat.beq ro 2 with
      | true =>
        rw [h2] at h
        have e := Nat.eq_of_beq_eq_true h2
        subst e
        exact at_bast hd h.1 (hN _ _ _ _ _ _ _ _ h.2)
      | false =>
        rw [h2] at h
        simp only [cond_false] at h
        exact hA h
    · exact hA h
  case lastore =>
    simp only [rlen] at hd hnx
    subst hnx
    simp only [stp] at h
    split at h
    · rename_i x i ro n a t
      cases h1 : Nat.beq ro 1 with
      | true =>
        rw [h1] at h
        have e := Nat.eq_of_beq_eq_true h1
        subst e
        exact at_last hd h.1 (hN _ _ _ _ _ _ _ _ h.2)
      | false =>
        rw [h1] at h
        simp only [cond_false] at h
        exact hA h
    · exact hA h
  case arraylength =>
    simp only [rlen] at hd hnx
    subst hnx
    simp only [stp] at h
    split at h
    · rename_i ro n a t
      cases ha : arOK ro with
      | true => rw [ha] at h; exact at_alen ha hd (hN _ _ _ _ _ _ _ _ h)
      | false => rw [ha] at h; exact hA h
    · exact hA h
  case getstatic idx =>
    simp only [rlen] at hd hnx
    subst hnx
    simp only [stp] at h
    split at h
    · exact at_gs0 hd (wAt_mem hx) (hN _ _ _ _ _ _ _ _ h)
    · exact at_gs1 hd (wAt_mem hx) (hN _ _ _ _ _ _ _ _ h)
    · exact at_gs2 hd (wAt_mem hx) (hN _ _ _ _ _ _ _ _ h)
    · exact hA h
  case new idx =>
    simp only [rlen] at hd hnx
    subst hnx
    simp only [stp] at h
    split at h
    · exact hA h
    · rename_i k'
      cases hb : (Nat.blt x1 10 && Nat.ble (clN x1) s) with
      | true =>
        rw [hb] at h
        simp only [cond_true] at h
        simp only [Bool.and_eq_true] at hb
        have h10 : x1 < 10 := by simpa using hb.1
        rcases (Bool.or_eq_true _ _).mp hx with z | z
        · have := Nat.eq_of_beq_eq_true z; omega
        · split at z
          · rename_i C T M e1
            exact at_new hd e1 (wAt_mem z) (Nat.le_of_ble_eq_true hb.2) (hN _ _ _ _ _ _ _ _ h)
          · cases z
      | false => rw [hb] at h; exact hA h
  case newarray ty =>
    simp only [rlen] at hd hnx
    subst hnx
    simp only [stp] at h
    split at h
    · rename_i n t
      obtain ⟨m, e1, e2, e3, e4, h⟩ := h
      subst e1
      split at h
      · exact at_newa hd (Or.inl ⟨rfl, rfl⟩) e2 e3 e4 (hN _ _ _ _ _ _ _ _ h)
      · exact at_newa hd (Or.inr (Or.inl ⟨rfl, rfl⟩)) e2 e3 e4 (hN _ _ _ _ _ _ _ _ h)
      · exact at_newa hd (Or.inr (Or.inr ⟨rfl, rfl⟩)) e2 e3 e4 (hN _ _ _ _ _ _ _ _ h)
      · exact h.elim
    · exact hA h
  case invokevirtual idx =>
    simp only [rlen] at hd hnx
    subst hnx
    simp only [stp] at h
    exact hCl ⟨idx, Or.inl rfl⟩ h
  case invokestatic idx =>
    simp only [rlen] at hd hnx
    subst hnx
    simp only [stp] at h
    split at h
    · have hx : Cond.methodLink (mNm y).cls idx Lib.Math.max.name ∈ WT := wAt_mem (by simpa using hx)
      split at h
      · rename_i w u t
        cases hb : Nat.ble (catS t) 8 with
        | true => rw [hb] at h; exact at_mmax hy hdp (Nat.le_of_ble_eq_true hb) hd hx (hN _ _ _ _ _ _ _ _ h)
        | false => rw [hb] at h; exact hA h
      · exact hA h
    · have hx : Cond.methodLink (mNm y).cls idx Lib.Math.min.name ∈ WT := wAt_mem (by simpa using hx)
      split at h
      · rename_i w u t
        cases hb : Nat.ble (catS t) 8 with
        | true => rw [hb] at h; exact at_mmin hy hdp (Nat.le_of_ble_eq_true hb) hd hx (hN _ _ _ _ _ _ _ _ h)
        | false => rw [hb] at h; exact hA h
      · exact hA h
    · have hx : Cond.methodLink (mNm y).cls idx Lib.MathLoose.abs_long.x ∈ WT := wAt_mem (by simpa using hx)
      split at h
      · rename_i u t
        cases hb : Nat.ble (catS t) 8 with
        | true => rw [hb] at h; exact at_mabs hy hdp (Nat.le_of_ble_eq_true hb) hd hx (hN _ _ _ _ _ _ _ _ h)
        | false => rw [hb] at h; exact hA h
      · exact hA h
    · exact hCl ⟨idx, Or.inr (Or.inl rfl)⟩ h
  case invokespecial idx =>
    simp only [rlen] at hd hnx
    subst hnx
    simp only [stp] at h
    have e4 : Nat.beq x2 4 = false := hno
    rw [e4] at h
    exact hCl ⟨idx, Or.inr (Or.inr rfl)⟩ h
  case ireturn =>
    simp only [rlen] at hd hnx
    subst hnx
    simp only [stp] at h
    split at h
    · exact at_iret hZ hd (retK_imp (hRt _) h)
    · exact hA h
  case lreturn =>
    simp only [rlen] at hd hnx
    subst hnx
    simp only [stp] at h
    split at h
    · exact at_lret hZ (hret.1 rfl) hd (hRt _ h)
    · exact hA h
  case return_ =>
    simp only [rlen] at hd hnx
    subst hnx
    simp only [stp] at h
    split at h
    · exact at_vret hZ (hret.2 rfl) hd (hRt _ h)
    · exact hA h
  all_goals exact hA h
