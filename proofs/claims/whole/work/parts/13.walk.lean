/-! ===== stretches of code are sound; the entry ===== -/
theorem nb_ne {a b : Nat} (h : a ≠ b) : Nat.beq a b = false := by
  cases e : Nat.beq a b with
  | false => rfl
  | true => exact absurd (Nat.eq_of_beq_eq_true e) h
theorem popK_spec {K : List AV → List AV → Prop} {z : Prop} : ∀ (n : Nat) (st acc : List AV), popK n st acc K z → (∃ as t, as.length = n ∧ st = as ++ t ∧ K (as.reverse ++ acc) t) ∨ z
  | 0, st, acc, h => Or.inl ⟨[], st, rfl, rfl, h⟩
  | n + 1, [], acc, h => Or.inr h
  | n + 1, v :: st, acc, h => by
    rcases popK_spec n st (v :: acc) h with ⟨as, t, h1, h2, h3⟩ | h
    · refine Or.inl ⟨v :: as, t, by rw [List.length_cons, h1], by rw [h2]; rfl, ?_⟩
      rw [List.reverse_cons, List.append_assoc]; exact h3
    · exact Or.inr h
theorem suf_spec : ∀ (T : List Row) (pc : Nat), suf T pc = [] ∨ ∃ r l, suf T pc = r :: l ∧ r.1 = pc ∧ (r :: l) <:+ T
  | [], pc => Or.inl rfl
  | r :: l, pc => by
    cases h : Nat.beq r.1 pc with
    | true => exact Or.inr ⟨r, l, by unfold suf; rw [h]; rfl, Nat.eq_of_beq_eq_true h, List.suffix_refl _⟩
    | false =>
      have e : suf (r :: l) pc = suf l pc := by show (bif Nat.beq r.1 pc then _ else _) = _; rw [h]; rfl
      rw [e]
      rcases suf_spec l pc with h1 | ⟨r', l', h1, h2, h3⟩
      · exact Or.inl h1
      · exact Or.inr ⟨r', l', h1, h2, h3.trans (List.suffix_cons r l)⟩
theorem chn_tail : ∀ (r : Row) (T : List Row), chn (r :: T) = true → chn T = true
  | _, [], _ => rfl
  | r, b :: l, h => by unfold chn at h; simp only [Bool.and_eq_true] at h; exact h.2
theorem chn_suf {r r' : Row} {l : List Row} : ∀ (T : List Row), chn T = true → (r :: r' :: l) <:+ T → r.2.2.1 = r'.1
  | [], _, h => by simp at h
  | x :: T, hc, h => by
    rcases List.suffix_cons_iff.mp h with e | e
    · rw [← e] at hc
      unfold chn at hc
      simp only [Bool.and_eq_true] at hc
      exact Nat.eq_of_beq_eq_true hc.1
    · exact chn_suf T (chn_tail x T hc) e
theorem nxq_ok {y : Nat} {Q : FT} {A : Nat → eLS → List AV → Nat → Nat → HP} {G : List Row → eLS → List AV → Nat → Nat → HP} {code : List Row} {pc : Nat} {ls : eLS} {st : List AV} {k s c : Nat} {mr : MR} {mi : MI} {ml : ML}
    (hA : ∀ pc ls st k s c mr mi ml, A pc ls st k s c mr mi ml → At y pc ls st k s Q c mr mi ml) (hG : G code ls st k s c mr mi ml → ∃ r rest, code = r :: rest ∧ At y r.1 ls st k s Q c mr mi ml) (hpc : ∀ r rest, code = r :: rest → r.1 = pc) (h : nxq A G code ls st k s c mr mi ml) : At y pc ls st k s Q c mr mi ml := by
  have key : G code ls st k s c mr mi ml → At y pc ls st k s Q c mr mi ml := fun h => by
    obtain ⟨r, rest, e, h1⟩ := hG h
    rw [← hpc r rest e]; exact h1
  match code, hpc, key, h with
  | [], _, key, h => exact key h
  | (pc', _, _, _, _, _, _, true) :: l, hpc, _, h =>
    have e := hpc _ _ rfl
    rw [← e]
    exact hA _ _ _ _ _ _ _ _ _ h
  | (pc', _, _, _, _, _, _, false) :: l, _, key, h => exact key h
-- the entry
theorem lg_sl_len (X : XT) (B : Nat) (hX : X.2.2.2.2.2.2 = .null ∨ ∃ a, X.2.2.2.2.2.2 = .ref a) (as : List AV) : (lg_sl (as.map (cv X B))).length = catS as := by
  induction as with
  | nil => rfl
  | cons v as ih =>
    show (List.flatMap _ (cv X B v :: as.map (cv X B))).length = _
    rw [List.flatMap_cons, List.length_append]
    show (if (cv X B v).category = 2 then [Slot.val (cv X B v), .second] else [.val (cv X B v)]).length + (lg_sl (as.map (cv X B))).length = catA v + catS as
    rw [ih, av_cat hX]
    rcases v with x | x | q <;> rfl
theorem entK_e0 : ∀ (as : List AV) (n : Nat) (K : eLS → eLS), entK as n K = K (entK as n id)
  | [], n, K => rfl
  | .inl x :: r, n, K => by
    show entK r (n - 1) (fun l => K (some (.inl x) :: l)) = K (entK r (n - 1) (fun l => id (some (.inl x) :: l)))
    rw [entK_e0 r (n - 1) (fun l => K (some (.inl x) :: l)), entK_e0 r (n - 1) (fun l => id (some (.inl x) :: l))]; rfl
  | .inr (.inl x) :: r, n, K => by
    show entK r (n - 2) (fun l => K (some (.inr (.inl x)) :: none :: l)) = K (entK r (n - 2) (fun l => id (some (.inr (.inl x)) :: none :: l)))
    rw [entK_e0 r (n - 2) (fun l => K (some (.inr (.inl x)) :: none :: l)), entK_e0 r (n - 2) (fun l => id (some (.inr (.inl x)) :: none :: l))]; rfl
  | .inr (.inr q) :: r, n, K => by
    show entK r (n - 1) (fun l => K (some (.inr (.inr q)) :: l)) = K (entK r (n - 1) (fun l => id (some (.inr (.inr q)) :: l)))
    rw [entK_e0 r (n - 1) (fun l => K (some (.inr (.inr q)) :: l)), entK_e0 r (n - 1) (fun l => id (some (.inr (.inr q)) :: l))]; rfl
theorem entK_eq {β : Sort _} : ∀ (as : List AV) (n : Nat) (K : eLS → β), entK as n K = K (entK as n id)
  | [], n, K => rfl
  | .inl x :: r, n, K => by
    show entK r (n - 1) (fun l => K (some (.inl x) :: l)) = K (entK r (n - 1) (fun l => id (some (.inl x) :: l)))
    rw [entK_eq r (n - 1) (fun l => K (some (.inl x) :: l)), entK_e0 r (n - 1) (fun l => id (some (.inl x) :: l))]; rfl
  | .inr (.inl x) :: r, n, K => by
    show entK r (n - 2) (fun l => K (some (.inr (.inl x)) :: none :: l)) = K (entK r (n - 2) (fun l => id (some (.inr (.inl x)) :: none :: l)))
    rw [entK_eq r (n - 2) (fun l => K (some (.inr (.inl x)) :: none :: l)), entK_e0 r (n - 2) (fun l => id (some (.inr (.inl x)) :: none :: l))]; rfl
  | .inr (.inr q) :: r, n, K => by
    show entK r (n - 1) (fun l => K (some (.inr (.inr q)) :: l)) = K (entK r (n - 1) (fun l => id (some (.inr (.inr q)) :: l)))
    rw [entK_eq r (n - 1) (fun l => K (some (.inr (.inr q)) :: l)), entK_e0 r (n - 1) (fun l => id (some (.inr (.inr q)) :: l))]; rfl
theorem lg_rep : ∀ (n i : Nat), lg (List.replicate n none) i = none
  | 0, i => rfl
  | n + 1, 0 => rfl
  | n + 1, i + 1 => lg_rep n i
theorem ent_lg (X : XT) (B : Nat) (hX : X.2.2.2.2.2.2 = .null ∨ ∃ a, X.2.2.2.2.2.2 = .ref a) : ∀ (as : List AV) (n off i : Nat) (v : AV), lg (entK as n id) i = some v → (off + i, cv X B v) ∈ lv_args off (as.map (cv X B)) ∧ v ∈ as
  | [], n, off, i, v, h => by
    have e : entK [] n id = (List.replicate n none : eLS) := rfl
    rw [e, lg_rep] at h; cases h
  | w :: r, n, off, i, v, h => by
    have ec : (cv X B w).category = catA w := av_cat hX w
    have tail : ∀ d j, catA w = d → lg (entK r (n - d) id) j = some v → (off + (j + d), cv X B v) ∈ lv_args off ((w :: r).map (cv X B)) ∧ v ∈ w :: r := by
      intro d j hd hj
      obtain ⟨h1, h2⟩ := ent_lg X B hX r (n - d) (off + d) j v hj
      refine ⟨?_, List.mem_cons_of_mem _ h2⟩
      show _ ∈ (off, cv X B w) :: lv_args (if (cv X B w).category = 2 then off + 2 else off + 1) (r.map (cv X B))
      refine List.mem_cons_of_mem _ ?_
      have e2 : (if (cv X B w).category = 2 then off + 2 else off + 1) = off + d := by
        rw [ec, hd]
        rcases w with x | x | q
        · cases hd; rfl
        · cases hd; rfl
        · cases hd; rfl
      rw [e2, show off + (j + d) = off + d + j by omega]
      exact h1
    have here : v = w → (off + 0, cv X B v) ∈ lv_args off ((w :: r).map (cv X B)) ∧ v ∈ w :: r := fun e => by subst e; exact ⟨List.mem_cons_self, List.mem_cons_self⟩
    rcases w with x | x | q
    · have e : entK (.inl x :: r) n id = (some (.inl x) :: entK r (n - 1) id : eLS) := by
        show entK r (n - 1) (fun l => id (some (.inl x) :: l)) = _
        rw [entK_eq]; rfl
      rw [e] at h
      cases i with
      | zero => exact here (Option.some.inj h).symm
      | succ i => exact tail 1 i rfl h
    · have e : entK (.inr (.inl x) :: r) n id = (some (.inr (.inl x)) :: none :: entK r (n - 2) id : eLS) := by
        show entK r (n - 2) (fun l => id (some (.inr (.inl x)) :: none :: l)) = _
        rw [entK_eq]; rfl
      rw [e] at h
      match i, h with
      | 0, h => exact here (Option.some.inj h).symm
      | 1, h => cases h
      | i + 2, h => exact tail 2 i rfl h
    · have e : entK (.inr (.inr q) :: r) n id = (some (.inr (.inr q)) :: entK r (n - 1) id : eLS) := by
        show entK r (n - 1) (fun l => id (some (.inr (.inr q)) :: l)) = _
        rw [entK_eq]; rfl
      rw [e] at h
      cases i with
      | zero => exact here (Option.some.inj h).symm
      | succ i => exact tail 1 i rfl h
theorem lvs_entry {X : XT} {B : Nat} {sh : List (Nat × Nat)} (hX : X.2.2.2.2.2.2 = .null ∨ ∃ a, X.2.2.2.2.2.2 = .ref a) {as : List AV} {n : Nat} (hn : catS as ≤ n) (hok : ∀ v ∈ as, okv X sh v) : LVs X B sh ((lg_sl (as.map (cv X B)) ++ List.replicate (n - (lg_sl (as.map (cv X B))).length) Slot.unset).toArray) n (entK as n id) := by
  have h := lv_entry (as.map (cv X B)) (n := n) (by rw [lg_sl_len X B hX]; exact hn)
  refine ⟨h.1, h.2.1, fun i v hv => ?_⟩
  obtain ⟨h1, h2⟩ := ent_lg X B hX as n 0 i v hv
  rw [Nat.zero_add] at h1
  exact ⟨h.2.2 _ h1, hok v h2⟩
theorem ok_at {y mc ms : Nat} {as : List AV} {Q : Option AV → HP} {c : Nat} {mr : MR} {mi : MI} {ml : ML} (hy : y < 282) (hn : catS as ≤ mMx y) (K : At y 0 (entK as (mMx y) id) [] mc ms (Zq Q) c mr mi ml) : Ok y mc ms as Q c mr mi ml := by
  intro l X D aC B sh hfl
  obtain ⟨-, -, -, hpl, -⟩ := okH_of hy
  refine Met.ofW (cc := mCd y) (maxL := mMx y) (ret := mRt y) hpl rfl ?_
  intro p e S m args below meth cd s₁ Bd hml hv
  obtain ⟨rfl, hR, hok, hK, hE⟩ := hv
  have hts := atoms_spec (ws := wsy y) Bd.pre
  have hC : CX y p S m (as.map (cv X B)).toArray meth cd X D aC B := ⟨Bd.exec, Bd.bytes, hml, Bd.returns, Bd.notSynchronized, findClass_of_methodNamed Bd.named, fun hn => (name_of_methodNamed Bd.named Bd.method).1.trans hn, fun w hw => hts w (List.mem_cons_of_mem _ hw), hK, hE⟩
  rw [lg_entry_eq]
  exact K l p e S m _ below meth cd S.heap [] 0 0 mc ms _ X D aC B sh sh hfl hC hR (List.prefix_refl _) (fun v hv => by cases hv) (lvs_entry hE.fm hn hok) va_S.rf (by omega) (by omega)
theorem wq_ok (inl : Nat → Bool) : ∀ (f y : Nat) (Q : Option AV → HP) (Z : FT) (A : Nat → eLS → List AV → Nat → Nat → HP) (code : List Row) (ls : eLS) (st : List AV) (k s c : Nat) (mr : MR) (mi : MI) (ml : ML), y < 282 → RetOK Z Q → code <:+ mTb y → (∀ pc ls st k s c mr mi ml, A pc ls st k s c mr mi ml → At y pc ls st k s Z c mr mi ml) → wq inl f y (mTb y) Q A code ls st k s c mr mi ml → ∃ r rest, code = r :: rest ∧ At y r.1 ls st k s Z c mr mi ml
  | 0, y, Q, Z, A, code, ls, st, k, s, c, mr, mi, ml, hy, hZ, hs, hA, h => h.elim
  | f + 1, y, Q, Z, A, [], ls, st, k, s, c, mr, mi, ml, hy, hZ, hs, hA, h => h.elim
  | f + 1, y, Q, Z, A, r :: rest, ls, st, k, s, c, mr, mi, ml, hy, hZ, hsf, hA, h => by
    refine ⟨r, rest, rfl, ?_⟩
    have hr : r ∈ mTb y := hsf.subset List.mem_cons_self
    have hrs : rest <:+ mTb y := (List.suffix_cons r rest).trans hsf
    have hch := (okH_of hy).2.1
    have hnx : ∀ r' rest', rest = r' :: rest' → r'.1 = r.2.2.1 := fun r' rest' e => by
      subst e; exact (chn_suf _ hch hsf).symm
    have hN : ∀ ls st k s c mr mi ml, nxq A (wq inl f y (mTb y) Q A) rest ls st k s c mr mi ml → At y r.2.2.1 ls st k s Z c mr mi ml := fun ls st k s c mr mi ml h =>
      nxq_ok hA (wq_ok inl f y Q Z A rest ls st k s c mr mi ml hy hZ hrs hA) hnx h
    have hw := (okH_of hy).1 r hr
    obtain ⟨hdp, -⟩ := mget_rt hy
    unfold wq at h
    cases hob : isObj r with
    | true =>
      rw [hob] at h
      simp only [cond_true] at h
      obtain ⟨pc, ins, nx, x1, x2, x3, v, hh⟩ := r
      cases ins
      case invokespecial idx =>
        have e4 : x2 = 4 := Nat.eq_of_beq_eq_true hob
        subst e4
        unfold rwOK at hw
        simp only [Bool.and_eq_true, decide_eq_true_eq, rlen] at hw
        obtain ⟨⟨hd, hnx0⟩, hx⟩ := hw
        have e3 := Nat.eq_of_beq_eq_true hnx0
        have hl : Cond.methodLink (mNm y).cls idx Lib.objectInit ∈ WT := wAt_mem (by simpa using hx)
        dsimp only at hN hnx ⊢
        subst e3
        split at h
        · rename_i ro n a t
          cases hb : (Nat.blt ro 100 && Nat.ble (catS t) 8) with
          | true =>
            rw [hb] at h
            simp only [Bool.and_eq_true] at hb
            exact at_obj hy hdp (q := (ro, n, a)) (by simpa using hb.1) (Nat.le_of_ble_eq_true hb.2) (of_decide_eq_true hd) hl (hN _ _ _ _ _ _ _ _ h)
          | false => rw [hb] at h; exact hA _ _ _ _ _ _ _ _ _ h
        · exact hA _ _ _ _ _ _ _ _ _ h
      all_goals exact absurd hob (by simp [isObj])
    | false =>
      rw [hob] at h
      simp only [cond_false] at h
      refine stp_ok hy hr hZ h hob hN (fun st' hj => ?_) (fun ha => hA _ _ _ _ _ _ _ _ _ ha) (fun rv hq => hq) (fun hinv hcl => ?_)
      · refine nxq_ok hA (fun hg => ?_) (fun r' rest' e => ?_) hj
        · rcases suf_spec (mTb y) r.2.2.2.1 with e | ⟨r', l', e, -, hsf'⟩
          · rw [e] at hg
            cases f with
            | zero => exact hg.elim
            | succ f => exact hg.elim
          · rw [e] at hg ⊢
            exact wq_ok inl f y Q Z A (r' :: l') ls st' k s c mr mi ml hy hZ hsf' hA hg
        · rcases suf_spec (mTb y) r.2.2.2.1 with e' | ⟨r'', l', e', h1, -⟩
          · rw [e'] at e; cases e
          · rw [e'] at e; cases e; exact h1
      · rcases popK_spec _ _ _ hcl with ⟨as, t, h1, h2, h3⟩ | h3
        · rw [List.append_nil] at h3
          generalize hb : (Nat.ble (catS t) 8 && Nat.blt (mDp r.2.2.2.1) (mDp y) && Nat.blt r.2.2.2.2.1 4 && Nat.ble (catS as.reverse) (mMx r.2.2.2.1) && rcv r.2.2.2.2.1 r.2.2.2.1 as.reverse) = b at h3
          cases b with
          | false => exact hA _ _ _ _ _ _ _ _ _ h3
          | true =>
            simp only [cond_true] at h3
            simp only [Bool.and_eq_true] at hb
            obtain ⟨⟨⟨⟨b1, b2⟩, b3⟩, b4⟩, b5⟩ := hb
            replace b1 := Nat.le_of_ble_eq_true b1
            replace b2 : mDp r.2.2.2.1 < mDp y := by simpa using b2
            replace b3 : r.2.2.2.2.1 < 4 := by simpa using b3
            replace b4 := Nat.le_of_ble_eq_true b4
            have key : r.2.2.2.1 < 282 → ∃ mc ms, mc ≤ k ∧ ms ≤ s ∧ Ok r.2.2.2.1 mc ms as.reverse (fun rv => nxq A (wq inl f y (mTb y) Q A) rest ls (psh rv t) (k - mc) (s - ms)) c mr mi ml := by
              intro hy'
              cases hi : inl r.2.2.2.1 with
              | false => rw [hi] at h3; exact h3
              | true =>
                rw [hi] at h3
                simp only [cond_true] at h3
                refine ⟨0, 0, Nat.zero_le _, Nat.zero_le _, ok_at hy' b4 ?_⟩
                rw [entK_eq] at h3
                obtain ⟨r', l', e, hat⟩ := wq_ok inl f r.2.2.2.1 _ (Zq _) _ (mTb r.2.2.2.1) _ _ _ _ _ _ _ _ hy' (fun _ _ _ _ _ _ _ _ _ _ _ z => z) (List.suffix_refl _) (fun _ _ _ _ _ _ _ _ _ z => z.elim) h3
                obtain ⟨r0, T0, e0, hz⟩ := (okH_of hy').2.2.1
                rw [e0] at e
                cases e
                rw [hz] at hat
                exact hat
            obtain ⟨pc, ins, nx, x1, x2, x3, v, hh⟩ := r
            dsimp only at h1 b2 b3 b4 b5 key hN hinv ⊢
            unfold rwOK at hw
            simp only [Bool.and_eq_true, decide_eq_true_eq] at hw
            obtain ⟨⟨hd, hnx0⟩, hx⟩ := hw
            replace hnx0 := Nat.eq_of_beq_eq_true hnx0
            have n9 : Nat.beq x2 9 = false := nb_ne (by omega)
            have est : st = as.reverse.reverse ++ t := by rw [List.reverse_reverse]; exact h2
            obtain ⟨idx, hin⟩ := hinv
            rcases hin with e | e | e
            · subst e
              simp only [rlen] at hd hnx0
              subst hnx0
              dsimp only at hx
              rw [n9] at hx
              simp only [Bool.false_or, Bool.and_eq_true] at hx
              obtain ⟨⟨⟨c1, c2⟩, c3⟩, c4⟩ := hx
              have c1 := Nat.eq_of_beq_eq_true c1
              subst c1
              have c2 : x1 < 282 := by simpa using c2
              obtain ⟨mc, ms, k1, k2, O⟩ := key c2
              unfold rcv at b5
              split at b5
              · rename_i h0; cases h0
              · split at b5
                · rename_i ro n a as' e5
                  have e6 := Nat.eq_of_beq_eq_true b5
                  subst e6
                  rw [est, e5]
                  rw [e5] at O
                  have hlen : as'.length = mNa x1 := by
                    have e7 := congrArg List.length e5
                    rw [List.length_reverse, h1, List.length_cons] at e7
                    have e8 : mNa x1 + (bif Nat.beq 0 1 then 0 else 1) = mNa x1 + 1 := rfl
                    rw [e8] at e7
                    omega
                  exact at_callV hd c2 (Nat.eq_of_beq_eq_true c3) (wAt_mem c4) b2 b1 hlen O k1 k2 (fun rv c' mr' mi' ml' hq => hN _ _ _ _ _ _ _ _ hq)
                · cases b5
              · rename_i h0; exact absurd rfl h0
            · subst e
              simp only [rlen] at hd hnx0
              subst hnx0
              dsimp only at hx
              have n5 : Nat.beq x2 5 = false := nb_ne (by omega)
              have n6 : Nat.beq x2 6 = false := nb_ne (by omega)
              have n7 : Nat.beq x2 7 = false := nb_ne (by omega)
              rw [n9, n5, n6, n7] at hx
              simp only [Bool.false_or, Bool.false_and, Bool.and_eq_true] at hx
              obtain ⟨⟨⟨c1, c2⟩, c3⟩, c4⟩ := hx
              have c1 := Nat.eq_of_beq_eq_true c1
              subst c1
              have c2 : x1 < 282 := by simpa using c2
              obtain ⟨mc, ms, k1, k2, O⟩ := key c2
              rw [est]
              have e8 : mNa x1 + (bif Nat.beq 1 1 then 0 else 1) = mNa x1 := rfl
              rw [e8] at h1
              exact at_callS hd c2 (Nat.eq_of_beq_eq_true c3) (wAt_mem c4) b2 b1 (by rw [List.length_reverse]; exact h1) O k1 k2 (fun rv c' mr' mi' ml' hq => hN _ _ _ _ _ _ _ _ hq)
            · subst e
              simp only [rlen] at hd hnx0
              subst hnx0
              dsimp only at hx
              have n4 : Nat.beq x2 4 = false := nb_ne (by omega)
              rw [n9, n4] at hx
              simp only [Bool.false_or, Bool.false_and, Bool.or_eq_true, Bool.and_eq_true, decide_eq_true_eq] at hx
              have hx : (x2 = 2 ∨ x2 = 3) ∧ x1 < 282 ∧ mKd x1 = 2 ∧ (Cond.methodLink (mNm y).cls idx (mNm x1) ∈ WT ∨ ((mNm y).cls, idx, mNm x1) ∈ nestT) := by
                rcases hx with ⟨⟨⟨c1, c2⟩, c3⟩, c4⟩ | ⟨⟨⟨c1, c2⟩, c3⟩, c4⟩
                · exact ⟨Or.inl (Nat.eq_of_beq_eq_true c1), by simpa using c2, Nat.eq_of_beq_eq_true c3, Or.inl (wAt_mem c4)⟩
                · exact ⟨Or.inr (Nat.eq_of_beq_eq_true c1), by simpa using c2, Nat.eq_of_beq_eq_true c3, Or.inr (List.mem_of_getElem? c4)⟩
              obtain ⟨c1, c2, c3, c4⟩ := hx
              obtain ⟨mc, ms, k1, k2, O⟩ := key c2
              have e9 : mNa x1 + (bif Nat.beq x2 1 then 0 else 1) = mNa x1 + 1 := by rcases c1 with rfl | rfl <;> rfl
              rw [e9] at h1
              have b5 : ∃ ro n a as', as.reverse = .inr (.inr (some (ro, n, a))) :: as' ∧ ro < 100 := by
                unfold rcv at b5
                split at b5
                · omega
                · omega
                · split at b5
                  · rename_i ro n a as' e5
                    exact ⟨ro, n, a, as', e5, by simpa using b5⟩
                  · cases b5
              obtain ⟨ro, n, a, as', e5, e6⟩ := b5
              rw [est, e5]
              rw [e5] at O
              have hlen : as'.length = mNa x1 := by
                have e7 := congrArg List.length e5
                rw [List.length_reverse, h1, List.length_cons] at e7
                omega
              exact at_callI hd c2 c3 e6 c4 b2 b1 hlen O k1 k2 (fun rv c' mr' mi' ml' hq => hN _ _ _ _ _ _ _ _ hq)
        · exact hA _ _ _ _ _ _ _ _ _ h3
/-- a method walked from its entry -/
theorem ok_wq (inl : Nat → Bool) (f : Nat) {y mc ms : Nat} {as : List AV} {Q : Option AV → HP} {c : Nat} {mr : MR} {mi : MI} {ml : ML} (hy : Nat.blt y 282 = true) (hn : Nat.ble (catS as) (mMx y) = true)
    (h : entK as (mMx y) (fun ls0 => wq inl f y (mTb y) Q (fun pc ls st k s => At y pc ls st k s (Zq Q)) (mTb y) ls0 [] mc ms c mr mi ml)) : Ok y mc ms as Q c mr mi ml := by
  have hy : y < 282 := by simpa using hy
  refine ok_at hy (Nat.le_of_ble_eq_true hn) ?_
  rw [entK_eq] at h
  obtain ⟨r', l', e, hat⟩ := wq_ok inl f y _ (Zq Q) _ (mTb y) _ _ _ _ _ _ _ _ hy (fun _ _ _ _ _ _ _ _ _ _ _ z => z) (List.suffix_refl _) (fun _ _ _ _ _ _ _ _ _ z => z) h
  obtain ⟨r0, T0, e0, hz⟩ := (okH_of hy).2.2.1
  rw [e0] at e
  cases e
  rw [hz] at hat
  exact hat
/-- a method walked from a place in it -/
theorem at_wqZ (inl : Nat → Bool) (f : Nat) {y pc : Nat} {ls : eLS} {st : List AV} {k s : Nat} {Z : FT} {Q : Option AV → HP} {c : Nat} {mr : MR} {mi : MI} {ml : ML} (hZ : RetOK Z Q) (hy : Nat.blt y 282 = true)
    (h : wq inl f y (mTb y) Q (fun pc ls st k s => At y pc ls st k s Z) (suf (mTb y) pc) ls st k s c mr mi ml) : At y pc ls st k s Z c mr mi ml := by
  have hy : y < 282 := by simpa using hy
  rcases suf_spec (mTb y) pc with e | ⟨r, l, e, h1, h2⟩
  · rw [e] at h
    cases f <;> exact h.elim
  · rw [e] at h
    obtain ⟨r', l', e', hat⟩ := wq_ok inl f y _ Z _ (r :: l) _ _ _ _ _ _ _ _ hy hZ h2 (fun _ _ _ _ _ _ _ _ _ z => z) h
    cases e'
    rw [h1] at hat
    exact hat
theorem at_wq (inl : Nat → Bool) (f : Nat) {y pc : Nat} {ls : eLS} {st : List AV} {k s : Nat} {Q : Option AV → HP} {c : Nat} {mr : MR} {mi : MI} {ml : ML} (hy : Nat.blt y 282 = true)
    (h : wq inl f y (mTb y) Q (fun pc ls st k s => At y pc ls st k s (Zq Q)) (suf (mTb y) pc) ls st k s c mr mi ml) : At y pc ls st k s (Zq Q) c mr mi ml :=
  at_wqZ inl f (fun _ _ _ _ _ _ _ _ _ _ _ z => z) hy h
theorem Ok.mono {y mc ms : Nat} {as : List AV} {Q Q' : Option AV → HP} {c : Nat} {mr : MR} {mi : MI} {ml : ML} (h : Ok y mc ms as Q c mr mi ml) (hq : ∀ r c mr mi ml, Q r c mr mi ml → Q' r c mr mi ml) : Ok y mc ms as Q' c mr mi ml := by
  intro l X D aC B sh hfl
  refine MetFree.mono (h l X D aC B sh hfl) (fun _ _ z => z) (fun _ _ _ _ _ z => z) (fun a st o t hP ⟨⟨⟨r, c, mr, mi, ml, sh', h1, h2, h3⟩, h4⟩, h5⟩ => ⟨⟨⟨r, c, mr, mi, ml, sh', h1, hq _ _ _ _ _ h2, h3⟩, h4⟩, h5⟩)
