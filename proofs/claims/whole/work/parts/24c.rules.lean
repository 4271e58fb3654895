/-! ===== rules of the walk, laid by wip/whole/genw.py ===== -/
theorem g_rd_next_0 {nb db : Nat} {rs : RX} {c : Nat} {mi mi' : MI} {ml ml' : ML} {rv : Option AV} 
    (h : Go m_rd_next 8 [some (vR 12 0 4), none, none] [] rv c (MRc nb db (some (0, 800, 3)) rs) (u2 mi 4 6 (mi 4 7)) ml mi' ml') :
    Ret m_rd_next [(vR 12 0 4)] rv c (MRc nb db (some (0, 800, 3)) rs) mi ml mi' ml' := by
  intro Q hQ
  refine ok_wq inlT 400 rfl rfl ?_
  exact h Q hQ
theorem g_rd_next_8 {nb db : Nat} {rs : RX} {c : Nat} {mi mi' : MI} {ml ml' : ML} {rv : Option AV} 
    (h : ((mi 4 4) ≤ (mi 4 6) → (∃ (r1 : Int32), Ret m_rd_runOf [(vR 12 0 4), (vI (nI 97)), (vI (nI 122))] (some (vI r1)) c (MRc nb db (some (0, 800, 3)) rs) mi ml mi ml ∧ (∃ (r2 : Int32), Ret m_rd_runOf [(vR 12 0 4), (vI (nI 48)), (vI (nI 57))] (some (vI r2)) c (MRc nb db (some (0, 800, 3)) rs) mi ml mi ml ∧ (((mi 4 6) < (mi 4 4) → ((r1 ≤ 0 → ((r2 ≤ 0 → (vp_in (mi 4 6) 800 ∧ ((¬ (mi 3 (mi 4 6).toNatClampNeg) = (nI 59) → (Fin none (u2 (u2 mi 4 5 (nI 4)) 4 7 ((mi 4 6) + (nI 1))) ml rv mi' ml')) ∧ ((mi 3 (mi 4 6).toNatClampNeg) = (nI 59) → (Fin none (u2 (u2 mi 4 5 (nI 3)) 4 7 ((mi 4 6) + (nI 1))) ml rv mi' ml'))))) ∧ (¬ r2 ≤ 0 → (((nI 6) < r2 → (∃ (r3 : Int32), Ret m_rd_wholeOf [(vR 12 0 4), (vI ((mi 4 6) + r2))] (some (vI r3)) c (MRc nb db (some (0, 800, 3)) rs) (u2 (u2 mi 4 5 (nI 4)) 4 7 ((mi 4 6) + r2)) ml (u2 (u2 mi 4 5 (nI 4)) 4 7 ((mi 4 6) + r2)) ml ∧ (Fin none (u2 (u2 (u2 mi 4 5 (nI 4)) 4 7 ((mi 4 6) + r2)) 4 8 r3) ml rv mi' ml'))) ∧ (¬ (nI 6) < r2 → (∃ (r4 : Int32), Ret m_rd_wholeOf [(vR 12 0 4), (vI ((mi 4 6) + r2))] (some (vI r4)) c (MRc nb db (some (0, 800, 3)) rs) (u2 (u2 mi 4 5 (nI 2)) 4 7 ((mi 4 6) + r2)) ml (u2 (u2 mi 4 5 (nI 2)) 4 7 ((mi 4 6) + r2)) ml ∧ (Fin none (u2 (u2 (u2 mi 4 5 (nI 2)) 4 7 ((mi 4 6) + r2)) 4 8 r4) ml rv mi' ml'))))))) ∧ (¬ r1 ≤ 0 → (((nI 7) < r1 → (Fin none (u2 (u2 mi 4 5 (nI 4)) 4 7 ((mi 4 6) + r1)) ml rv mi' ml')) ∧ (¬ (nI 7) < r1 → (Fin none (u2 (u2 mi 4 5 (nI 1)) 4 7 ((mi 4 6) + r1)) ml rv mi' ml')))))) ∧ (¬ (mi 4 6) < (mi 4 4) → (Fin none (u2 (u2 mi 4 5 (nI 0)) 4 7 (mi 4 4)) ml rv mi' ml')))))) ∧ (¬ (mi 4 4) ≤ (mi 4 6) → (vp_in (mi 4 6) 800 ∧ ((¬ (mi 3 (mi 4 6).toNatClampNeg) = (nI 32) → (∃ (r5 : Int32), Ret m_rd_runOf [(vR 12 0 4), (vI (nI 97)), (vI (nI 122))] (some (vI r5)) c (MRc nb db (some (0, 800, 3)) rs) mi ml mi ml ∧ (∃ (r6 : Int32), Ret m_rd_runOf [(vR 12 0 4), (vI (nI 48)), (vI (nI 57))] (some (vI r6)) c (MRc nb db (some (0, 800, 3)) rs) mi ml mi ml ∧ (((mi 4 6) < (mi 4 4) → ((r5 ≤ 0 → ((r6 ≤ 0 → (vp_in (mi 4 6) 800 ∧ ((¬ (mi 3 (mi 4 6).toNatClampNeg) = (nI 59) → (Fin none (u2 (u2 mi 4 5 (nI 4)) 4 7 ((mi 4 6) + (nI 1))) ml rv mi' ml')) ∧ ((mi 3 (mi 4 6).toNatClampNeg) = (nI 59) → (Fin none (u2 (u2 mi 4 5 (nI 3)) 4 7 ((mi 4 6) + (nI 1))) ml rv mi' ml'))))) ∧ (¬ r6 ≤ 0 → (((nI 6) < r6 → (∃ (r7 : Int32), Ret m_rd_wholeOf [(vR 12 0 4), (vI ((mi 4 6) + r6))] (some (vI r7)) c (MRc nb db (some (0, 800, 3)) rs) (u2 (u2 mi 4 5 (nI 4)) 4 7 ((mi 4 6) + r6)) ml (u2 (u2 mi 4 5 (nI 4)) 4 7 ((mi 4 6) + r6)) ml ∧ (Fin none (u2 (u2 (u2 mi 4 5 (nI 4)) 4 7 ((mi 4 6) + r6)) 4 8 r7) ml rv mi' ml'))) ∧ (¬ (nI 6) < r6 → (∃ (r8 : Int32), Ret m_rd_wholeOf [(vR 12 0 4), (vI ((mi 4 6) + r6))] (some (vI r8)) c (MRc nb db (some (0, 800, 3)) rs) (u2 (u2 mi 4 5 (nI 2)) 4 7 ((mi 4 6) + r6)) ml (u2 (u2 mi 4 5 (nI 2)) 4 7 ((mi 4 6) + r6)) ml ∧ (Fin none (u2 (u2 (u2 mi 4 5 (nI 2)) 4 7 ((mi 4 6) + r6)) 4 8 r8) ml rv mi' ml'))))))) ∧ (¬ r5 ≤ 0 → (((nI 7) < r5 → (Fin none (u2 (u2 mi 4 5 (nI 4)) 4 7 ((mi 4 6) + r5)) ml rv mi' ml')) ∧ (¬ (nI 7) < r5 → (Fin none (u2 (u2 mi 4 5 (nI 1)) 4 7 ((mi 4 6) + r5)) ml rv mi' ml')))))) ∧ (¬ (mi 4 6) < (mi 4 4) → (Fin none (u2 (u2 mi 4 5 (nI 0)) 4 7 (mi 4 4)) ml rv mi' ml')))))) ∧ ((mi 3 (mi 4 6).toNatClampNeg) = (nI 32) → (Go m_rd_next 8 [some (vR 12 0 4), none, none] [] rv c (MRc nb db (some (0, 800, 3)) rs) (u2 mi 4 6 ((mi 4 6) + (nI 1))) ml mi' ml')))))) :
    Go m_rd_next 8 [some (vR 12 0 4), none, none] [] rv c (MRc nb db (some (0, 800, 3)) rs) mi ml mi' ml' := by
  intro Q hQ
  refine at_wq inlT 400 rfl ?_
  refine ⟨fun g => ?_, fun g => ?_⟩
  · have h := h.1 (g)
    obtain ⟨r1, hR, h⟩ := h
    refine ⟨0, 0, Nat.zero_le _, Nat.zero_le _, hR _ ?_⟩
    obtain ⟨r2, hR, h⟩ := h
    refine ⟨0, 0, Nat.zero_le _, Nat.zero_le _, hR _ ?_⟩
    refine ⟨fun g => ?_, fun g => ?_⟩
    · have h := h.1 (g)
      refine ⟨fun g => ?_, fun g => ?_⟩
      · have h := h.1 (g)
        refine ⟨fun g => ?_, fun g => ?_⟩
        · have h := h.1 (g)
          refine ⟨h.1, ?_⟩
          have h := h.2
          refine ⟨fun g => ?_, fun g => ?_⟩
          · have h := h.1 (g)
            exact h.use hQ
          · have h := h.2 (g)
            exact h.use hQ
        · have h := h.2 (g)
          refine ⟨fun g => ?_, fun g => ?_⟩
          · have h := h.1 (g)
            obtain ⟨r3, hR, h⟩ := h
            refine ⟨0, 0, Nat.zero_le _, Nat.zero_le _, hR _ ?_⟩
            exact h.use hQ
          · have h := h.2 (g)
            obtain ⟨r4, hR, h⟩ := h
            refine ⟨0, 0, Nat.zero_le _, Nat.zero_le _, hR _ ?_⟩
            exact h.use hQ
      · have h := h.2 (g)
        refine ⟨fun g => ?_, fun g => ?_⟩
        · have h := h.1 (g)
          exact h.use hQ
        · have h := h.2 (g)
          exact h.use hQ
    · have h := h.2 (g)
      exact h.use hQ
  · have h := h.2 (g)
    refine ⟨h.1, ?_⟩
    have h := h.2
    refine ⟨fun g => ?_, fun g => ?_⟩
    · have h := h.1 (g)
      obtain ⟨r5, hR, h⟩ := h
      refine ⟨0, 0, Nat.zero_le _, Nat.zero_le _, hR _ ?_⟩
      obtain ⟨r6, hR, h⟩ := h
      refine ⟨0, 0, Nat.zero_le _, Nat.zero_le _, hR _ ?_⟩
      refine ⟨fun g => ?_, fun g => ?_⟩
      · have h := h.1 (g)
        refine ⟨fun g => ?_, fun g => ?_⟩
        · have h := h.1 (g)
          refine ⟨fun g => ?_, fun g => ?_⟩
          · have h := h.1 (g)
            refine ⟨h.1, ?_⟩
            have h := h.2
            refine ⟨fun g => ?_, fun g => ?_⟩
            · have h := h.1 (g)
              exact h.use hQ
            · have h := h.2 (g)
              exact h.use hQ
          · have h := h.2 (g)
            refine ⟨fun g => ?_, fun g => ?_⟩
            · have h := h.1 (g)
              obtain ⟨r7, hR, h⟩ := h
              refine ⟨0, 0, Nat.zero_le _, Nat.zero_le _, hR _ ?_⟩
              exact h.use hQ
            · have h := h.2 (g)
              obtain ⟨r8, hR, h⟩ := h
              refine ⟨0, 0, Nat.zero_le _, Nat.zero_le _, hR _ ?_⟩
              exact h.use hQ
        · have h := h.2 (g)
          refine ⟨fun g => ?_, fun g => ?_⟩
          · have h := h.1 (g)
            exact h.use hQ
          · have h := h.2 (g)
            exact h.use hQ
      · have h := h.2 (g)
        exact h.use hQ
    · have h := h.2 (g)
      exact h Q hQ
theorem g_rd_runOf_0 {nb db : Nat} {rs : RX} {c : Nat} {mi mi' : MI} {ml ml' : ML} {rv : Option AV} {a0 : Int32} {a1 : Int32}
    (h : Go m_rd_runOf 5 [some (vR 12 0 4), some (vI a0), some (vI a1), some (vI (mi 4 6))] [] rv c (MRc nb db (some (0, 800, 3)) rs) mi ml mi' ml') :
    Ret m_rd_runOf [(vR 12 0 4), (vI a0), (vI a1)] rv c (MRc nb db (some (0, 800, 3)) rs) mi ml mi' ml' := by
  intro Q hQ
  refine ok_wq inlT 400 rfl rfl ?_
  exact h Q hQ
theorem g_rd_runOf_5 {nb db : Nat} {rs : RX} {c : Nat} {mi mi' : MI} {ml ml' : ML} {rv : Option AV} {l1 : Int32} {l2 : Int32} {l3 : Int32}
    (h : ((mi 4 4) ≤ l3 → (Fin (some (vI (l3 - (mi 4 6)))) mi ml rv mi' ml')) ∧ (¬ (mi 4 4) ≤ l3 → (vp_in l3 800 ∧ (((mi 3 l3.toNatClampNeg) < l1 → (Fin (some (vI (l3 - (mi 4 6)))) mi ml rv mi' ml')) ∧ (¬ (mi 3 l3.toNatClampNeg) < l1 → (vp_in l3 800 ∧ ((l2 < (mi 3 l3.toNatClampNeg) → (Fin (some (vI (l3 - (mi 4 6)))) mi ml rv mi' ml')) ∧ (¬ l2 < (mi 3 l3.toNatClampNeg) → (Go m_rd_runOf 5 [some (vR 12 0 4), some (vI l1), some (vI l2), some (vI (l3 + nI 1))] [] rv c (MRc nb db (some (0, 800, 3)) rs) mi ml mi' ml'))))))))) :
    Go m_rd_runOf 5 [some (vR 12 0 4), some (vI l1), some (vI l2), some (vI l3)] [] rv c (MRc nb db (some (0, 800, 3)) rs) mi ml mi' ml' := by
  intro Q hQ
  refine at_wq inlT 400 rfl ?_
  refine ⟨fun g => ?_, fun g => ?_⟩
  · have h := h.1 (g)
    exact h.use hQ
  · have h := h.2 (g)
    refine ⟨h.1, ?_⟩
    have h := h.2
    refine ⟨fun g => ?_, fun g => ?_⟩
    · have h := h.1 (g)
      exact h.use hQ
    · have h := h.2 (g)
      refine ⟨h.1, ?_⟩
      have h := h.2
      refine ⟨fun g => ?_, fun g => ?_⟩
      · have h := h.1 (g)
        exact h.use hQ
      · have h := h.2 (g)
        exact h Q hQ
theorem g_rd_wholeOf_0 {nb db : Nat} {rs : RX} {c : Nat} {mi mi' : MI} {ml ml' : ML} {rv : Option AV} {a0 : Int32}
    (h : Go m_rd_wholeOf 7 [some (vR 12 0 4), some (vI a0), some (vI (nI 0)), some (vI (mi 4 6))] [] rv c (MRc nb db (some (0, 800, 3)) rs) mi ml mi' ml') :
    Ret m_rd_wholeOf [(vR 12 0 4), (vI a0)] rv c (MRc nb db (some (0, 800, 3)) rs) mi ml mi' ml' := by
  intro Q hQ
  refine ok_wq inlT 400 rfl rfl ?_
  exact h Q hQ
theorem g_rd_wholeOf_7 {nb db : Nat} {rs : RX} {c : Nat} {mi mi' : MI} {ml ml' : ML} {rv : Option AV} {l1 : Int32} {l2 : Int32} {l3 : Int32}
    (h : (l1 ≤ l3 → (Fin (some (vI l2)) mi ml rv mi' ml')) ∧ (¬ l1 ≤ l3 → (((mi 4 4) ≤ l3 → (Fin (some (vI l2)) mi ml rv mi' ml')) ∧ (¬ (mi 4 4) ≤ l3 → (vp_in l3 800 ∧ (Go m_rd_wholeOf 7 [some (vR 12 0 4), some (vI l1), some (vI (((l2 * (nI 10)) + (mi 3 l3.toNatClampNeg)) - (nI 48))), some (vI (l3 + nI 1))] [] rv c (MRc nb db (some (0, 800, 3)) rs) mi ml mi' ml')))))) :
    Go m_rd_wholeOf 7 [some (vR 12 0 4), some (vI l1), some (vI l2), some (vI l3)] [] rv c (MRc nb db (some (0, 800, 3)) rs) mi ml mi' ml' := by
  intro Q hQ
  refine at_wq inlT 400 rfl ?_
  refine ⟨fun g => ?_, fun g => ?_⟩
  · have h := h.1 (g)
    exact h.use hQ
  · have h := h.2 (g)
    refine ⟨fun g => ?_, fun g => ?_⟩
    · have h := h.1 (g)
      exact h.use hQ
    · have h := h.2 (g)
      refine ⟨h.1, ?_⟩
      have h := h.2
      exact h Q hQ
theorem g_rd_isWord_0 {nb db : Nat} {rs : RX} {c : Nat} {mi mi' : MI} {ml ml' : ML} {rv : Option AV} {w : Nat}
    (h : (¬ (mi 4 5) = (nI 1) → (Fin (some (vI (nI 0))) mi ml rv mi' ml')) ∧ ((mi 4 5) = (nI 1) → ((((mi 4 7) - (mi 4 6)) = ((nI (strN.getD w 0)) >>> ((nI 0) &&& 31)) → (Go m_rd_isWord 28 [some (vR 12 0 4), some (vR 100 0 w), some (vI (nI 0))] [] rv c (MRc nb db (some (0, 800, 3)) rs) mi ml mi' ml')) ∧ (¬ ((mi 4 7) - (mi 4 6)) = ((nI (strN.getD w 0)) >>> ((nI 0) &&& 31)) → (Fin (some (vI (nI 0))) mi ml rv mi' ml'))))) :
    Ret m_rd_isWord [(vR 12 0 4), (vR 100 0 w)] rv c (MRc nb db (some (0, 800, 3)) rs) mi ml mi' ml' := by
  intro Q hQ
  refine ok_wq inlT 400 rfl rfl ?_
  refine ⟨fun g => ?_, fun g => ?_⟩
  · have h := h.1 (g)
    refine ⟨Or.inl rfl, ?_⟩
    exact h.use hQ
  · have h := h.2 (g)
    refine ⟨fun g => absurd g (by decide), fun _ => ?_⟩
    refine ⟨rfl, ?_⟩
    refine ⟨fun g => ?_, fun g => ?_⟩
    · have h := h.1 (g)
      exact h Q hQ
    · have h := h.2 (g)
      refine ⟨Or.inl rfl, ?_⟩
      exact h.use hQ
theorem g_rd_isWord_28 {nb db : Nat} {rs : RX} {c : Nat} {mi mi' : MI} {ml ml' : ML} {rv : Option AV} {w : Nat} {l2 : Int32}
    (h : (((nI (strN.getD w 0)) >>> ((nI 0) &&& 31)) ≤ l2 → (Fin (some (vI (nI 1))) mi ml rv mi' ml')) ∧ (¬ ((nI (strN.getD w 0)) >>> ((nI 0) &&& 31)) ≤ l2 → (((mi 4 4) ≤ ((mi 4 6) + l2) → (Fin (some (vI (nI 1))) mi ml rv mi' ml')) ∧ (¬ (mi 4 4) ≤ ((mi 4 6) + l2) → (vp_in ((mi 4 6) + l2) 800 ∧ ((l2 < 0 → (False)) ∧ (¬ l2 < 0 → ((l2 < (nI (strN.getD w 0)) → (vp_in l2 (strN.getD w 0) ∧ (((mi 3 ((mi 4 6) + l2).toNatClampNeg) = (((((strB.getD w []).getD l2.toNatClampNeg 0) &&& (nI 255)).toUInt32 % 65536).toInt32) → (Go m_rd_isWord 28 [some (vR 12 0 4), some (vR 100 0 w), some (vI (l2 + nI 1))] [] rv c (MRc nb db (some (0, 800, 3)) rs) mi ml mi' ml')) ∧ (¬ (mi 3 ((mi 4 6) + l2).toNatClampNeg) = (((((strB.getD w []).getD l2.toNatClampNeg 0) &&& (nI 255)).toUInt32 % 65536).toInt32) → (Fin (some (vI (nI 0))) mi ml rv mi' ml'))))) ∧ (¬ l2 < (nI (strN.getD w 0)) → (False)))))))))) :
    Go m_rd_isWord 28 [some (vR 12 0 4), some (vR 100 0 w), some (vI l2)] [] rv c (MRc nb db (some (0, 800, 3)) rs) mi ml mi' ml' := by
  intro Q hQ
  refine at_wq inlT 400 rfl ?_
  refine ⟨fun g => absurd g (by decide), fun _ => ?_⟩
  refine ⟨rfl, ?_⟩
  refine ⟨fun g => ?_, fun g => ?_⟩
  · have h := h.1 (g)
    refine ⟨Or.inr rfl, ?_⟩
    exact h.use hQ
  · have h := h.2 (g)
    refine ⟨fun g => ?_, fun g => ?_⟩
    · have h := h.1 (g)
      refine ⟨Or.inr rfl, ?_⟩
      exact h.use hQ
    · have h := h.2 (g)
      refine ⟨h.1, ?_⟩
      have h := h.2
      refine ⟨fun g => absurd g (by decide), fun _ => ?_⟩
      refine ⟨fun g => absurd g (by decide), fun _ => ?_⟩
      refine ⟨Or.inr rfl, ?_⟩
      refine ⟨fun g => absurd g (by decide), fun _ => ?_⟩
      refine ⟨fun g => ?_, fun g => ?_⟩
      · have h := h.1 (g)
        exact h.elim
      · have h := h.2 (g)
        refine ⟨fun g => ?_, fun g => ?_⟩
        · have h := h.1 (g)
          refine ⟨h.1, ?_⟩
          have h := h.2
          refine ⟨pk_nc _, ?_⟩
          refine ⟨pk_nc _, ?_⟩
          refine ⟨fun g => ?_, fun g => ?_⟩
          · have h := h.1 (g)
            exact h Q hQ
          · have h := h.2 (g)
            refine ⟨Or.inl rfl, ?_⟩
            exact h.use hQ
        · have h := h.2 (g)
          exact h.elim
theorem g_rd_takeWord_0 {nb db : Nat} {rs : RX} {c : Nat} {mi mi' : MI} {ml ml' : ML} {rv : Option AV} {w : Nat}
    (h : ∃ (r1 : Int32) (mi1 : MI) (ml1 : ML), Ret m_rd_isWord [(vR 12 0 4), (vR 100 0 w)] (some (vI r1)) c (MRc nb db (some (0, 800, 3)) rs) mi ml mi1 ml1 ∧ ((¬ r1 = 0 → (∃ (mi2 : MI) (ml2 : ML), Ret m_rd_next [(vR 12 0 4)] none c (MRc nb db (some (0, 800, 3)) rs) mi1 ml1 mi2 ml2 ∧ (Fin (some (vI (nI 1))) mi2 ml2 rv mi' ml'))) ∧ (r1 = 0 → (Fin (some (vI (nI 0))) (u2 (u2 mi1 4 0 (nI 1)) 4 1 (mi1 4 6)) ml1 rv mi' ml')))) :
    Ret m_rd_takeWord [(vR 12 0 4), (vR 100 0 w)] rv c (MRc nb db (some (0, 800, 3)) rs) mi ml mi' ml' := by
  intro Q hQ
  refine ok_wq inlT 400 rfl rfl ?_
  obtain ⟨r1, mi1, ml1, hR, h⟩ := h
  refine ⟨0, 0, Nat.zero_le _, Nat.zero_le _, hR _ ?_⟩
  refine ⟨fun g => ?_, fun g => ?_⟩
  · have h := h.1 (g)
    obtain ⟨mi2, ml2, hR, h⟩ := h
    refine ⟨0, 0, Nat.zero_le _, Nat.zero_le _, hR _ ?_⟩
    refine ⟨Or.inr rfl, ?_⟩
    exact h.use hQ
  · have h := h.2 (g)
    refine ⟨Or.inl rfl, ?_⟩
    refine ⟨Or.inl rfl, ?_⟩
    exact h.use hQ
theorem g_rd_takeWhole_0 {nb db : Nat} {rs : RX} {c : Nat} {mi mi' : MI} {ml ml' : ML} {rv : Option AV} {a0 : Int32} {a1 : Int32}
    (h : ((mi 4 5) = (nI 2) → (((mi 4 8) < a0 → (Fin (some (vI (nI 0))) (u2 (u2 mi 4 0 (nI 2)) 4 1 (mi 4 6)) ml rv mi' ml')) ∧ (¬ (mi 4 8) < a0 → (((mi 4 8) ≤ a1 → (∃ (mi1 : MI) (ml1 : ML), Ret m_rd_next [(vR 12 0 4)] none c (MRc nb db (some (0, 800, 3)) rs) (u2 mi 4 9 (mi 4 8)) ml mi1 ml1 ∧ (Fin (some (vI (nI 1))) mi1 ml1 rv mi' ml'))) ∧ (¬ (mi 4 8) ≤ a1 → (Fin (some (vI (nI 0))) (u2 (u2 mi 4 0 (nI 2)) 4 1 (mi 4 6)) ml rv mi' ml')))))) ∧ (¬ (mi 4 5) = (nI 2) → (Fin (some (vI (nI 0))) (u2 (u2 mi 4 0 (nI 1)) 4 1 (mi 4 6)) ml rv mi' ml'))) :
    Ret m_rd_takeWhole [(vR 12 0 4), (vI a0), (vI a1)] rv c (MRc nb db (some (0, 800, 3)) rs) mi ml mi' ml' := by
  intro Q hQ
  refine ok_wq inlT 400 rfl rfl ?_
  refine ⟨fun g => ?_, fun g => ?_⟩
  · have h := h.1 (g)
    refine ⟨fun g => ?_, fun g => ?_⟩
    · have h := h.1 (g)
      refine ⟨Or.inl rfl, ?_⟩
      refine ⟨Or.inl rfl, ?_⟩
      exact h.use hQ
    · have h := h.2 (g)
      refine ⟨fun g => ?_, fun g => ?_⟩
      · have h := h.1 (g)
        obtain ⟨mi1, ml1, hR, h⟩ := h
        refine ⟨0, 0, Nat.zero_le _, Nat.zero_le _, hR _ ?_⟩
        refine ⟨Or.inr rfl, ?_⟩
        exact h.use hQ
      · have h := h.2 (g)
        refine ⟨Or.inl rfl, ?_⟩
        refine ⟨Or.inl rfl, ?_⟩
        exact h.use hQ
  · have h := h.2 (g)
    refine ⟨Or.inl rfl, ?_⟩
    refine ⟨Or.inl rfl, ?_⟩
    exact h.use hQ
theorem g_rd_takeNew_0 {nb db : Nat} {rs : RX} {c : Nat} {mi mi' : MI} {ml ml' : ML} {rv : Option AV} {a0 : Int32} (hb : nb = 43 ∧ db = 5 ∨ nb = 5 ∧ db = 43)
    (h : (¬ (mi 4 5) = (nI 2) → (∃ (r1 : Int32) (mi1 : MI) (ml1 : ML), Ret m_rd_takeWhole [(vR 12 0 4), (vI (nI 0)), (vI ((mi db 0) - (nI 1)))] (some (vI r1)) c (MRc nb db (some (0, 800, 3)) rs) mi ml mi1 ml1 ∧ ((r1 = 0 ∨ r1 = 1) ∧ (Fin (some (vI r1)) mi1 ml1 rv mi' ml')))) ∧ ((mi 4 5) = (nI 2) → (((mi 4 8) < 0 → (∃ (r2 : Int32) (mi2 : MI) (ml2 : ML), Ret m_rd_takeWhole [(vR 12 0 4), (vI (nI 0)), (vI ((mi db 0) - (nI 1)))] (some (vI r2)) c (MRc nb db (some (0, 800, 3)) rs) mi ml mi2 ml2 ∧ ((r2 = 0 ∨ r2 = 1) ∧ (Fin (some (vI r2)) mi2 ml2 rv mi' ml')))) ∧ (¬ (mi 4 8) < 0 → (((mi db 0) ≤ (mi 4 8) → (∃ (r3 : Int32) (mi3 : MI) (ml3 : ML), Ret m_rd_takeWhole [(vR 12 0 4), (vI (nI 0)), (vI ((mi db 0) - (nI 1)))] (some (vI r3)) c (MRc nb db (some (0, 800, 3)) rs) mi ml mi3 ml3 ∧ ((r3 = 0 ∨ r3 = 1) ∧ (Fin (some (vI r3)) mi3 ml3 rv mi' ml')))) ∧ (¬ (mi db 0) ≤ (mi 4 8) → ((¬ ((a0 >>> ((mi 4 8) &&& 31)) &&& (nI 1)) = (nI 1) → (∃ (r4 : Int32) (mi4 : MI) (ml4 : ML), Ret m_rd_takeWhole [(vR 12 0 4), (vI (nI 0)), (vI ((mi db 0) - (nI 1)))] (some (vI r4)) c (MRc nb db (some (0, 800, 3)) rs) mi ml mi4 ml4 ∧ ((r4 = 0 ∨ r4 = 1) ∧ (Fin (some (vI r4)) mi4 ml4 rv mi' ml')))) ∧ (((a0 >>> ((mi 4 8) &&& 31)) &&& (nI 1)) = (nI 1) → (Fin (some (vI (nI 0))) (u2 (u2 mi 4 0 (nI 3)) 4 1 (mi 4 6)) ml rv mi' ml'))))))))) :
    Ret m_rd_takeNew [(vR 12 0 4), (vI a0)] rv c (MRc nb db (some (0, 800, 3)) rs) mi ml mi' ml' := by
  rcases hb with ⟨rfl, rfl⟩ | ⟨rfl, rfl⟩
  all_goals
    intro Q hQ
    refine ok_wq inlT 400 rfl rfl ?_
    refine ⟨fun g => ?_, fun g => ?_⟩
    · have h := h.1 (g)
      obtain ⟨r1, mi1, ml1, hR, h⟩ := h
      refine ⟨0, 0, Nat.zero_le _, Nat.zero_le _, hR _ ?_⟩
      refine ⟨h.1, ?_⟩
      have h := h.2
      exact h.use hQ
    · have h := h.2 (g)
      refine ⟨fun g => ?_, fun g => ?_⟩
      · have h := h.1 (g)
        refine ⟨Or.inl rfl, ?_⟩
        refine ⟨fun _ => ?_, fun g => absurd g (by decide)⟩
        obtain ⟨r2, mi2, ml2, hR, h⟩ := h
        refine ⟨0, 0, Nat.zero_le _, Nat.zero_le _, hR _ ?_⟩
        refine ⟨h.1, ?_⟩
        have h := h.2
        exact h.use hQ
      · have h := h.2 (g)
        refine ⟨fun g => ?_, fun g => ?_⟩
        · have h := h.1 (g)
          refine ⟨Or.inl rfl, ?_⟩
          refine ⟨fun _ => ?_, fun g => absurd g (by decide)⟩
          obtain ⟨r3, mi3, ml3, hR, h⟩ := h
          refine ⟨0, 0, Nat.zero_le _, Nat.zero_le _, hR _ ?_⟩
          refine ⟨h.1, ?_⟩
          have h := h.2
          exact h.use hQ
        · have h := h.2 (g)
          refine ⟨Or.inr rfl, ?_⟩
          refine ⟨fun g => absurd g (by decide), fun _ => ?_⟩
          refine ⟨fun g => ?_, fun g => ?_⟩
          · have h := h.1 (g)
            obtain ⟨r4, mi4, ml4, hR, h⟩ := h
            refine ⟨0, 0, Nat.zero_le _, Nat.zero_le _, hR _ ?_⟩
            refine ⟨h.1, ?_⟩
            have h := h.2
            exact h.use hQ
          · have h := h.2 (g)
            refine ⟨Or.inl rfl, ?_⟩
            refine ⟨Or.inl rfl, ?_⟩
            exact h.use hQ
theorem g_rd_takeLine_0 {nb db : Nat} {rs : RX} {c : Nat} {mi mi' : MI} {ml ml' : ML} {rv : Option AV}  (hb : nb = 43 ∧ db = 5 ∨ nb = 5 ∧ db = 43)
    (h : ∃ (r1 : Int32) (mi1 : MI) (ml1 : ML), Ret m_rd_isWord [(vR 12 0 4), (vR 100 0 1)] (some (vI r1)) c (MRc nb db (some (0, 800, 3)) rs) mi ml mi1 ml1 ∧ ((r1 = 0 → (∃ (r2 : Int32) (mi2 : MI) (ml2 : ML), Ret m_rd_isWord [(vR 12 0 4), (vR 100 0 2)] (some (vI r2)) c (MRc nb db (some (0, 800, 3)) rs) mi1 ml1 mi2 ml2 ∧ ((¬ r2 = 0 → ((¬ (mi2 db 0) = 0 → (∃ (r3 : Int32) (mi3 : MI) (ml3 : ML), Ret m_rd_isWord [(vR 12 0 4), (vR 100 0 2)] (some (vI r3)) c (MRc nb db (some (0, 800, 3)) rs) mi2 ml2 mi3 ml3 ∧ ((r3 = 0 → (∃ (r4 : Int32) (mi4 : MI) (ml4 : ML), Ret m_rd_isWord [(vR 12 0 4), (vR 100 0 3)] (some (vI r4)) c (MRc nb db (some (0, 800, 3)) rs) mi3 ml3 mi4 ml4 ∧ ((r4 = 0 → (∃ (r5 : Int32) (mi5 : MI) (ml5 : ML), Ret m_rd_isWord [(vR 12 0 4), (vR 100 0 4)] (some (vI r5)) c (MRc nb db (some (0, 800, 3)) rs) mi4 ml4 mi5 ml5 ∧ ((r5 = 0 → (∃ (r6 : Int32) (mi6 : MI) (ml6 : ML), Ret m_rd_isWord [(vR 12 0 4), (vR 100 0 5)] (some (vI r6)) c (MRc nb db (some (0, 800, 3)) rs) mi5 ml5 mi6 ml6 ∧ ((r6 = 0 → (∃ (r7 : Int32) (mi7 : MI) (ml7 : ML), Ret m_rd_takeMask [(vR 12 0 4)] (some (vI r7)) c (MRc nb db (some (0, 800, 3)) rs) mi6 ml6 mi7 ml7 ∧ ((r7 = 0 ∨ r7 = 1) ∧ (Fin (some (vI r7)) mi7 ml7 rv mi' ml')))) ∧ (¬ r6 = 0 → (∃ (r8 : Int32) (mi8 : MI) (ml8 : ML), Ret m_rd_takeLost [(vR 12 0 4)] (some (vI r8)) c (MRc nb db (some (0, 800, 3)) rs) mi6 ml6 mi8 ml8 ∧ ((r8 = 0 ∨ r8 = 1) ∧ (Fin (some (vI r8)) mi8 ml8 rv mi' ml'))))))) ∧ (¬ r5 = 0 → (∃ (r9 : Int32) (mi9 : MI) (ml9 : ML), Ret m_rd_takeNoise [(vR 12 0 4)] (some (vI r9)) c (MRc nb db (some (0, 800, 3)) rs) mi5 ml5 mi9 ml9 ∧ ((r9 = 0 ∨ r9 = 1) ∧ (Fin (some (vI r9)) mi9 ml9 rv mi' ml'))))))) ∧ (¬ r4 = 0 → (∃ (r10 : Int32) (mi10 : MI) (ml10 : ML), Ret m_rd_takeStuck [(vR 12 0 4)] (some (vI r10)) c (MRc nb db (some (0, 800, 3)) rs) mi4 ml4 mi10 ml10 ∧ ((r10 = 0 ∨ r10 = 1) ∧ (Fin (some (vI r10)) mi10 ml10 rv mi' ml'))))))) ∧ (¬ r3 = 0 → (∃ (r11 : Int32) (mi11 : MI) (ml11 : ML), Ret m_rd_takeLight [(vR 12 0 4)] (some (vI r11)) c (MRc nb db (some (0, 800, 3)) rs) mi3 ml3 mi11 ml11 ∧ ((r11 = 0 ∨ r11 = 1) ∧ (Fin (some (vI r11)) mi11 ml11 rv mi' ml'))))))) ∧ ((mi2 db 0) = 0 → (Fin (some (vI (nI 0))) (u2 (u2 mi2 4 0 (nI 5)) 4 1 (mi2 4 6)) ml2 rv mi' ml')))) ∧ (r2 = 0 → (∃ (r12 : Int32) (mi12 : MI) (ml12 : ML), Ret m_rd_isWord [(vR 12 0 4), (vR 100 0 3)] (some (vI r12)) c (MRc nb db (some (0, 800, 3)) rs) mi2 ml2 mi12 ml12 ∧ ((¬ r12 = 0 → ((¬ (mi12 db 0) = 0 → (∃ (r13 : Int32) (mi13 : MI) (ml13 : ML), Ret m_rd_isWord [(vR 12 0 4), (vR 100 0 2)] (some (vI r13)) c (MRc nb db (some (0, 800, 3)) rs) mi12 ml12 mi13 ml13 ∧ ((r13 = 0 → (∃ (r14 : Int32) (mi14 : MI) (ml14 : ML), Ret m_rd_isWord [(vR 12 0 4), (vR 100 0 3)] (some (vI r14)) c (MRc nb db (some (0, 800, 3)) rs) mi13 ml13 mi14 ml14 ∧ ((r14 = 0 → (∃ (r15 : Int32) (mi15 : MI) (ml15 : ML), Ret m_rd_isWord [(vR 12 0 4), (vR 100 0 4)] (some (vI r15)) c (MRc nb db (some (0, 800, 3)) rs) mi14 ml14 mi15 ml15 ∧ ((r15 = 0 → (∃ (r16 : Int32) (mi16 : MI) (ml16 : ML), Ret m_rd_isWord [(vR 12 0 4), (vR 100 0 5)] (some (vI r16)) c (MRc nb db (some (0, 800, 3)) rs) mi15 ml15 mi16 ml16 ∧ ((r16 = 0 → (∃ (r17 : Int32) (mi17 : MI) (ml17 : ML), Ret m_rd_takeMask [(vR 12 0 4)] (some (vI r17)) c (MRc nb db (some (0, 800, 3)) rs) mi16 ml16 mi17 ml17 ∧ ((r17 = 0 ∨ r17 = 1) ∧ (Fin (some (vI r17)) mi17 ml17 rv mi' ml')))) ∧ (¬ r16 = 0 → (∃ (r18 : Int32) (mi18 : MI) (ml18 : ML), Ret m_rd_takeLost [(vR 12 0 4)] (some (vI r18)) c (MRc nb db (some (0, 800, 3)) rs) mi16 ml16 mi18 ml18 ∧ ((r18 = 0 ∨ r18 = 1) ∧ (Fin (some (vI r18)) mi18 ml18 rv mi' ml'))))))) ∧ (¬ r15 = 0 → (∃ (r19 : Int32) (mi19 : MI) (ml19 : ML), Ret m_rd_takeNoise [(vR 12 0 4)] (some (vI r19)) c (MRc nb db (some (0, 800, 3)) rs) mi15 ml15 mi19 ml19 ∧ ((r19 = 0 ∨ r19 = 1) ∧ (Fin (some (vI r19)) mi19 ml19 rv mi' ml'))))))) ∧ (¬ r14 = 0 → (∃ (r20 : Int32) (mi20 : MI) (ml20 : ML), Ret m_rd_takeStuck [(vR 12 0 4)] (some (vI r20)) c (MRc nb db (some (0, 800, 3)) rs) mi14 ml14 mi20 ml20 ∧ ((r20 = 0 ∨ r20 = 1) ∧ (Fin (some (vI r20)) mi20 ml20 rv mi' ml'))))))) ∧ (¬ r13 = 0 → (∃ (r21 : Int32) (mi21 : MI) (ml21 : ML), Ret m_rd_takeLight [(vR 12 0 4)] (some (vI r21)) c (MRc nb db (some (0, 800, 3)) rs) mi13 ml13 mi21 ml21 ∧ ((r21 = 0 ∨ r21 = 1) ∧ (Fin (some (vI r21)) mi21 ml21 rv mi' ml'))))))) ∧ ((mi12 db 0) = 0 → (Fin (some (vI (nI 0))) (u2 (u2 mi12 4 0 (nI 5)) 4 1 (mi12 4 6)) ml12 rv mi' ml')))) ∧ (r12 = 0 → (∃ (r22 : Int32) (mi22 : MI) (ml22 : ML), Ret m_rd_isWord [(vR 12 0 4), (vR 100 0 4)] (some (vI r22)) c (MRc nb db (some (0, 800, 3)) rs) mi12 ml12 mi22 ml22 ∧ ((¬ r22 = 0 → ((¬ (mi22 db 0) = 0 → (∃ (r23 : Int32) (mi23 : MI) (ml23 : ML), Ret m_rd_isWord [(vR 12 0 4), (vR 100 0 2)] (some (vI r23)) c (MRc nb db (some (0, 800, 3)) rs) mi22 ml22 mi23 ml23 ∧ ((r23 = 0 → (∃ (r24 : Int32) (mi24 : MI) (ml24 : ML), Ret m_rd_isWord [(vR 12 0 4), (vR 100 0 3)] (some (vI r24)) c (MRc nb db (some (0, 800, 3)) rs) mi23 ml23 mi24 ml24 ∧ ((r24 = 0 → (∃ (r25 : Int32) (mi25 : MI) (ml25 : ML), Ret m_rd_isWord [(vR 12 0 4), (vR 100 0 4)] (some (vI r25)) c (MRc nb db (some (0, 800, 3)) rs) mi24 ml24 mi25 ml25 ∧ ((r25 = 0 → (∃ (r26 : Int32) (mi26 : MI) (ml26 : ML), Ret m_rd_isWord [(vR 12 0 4), (vR 100 0 5)] (some (vI r26)) c (MRc nb db (some (0, 800, 3)) rs) mi25 ml25 mi26 ml26 ∧ ((r26 = 0 → (∃ (r27 : Int32) (mi27 : MI) (ml27 : ML), Ret m_rd_takeMask [(vR 12 0 4)] (some (vI r27)) c (MRc nb db (some (0, 800, 3)) rs) mi26 ml26 mi27 ml27 ∧ ((r27 = 0 ∨ r27 = 1) ∧ (Fin (some (vI r27)) mi27 ml27 rv mi' ml')))) ∧ (¬ r26 = 0 → (∃ (r28 : Int32) (mi28 : MI) (ml28 : ML), Ret m_rd_takeLost [(vR 12 0 4)] (some (vI r28)) c (MRc nb db (some (0, 800, 3)) rs) mi26 ml26 mi28 ml28 ∧ ((r28 = 0 ∨ r28 = 1) ∧ (Fin (some (vI r28)) mi28 ml28 rv mi' ml'))))))) ∧ (¬ r25 = 0 → (∃ (r29 : Int32) (mi29 : MI) (ml29 : ML), Ret m_rd_takeNoise [(vR 12 0 4)] (some (vI r29)) c (MRc nb db (some (0, 800, 3)) rs) mi25 ml25 mi29 ml29 ∧ ((r29 = 0 ∨ r29 = 1) ∧ (Fin (some (vI r29)) mi29 ml29 rv mi' ml'))))))) ∧ (¬ r24 = 0 → (∃ (r30 : Int32) (mi30 : MI) (ml30 : ML), Ret m_rd_takeStuck [(vR 12 0 4)] (some (vI r30)) c (MRc nb db (some (0, 800, 3)) rs) mi24 ml24 mi30 ml30 ∧ ((r30 = 0 ∨ r30 = 1) ∧ (Fin (some (vI r30)) mi30 ml30 rv mi' ml'))))))) ∧ (¬ r23 = 0 → (∃ (r31 : Int32) (mi31 : MI) (ml31 : ML), Ret m_rd_takeLight [(vR 12 0 4)] (some (vI r31)) c (MRc nb db (some (0, 800, 3)) rs) mi23 ml23 mi31 ml31 ∧ ((r31 = 0 ∨ r31 = 1) ∧ (Fin (some (vI r31)) mi31 ml31 rv mi' ml'))))))) ∧ ((mi22 db 0) = 0 → (Fin (some (vI (nI 0))) (u2 (u2 mi22 4 0 (nI 5)) 4 1 (mi22 4 6)) ml22 rv mi' ml')))) ∧ (r22 = 0 → (∃ (r32 : Int32) (mi32 : MI) (ml32 : ML), Ret m_rd_isWord [(vR 12 0 4), (vR 100 0 5)] (some (vI r32)) c (MRc nb db (some (0, 800, 3)) rs) mi22 ml22 mi32 ml32 ∧ ((¬ r32 = 0 → ((¬ (mi32 db 0) = 0 → (∃ (r33 : Int32) (mi33 : MI) (ml33 : ML), Ret m_rd_isWord [(vR 12 0 4), (vR 100 0 2)] (some (vI r33)) c (MRc nb db (some (0, 800, 3)) rs) mi32 ml32 mi33 ml33 ∧ ((r33 = 0 → (∃ (r34 : Int32) (mi34 : MI) (ml34 : ML), Ret m_rd_isWord [(vR 12 0 4), (vR 100 0 3)] (some (vI r34)) c (MRc nb db (some (0, 800, 3)) rs) mi33 ml33 mi34 ml34 ∧ ((r34 = 0 → (∃ (r35 : Int32) (mi35 : MI) (ml35 : ML), Ret m_rd_isWord [(vR 12 0 4), (vR 100 0 4)] (some (vI r35)) c (MRc nb db (some (0, 800, 3)) rs) mi34 ml34 mi35 ml35 ∧ ((r35 = 0 → (∃ (r36 : Int32) (mi36 : MI) (ml36 : ML), Ret m_rd_isWord [(vR 12 0 4), (vR 100 0 5)] (some (vI r36)) c (MRc nb db (some (0, 800, 3)) rs) mi35 ml35 mi36 ml36 ∧ ((r36 = 0 → (∃ (r37 : Int32) (mi37 : MI) (ml37 : ML), Ret m_rd_takeMask [(vR 12 0 4)] (some (vI r37)) c (MRc nb db (some (0, 800, 3)) rs) mi36 ml36 mi37 ml37 ∧ ((r37 = 0 ∨ r37 = 1) ∧ (Fin (some (vI r37)) mi37 ml37 rv mi' ml')))) ∧ (¬ r36 = 0 → (∃ (r38 : Int32) (mi38 : MI) (ml38 : ML), Ret m_rd_takeLost [(vR 12 0 4)] (some (vI r38)) c (MRc nb db (some (0, 800, 3)) rs) mi36 ml36 mi38 ml38 ∧ ((r38 = 0 ∨ r38 = 1) ∧ (Fin (some (vI r38)) mi38 ml38 rv mi' ml'))))))) ∧ (¬ r35 = 0 → (∃ (r39 : Int32) (mi39 : MI) (ml39 : ML), Ret m_rd_takeNoise [(vR 12 0 4)] (some (vI r39)) c (MRc nb db (some (0, 800, 3)) rs) mi35 ml35 mi39 ml39 ∧ ((r39 = 0 ∨ r39 = 1) ∧ (Fin (some (vI r39)) mi39 ml39 rv mi' ml'))))))) ∧ (¬ r34 = 0 → (∃ (r40 : Int32) (mi40 : MI) (ml40 : ML), Ret m_rd_takeStuck [(vR 12 0 4)] (some (vI r40)) c (MRc nb db (some (0, 800, 3)) rs) mi34 ml34 mi40 ml40 ∧ ((r40 = 0 ∨ r40 = 1) ∧ (Fin (some (vI r40)) mi40 ml40 rv mi' ml'))))))) ∧ (¬ r33 = 0 → (∃ (r41 : Int32) (mi41 : MI) (ml41 : ML), Ret m_rd_takeLight [(vR 12 0 4)] (some (vI r41)) c (MRc nb db (some (0, 800, 3)) rs) mi33 ml33 mi41 ml41 ∧ ((r41 = 0 ∨ r41 = 1) ∧ (Fin (some (vI r41)) mi41 ml41 rv mi' ml'))))))) ∧ ((mi32 db 0) = 0 → (Fin (some (vI (nI 0))) (u2 (u2 mi32 4 0 (nI 5)) 4 1 (mi32 4 6)) ml32 rv mi' ml')))) ∧ (r32 = 0 → (∃ (r42 : Int32) (mi42 : MI) (ml42 : ML), Ret m_rd_isWord [(vR 12 0 4), (vR 100 0 6)] (some (vI r42)) c (MRc nb db (some (0, 800, 3)) rs) mi32 ml32 mi42 ml42 ∧ ((r42 = 0 → (Fin (some (vI (nI 0))) (u2 (u2 mi42 4 0 (nI 1)) 4 1 (mi42 4 6)) ml42 rv mi' ml')) ∧ (¬ r42 = 0 → ((¬ (mi42 db 0) = 0 → (∃ (r43 : Int32) (mi43 : MI) (ml43 : ML), Ret m_rd_isWord [(vR 12 0 4), (vR 100 0 2)] (some (vI r43)) c (MRc nb db (some (0, 800, 3)) rs) mi42 ml42 mi43 ml43 ∧ ((r43 = 0 → (∃ (r44 : Int32) (mi44 : MI) (ml44 : ML), Ret m_rd_isWord [(vR 12 0 4), (vR 100 0 3)] (some (vI r44)) c (MRc nb db (some (0, 800, 3)) rs) mi43 ml43 mi44 ml44 ∧ ((r44 = 0 → (∃ (r45 : Int32) (mi45 : MI) (ml45 : ML), Ret m_rd_isWord [(vR 12 0 4), (vR 100 0 4)] (some (vI r45)) c (MRc nb db (some (0, 800, 3)) rs) mi44 ml44 mi45 ml45 ∧ ((r45 = 0 → (∃ (r46 : Int32) (mi46 : MI) (ml46 : ML), Ret m_rd_isWord [(vR 12 0 4), (vR 100 0 5)] (some (vI r46)) c (MRc nb db (some (0, 800, 3)) rs) mi45 ml45 mi46 ml46 ∧ ((r46 = 0 → (∃ (r47 : Int32) (mi47 : MI) (ml47 : ML), Ret m_rd_takeMask [(vR 12 0 4)] (some (vI r47)) c (MRc nb db (some (0, 800, 3)) rs) mi46 ml46 mi47 ml47 ∧ ((r47 = 0 ∨ r47 = 1) ∧ (Fin (some (vI r47)) mi47 ml47 rv mi' ml')))) ∧ (¬ r46 = 0 → (∃ (r48 : Int32) (mi48 : MI) (ml48 : ML), Ret m_rd_takeLost [(vR 12 0 4)] (some (vI r48)) c (MRc nb db (some (0, 800, 3)) rs) mi46 ml46 mi48 ml48 ∧ ((r48 = 0 ∨ r48 = 1) ∧ (Fin (some (vI r48)) mi48 ml48 rv mi' ml'))))))) ∧ (¬ r45 = 0 → (∃ (r49 : Int32) (mi49 : MI) (ml49 : ML), Ret m_rd_takeNoise [(vR 12 0 4)] (some (vI r49)) c (MRc nb db (some (0, 800, 3)) rs) mi45 ml45 mi49 ml49 ∧ ((r49 = 0 ∨ r49 = 1) ∧ (Fin (some (vI r49)) mi49 ml49 rv mi' ml'))))))) ∧ (¬ r44 = 0 → (∃ (r50 : Int32) (mi50 : MI) (ml50 : ML), Ret m_rd_takeStuck [(vR 12 0 4)] (some (vI r50)) c (MRc nb db (some (0, 800, 3)) rs) mi44 ml44 mi50 ml50 ∧ ((r50 = 0 ∨ r50 = 1) ∧ (Fin (some (vI r50)) mi50 ml50 rv mi' ml'))))))) ∧ (¬ r43 = 0 → (∃ (r51 : Int32) (mi51 : MI) (ml51 : ML), Ret m_rd_takeLight [(vR 12 0 4)] (some (vI r51)) c (MRc nb db (some (0, 800, 3)) rs) mi43 ml43 mi51 ml51 ∧ ((r51 = 0 ∨ r51 = 1) ∧ (Fin (some (vI r51)) mi51 ml51 rv mi' ml'))))))) ∧ ((mi42 db 0) = 0 → (Fin (some (vI (nI 0))) (u2 (u2 mi42 4 0 (nI 5)) 4 1 (mi42 4 6)) ml42 rv mi' ml'))))))))))))))))))) ∧ (¬ r1 = 0 → (((mi1 db 0) ≤ 0 → (∃ (r52 : Int32) (mi52 : MI) (ml52 : ML), Ret m_rd_takeBench [(vR 12 0 4)] (some (vI r52)) c (MRc nb db (some (0, 800, 3)) rs) mi1 ml1 mi52 ml52 ∧ ((r52 = 0 ∨ r52 = 1) ∧ (Fin (some (vI r52)) mi52 ml52 rv mi' ml')))) ∧ (¬ (mi1 db 0) ≤ 0 → (Fin (some (vI (nI 0))) (u2 (u2 mi1 4 0 (nI 3)) 4 1 (mi1 4 6)) ml1 rv mi' ml')))))) :
    Ret m_rd_takeLine [(vR 12 0 4)] rv c (MRc nb db (some (0, 800, 3)) rs) mi ml mi' ml' := by
  rcases hb with ⟨rfl, rfl⟩ | ⟨rfl, rfl⟩
  all_goals
    intro Q hQ
    refine ok_wq inlT 400 rfl rfl ?_
    obtain ⟨r1, mi1, ml1, hR, h⟩ := h
    refine ⟨0, 0, Nat.zero_le _, Nat.zero_le _, hR _ ?_⟩
    refine ⟨fun g => ?_, fun g => ?_⟩
    · have h := h.1 (g)
      obtain ⟨r2, mi2, ml2, hR, h⟩ := h
      refine ⟨0, 0, Nat.zero_le _, Nat.zero_le _, hR _ ?_⟩
      refine ⟨fun g => ?_, fun g => ?_⟩
      · have h := h.1 (g)
        refine ⟨fun _ => ?_, fun g => absurd g (by decide)⟩
        refine ⟨fun g => ?_, fun g => ?_⟩
        · have h := h.1 (g)
          obtain ⟨r3, mi3, ml3, hR, h⟩ := h
          refine ⟨0, 0, Nat.zero_le _, Nat.zero_le _, hR _ ?_⟩
          refine ⟨fun g => ?_, fun g => ?_⟩
          · have h := h.1 (g)
            obtain ⟨r4, mi4, ml4, hR, h⟩ := h
            refine ⟨0, 0, Nat.zero_le _, Nat.zero_le _, hR _ ?_⟩
            refine ⟨fun g => ?_, fun g => ?_⟩
            · have h := h.1 (g)
              obtain ⟨r5, mi5, ml5, hR, h⟩ := h
              refine ⟨0, 0, Nat.zero_le _, Nat.zero_le _, hR _ ?_⟩
              refine ⟨fun g => ?_, fun g => ?_⟩
              · have h := h.1 (g)
                obtain ⟨r6, mi6, ml6, hR, h⟩ := h
                refine ⟨0, 0, Nat.zero_le _, Nat.zero_le _, hR _ ?_⟩
                refine ⟨fun g => ?_, fun g => ?_⟩
                · have h := h.1 (g)
                  obtain ⟨r7, mi7, ml7, hR, h⟩ := h
                  refine ⟨0, 0, Nat.zero_le _, Nat.zero_le _, hR _ ?_⟩
                  refine ⟨h.1, ?_⟩
                  have h := h.2
                  exact h.use hQ
                · have h := h.2 (g)
                  obtain ⟨r8, mi8, ml8, hR, h⟩ := h
                  refine ⟨0, 0, Nat.zero_le _, Nat.zero_le _, hR _ ?_⟩
                  refine ⟨h.1, ?_⟩
                  have h := h.2
                  exact h.use hQ
              · have h := h.2 (g)
                obtain ⟨r9, mi9, ml9, hR, h⟩ := h
                refine ⟨0, 0, Nat.zero_le _, Nat.zero_le _, hR _ ?_⟩
                refine ⟨h.1, ?_⟩
                have h := h.2
                exact h.use hQ
            · have h := h.2 (g)
              obtain ⟨r10, mi10, ml10, hR, h⟩ := h
              refine ⟨0, 0, Nat.zero_le _, Nat.zero_le _, hR _ ?_⟩
              refine ⟨h.1, ?_⟩
              have h := h.2
              exact h.use hQ
          · have h := h.2 (g)
            obtain ⟨r11, mi11, ml11, hR, h⟩ := h
            refine ⟨0, 0, Nat.zero_le _, Nat.zero_le _, hR _ ?_⟩
            refine ⟨h.1, ?_⟩
            have h := h.2
            exact h.use hQ
        · have h := h.2 (g)
          refine ⟨Or.inl rfl, ?_⟩
          refine ⟨Or.inl rfl, ?_⟩
          exact h.use hQ
      · have h := h.2 (g)
        obtain ⟨r12, mi12, ml12, hR, h⟩ := h
        refine ⟨0, 0, Nat.zero_le _, Nat.zero_le _, hR _ ?_⟩
        refine ⟨fun g => ?_, fun g => ?_⟩
        · have h := h.1 (g)
          refine ⟨fun _ => ?_, fun g => absurd g (by decide)⟩
          refine ⟨fun g => ?_, fun g => ?_⟩
          · have h := h.1 (g)
            obtain ⟨r13, mi13, ml13, hR, h⟩ := h
            refine ⟨0, 0, Nat.zero_le _, Nat.zero_le _, hR _ ?_⟩
            refine ⟨fun g => ?_, fun g => ?_⟩
            · have h := h.1 (g)
              obtain ⟨r14, mi14, ml14, hR, h⟩ := h
              refine ⟨0, 0, Nat.zero_le _, Nat.zero_le _, hR _ ?_⟩
              refine ⟨fun g => ?_, fun g => ?_⟩
              · have h := h.1 (g)
                obtain ⟨r15, mi15, ml15, hR, h⟩ := h
                refine ⟨0, 0, Nat.zero_le _, Nat.zero_le _, hR _ ?_⟩
                refine ⟨fun g => ?_, fun g => ?_⟩
                · have h := h.1 (g)
                  obtain ⟨r16, mi16, ml16, hR, h⟩ := h
                  refine ⟨0, 0, Nat.zero_le _, Nat.zero_le _, hR _ ?_⟩
                  refine ⟨fun g => ?_, fun g => ?_⟩
                  · have h := h.1 (g)
                    obtain ⟨r17, mi17, ml17, hR, h⟩ := h
                    refine ⟨0, 0, Nat.zero_le _, Nat.zero_le _, hR _ ?_⟩
                    refine ⟨h.1, ?_⟩
                    have h := h.2
                    exact h.use hQ
                  · have h := h.2 (g)
                    obtain ⟨r18, mi18, ml18, hR, h⟩ := h
                    refine ⟨0, 0, Nat.zero_le _, Nat.zero_le _, hR _ ?_⟩
                    refine ⟨h.1, ?_⟩
                    have h := h.2
                    exact h.use hQ
                · have h := h.2 (g)
                  obtain ⟨r19, mi19, ml19, hR, h⟩ := h
                  refine ⟨0, 0, Nat.zero_le _, Nat.zero_le _, hR _ ?_⟩
                  refine ⟨h.1, ?_⟩
                  have h := h.2
                  exact h.use hQ
              · have h := h.2 (g)
                obtain ⟨r20, mi20, ml20, hR, h⟩ := h
                refine ⟨0, 0, Nat.zero_le _, Nat.zero_le _, hR _ ?_⟩
                refine ⟨h.1, ?_⟩
                have h := h.2
                exact h.use hQ
            · have h := h.2 (g)
              obtain ⟨r21, mi21, ml21, hR, h⟩ := h
              refine ⟨0, 0, Nat.zero_le _, Nat.zero_le _, hR _ ?_⟩
              refine ⟨h.1, ?_⟩
              have h := h.2
              exact h.use hQ
          · have h := h.2 (g)
            refine ⟨Or.inl rfl, ?_⟩
            refine ⟨Or.inl rfl, ?_⟩
            exact h.use hQ
        · have h := h.2 (g)
          obtain ⟨r22, mi22, ml22, hR, h⟩ := h
          refine ⟨0, 0, Nat.zero_le _, Nat.zero_le _, hR _ ?_⟩
          refine ⟨fun g => ?_, fun g => ?_⟩
          · have h := h.1 (g)
            refine ⟨fun _ => ?_, fun g => absurd g (by decide)⟩
            refine ⟨fun g => ?_, fun g => ?_⟩
            · have h := h.1 (g)
              obtain ⟨r23, mi23, ml23, hR, h⟩ := h
              refine ⟨0, 0, Nat.zero_le _, Nat.zero_le _, hR _ ?_⟩
              refine ⟨fun g => ?_, fun g => ?_⟩
              · have h := h.1 (g)
                obtain ⟨r24, mi24, ml24, hR, h⟩ := h
                refine ⟨0, 0, Nat.zero_le _, Nat.zero_le _, hR _ ?_⟩
                refine ⟨fun g => ?_, fun g => ?_⟩
                · have h := h.1 (g)
                  obtain ⟨r25, mi25, ml25, hR, h⟩ := h
                  refine ⟨0, 0, Nat.zero_le _, Nat.zero_le _, hR _ ?_⟩
                  refine ⟨fun g => ?_, fun g => ?_⟩
                  · have h := h.1 (g)
                    obtain ⟨r26, mi26, ml26, hR, h⟩ := h
                    refine ⟨0, 0, Nat.zero_le _, Nat.zero_le _, hR _ ?_⟩
                    refine ⟨fun g => ?_, fun g => ?_⟩
                    · have h := h.1 (g)
                      obtain ⟨r27, mi27, ml27, hR, h⟩ := h
                      refine ⟨0, 0, Nat.zero_le _, Nat.zero_le _, hR _ ?_⟩
                      refine ⟨h.1, ?_⟩
                      have h := h.2
                      exact h.use hQ
                    · have h := h.2 (g)
                      obtain ⟨r28, mi28, ml28, hR, h⟩ := h
                      refine ⟨0, 0, Nat.zero_le _, Nat.zero_le _, hR _ ?_⟩
                      refine ⟨h.1, ?_⟩
                      have h := h.2
                      exact h.use hQ
                  · have h := h.2 (g)
                    obtain ⟨r29, mi29, ml29, hR, h⟩ := h
                    refine ⟨0, 0, Nat.zero_le _, Nat.zero_le _, hR _ ?_⟩
                    refine ⟨h.1, ?_⟩
                    have h := h.2
                    exact h.use hQ
                · have h := h.2 (g)
                  obtain ⟨r30, mi30, ml30, hR, h⟩ := h
                  refine ⟨0, 0, Nat.zero_le _, Nat.zero_le _, hR _ ?_⟩
                  refine ⟨h.1, ?_⟩
                  have h := h.2
                  exact h.use hQ
              · have h := h.2 (g)
                obtain ⟨r31, mi31, ml31, hR, h⟩ := h
                refine ⟨0, 0, Nat.zero_le _, Nat.zero_le _, hR _ ?_⟩
                refine ⟨h.1, ?_⟩
                have h := h.2
                exact h.use hQ
            · have h := h.2 (g)
              refine ⟨Or.inl rfl, ?_⟩
              refine ⟨Or.inl rfl, ?_⟩
              exact h.use hQ
          · have h := h.2 (g)
            obtain ⟨r32, mi32, ml32, hR, h⟩ := h
            refine ⟨0, 0, Nat.zero_le _, Nat.zero_le _, hR _ ?_⟩
            refine ⟨fun g => ?_, fun g => ?_⟩
            · have h := h.1 (g)
              refine ⟨fun _ => ?_, fun g => absurd g (by decide)⟩
              refine ⟨fun g => ?_, fun g => ?_⟩
              · have h := h.1 (g)
                obtain ⟨r33, mi33, ml33, hR, h⟩ := h
                refine ⟨0, 0, Nat.zero_le _, Nat.zero_le _, hR _ ?_⟩
                refine ⟨fun g => ?_, fun g => ?_⟩
                · have h := h.1 (g)
                  obtain ⟨r34, mi34, ml34, hR, h⟩ := h
                  refine ⟨0, 0, Nat.zero_le _, Nat.zero_le _, hR _ ?_⟩
                  refine ⟨fun g => ?_, fun g => ?_⟩
                  · have h := h.1 (g)
                    obtain ⟨r35, mi35, ml35, hR, h⟩ := h
                    refine ⟨0, 0, Nat.zero_le _, Nat.zero_le _, hR _ ?_⟩
                    refine ⟨fun g => ?_, fun g => ?_⟩
                    · have h := h.1 (g)
                      obtain ⟨r36, mi36, ml36, hR, h⟩ := h
                      refine ⟨0, 0, Nat.zero_le _, Nat.zero_le _, hR _ ?_⟩
                      refine ⟨fun g => ?_, fun g => ?_⟩
                      · have h := h.1 (g)
                        obtain ⟨r37, mi37, ml37, hR, h⟩ := h
                        refine ⟨0, 0, Nat.zero_le _, Nat.zero_le _, hR _ ?_⟩
                        refine ⟨h.1, ?_⟩
                        have h := h.2
                        exact h.use hQ
                      · have h := h.2 (g)
                        obtain ⟨r38, mi38, ml38, hR, h⟩ := h
                        refine ⟨0, 0, Nat.zero_le _, Nat.zero_le _, hR _ ?_⟩
                        refine ⟨h.1, ?_⟩
                        have h := h.2
                        exact h.use hQ
                    · have h := h.2 (g)
                      obtain ⟨r39, mi39, ml39, hR, h⟩ := h
                      refine ⟨0, 0, Nat.zero_le _, Nat.zero_le _, hR _ ?_⟩
                      refine ⟨h.1, ?_⟩
                      have h := h.2
                      exact h.use hQ
                  · have h := h.2 (g)
                    obtain ⟨r40, mi40, ml40, hR, h⟩ := h
                    refine ⟨0, 0, Nat.zero_le _, Nat.zero_le _, hR _ ?_⟩
                    refine ⟨h.1, ?_⟩
                    have h := h.2
                    exact h.use hQ
                · have h := h.2 (g)
                  obtain ⟨r41, mi41, ml41, hR, h⟩ := h
                  refine ⟨0, 0, Nat.zero_le _, Nat.zero_le _, hR _ ?_⟩
                  refine ⟨h.1, ?_⟩
                  have h := h.2
                  exact h.use hQ
              · have h := h.2 (g)
                refine ⟨Or.inl rfl, ?_⟩
                refine ⟨Or.inl rfl, ?_⟩
                exact h.use hQ
            · have h := h.2 (g)
              obtain ⟨r42, mi42, ml42, hR, h⟩ := h
              refine ⟨0, 0, Nat.zero_le _, Nat.zero_le _, hR _ ?_⟩
              refine ⟨fun g => ?_, fun g => ?_⟩
              · have h := h.1 (g)
                refine ⟨fun g => absurd g (by decide), fun _ => ?_⟩
                refine ⟨Or.inl rfl, ?_⟩
                refine ⟨Or.inl rfl, ?_⟩
                exact h.use hQ
              · have h := h.2 (g)
                refine ⟨fun _ => ?_, fun g => absurd g (by decide)⟩
                refine ⟨fun g => ?_, fun g => ?_⟩
                · have h := h.1 (g)
                  obtain ⟨r43, mi43, ml43, hR, h⟩ := h
                  refine ⟨0, 0, Nat.zero_le _, Nat.zero_le _, hR _ ?_⟩
                  refine ⟨fun g => ?_, fun g => ?_⟩
                  · have h := h.1 (g)
                    obtain ⟨r44, mi44, ml44, hR, h⟩ := h
                    refine ⟨0, 0, Nat.zero_le _, Nat.zero_le _, hR _ ?_⟩
                    refine ⟨fun g => ?_, fun g => ?_⟩
                    · have h := h.1 (g)
                      obtain ⟨r45, mi45, ml45, hR, h⟩ := h
                      refine ⟨0, 0, Nat.zero_le _, Nat.zero_le _, hR _ ?_⟩
                      refine ⟨fun g => ?_, fun g => ?_⟩
                      · have h := h.1 (g)
                        obtain ⟨r46, mi46, ml46, hR, h⟩ := h
                        refine ⟨0, 0, Nat.zero_le _, Nat.zero_le _, hR _ ?_⟩
                        refine ⟨fun g => ?_, fun g => ?_⟩
                        · have h := h.1 (g)
                          obtain ⟨r47, mi47, ml47, hR, h⟩ := h
                          refine ⟨0, 0, Nat.zero_le _, Nat.zero_le _, hR _ ?_⟩
                          refine ⟨h.1, ?_⟩
                          have h := h.2
                          exact h.use hQ
                        · have h := h.2 (g)
                          obtain ⟨r48, mi48, ml48, hR, h⟩ := h
                          refine ⟨0, 0, Nat.zero_le _, Nat.zero_le _, hR _ ?_⟩
                          refine ⟨h.1, ?_⟩
                          have h := h.2
                          exact h.use hQ
                      · have h := h.2 (g)
                        obtain ⟨r49, mi49, ml49, hR, h⟩ := h
                        refine ⟨0, 0, Nat.zero_le _, Nat.zero_le _, hR _ ?_⟩
                        refine ⟨h.1, ?_⟩
                        have h := h.2
                        exact h.use hQ
                    · have h := h.2 (g)
                      obtain ⟨r50, mi50, ml50, hR, h⟩ := h
                      refine ⟨0, 0, Nat.zero_le _, Nat.zero_le _, hR _ ?_⟩
                      refine ⟨h.1, ?_⟩
                      have h := h.2
                      exact h.use hQ
                  · have h := h.2 (g)
                    obtain ⟨r51, mi51, ml51, hR, h⟩ := h
                    refine ⟨0, 0, Nat.zero_le _, Nat.zero_le _, hR _ ?_⟩
                    refine ⟨h.1, ?_⟩
                    have h := h.2
                    exact h.use hQ
                · have h := h.2 (g)
                  refine ⟨Or.inl rfl, ?_⟩
                  refine ⟨Or.inl rfl, ?_⟩
                  exact h.use hQ
    · have h := h.2 (g)
      refine ⟨fun g => ?_, fun g => ?_⟩
      · have h := h.1 (g)
        obtain ⟨r52, mi52, ml52, hR, h⟩ := h
        refine ⟨0, 0, Nat.zero_le _, Nat.zero_le _, hR _ ?_⟩
        refine ⟨h.1, ?_⟩
        have h := h.2
        exact h.use hQ
      · have h := h.2 (g)
        refine ⟨Or.inl rfl, ?_⟩
        refine ⟨Or.inl rfl, ?_⟩
        exact h.use hQ
theorem g_rd_takeBench_0 {nb db : Nat} {rs : RX} {c : Nat} {mi mi' : MI} {ml ml' : ML} {rv : Option AV}  (hb : nb = 43 ∧ db = 5 ∨ nb = 5 ∧ db = 43)
    (h : ∃ (mi1 : MI) (ml1 : ML), Ret m_rd_next [(vR 12 0 4)] none c (MRc nb db (some (0, 800, 3)) rs) mi ml mi1 ml1 ∧ (∃ (r2 : Int32) (mi2 : MI) (ml2 : ML), Ret m_rd_isWord [(vR 12 0 4), (vR 100 0 7)] (some (vI r2)) c (MRc nb db (some (0, 800, 3)) rs) mi1 ml1 mi2 ml2 ∧ ((¬ r2 = 0 → (∃ (mi3 : MI) (ml3 : ML), Ret m_rd_next [(vR 12 0 4)] none c (MRc nb db (some (0, 800, 3)) rs) mi2 ml2 mi3 ml3 ∧ ((¬ r2 = 0 → ((r2 = 0 → (∃ (r4 : Int32) (mi4 : MI) (ml4 : ML), Ret m_rd_takeWhole [(vR 12 0 4), (vI (nI 3)), (vI (nI 31))] (some (vI r4)) c (MRc nb db (some (0, 800, 3)) rs) mi3 ml3 mi4 ml4 ∧ ((¬ r4 = 0 → (∃ (r5 : Int32) (mi5 : MI) (ml5 : ML), Ret m_rd_takeWord [(vR 12 0 4), (vR 100 0 9)] (some (vI r5)) c (MRc nb db (some (0, 800, 3)) rs) mi4 ml4 mi5 ml5 ∧ ((r5 = 0 → (Fin (some (vI (nI 0))) mi5 ml5 rv mi' ml')) ∧ (¬ r5 = 0 → (∃ (r6 : Int32) (mi6 : MI) (ml6 : ML), Ret m_rd_takeWhole [(vR 12 0 4), (vI (nI 0)), (vI (nI 999))] (some (vI r6)) c (MRc nb db (some (0, 800, 3)) rs) mi5 ml5 mi6 ml6 ∧ ((¬ r6 = 0 → (∃ (r7 : Int32) (mi7 : MI) (ml7 : ML), Ret m_rd_takeWord [(vR 12 0 4), (vR 100 0 10)] (some (vI r7)) c (MRc nb db (some (0, 800, 3)) rs) (u2 mi6 db 2 (mi6 4 9)) ml6 mi7 ml7 ∧ ((r7 = 0 → (Fin (some (vI (nI 0))) mi7 ml7 rv mi' ml')) ∧ (¬ r7 = 0 → (∃ (r8 : Int32) (mi8 : MI) (ml8 : ML), Ret m_rd_takeWhole [(vR 12 0 4), (vI (nI 1)), (vI (nI 999999))] (some (vI r8)) c (MRc nb db (some (0, 800, 3)) rs) mi7 ml7 mi8 ml8 ∧ ((¬ r8 = 0 → ((r2 = 0 → (∃ (mi9 : MI) (ml9 : ML), Ret m_bn_makeSquares [(vR 13 0 db), (vI (mi4 4 9))] none c (MRc nb db (some (0, 800, 3)) rs) (u2 mi8 db 3 (mi8 4 9)) ml8 mi9 ml9 ∧ (Fin (some (vI (nI 1))) mi9 ml9 rv mi' ml'))) ∧ (¬ r2 = 0 → (∃ (mi10 : MI) (ml10 : ML), Ret m_bn_makeDoubled [(vR 13 0 db), (vI (mi4 4 9))] none c (MRc nb db (some (0, 800, 3)) rs) (u2 mi8 db 3 (mi8 4 9)) ml8 mi10 ml10 ∧ (Fin (some (vI (nI 1))) mi10 ml10 rv mi' ml'))))) ∧ (r8 = 0 → (Fin (some (vI (nI 0))) mi8 ml8 rv mi' ml')))))))) ∧ (r6 = 0 → (Fin (some (vI (nI 0))) mi6 ml6 rv mi' ml')))))))) ∧ (r4 = 0 → (Fin (some (vI (nI 0))) mi4 ml4 rv mi' ml'))))) ∧ (¬ r2 = 0 → (∃ (r11 : Int32) (mi11 : MI) (ml11 : ML), Ret m_rd_takeWhole [(vR 12 0 4), (vI (nI 2)), (vI (nI 5))] (some (vI r11)) c (MRc nb db (some (0, 800, 3)) rs) mi3 ml3 mi11 ml11 ∧ ((r11 = 0 → (Fin (some (vI (nI 0))) mi11 ml11 rv mi' ml')) ∧ (¬ r11 = 0 → (∃ (r12 : Int32) (mi12 : MI) (ml12 : ML), Ret m_rd_takeWord [(vR 12 0 4), (vR 100 0 9)] (some (vI r12)) c (MRc nb db (some (0, 800, 3)) rs) mi11 ml11 mi12 ml12 ∧ ((r12 = 0 → (Fin (some (vI (nI 0))) mi12 ml12 rv mi' ml')) ∧ (¬ r12 = 0 → (∃ (r13 : Int32) (mi13 : MI) (ml13 : ML), Ret m_rd_takeWhole [(vR 12 0 4), (vI (nI 0)), (vI (nI 999))] (some (vI r13)) c (MRc nb db (some (0, 800, 3)) rs) mi12 ml12 mi13 ml13 ∧ ((¬ r13 = 0 → (∃ (r14 : Int32) (mi14 : MI) (ml14 : ML), Ret m_rd_takeWord [(vR 12 0 4), (vR 100 0 10)] (some (vI r14)) c (MRc nb db (some (0, 800, 3)) rs) (u2 mi13 db 2 (mi13 4 9)) ml13 mi14 ml14 ∧ ((r14 = 0 → (Fin (some (vI (nI 0))) mi14 ml14 rv mi' ml')) ∧ (¬ r14 = 0 → (∃ (r15 : Int32) (mi15 : MI) (ml15 : ML), Ret m_rd_takeWhole [(vR 12 0 4), (vI (nI 1)), (vI (nI 999999))] (some (vI r15)) c (MRc nb db (some (0, 800, 3)) rs) mi14 ml14 mi15 ml15 ∧ ((¬ r15 = 0 → ((r2 = 0 → (∃ (mi16 : MI) (ml16 : ML), Ret m_bn_makeSquares [(vR 13 0 db), (vI (mi11 4 9))] none c (MRc nb db (some (0, 800, 3)) rs) (u2 mi15 db 3 (mi15 4 9)) ml15 mi16 ml16 ∧ (Fin (some (vI (nI 1))) mi16 ml16 rv mi' ml'))) ∧ (¬ r2 = 0 → (∃ (mi17 : MI) (ml17 : ML), Ret m_bn_makeDoubled [(vR 13 0 db), (vI (mi11 4 9))] none c (MRc nb db (some (0, 800, 3)) rs) (u2 mi15 db 3 (mi15 4 9)) ml15 mi17 ml17 ∧ (Fin (some (vI (nI 1))) mi17 ml17 rv mi' ml'))))) ∧ (r15 = 0 → (Fin (some (vI (nI 0))) mi15 ml15 rv mi' ml')))))))) ∧ (r13 = 0 → (Fin (some (vI (nI 0))) mi13 ml13 rv mi' ml'))))))))))))) ∧ (r2 = 0 → ((¬ (mi3 4 5) = (nI 2) → ((r2 = 0 → (∃ (r18 : Int32) (mi18 : MI) (ml18 : ML), Ret m_rd_takeWhole [(vR 12 0 4), (vI (nI 3)), (vI (nI 31))] (some (vI r18)) c (MRc nb db (some (0, 800, 3)) rs) mi3 ml3 mi18 ml18 ∧ ((¬ r18 = 0 → (∃ (r19 : Int32) (mi19 : MI) (ml19 : ML), Ret m_rd_takeWord [(vR 12 0 4), (vR 100 0 9)] (some (vI r19)) c (MRc nb db (some (0, 800, 3)) rs) mi18 ml18 mi19 ml19 ∧ ((r19 = 0 → (Fin (some (vI (nI 0))) mi19 ml19 rv mi' ml')) ∧ (¬ r19 = 0 → (∃ (r20 : Int32) (mi20 : MI) (ml20 : ML), Ret m_rd_takeWhole [(vR 12 0 4), (vI (nI 0)), (vI (nI 999))] (some (vI r20)) c (MRc nb db (some (0, 800, 3)) rs) mi19 ml19 mi20 ml20 ∧ ((¬ r20 = 0 → (∃ (r21 : Int32) (mi21 : MI) (ml21 : ML), Ret m_rd_takeWord [(vR 12 0 4), (vR 100 0 10)] (some (vI r21)) c (MRc nb db (some (0, 800, 3)) rs) (u2 mi20 db 2 (mi20 4 9)) ml20 mi21 ml21 ∧ ((r21 = 0 → (Fin (some (vI (nI 0))) mi21 ml21 rv mi' ml')) ∧ (¬ r21 = 0 → (∃ (r22 : Int32) (mi22 : MI) (ml22 : ML), Ret m_rd_takeWhole [(vR 12 0 4), (vI (nI 1)), (vI (nI 999999))] (some (vI r22)) c (MRc nb db (some (0, 800, 3)) rs) mi21 ml21 mi22 ml22 ∧ ((¬ r22 = 0 → ((r2 = 0 → (∃ (mi23 : MI) (ml23 : ML), Ret m_bn_makeSquares [(vR 13 0 db), (vI (mi18 4 9))] none c (MRc nb db (some (0, 800, 3)) rs) (u2 mi22 db 3 (mi22 4 9)) ml22 mi23 ml23 ∧ (Fin (some (vI (nI 1))) mi23 ml23 rv mi' ml'))) ∧ (¬ r2 = 0 → (∃ (mi24 : MI) (ml24 : ML), Ret m_bn_makeDoubled [(vR 13 0 db), (vI (mi18 4 9))] none c (MRc nb db (some (0, 800, 3)) rs) (u2 mi22 db 3 (mi22 4 9)) ml22 mi24 ml24 ∧ (Fin (some (vI (nI 1))) mi24 ml24 rv mi' ml'))))) ∧ (r22 = 0 → (Fin (some (vI (nI 0))) mi22 ml22 rv mi' ml')))))))) ∧ (r20 = 0 → (Fin (some (vI (nI 0))) mi20 ml20 rv mi' ml')))))))) ∧ (r18 = 0 → (Fin (some (vI (nI 0))) mi18 ml18 rv mi' ml'))))) ∧ (¬ r2 = 0 → (∃ (r25 : Int32) (mi25 : MI) (ml25 : ML), Ret m_rd_takeWhole [(vR 12 0 4), (vI (nI 2)), (vI (nI 5))] (some (vI r25)) c (MRc nb db (some (0, 800, 3)) rs) mi3 ml3 mi25 ml25 ∧ ((r25 = 0 → (Fin (some (vI (nI 0))) mi25 ml25 rv mi' ml')) ∧ (¬ r25 = 0 → (∃ (r26 : Int32) (mi26 : MI) (ml26 : ML), Ret m_rd_takeWord [(vR 12 0 4), (vR 100 0 9)] (some (vI r26)) c (MRc nb db (some (0, 800, 3)) rs) mi25 ml25 mi26 ml26 ∧ ((r26 = 0 → (Fin (some (vI (nI 0))) mi26 ml26 rv mi' ml')) ∧ (¬ r26 = 0 → (∃ (r27 : Int32) (mi27 : MI) (ml27 : ML), Ret m_rd_takeWhole [(vR 12 0 4), (vI (nI 0)), (vI (nI 999))] (some (vI r27)) c (MRc nb db (some (0, 800, 3)) rs) mi26 ml26 mi27 ml27 ∧ ((¬ r27 = 0 → (∃ (r28 : Int32) (mi28 : MI) (ml28 : ML), Ret m_rd_takeWord [(vR 12 0 4), (vR 100 0 10)] (some (vI r28)) c (MRc nb db (some (0, 800, 3)) rs) (u2 mi27 db 2 (mi27 4 9)) ml27 mi28 ml28 ∧ ((r28 = 0 → (Fin (some (vI (nI 0))) mi28 ml28 rv mi' ml')) ∧ (¬ r28 = 0 → (∃ (r29 : Int32) (mi29 : MI) (ml29 : ML), Ret m_rd_takeWhole [(vR 12 0 4), (vI (nI 1)), (vI (nI 999999))] (some (vI r29)) c (MRc nb db (some (0, 800, 3)) rs) mi28 ml28 mi29 ml29 ∧ ((¬ r29 = 0 → ((r2 = 0 → (∃ (mi30 : MI) (ml30 : ML), Ret m_bn_makeSquares [(vR 13 0 db), (vI (mi25 4 9))] none c (MRc nb db (some (0, 800, 3)) rs) (u2 mi29 db 3 (mi29 4 9)) ml29 mi30 ml30 ∧ (Fin (some (vI (nI 1))) mi30 ml30 rv mi' ml'))) ∧ (¬ r2 = 0 → (∃ (mi31 : MI) (ml31 : ML), Ret m_bn_makeDoubled [(vR 13 0 db), (vI (mi25 4 9))] none c (MRc nb db (some (0, 800, 3)) rs) (u2 mi29 db 3 (mi29 4 9)) ml29 mi31 ml31 ∧ (Fin (some (vI (nI 1))) mi31 ml31 rv mi' ml'))))) ∧ (r29 = 0 → (Fin (some (vI (nI 0))) mi29 ml29 rv mi' ml')))))))) ∧ (r27 = 0 → (Fin (some (vI (nI 0))) mi27 ml27 rv mi' ml'))))))))))))) ∧ ((mi3 4 5) = (nI 2) → (∃ (r32 : Int32), Ret m_rd_isPrimeOfBench [(vI (mi3 4 8))] (some (vI r32)) c (MRc nb db (some (0, 800, 3)) rs) mi3 ml3 mi3 ml3 ∧ ((¬ r32 = 0 → ((r2 = 0 → (∃ (r33 : Int32) (mi33 : MI) (ml33 : ML), Ret m_rd_takeWhole [(vR 12 0 4), (vI (nI 3)), (vI (nI 31))] (some (vI r33)) c (MRc nb db (some (0, 800, 3)) rs) mi3 ml3 mi33 ml33 ∧ ((¬ r33 = 0 → (∃ (r34 : Int32) (mi34 : MI) (ml34 : ML), Ret m_rd_takeWord [(vR 12 0 4), (vR 100 0 9)] (some (vI r34)) c (MRc nb db (some (0, 800, 3)) rs) mi33 ml33 mi34 ml34 ∧ ((r34 = 0 → (Fin (some (vI (nI 0))) mi34 ml34 rv mi' ml')) ∧ (¬ r34 = 0 → (∃ (r35 : Int32) (mi35 : MI) (ml35 : ML), Ret m_rd_takeWhole [(vR 12 0 4), (vI (nI 0)), (vI (nI 999))] (some (vI r35)) c (MRc nb db (some (0, 800, 3)) rs) mi34 ml34 mi35 ml35 ∧ ((¬ r35 = 0 → (∃ (r36 : Int32) (mi36 : MI) (ml36 : ML), Ret m_rd_takeWord [(vR 12 0 4), (vR 100 0 10)] (some (vI r36)) c (MRc nb db (some (0, 800, 3)) rs) (u2 mi35 db 2 (mi35 4 9)) ml35 mi36 ml36 ∧ ((r36 = 0 → (Fin (some (vI (nI 0))) mi36 ml36 rv mi' ml')) ∧ (¬ r36 = 0 → (∃ (r37 : Int32) (mi37 : MI) (ml37 : ML), Ret m_rd_takeWhole [(vR 12 0 4), (vI (nI 1)), (vI (nI 999999))] (some (vI r37)) c (MRc nb db (some (0, 800, 3)) rs) mi36 ml36 mi37 ml37 ∧ ((¬ r37 = 0 → ((r2 = 0 → (∃ (mi38 : MI) (ml38 : ML), Ret m_bn_makeSquares [(vR 13 0 db), (vI (mi33 4 9))] none c (MRc nb db (some (0, 800, 3)) rs) (u2 mi37 db 3 (mi37 4 9)) ml37 mi38 ml38 ∧ (Fin (some (vI (nI 1))) mi38 ml38 rv mi' ml'))) ∧ (¬ r2 = 0 → (∃ (mi39 : MI) (ml39 : ML), Ret m_bn_makeDoubled [(vR 13 0 db), (vI (mi33 4 9))] none c (MRc nb db (some (0, 800, 3)) rs) (u2 mi37 db 3 (mi37 4 9)) ml37 mi39 ml39 ∧ (Fin (some (vI (nI 1))) mi39 ml39 rv mi' ml'))))) ∧ (r37 = 0 → (Fin (some (vI (nI 0))) mi37 ml37 rv mi' ml')))))))) ∧ (r35 = 0 → (Fin (some (vI (nI 0))) mi35 ml35 rv mi' ml')))))))) ∧ (r33 = 0 → (Fin (some (vI (nI 0))) mi33 ml33 rv mi' ml'))))) ∧ (¬ r2 = 0 → (∃ (r40 : Int32) (mi40 : MI) (ml40 : ML), Ret m_rd_takeWhole [(vR 12 0 4), (vI (nI 2)), (vI (nI 5))] (some (vI r40)) c (MRc nb db (some (0, 800, 3)) rs) mi3 ml3 mi40 ml40 ∧ ((r40 = 0 → (Fin (some (vI (nI 0))) mi40 ml40 rv mi' ml')) ∧ (¬ r40 = 0 → (∃ (r41 : Int32) (mi41 : MI) (ml41 : ML), Ret m_rd_takeWord [(vR 12 0 4), (vR 100 0 9)] (some (vI r41)) c (MRc nb db (some (0, 800, 3)) rs) mi40 ml40 mi41 ml41 ∧ ((r41 = 0 → (Fin (some (vI (nI 0))) mi41 ml41 rv mi' ml')) ∧ (¬ r41 = 0 → (∃ (r42 : Int32) (mi42 : MI) (ml42 : ML), Ret m_rd_takeWhole [(vR 12 0 4), (vI (nI 0)), (vI (nI 999))] (some (vI r42)) c (MRc nb db (some (0, 800, 3)) rs) mi41 ml41 mi42 ml42 ∧ ((¬ r42 = 0 → (∃ (r43 : Int32) (mi43 : MI) (ml43 : ML), Ret m_rd_takeWord [(vR 12 0 4), (vR 100 0 10)] (some (vI r43)) c (MRc nb db (some (0, 800, 3)) rs) (u2 mi42 db 2 (mi42 4 9)) ml42 mi43 ml43 ∧ ((r43 = 0 → (Fin (some (vI (nI 0))) mi43 ml43 rv mi' ml')) ∧ (¬ r43 = 0 → (∃ (r44 : Int32) (mi44 : MI) (ml44 : ML), Ret m_rd_takeWhole [(vR 12 0 4), (vI (nI 1)), (vI (nI 999999))] (some (vI r44)) c (MRc nb db (some (0, 800, 3)) rs) mi43 ml43 mi44 ml44 ∧ ((¬ r44 = 0 → ((r2 = 0 → (∃ (mi45 : MI) (ml45 : ML), Ret m_bn_makeSquares [(vR 13 0 db), (vI (mi40 4 9))] none c (MRc nb db (some (0, 800, 3)) rs) (u2 mi44 db 3 (mi44 4 9)) ml44 mi45 ml45 ∧ (Fin (some (vI (nI 1))) mi45 ml45 rv mi' ml'))) ∧ (¬ r2 = 0 → (∃ (mi46 : MI) (ml46 : ML), Ret m_bn_makeDoubled [(vR 13 0 db), (vI (mi40 4 9))] none c (MRc nb db (some (0, 800, 3)) rs) (u2 mi44 db 3 (mi44 4 9)) ml44 mi46 ml46 ∧ (Fin (some (vI (nI 1))) mi46 ml46 rv mi' ml'))))) ∧ (r44 = 0 → (Fin (some (vI (nI 0))) mi44 ml44 rv mi' ml')))))))) ∧ (r42 = 0 → (Fin (some (vI (nI 0))) mi42 ml42 rv mi' ml'))))))))))))) ∧ (r32 = 0 → (Fin (some (vI (nI 0))) (u2 (u2 mi3 4 0 (nI 2)) 4 1 (mi3 4 6)) ml3 rv mi' ml')))))))))) ∧ (r2 = 0 → (∃ (r47 : Int32) (mi47 : MI) (ml47 : ML), Ret m_rd_isWord [(vR 12 0 4), (vR 100 0 8)] (some (vI r47)) c (MRc nb db (some (0, 800, 3)) rs) mi2 ml2 mi47 ml47 ∧ ((¬ r47 = 0 → (∃ (mi48 : MI) (ml48 : ML), Ret m_rd_next [(vR 12 0 4)] none c (MRc nb db (some (0, 800, 3)) rs) mi47 ml47 mi48 ml48 ∧ ((¬ r2 = 0 → ((r2 = 0 → (∃ (r49 : Int32) (mi49 : MI) (ml49 : ML), Ret m_rd_takeWhole [(vR 12 0 4), (vI (nI 3)), (vI (nI 31))] (some (vI r49)) c (MRc nb db (some (0, 800, 3)) rs) mi48 ml48 mi49 ml49 ∧ ((¬ r49 = 0 → (∃ (r50 : Int32) (mi50 : MI) (ml50 : ML), Ret m_rd_takeWord [(vR 12 0 4), (vR 100 0 9)] (some (vI r50)) c (MRc nb db (some (0, 800, 3)) rs) mi49 ml49 mi50 ml50 ∧ ((r50 = 0 → (Fin (some (vI (nI 0))) mi50 ml50 rv mi' ml')) ∧ (¬ r50 = 0 → (∃ (r51 : Int32) (mi51 : MI) (ml51 : ML), Ret m_rd_takeWhole [(vR 12 0 4), (vI (nI 0)), (vI (nI 999))] (some (vI r51)) c (MRc nb db (some (0, 800, 3)) rs) mi50 ml50 mi51 ml51 ∧ ((¬ r51 = 0 → (∃ (r52 : Int32) (mi52 : MI) (ml52 : ML), Ret m_rd_takeWord [(vR 12 0 4), (vR 100 0 10)] (some (vI r52)) c (MRc nb db (some (0, 800, 3)) rs) (u2 mi51 db 2 (mi51 4 9)) ml51 mi52 ml52 ∧ ((r52 = 0 → (Fin (some (vI (nI 0))) mi52 ml52 rv mi' ml')) ∧ (¬ r52 = 0 → (∃ (r53 : Int32) (mi53 : MI) (ml53 : ML), Ret m_rd_takeWhole [(vR 12 0 4), (vI (nI 1)), (vI (nI 999999))] (some (vI r53)) c (MRc nb db (some (0, 800, 3)) rs) mi52 ml52 mi53 ml53 ∧ ((¬ r53 = 0 → ((r2 = 0 → (∃ (mi54 : MI) (ml54 : ML), Ret m_bn_makeSquares [(vR 13 0 db), (vI (mi49 4 9))] none c (MRc nb db (some (0, 800, 3)) rs) (u2 mi53 db 3 (mi53 4 9)) ml53 mi54 ml54 ∧ (Fin (some (vI (nI 1))) mi54 ml54 rv mi' ml'))) ∧ (¬ r2 = 0 → (∃ (mi55 : MI) (ml55 : ML), Ret m_bn_makeDoubled [(vR 13 0 db), (vI (mi49 4 9))] none c (MRc nb db (some (0, 800, 3)) rs) (u2 mi53 db 3 (mi53 4 9)) ml53 mi55 ml55 ∧ (Fin (some (vI (nI 1))) mi55 ml55 rv mi' ml'))))) ∧ (r53 = 0 → (Fin (some (vI (nI 0))) mi53 ml53 rv mi' ml')))))))) ∧ (r51 = 0 → (Fin (some (vI (nI 0))) mi51 ml51 rv mi' ml')))))))) ∧ (r49 = 0 → (Fin (some (vI (nI 0))) mi49 ml49 rv mi' ml'))))) ∧ (¬ r2 = 0 → (∃ (r56 : Int32) (mi56 : MI) (ml56 : ML), Ret m_rd_takeWhole [(vR 12 0 4), (vI (nI 2)), (vI (nI 5))] (some (vI r56)) c (MRc nb db (some (0, 800, 3)) rs) mi48 ml48 mi56 ml56 ∧ ((r56 = 0 → (Fin (some (vI (nI 0))) mi56 ml56 rv mi' ml')) ∧ (¬ r56 = 0 → (∃ (r57 : Int32) (mi57 : MI) (ml57 : ML), Ret m_rd_takeWord [(vR 12 0 4), (vR 100 0 9)] (some (vI r57)) c (MRc nb db (some (0, 800, 3)) rs) mi56 ml56 mi57 ml57 ∧ ((r57 = 0 → (Fin (some (vI (nI 0))) mi57 ml57 rv mi' ml')) ∧ (¬ r57 = 0 → (∃ (r58 : Int32) (mi58 : MI) (ml58 : ML), Ret m_rd_takeWhole [(vR 12 0 4), (vI (nI 0)), (vI (nI 999))] (some (vI r58)) c (MRc nb db (some (0, 800, 3)) rs) mi57 ml57 mi58 ml58 ∧ ((¬ r58 = 0 → (∃ (r59 : Int32) (mi59 : MI) (ml59 : ML), Ret m_rd_takeWord [(vR 12 0 4), (vR 100 0 10)] (some (vI r59)) c (MRc nb db (some (0, 800, 3)) rs) (u2 mi58 db 2 (mi58 4 9)) ml58 mi59 ml59 ∧ ((r59 = 0 → (Fin (some (vI (nI 0))) mi59 ml59 rv mi' ml')) ∧ (¬ r59 = 0 → (∃ (r60 : Int32) (mi60 : MI) (ml60 : ML), Ret m_rd_takeWhole [(vR 12 0 4), (vI (nI 1)), (vI (nI 999999))] (some (vI r60)) c (MRc nb db (some (0, 800, 3)) rs) mi59 ml59 mi60 ml60 ∧ ((¬ r60 = 0 → ((r2 = 0 → (∃ (mi61 : MI) (ml61 : ML), Ret m_bn_makeSquares [(vR 13 0 db), (vI (mi56 4 9))] none c (MRc nb db (some (0, 800, 3)) rs) (u2 mi60 db 3 (mi60 4 9)) ml60 mi61 ml61 ∧ (Fin (some (vI (nI 1))) mi61 ml61 rv mi' ml'))) ∧ (¬ r2 = 0 → (∃ (mi62 : MI) (ml62 : ML), Ret m_bn_makeDoubled [(vR 13 0 db), (vI (mi56 4 9))] none c (MRc nb db (some (0, 800, 3)) rs) (u2 mi60 db 3 (mi60 4 9)) ml60 mi62 ml62 ∧ (Fin (some (vI (nI 1))) mi62 ml62 rv mi' ml'))))) ∧ (r60 = 0 → (Fin (some (vI (nI 0))) mi60 ml60 rv mi' ml')))))))) ∧ (r58 = 0 → (Fin (some (vI (nI 0))) mi58 ml58 rv mi' ml'))))))))))))) ∧ (r2 = 0 → ((¬ (mi48 4 5) = (nI 2) → ((r2 = 0 → (∃ (r63 : Int32) (mi63 : MI) (ml63 : ML), Ret m_rd_takeWhole [(vR 12 0 4), (vI (nI 3)), (vI (nI 31))] (some (vI r63)) c (MRc nb db (some (0, 800, 3)) rs) mi48 ml48 mi63 ml63 ∧ ((¬ r63 = 0 → (∃ (r64 : Int32) (mi64 : MI) (ml64 : ML), Ret m_rd_takeWord [(vR 12 0 4), (vR 100 0 9)] (some (vI r64)) c (MRc nb db (some (0, 800, 3)) rs) mi63 ml63 mi64 ml64 ∧ ((r64 = 0 → (Fin (some (vI (nI 0))) mi64 ml64 rv mi' ml')) ∧ (¬ r64 = 0 → (∃ (r65 : Int32) (mi65 : MI) (ml65 : ML), Ret m_rd_takeWhole [(vR 12 0 4), (vI (nI 0)), (vI (nI 999))] (some (vI r65)) c (MRc nb db (some (0, 800, 3)) rs) mi64 ml64 mi65 ml65 ∧ ((¬ r65 = 0 → (∃ (r66 : Int32) (mi66 : MI) (ml66 : ML), Ret m_rd_takeWord [(vR 12 0 4), (vR 100 0 10)] (some (vI r66)) c (MRc nb db (some (0, 800, 3)) rs) (u2 mi65 db 2 (mi65 4 9)) ml65 mi66 ml66 ∧ ((r66 = 0 → (Fin (some (vI (nI 0))) mi66 ml66 rv mi' ml')) ∧ (¬ r66 = 0 → (∃ (r67 : Int32) (mi67 : MI) (ml67 : ML), Ret m_rd_takeWhole [(vR 12 0 4), (vI (nI 1)), (vI (nI 999999))] (some (vI r67)) c (MRc nb db (some (0, 800, 3)) rs) mi66 ml66 mi67 ml67 ∧ ((¬ r67 = 0 → ((r2 = 0 → (∃ (mi68 : MI) (ml68 : ML), Ret m_bn_makeSquares [(vR 13 0 db), (vI (mi63 4 9))] none c (MRc nb db (some (0, 800, 3)) rs) (u2 mi67 db 3 (mi67 4 9)) ml67 mi68 ml68 ∧ (Fin (some (vI (nI 1))) mi68 ml68 rv mi' ml'))) ∧ (¬ r2 = 0 → (∃ (mi69 : MI) (ml69 : ML), Ret m_bn_makeDoubled [(vR 13 0 db), (vI (mi63 4 9))] none c (MRc nb db (some (0, 800, 3)) rs) (u2 mi67 db 3 (mi67 4 9)) ml67 mi69 ml69 ∧ (Fin (some (vI (nI 1))) mi69 ml69 rv mi' ml'))))) ∧ (r67 = 0 → (Fin (some (vI (nI 0))) mi67 ml67 rv mi' ml')))))))) ∧ (r65 = 0 → (Fin (some (vI (nI 0))) mi65 ml65 rv mi' ml')))))))) ∧ (r63 = 0 → (Fin (some (vI (nI 0))) mi63 ml63 rv mi' ml'))))) ∧ (¬ r2 = 0 → (∃ (r70 : Int32) (mi70 : MI) (ml70 : ML), Ret m_rd_takeWhole [(vR 12 0 4), (vI (nI 2)), (vI (nI 5))] (some (vI r70)) c (MRc nb db (some (0, 800, 3)) rs) mi48 ml48 mi70 ml70 ∧ ((r70 = 0 → (Fin (some (vI (nI 0))) mi70 ml70 rv mi' ml')) ∧ (¬ r70 = 0 → (∃ (r71 : Int32) (mi71 : MI) (ml71 : ML), Ret m_rd_takeWord [(vR 12 0 4), (vR 100 0 9)] (some (vI r71)) c (MRc nb db (some (0, 800, 3)) rs) mi70 ml70 mi71 ml71 ∧ ((r71 = 0 → (Fin (some (vI (nI 0))) mi71 ml71 rv mi' ml')) ∧ (¬ r71 = 0 → (∃ (r72 : Int32) (mi72 : MI) (ml72 : ML), Ret m_rd_takeWhole [(vR 12 0 4), (vI (nI 0)), (vI (nI 999))] (some (vI r72)) c (MRc nb db (some (0, 800, 3)) rs) mi71 ml71 mi72 ml72 ∧ ((¬ r72 = 0 → (∃ (r73 : Int32) (mi73 : MI) (ml73 : ML), Ret m_rd_takeWord [(vR 12 0 4), (vR 100 0 10)] (some (vI r73)) c (MRc nb db (some (0, 800, 3)) rs) (u2 mi72 db 2 (mi72 4 9)) ml72 mi73 ml73 ∧ ((r73 = 0 → (Fin (some (vI (nI 0))) mi73 ml73 rv mi' ml')) ∧ (¬ r73 = 0 → (∃ (r74 : Int32) (mi74 : MI) (ml74 : ML), Ret m_rd_takeWhole [(vR 12 0 4), (vI (nI 1)), (vI (nI 999999))] (some (vI r74)) c (MRc nb db (some (0, 800, 3)) rs) mi73 ml73 mi74 ml74 ∧ ((¬ r74 = 0 → ((r2 = 0 → (∃ (mi75 : MI) (ml75 : ML), Ret m_bn_makeSquares [(vR 13 0 db), (vI (mi70 4 9))] none c (MRc nb db (some (0, 800, 3)) rs) (u2 mi74 db 3 (mi74 4 9)) ml74 mi75 ml75 ∧ (Fin (some (vI (nI 1))) mi75 ml75 rv mi' ml'))) ∧ (¬ r2 = 0 → (∃ (mi76 : MI) (ml76 : ML), Ret m_bn_makeDoubled [(vR 13 0 db), (vI (mi70 4 9))] none c (MRc nb db (some (0, 800, 3)) rs) (u2 mi74 db 3 (mi74 4 9)) ml74 mi76 ml76 ∧ (Fin (some (vI (nI 1))) mi76 ml76 rv mi' ml'))))) ∧ (r74 = 0 → (Fin (some (vI (nI 0))) mi74 ml74 rv mi' ml')))))))) ∧ (r72 = 0 → (Fin (some (vI (nI 0))) mi72 ml72 rv mi' ml'))))))))))))) ∧ ((mi48 4 5) = (nI 2) → (∃ (r77 : Int32), Ret m_rd_isPrimeOfBench [(vI (mi48 4 8))] (some (vI r77)) c (MRc nb db (some (0, 800, 3)) rs) mi48 ml48 mi48 ml48 ∧ ((¬ r77 = 0 → ((r2 = 0 → (∃ (r78 : Int32) (mi78 : MI) (ml78 : ML), Ret m_rd_takeWhole [(vR 12 0 4), (vI (nI 3)), (vI (nI 31))] (some (vI r78)) c (MRc nb db (some (0, 800, 3)) rs) mi48 ml48 mi78 ml78 ∧ ((¬ r78 = 0 → (∃ (r79 : Int32) (mi79 : MI) (ml79 : ML), Ret m_rd_takeWord [(vR 12 0 4), (vR 100 0 9)] (some (vI r79)) c (MRc nb db (some (0, 800, 3)) rs) mi78 ml78 mi79 ml79 ∧ ((r79 = 0 → (Fin (some (vI (nI 0))) mi79 ml79 rv mi' ml')) ∧ (¬ r79 = 0 → (∃ (r80 : Int32) (mi80 : MI) (ml80 : ML), Ret m_rd_takeWhole [(vR 12 0 4), (vI (nI 0)), (vI (nI 999))] (some (vI r80)) c (MRc nb db (some (0, 800, 3)) rs) mi79 ml79 mi80 ml80 ∧ ((¬ r80 = 0 → (∃ (r81 : Int32) (mi81 : MI) (ml81 : ML), Ret m_rd_takeWord [(vR 12 0 4), (vR 100 0 10)] (some (vI r81)) c (MRc nb db (some (0, 800, 3)) rs) (u2 mi80 db 2 (mi80 4 9)) ml80 mi81 ml81 ∧ ((r81 = 0 → (Fin (some (vI (nI 0))) mi81 ml81 rv mi' ml')) ∧ (¬ r81 = 0 → (∃ (r82 : Int32) (mi82 : MI) (ml82 : ML), Ret m_rd_takeWhole [(vR 12 0 4), (vI (nI 1)), (vI (nI 999999))] (some (vI r82)) c (MRc nb db (some (0, 800, 3)) rs) mi81 ml81 mi82 ml82 ∧ ((¬ r82 = 0 → ((r2 = 0 → (∃ (mi83 : MI) (ml83 : ML), Ret m_bn_makeSquares [(vR 13 0 db), (vI (mi78 4 9))] none c (MRc nb db (some (0, 800, 3)) rs) (u2 mi82 db 3 (mi82 4 9)) ml82 mi83 ml83 ∧ (Fin (some (vI (nI 1))) mi83 ml83 rv mi' ml'))) ∧ (¬ r2 = 0 → (∃ (mi84 : MI) (ml84 : ML), Ret m_bn_makeDoubled [(vR 13 0 db), (vI (mi78 4 9))] none c (MRc nb db (some (0, 800, 3)) rs) (u2 mi82 db 3 (mi82 4 9)) ml82 mi84 ml84 ∧ (Fin (some (vI (nI 1))) mi84 ml84 rv mi' ml'))))) ∧ (r82 = 0 → (Fin (some (vI (nI 0))) mi82 ml82 rv mi' ml')))))))) ∧ (r80 = 0 → (Fin (some (vI (nI 0))) mi80 ml80 rv mi' ml')))))))) ∧ (r78 = 0 → (Fin (some (vI (nI 0))) mi78 ml78 rv mi' ml'))))) ∧ (¬ r2 = 0 → (∃ (r85 : Int32) (mi85 : MI) (ml85 : ML), Ret m_rd_takeWhole [(vR 12 0 4), (vI (nI 2)), (vI (nI 5))] (some (vI r85)) c (MRc nb db (some (0, 800, 3)) rs) mi48 ml48 mi85 ml85 ∧ ((r85 = 0 → (Fin (some (vI (nI 0))) mi85 ml85 rv mi' ml')) ∧ (¬ r85 = 0 → (∃ (r86 : Int32) (mi86 : MI) (ml86 : ML), Ret m_rd_takeWord [(vR 12 0 4), (vR 100 0 9)] (some (vI r86)) c (MRc nb db (some (0, 800, 3)) rs) mi85 ml85 mi86 ml86 ∧ ((r86 = 0 → (Fin (some (vI (nI 0))) mi86 ml86 rv mi' ml')) ∧ (¬ r86 = 0 → (∃ (r87 : Int32) (mi87 : MI) (ml87 : ML), Ret m_rd_takeWhole [(vR 12 0 4), (vI (nI 0)), (vI (nI 999))] (some (vI r87)) c (MRc nb db (some (0, 800, 3)) rs) mi86 ml86 mi87 ml87 ∧ ((¬ r87 = 0 → (∃ (r88 : Int32) (mi88 : MI) (ml88 : ML), Ret m_rd_takeWord [(vR 12 0 4), (vR 100 0 10)] (some (vI r88)) c (MRc nb db (some (0, 800, 3)) rs) (u2 mi87 db 2 (mi87 4 9)) ml87 mi88 ml88 ∧ ((r88 = 0 → (Fin (some (vI (nI 0))) mi88 ml88 rv mi' ml')) ∧ (¬ r88 = 0 → (∃ (r89 : Int32) (mi89 : MI) (ml89 : ML), Ret m_rd_takeWhole [(vR 12 0 4), (vI (nI 1)), (vI (nI 999999))] (some (vI r89)) c (MRc nb db (some (0, 800, 3)) rs) mi88 ml88 mi89 ml89 ∧ ((¬ r89 = 0 → ((r2 = 0 → (∃ (mi90 : MI) (ml90 : ML), Ret m_bn_makeSquares [(vR 13 0 db), (vI (mi85 4 9))] none c (MRc nb db (some (0, 800, 3)) rs) (u2 mi89 db 3 (mi89 4 9)) ml89 mi90 ml90 ∧ (Fin (some (vI (nI 1))) mi90 ml90 rv mi' ml'))) ∧ (¬ r2 = 0 → (∃ (mi91 : MI) (ml91 : ML), Ret m_bn_makeDoubled [(vR 13 0 db), (vI (mi85 4 9))] none c (MRc nb db (some (0, 800, 3)) rs) (u2 mi89 db 3 (mi89 4 9)) ml89 mi91 ml91 ∧ (Fin (some (vI (nI 1))) mi91 ml91 rv mi' ml'))))) ∧ (r89 = 0 → (Fin (some (vI (nI 0))) mi89 ml89 rv mi' ml')))))))) ∧ (r87 = 0 → (Fin (some (vI (nI 0))) mi87 ml87 rv mi' ml'))))))))))))) ∧ (r77 = 0 → (Fin (some (vI (nI 0))) (u2 (u2 mi48 4 0 (nI 2)) 4 1 (mi48 4 6)) ml48 rv mi' ml')))))))))) ∧ (r47 = 0 → (Fin (some (vI (nI 0))) (u2 (u2 mi47 4 0 (nI 1)) 4 1 (mi47 4 6)) ml47 rv mi' ml')))))))) :
    Ret m_rd_takeBench [(vR 12 0 4)] rv c (MRc nb db (some (0, 800, 3)) rs) mi ml mi' ml' := by
  rcases hb with ⟨rfl, rfl⟩ | ⟨rfl, rfl⟩
  all_goals
    intro Q hQ
    refine ok_wq inlT 400 rfl rfl ?_
    obtain ⟨mi1, ml1, hR, h⟩ := h
    refine ⟨0, 0, Nat.zero_le _, Nat.zero_le _, hR _ ?_⟩
    obtain ⟨r2, mi2, ml2, hR, h⟩ := h
    refine ⟨0, 0, Nat.zero_le _, Nat.zero_le _, hR _ ?_⟩
    refine ⟨fun g => ?_, fun g => ?_⟩
    · have h := h.1 (g)
      obtain ⟨mi3, ml3, hR, h⟩ := h
      refine ⟨0, 0, Nat.zero_le _, Nat.zero_le _, hR _ ?_⟩
      refine ⟨fun g => ?_, fun g => ?_⟩
      · have h := h.1 (g)
        refine ⟨fun g => ?_, fun g => ?_⟩
        · have h := h.1 (g)
          obtain ⟨r4, mi4, ml4, hR, h⟩ := h
          refine ⟨0, 0, Nat.zero_le _, Nat.zero_le _, hR _ ?_⟩
          refine ⟨fun g => ?_, fun g => ?_⟩
          · have h := h.1 (g)
            obtain ⟨r5, mi5, ml5, hR, h⟩ := h
            refine ⟨0, 0, Nat.zero_le _, Nat.zero_le _, hR _ ?_⟩
            refine ⟨fun g => ?_, fun g => ?_⟩
            · have h := h.1 (g)
              refine ⟨Or.inl rfl, ?_⟩
              exact h.use hQ
            · have h := h.2 (g)
              obtain ⟨r6, mi6, ml6, hR, h⟩ := h
              refine ⟨0, 0, Nat.zero_le _, Nat.zero_le _, hR _ ?_⟩
              refine ⟨fun g => ?_, fun g => ?_⟩
              · have h := h.1 (g)
                obtain ⟨r7, mi7, ml7, hR, h⟩ := h
                refine ⟨0, 0, Nat.zero_le _, Nat.zero_le _, hR _ ?_⟩
                refine ⟨fun g => ?_, fun g => ?_⟩
                · have h := h.1 (g)
                  refine ⟨Or.inl rfl, ?_⟩
                  exact h.use hQ
                · have h := h.2 (g)
                  obtain ⟨r8, mi8, ml8, hR, h⟩ := h
                  refine ⟨0, 0, Nat.zero_le _, Nat.zero_le _, hR _ ?_⟩
                  refine ⟨fun g => ?_, fun g => ?_⟩
                  · have h := h.1 (g)
                    refine ⟨fun g => ?_, fun g => ?_⟩
                    · have h := h.1 (g)
                      obtain ⟨mi9, ml9, hR, h⟩ := h
                      refine ⟨0, 0, Nat.zero_le _, Nat.zero_le _, hR _ ?_⟩
                      refine ⟨Or.inr rfl, ?_⟩
                      exact h.use hQ
                    · have h := h.2 (g)
                      obtain ⟨mi10, ml10, hR, h⟩ := h
                      refine ⟨0, 0, Nat.zero_le _, Nat.zero_le _, hR _ ?_⟩
                      refine ⟨Or.inr rfl, ?_⟩
                      exact h.use hQ
                  · have h := h.2 (g)
                    refine ⟨Or.inl rfl, ?_⟩
                    exact h.use hQ
              · have h := h.2 (g)
                refine ⟨Or.inl rfl, ?_⟩
                exact h.use hQ
          · have h := h.2 (g)
            refine ⟨Or.inl rfl, ?_⟩
            exact h.use hQ
        · have h := h.2 (g)
          obtain ⟨r11, mi11, ml11, hR, h⟩ := h
          refine ⟨0, 0, Nat.zero_le _, Nat.zero_le _, hR _ ?_⟩
          refine ⟨fun g => ?_, fun g => ?_⟩
          · have h := h.1 (g)
            refine ⟨Or.inl rfl, ?_⟩
            exact h.use hQ
          · have h := h.2 (g)
            obtain ⟨r12, mi12, ml12, hR, h⟩ := h
            refine ⟨0, 0, Nat.zero_le _, Nat.zero_le _, hR _ ?_⟩
            refine ⟨fun g => ?_, fun g => ?_⟩
            · have h := h.1 (g)
              refine ⟨Or.inl rfl, ?_⟩
              exact h.use hQ
            · have h := h.2 (g)
              obtain ⟨r13, mi13, ml13, hR, h⟩ := h
              refine ⟨0, 0, Nat.zero_le _, Nat.zero_le _, hR _ ?_⟩
              refine ⟨fun g => ?_, fun g => ?_⟩
              · have h := h.1 (g)
                obtain ⟨r14, mi14, ml14, hR, h⟩ := h
                refine ⟨0, 0, Nat.zero_le _, Nat.zero_le _, hR _ ?_⟩
                refine ⟨fun g => ?_, fun g => ?_⟩
                · have h := h.1 (g)
                  refine ⟨Or.inl rfl, ?_⟩
                  exact h.use hQ
                · have h := h.2 (g)
                  obtain ⟨r15, mi15, ml15, hR, h⟩ := h
                  refine ⟨0, 0, Nat.zero_le _, Nat.zero_le _, hR _ ?_⟩
                  refine ⟨fun g => ?_, fun g => ?_⟩
                  · have h := h.1 (g)
                    refine ⟨fun g => ?_, fun g => ?_⟩
                    · have h := h.1 (g)
                      obtain ⟨mi16, ml16, hR, h⟩ := h
                      refine ⟨0, 0, Nat.zero_le _, Nat.zero_le _, hR _ ?_⟩
                      refine ⟨Or.inr rfl, ?_⟩
                      exact h.use hQ
                    · have h := h.2 (g)
                      obtain ⟨mi17, ml17, hR, h⟩ := h
                      refine ⟨0, 0, Nat.zero_le _, Nat.zero_le _, hR _ ?_⟩
                      refine ⟨Or.inr rfl, ?_⟩
                      exact h.use hQ
                  · have h := h.2 (g)
                    refine ⟨Or.inl rfl, ?_⟩
                    exact h.use hQ
              · have h := h.2 (g)
                refine ⟨Or.inl rfl, ?_⟩
                exact h.use hQ
      · have h := h.2 (g)
        refine ⟨fun g => ?_, fun g => ?_⟩
        · have h := h.1 (g)
          refine ⟨fun g => ?_, fun g => ?_⟩
          · have h := h.1 (g)
            obtain ⟨r18, mi18, ml18, hR, h⟩ := h
            refine ⟨0, 0, Nat.zero_le _, Nat.zero_le _, hR _ ?_⟩
            refine ⟨fun g => ?_, fun g => ?_⟩
            · have h := h.1 (g)
              obtain ⟨r19, mi19, ml19, hR, h⟩ := h
              refine ⟨0, 0, Nat.zero_le _, Nat.zero_le _, hR _ ?_⟩
              refine ⟨fun g => ?_, fun g => ?_⟩
              · have h := h.1 (g)
                refine ⟨Or.inl rfl, ?_⟩
                exact h.use hQ
              · have h := h.2 (g)
                obtain ⟨r20, mi20, ml20, hR, h⟩ := h
                refine ⟨0, 0, Nat.zero_le _, Nat.zero_le _, hR _ ?_⟩
                refine ⟨fun g => ?_, fun g => ?_⟩
                · have h := h.1 (g)
                  obtain ⟨r21, mi21, ml21, hR, h⟩ := h
                  refine ⟨0, 0, Nat.zero_le _, Nat.zero_le _, hR _ ?_⟩
                  refine ⟨fun g => ?_, fun g => ?_⟩
                  · have h := h.1 (g)
                    refine ⟨Or.inl rfl, ?_⟩
                    exact h.use hQ
                  · have h := h.2 (g)
                    obtain ⟨r22, mi22, ml22, hR, h⟩ := h
                    refine ⟨0, 0, Nat.zero_le _, Nat.zero_le _, hR _ ?_⟩
                    refine ⟨fun g => ?_, fun g => ?_⟩
                    · have h := h.1 (g)
                      refine ⟨fun g => ?_, fun g => ?_⟩
                      · have h := h.1 (g)
                        obtain ⟨mi23, ml23, hR, h⟩ := h
                        refine ⟨0, 0, Nat.zero_le _, Nat.zero_le _, hR _ ?_⟩
                        refine ⟨Or.inr rfl, ?_⟩
                        exact h.use hQ
                      · have h := h.2 (g)
                        obtain ⟨mi24, ml24, hR, h⟩ := h
                        refine ⟨0, 0, Nat.zero_le _, Nat.zero_le _, hR _ ?_⟩
                        refine ⟨Or.inr rfl, ?_⟩
                        exact h.use hQ
                    · have h := h.2 (g)
                      refine ⟨Or.inl rfl, ?_⟩
                      exact h.use hQ
                · have h := h.2 (g)
                  refine ⟨Or.inl rfl, ?_⟩
                  exact h.use hQ
            · have h := h.2 (g)
              refine ⟨Or.inl rfl, ?_⟩
              exact h.use hQ
          · have h := h.2 (g)
            obtain ⟨r25, mi25, ml25, hR, h⟩ := h
            refine ⟨0, 0, Nat.zero_le _, Nat.zero_le _, hR _ ?_⟩
            refine ⟨fun g => ?_, fun g => ?_⟩
            · have h := h.1 (g)
              refine ⟨Or.inl rfl, ?_⟩
              exact h.use hQ
            · have h := h.2 (g)
              obtain ⟨r26, mi26, ml26, hR, h⟩ := h
              refine ⟨0, 0, Nat.zero_le _, Nat.zero_le _, hR _ ?_⟩
              refine ⟨fun g => ?_, fun g => ?_⟩
              · have h := h.1 (g)
                refine ⟨Or.inl rfl, ?_⟩
                exact h.use hQ
              · have h := h.2 (g)
                obtain ⟨r27, mi27, ml27, hR, h⟩ := h
                refine ⟨0, 0, Nat.zero_le _, Nat.zero_le _, hR _ ?_⟩
                refine ⟨fun g => ?_, fun g => ?_⟩
                · have h := h.1 (g)
                  obtain ⟨r28, mi28, ml28, hR, h⟩ := h
                  refine ⟨0, 0, Nat.zero_le _, Nat.zero_le _, hR _ ?_⟩
                  refine ⟨fun g => ?_, fun g => ?_⟩
                  · have h := h.1 (g)
                    refine ⟨Or.inl rfl, ?_⟩
                    exact h.use hQ
                  · have h := h.2 (g)
                    obtain ⟨r29, mi29, ml29, hR, h⟩ := h
                    refine ⟨0, 0, Nat.zero_le _, Nat.zero_le _, hR _ ?_⟩
                    refine ⟨fun g => ?_, fun g => ?_⟩
                    · have h := h.1 (g)
                      refine ⟨fun g => ?_, fun g => ?_⟩
                      · have h := h.1 (g)
                        obtain ⟨mi30, ml30, hR, h⟩ := h
                        refine ⟨0, 0, Nat.zero_le _, Nat.zero_le _, hR _ ?_⟩
                        refine ⟨Or.inr rfl, ?_⟩
                        exact h.use hQ
                      · have h := h.2 (g)
                        obtain ⟨mi31, ml31, hR, h⟩ := h
                        refine ⟨0, 0, Nat.zero_le _, Nat.zero_le _, hR _ ?_⟩
                        refine ⟨Or.inr rfl, ?_⟩
                        exact h.use hQ
                    · have h := h.2 (g)
                      refine ⟨Or.inl rfl, ?_⟩
                      exact h.use hQ
                · have h := h.2 (g)
                  refine ⟨Or.inl rfl, ?_⟩
                  exact h.use hQ
        · have h := h.2 (g)
          obtain ⟨r32, hR, h⟩ := h
          refine ⟨0, 0, Nat.zero_le _, Nat.zero_le _, hR _ ?_⟩
          refine ⟨fun g => ?_, fun g => ?_⟩
          · have h := h.1 (g)
            refine ⟨fun g => ?_, fun g => ?_⟩
            · have h := h.1 (g)
              obtain ⟨r33, mi33, ml33, hR, h⟩ := h
              refine ⟨0, 0, Nat.zero_le _, Nat.zero_le _, hR _ ?_⟩
              refine ⟨fun g => ?_, fun g => ?_⟩
              · have h := h.1 (g)
                obtain ⟨r34, mi34, ml34, hR, h⟩ := h
                refine ⟨0, 0, Nat.zero_le _, Nat.zero_le _, hR _ ?_⟩
                refine ⟨fun g => ?_, fun g => ?_⟩
                · have h := h.1 (g)
                  refine ⟨Or.inl rfl, ?_⟩
                  exact h.use hQ
                · have h := h.2 (g)
                  obtain ⟨r35, mi35, ml35, hR, h⟩ := h
                  refine ⟨0, 0, Nat.zero_le _, Nat.zero_le _, hR _ ?_⟩
                  refine ⟨fun g => ?_, fun g => ?_⟩
                  · have h := h.1 (g)
                    obtain ⟨r36, mi36, ml36, hR, h⟩ := h
                    refine ⟨0, 0, Nat.zero_le _, Nat.zero_le _, hR _ ?_⟩
                    refine ⟨fun g => ?_, fun g => ?_⟩
                    · have h := h.1 (g)
                      refine ⟨Or.inl rfl, ?_⟩
                      exact h.use hQ
                    · have h := h.2 (g)
                      obtain ⟨r37, mi37, ml37, hR, h⟩ := h
                      refine ⟨0, 0, Nat.zero_le _, Nat.zero_le _, hR _ ?_⟩
                      refine ⟨fun g => ?_, fun g => ?_⟩
                      · have h := h.1 (g)
                        refine ⟨fun g => ?_, fun g => ?_⟩
                        · have h := h.1 (g)
                          obtain ⟨mi38, ml38, hR, h⟩ := h
                          refine ⟨0, 0, Nat.zero_le _, Nat.zero_le _, hR _ ?_⟩
                          refine ⟨Or.inr rfl, ?_⟩
                          exact h.use hQ
                        · have h := h.2 (g)
                          obtain ⟨mi39, ml39, hR, h⟩ := h
                          refine ⟨0, 0, Nat.zero_le _, Nat.zero_le _, hR _ ?_⟩
                          refine ⟨Or.inr rfl, ?_⟩
                          exact h.use hQ
                      · have h := h.2 (g)
                        refine ⟨Or.inl rfl, ?_⟩
                        exact h.use hQ
                  · have h := h.2 (g)
                    refine ⟨Or.inl rfl, ?_⟩
                    exact h.use hQ
              · have h := h.2 (g)
                refine ⟨Or.inl rfl, ?_⟩
                exact h.use hQ
            · have h := h.2 (g)
              obtain ⟨r40, mi40, ml40, hR, h⟩ := h
              refine ⟨0, 0, Nat.zero_le _, Nat.zero_le _, hR _ ?_⟩
              refine ⟨fun g => ?_, fun g => ?_⟩
              · have h := h.1 (g)
                refine ⟨Or.inl rfl, ?_⟩
                exact h.use hQ
              · have h := h.2 (g)
                obtain ⟨r41, mi41, ml41, hR, h⟩ := h
                refine ⟨0, 0, Nat.zero_le _, Nat.zero_le _, hR _ ?_⟩
                refine ⟨fun g => ?_, fun g => ?_⟩
                · have h := h.1 (g)
                  refine ⟨Or.inl rfl, ?_⟩
                  exact h.use hQ
                · have h := h.2 (g)
                  obtain ⟨r42, mi42, ml42, hR, h⟩ := h
                  refine ⟨0, 0, Nat.zero_le _, Nat.zero_le _, hR _ ?_⟩
                  refine ⟨fun g => ?_, fun g => ?_⟩
                  · have h := h.1 (g)
                    obtain ⟨r43, mi43, ml43, hR, h⟩ := h
                    refine ⟨0, 0, Nat.zero_le _, Nat.zero_le _, hR _ ?_⟩
                    refine ⟨fun g => ?_, fun g => ?_⟩
                    · have h := h.1 (g)
                      refine ⟨Or.inl rfl, ?_⟩
                      exact h.use hQ
                    · have h := h.2 (g)
                      obtain ⟨r44, mi44, ml44, hR, h⟩ := h
                      refine ⟨0, 0, Nat.zero_le _, Nat.zero_le _, hR _ ?_⟩
                      refine ⟨fun g => ?_, fun g => ?_⟩
                      · have h := h.1 (g)
                        refine ⟨fun g => ?_, fun g => ?_⟩
                        · have h := h.1 (g)
                          obtain ⟨mi45, ml45, hR, h⟩ := h
                          refine ⟨0, 0, Nat.zero_le _, Nat.zero_le _, hR _ ?_⟩
                          refine ⟨Or.inr rfl, ?_⟩
                          exact h.use hQ
                        · have h := h.2 (g)
                          obtain ⟨mi46, ml46, hR, h⟩ := h
                          refine ⟨0, 0, Nat.zero_le _, Nat.zero_le _, hR _ ?_⟩
                          refine ⟨Or.inr rfl, ?_⟩
                          exact h.use hQ
                      · have h := h.2 (g)
                        refine ⟨Or.inl rfl, ?_⟩
                        exact h.use hQ
                  · have h := h.2 (g)
                    refine ⟨Or.inl rfl, ?_⟩
                    exact h.use hQ
          · have h := h.2 (g)
            refine ⟨Or.inl rfl, ?_⟩
            refine ⟨Or.inl rfl, ?_⟩
            exact h.use hQ
    · have h := h.2 (g)
      obtain ⟨r47, mi47, ml47, hR, h⟩ := h
      refine ⟨0, 0, Nat.zero_le _, Nat.zero_le _, hR _ ?_⟩
      refine ⟨fun g => ?_, fun g => ?_⟩
      · have h := h.1 (g)
        obtain ⟨mi48, ml48, hR, h⟩ := h
        refine ⟨0, 0, Nat.zero_le _, Nat.zero_le _, hR _ ?_⟩
        refine ⟨fun g => ?_, fun g => ?_⟩
        · have h := h.1 (g)
          refine ⟨fun g => ?_, fun g => ?_⟩
          · have h := h.1 (g)
            obtain ⟨r49, mi49, ml49, hR, h⟩ := h
            refine ⟨0, 0, Nat.zero_le _, Nat.zero_le _, hR _ ?_⟩
            refine ⟨fun g => ?_, fun g => ?_⟩
            · have h := h.1 (g)
              obtain ⟨r50, mi50, ml50, hR, h⟩ := h
              refine ⟨0, 0, Nat.zero_le _, Nat.zero_le _, hR _ ?_⟩
              refine ⟨fun g => ?_, fun g => ?_⟩
              · have h := h.1 (g)
                refine ⟨Or.inl rfl, ?_⟩
                exact h.use hQ
              · have h := h.2 (g)
                obtain ⟨r51, mi51, ml51, hR, h⟩ := h
                refine ⟨0, 0, Nat.zero_le _, Nat.zero_le _, hR _ ?_⟩
                refine ⟨fun g => ?_, fun g => ?_⟩
                · have h := h.1 (g)
                  obtain ⟨r52, mi52, ml52, hR, h⟩ := h
                  refine ⟨0, 0, Nat.zero_le _, Nat.zero_le _, hR _ ?_⟩
                  refine ⟨fun g => ?_, fun g => ?_⟩
                  · have h := h.1 (g)
                    refine ⟨Or.inl rfl, ?_⟩
                    exact h.use hQ
                  · have h := h.2 (g)
                    obtain ⟨r53, mi53, ml53, hR, h⟩ := h
                    refine ⟨0, 0, Nat.zero_le _, Nat.zero_le _, hR _ ?_⟩
                    refine ⟨fun g => ?_, fun g => ?_⟩
                    · have h := h.1 (g)
                      refine ⟨fun g => ?_, fun g => ?_⟩
                      · have h := h.1 (g)
                        obtain ⟨mi54, ml54, hR, h⟩ := h
                        refine ⟨0, 0, Nat.zero_le _, Nat.zero_le _, hR _ ?_⟩
                        refine ⟨Or.inr rfl, ?_⟩
                        exact h.use hQ
                      · have h := h.2 (g)
                        obtain ⟨mi55, ml55, hR, h⟩ := h
                        refine ⟨0, 0, Nat.zero_le _, Nat.zero_le _, hR _ ?_⟩
                        refine ⟨Or.inr rfl, ?_⟩
                        exact h.use hQ
                    · have h := h.2 (g)
                      refine ⟨Or.inl rfl, ?_⟩
                      exact h.use hQ
                · have h := h.2 (g)
                  refine ⟨Or.inl rfl, ?_⟩
                  exact h.use hQ
            · have h := h.2 (g)
              refine ⟨Or.inl rfl, ?_⟩
              exact h.use hQ
          · have h := h.2 (g)
            obtain ⟨r56, mi56, ml56, hR, h⟩ := h
            refine ⟨0, 0, Nat.zero_le _, Nat.zero_le _, hR _ ?_⟩
            refine ⟨fun g => ?_, fun g => ?_⟩
            · have h := h.1 (g)
              refine ⟨Or.inl rfl, ?_⟩
              exact h.use hQ
            · have h := h.2 (g)
              obtain ⟨r57, mi57, ml57, hR, h⟩ := h
              refine ⟨0, 0, Nat.zero_le _, Nat.zero_le _, hR _ ?_⟩
              refine ⟨fun g => ?_, fun g => ?_⟩
              · have h := h.1 (g)
                refine ⟨Or.inl rfl, ?_⟩
                exact h.use hQ
              · have h := h.2 (g)
                obtain ⟨r58, mi58, ml58, hR, h⟩ := h
                refine ⟨0, 0, Nat.zero_le _, Nat.zero_le _, hR _ ?_⟩
                refine ⟨fun g => ?_, fun g => ?_⟩
                · have h := h.1 (g)
                  obtain ⟨r59, mi59, ml59, hR, h⟩ := h
                  refine ⟨0, 0, Nat.zero_le _, Nat.zero_le _, hR _ ?_⟩
                  refine ⟨fun g => ?_, fun g => ?_⟩
                  · have h := h.1 (g)
                    refine ⟨Or.inl rfl, ?_⟩
                    exact h.use hQ
                  · have h := h.2 (g)
                    obtain ⟨r60, mi60, ml60, hR, h⟩ := h
                    refine ⟨0, 0, Nat.zero_le _, Nat.zero_le _, hR _ ?_⟩
                    refine ⟨fun g => ?_, fun g => ?_⟩
                    · have h := h.1 (g)
                      refine ⟨fun g => ?_, fun g => ?_⟩
                      · have h := h.1 (g)
                        obtain ⟨mi61, ml61, hR, h⟩ := h
                        refine ⟨0, 0, Nat.zero_le _, Nat.zero_le _, hR _ ?_⟩
                        refine ⟨Or.inr rfl, ?_⟩
                        exact h.use hQ
                      · have h := h.2 (g)
                        obtain ⟨mi62, ml62, hR, h⟩ := h
                        refine ⟨0, 0, Nat.zero_le _, Nat.zero_le _, hR _ ?_⟩
                        refine ⟨Or.inr rfl, ?_⟩
                        exact h.use hQ
                    · have h := h.2 (g)
                      refine ⟨Or.inl rfl, ?_⟩
                      exact h.use hQ
                · have h := h.2 (g)
                  refine ⟨Or.inl rfl, ?_⟩
                  exact h.use hQ
        · have h := h.2 (g)
          refine ⟨fun g => ?_, fun g => ?_⟩
          · have h := h.1 (g)
            refine ⟨fun g => ?_, fun g => ?_⟩
            · have h := h.1 (g)
              obtain ⟨r63, mi63, ml63, hR, h⟩ := h
              refine ⟨0, 0, Nat.zero_le _, Nat.zero_le _, hR _ ?_⟩
              refine ⟨fun g => ?_, fun g => ?_⟩
              · have h := h.1 (g)
                obtain ⟨r64, mi64, ml64, hR, h⟩ := h
                refine ⟨0, 0, Nat.zero_le _, Nat.zero_le _, hR _ ?_⟩
                refine ⟨fun g => ?_, fun g => ?_⟩
                · have h := h.1 (g)
                  refine ⟨Or.inl rfl, ?_⟩
                  exact h.use hQ
                · have h := h.2 (g)
                  obtain ⟨r65, mi65, ml65, hR, h⟩ := h
                  refine ⟨0, 0, Nat.zero_le _, Nat.zero_le _, hR _ ?_⟩
                  refine ⟨fun g => ?_, fun g => ?_⟩
                  · have h := h.1 (g)
                    obtain ⟨r66, mi66, ml66, hR, h⟩ := h
                    refine ⟨0, 0, Nat.zero_le _, Nat.zero_le _, hR _ ?_⟩
                    refine ⟨fun g => ?_, fun g => ?_⟩
                    · have h := h.1 (g)
                      refine ⟨Or.inl rfl, ?_⟩
                      exact h.use hQ
                    · have h := h.2 (g)
                      obtain ⟨r67, mi67, ml67, hR, h⟩ := h
                      refine ⟨0, 0, Nat.zero_le _, Nat.zero_le _, hR _ ?_⟩
                      refine ⟨fun g => ?_, fun g => ?_⟩
                      · have h := h.1 (g)
                        refine ⟨fun g => ?_, fun g => ?_⟩
                        · have h := h.1 (g)
                          obtain ⟨mi68, ml68, hR, h⟩ := h
                          refine ⟨0, 0, Nat.zero_le _, Nat.zero_le _, hR _ ?_⟩
                          refine ⟨Or.inr rfl, ?_⟩
                          exact h.use hQ
                        · have h := h.2 (g)
                          obtain ⟨mi69, ml69, hR, h⟩ := h
                          refine ⟨0, 0, Nat.zero_le _, Nat.zero_le _, hR _ ?_⟩
                          refine ⟨Or.inr rfl, ?_⟩
                          exact h.use hQ
                      · have h := h.2 (g)
                        refine ⟨Or.inl rfl, ?_⟩
                        exact h.use hQ
                  · have h := h.2 (g)
                    refine ⟨Or.inl rfl, ?_⟩
                    exact h.use hQ
              · have h := h.2 (g)
                refine ⟨Or.inl rfl, ?_⟩
                exact h.use hQ
            · have h := h.2 (g)
              obtain ⟨r70, mi70, ml70, hR, h⟩ := h
              refine ⟨0, 0, Nat.zero_le _, Nat.zero_le _, hR _ ?_⟩
              refine ⟨fun g => ?_, fun g => ?_⟩
              · have h := h.1 (g)
                refine ⟨Or.inl rfl, ?_⟩
                exact h.use hQ
              · have h := h.2 (g)
                obtain ⟨r71, mi71, ml71, hR, h⟩ := h
                refine ⟨0, 0, Nat.zero_le _, Nat.zero_le _, hR _ ?_⟩
                refine ⟨fun g => ?_, fun g => ?_⟩
                · have h := h.1 (g)
                  refine ⟨Or.inl rfl, ?_⟩
                  exact h.use hQ
                · have h := h.2 (g)
                  obtain ⟨r72, mi72, ml72, hR, h⟩ := h
                  refine ⟨0, 0, Nat.zero_le _, Nat.zero_le _, hR _ ?_⟩
                  refine ⟨fun g => ?_, fun g => ?_⟩
                  · have h := h.1 (g)
                    obtain ⟨r73, mi73, ml73, hR, h⟩ := h
                    refine ⟨0, 0, Nat.zero_le _, Nat.zero_le _, hR _ ?_⟩
                    refine ⟨fun g => ?_, fun g => ?_⟩
                    · have h := h.1 (g)
                      refine ⟨Or.inl rfl, ?_⟩
                      exact h.use hQ
                    · have h := h.2 (g)
                      obtain ⟨r74, mi74, ml74, hR, h⟩ := h
                      refine ⟨0, 0, Nat.zero_le _, Nat.zero_le _, hR _ ?_⟩
                      refine ⟨fun g => ?_, fun g => ?_⟩
                      · have h := h.1 (g)
                        refine ⟨fun g => ?_, fun g => ?_⟩
                        · have h := h.1 (g)
                          obtain ⟨mi75, ml75, hR, h⟩ := h
                          refine ⟨0, 0, Nat.zero_le _, Nat.zero_le _, hR _ ?_⟩
                          refine ⟨Or.inr rfl, ?_⟩
                          exact h.use hQ
                        · have h := h.2 (g)
                          obtain ⟨mi76, ml76, hR, h⟩ := h
                          refine ⟨0, 0, Nat.zero_le _, Nat.zero_le _, hR _ ?_⟩
                          refine ⟨Or.inr rfl, ?_⟩
                          exact h.use hQ
                      · have h := h.2 (g)
                        refine ⟨Or.inl rfl, ?_⟩
                        exact h.use hQ
                  · have h := h.2 (g)
                    refine ⟨Or.inl rfl, ?_⟩
                    exact h.use hQ
          · have h := h.2 (g)
            obtain ⟨r77, hR, h⟩ := h
            refine ⟨0, 0, Nat.zero_le _, Nat.zero_le _, hR _ ?_⟩
            refine ⟨fun g => ?_, fun g => ?_⟩
            · have h := h.1 (g)
              refine ⟨fun g => ?_, fun g => ?_⟩
              · have h := h.1 (g)
                obtain ⟨r78, mi78, ml78, hR, h⟩ := h
                refine ⟨0, 0, Nat.zero_le _, Nat.zero_le _, hR _ ?_⟩
                refine ⟨fun g => ?_, fun g => ?_⟩
                · have h := h.1 (g)
                  obtain ⟨r79, mi79, ml79, hR, h⟩ := h
                  refine ⟨0, 0, Nat.zero_le _, Nat.zero_le _, hR _ ?_⟩
                  refine ⟨fun g => ?_, fun g => ?_⟩
                  · have h := h.1 (g)
                    refine ⟨Or.inl rfl, ?_⟩
                    exact h.use hQ
                  · have h := h.2 (g)
                    obtain ⟨r80, mi80, ml80, hR, h⟩ := h
                    refine ⟨0, 0, Nat.zero_le _, Nat.zero_le _, hR _ ?_⟩
                    refine ⟨fun g => ?_, fun g => ?_⟩
                    · have h := h.1 (g)
                      obtain ⟨r81, mi81, ml81, hR, h⟩ := h
                      refine ⟨0, 0, Nat.zero_le _, Nat.zero_le _, hR _ ?_⟩
                      refine ⟨fun g => ?_, fun g => ?_⟩
                      · have h := h.1 (g)
                        refine ⟨Or.inl rfl, ?_⟩
                        exact h.use hQ
                      · have h := h.2 (g)
                        obtain ⟨r82, mi82, ml82, hR, h⟩ := h
                        refine ⟨0, 0, Nat.zero_le _, Nat.zero_le _, hR _ ?_⟩
                        refine ⟨fun g => ?_, fun g => ?_⟩
                        · have h := h.1 (g)
                          refine ⟨fun g => ?_, fun g => ?_⟩
                          · have h := h.1 (g)
                            obtain ⟨mi83, ml83, hR, h⟩ := h
                            refine ⟨0, 0, Nat.zero_le _, Nat.zero_le _, hR _ ?_⟩
                            refine ⟨Or.inr rfl, ?_⟩
                            exact h.use hQ
                          · have h := h.2 (g)
                            obtain ⟨mi84, ml84, hR, h⟩ := h
                            refine ⟨0, 0, Nat.zero_le _, Nat.zero_le _, hR _ ?_⟩
                            refine ⟨Or.inr rfl, ?_⟩
                            exact h.use hQ
                        · have h := h.2 (g)
                          refine ⟨Or.inl rfl, ?_⟩
                          exact h.use hQ
                    · have h := h.2 (g)
                      refine ⟨Or.inl rfl, ?_⟩
                      exact h.use hQ
                · have h := h.2 (g)
                  refine ⟨Or.inl rfl, ?_⟩
                  exact h.use hQ
              · have h := h.2 (g)
                obtain ⟨r85, mi85, ml85, hR, h⟩ := h
                refine ⟨0, 0, Nat.zero_le _, Nat.zero_le _, hR _ ?_⟩
                refine ⟨fun g => ?_, fun g => ?_⟩
                · have h := h.1 (g)
                  refine ⟨Or.inl rfl, ?_⟩
                  exact h.use hQ
                · have h := h.2 (g)
                  obtain ⟨r86, mi86, ml86, hR, h⟩ := h
                  refine ⟨0, 0, Nat.zero_le _, Nat.zero_le _, hR _ ?_⟩
                  refine ⟨fun g => ?_, fun g => ?_⟩
                  · have h := h.1 (g)
                    refine ⟨Or.inl rfl, ?_⟩
                    exact h.use hQ
                  · have h := h.2 (g)
                    obtain ⟨r87, mi87, ml87, hR, h⟩ := h
                    refine ⟨0, 0, Nat.zero_le _, Nat.zero_le _, hR _ ?_⟩
                    refine ⟨fun g => ?_, fun g => ?_⟩
                    · have h := h.1 (g)
                      obtain ⟨r88, mi88, ml88, hR, h⟩ := h
                      refine ⟨0, 0, Nat.zero_le _, Nat.zero_le _, hR _ ?_⟩
                      refine ⟨fun g => ?_, fun g => ?_⟩
                      · have h := h.1 (g)
                        refine ⟨Or.inl rfl, ?_⟩
                        exact h.use hQ
                      · have h := h.2 (g)
                        obtain ⟨r89, mi89, ml89, hR, h⟩ := h
                        refine ⟨0, 0, Nat.zero_le _, Nat.zero_le _, hR _ ?_⟩
                        refine ⟨fun g => ?_, fun g => ?_⟩
                        · have h := h.1 (g)
                          refine ⟨fun g => ?_, fun g => ?_⟩
                          · have h := h.1 (g)
                            obtain ⟨mi90, ml90, hR, h⟩ := h
                            refine ⟨0, 0, Nat.zero_le _, Nat.zero_le _, hR _ ?_⟩
                            refine ⟨Or.inr rfl, ?_⟩
                            exact h.use hQ
                          · have h := h.2 (g)
                            obtain ⟨mi91, ml91, hR, h⟩ := h
                            refine ⟨0, 0, Nat.zero_le _, Nat.zero_le _, hR _ ?_⟩
                            refine ⟨Or.inr rfl, ?_⟩
                            exact h.use hQ
                        · have h := h.2 (g)
                          refine ⟨Or.inl rfl, ?_⟩
                          exact h.use hQ
                    · have h := h.2 (g)
                      refine ⟨Or.inl rfl, ?_⟩
                      exact h.use hQ
            · have h := h.2 (g)
              refine ⟨Or.inl rfl, ?_⟩
              refine ⟨Or.inl rfl, ?_⟩
              exact h.use hQ
      · have h := h.2 (g)
        refine ⟨Or.inl rfl, ?_⟩
        refine ⟨Or.inl rfl, ?_⟩
        exact h.use hQ
theorem g_rd_isPrimeOfBench_0 {nb db : Nat} {rs : RX} {c : Nat} {mi mi' : MI} {ml ml' : ML} {rv : Option AV} {a0 : Int32}
    (h : Go m_rd_isPrimeOfBench 9 [some (vI a0), some (vR 101 6 0), some (vI (nI 6)), some (vI (nI 0)), none] [] rv c (MRc nb db (some (0, 800, 3)) rs) mi ml mi' ml') :
    Ret m_rd_isPrimeOfBench [(vI a0)] rv c (MRc nb db (some (0, 800, 3)) rs) mi ml mi' ml' := by
  intro Q hQ
  refine ok_wq inlT 400 rfl rfl ?_
  exact h Q hQ
theorem g_rd_isPrimeOfBench_9 {nb db : Nat} {rs : RX} {c : Nat} {mi mi' : MI} {ml ml' : ML} {rv : Option AV} {l0 : Int32} {l2 : Int32} {l3 : Int32}
    (h : (l2 ≤ l3 → (Fin (some (vI (nI 0))) mi ml rv mi' ml')) ∧ (¬ l2 ≤ l3 → (vp_in l3 6 ∧ ((¬ (prC l3.toNatClampNeg) = l0 → (Go m_rd_isPrimeOfBench 9 [some (vI l0), some (vR 101 6 0), some (vI l2), some (vI (l3 + nI 1)), none] [] rv c (MRc nb db (some (0, 800, 3)) rs) mi ml mi' ml')) ∧ ((prC l3.toNatClampNeg) = l0 → (Fin (some (vI (nI 1))) mi ml rv mi' ml')))))) :
    Go m_rd_isPrimeOfBench 9 [some (vI l0), some (vR 101 6 0), some (vI l2), some (vI l3), none] [] rv c (MRc nb db (some (0, 800, 3)) rs) mi ml mi' ml' := by
  intro Q hQ
  refine at_wq inlT 400 rfl ?_
  refine ⟨fun g => ?_, fun g => ?_⟩
  · have h := h.1 (g)
    refine ⟨Or.inl rfl, ?_⟩
    exact h.use hQ
  · have h := h.2 (g)
    refine ⟨h.1, ?_⟩
    have h := h.2
    refine ⟨fun g => ?_, fun g => ?_⟩
    · have h := h.1 (g)
      exact At.wk (h Q hQ) ⟨rfl, rfl, rfl, rfl, trivial⟩
    · have h := h.2 (g)
      refine ⟨Or.inr rfl, ?_⟩
      exact h.use hQ
theorem g_rd_takeLight_0 {nb db : Nat} {rs : RX} {c : Nat} {mi mi' : MI} {ml ml' : ML} {rv : Option AV}  (hb : nb = 43 ∧ db = 5 ∨ nb = 5 ∧ db = 43)
    (h : ∃ (mi1 : MI) (ml1 : ML), Ret m_rd_next [(vR 12 0 4)] none c (MRc nb db (some (0, 800, 3)) rs) mi ml mi1 ml1 ∧ (∃ (r2 : Int32) (mi2 : MI) (ml2 : ML), Ret m_rd_takeNew [(vR 12 0 4), (vI (mi1 4 10))] (some (vI r2)) c (MRc nb db (some (0, 800, 3)) rs) mi1 ml1 mi2 ml2 ∧ ((¬ r2 = 0 → (∃ (r3 : Int32) (mi3 : MI) (ml3 : ML), Ret m_rd_takeWhole [(vR 12 0 4), (vI (nI 0)), (vI (nI 9999))] (some (vI r3)) c (MRc nb db (some (0, 800, 3)) rs) (u2 mi2 4 10 ((mi2 4 10) ||| ((nI 1) <<< ((mi2 4 9) &&& 31)))) ml2 mi3 ml3 ∧ ((¬ r3 = 0 → (vp_in (mi2 4 9) 31 ∧ (Fin (some (vI (nI 1))) (u2 mi3 (db + 2) (mi2 4 9).toNatClampNeg (mi3 4 9)) ml3 rv mi' ml'))) ∧ (r3 = 0 → (Fin (some (vI (nI 0))) mi3 ml3 rv mi' ml'))))) ∧ (r2 = 0 → (Fin (some (vI (nI 0))) mi2 ml2 rv mi' ml'))))) :
    Ret m_rd_takeLight [(vR 12 0 4)] rv c (MRc nb db (some (0, 800, 3)) rs) mi ml mi' ml' := by
  rcases hb with ⟨rfl, rfl⟩ | ⟨rfl, rfl⟩
  all_goals
    intro Q hQ
    refine ok_wq inlT 400 rfl rfl ?_
    obtain ⟨mi1, ml1, hR, h⟩ := h
    refine ⟨0, 0, Nat.zero_le _, Nat.zero_le _, hR _ ?_⟩
    obtain ⟨r2, mi2, ml2, hR, h⟩ := h
    refine ⟨0, 0, Nat.zero_le _, Nat.zero_le _, hR _ ?_⟩
    refine ⟨fun g => ?_, fun g => ?_⟩
    · have h := h.1 (g)
      obtain ⟨r3, mi3, ml3, hR, h⟩ := h
      refine ⟨0, 0, Nat.zero_le _, Nat.zero_le _, hR _ ?_⟩
      refine ⟨fun g => ?_, fun g => ?_⟩
      · have h := h.1 (g)
        refine ⟨h.1, ?_⟩
        have h := h.2
        refine ⟨Or.inr rfl, ?_⟩
        exact h.use hQ
      · have h := h.2 (g)
        refine ⟨Or.inl rfl, ?_⟩
        exact h.use hQ
    · have h := h.2 (g)
      refine ⟨Or.inl rfl, ?_⟩
      exact h.use hQ
theorem g_rd_takeStuck_0 {nb db : Nat} {rs : RX} {c : Nat} {mi mi' : MI} {ml ml' : ML} {rv : Option AV}  (hb : nb = 43 ∧ db = 5 ∨ nb = 5 ∧ db = 43)
    (h : ∃ (r1 : Int32), Ret m_ji_bitCount [(vI ((mi db 5) ||| (mi db 6)))] (some (vI r1)) c (MRc nb db (some (0, 800, 3)) rs) mi ml mi ml ∧ ((r1 < (nI 3) → (∃ (mi2 : MI) (ml2 : ML), Ret m_rd_next [(vR 12 0 4)] none c (MRc nb db (some (0, 800, 3)) rs) mi ml mi2 ml2 ∧ (∃ (r3 : Int32) (mi3 : MI) (ml3 : ML), Ret m_rd_takeNew [(vR 12 0 4), (vI ((mi db 5) ||| (mi db 6)))] (some (vI r3)) c (MRc nb db (some (0, 800, 3)) rs) mi2 ml2 mi3 ml3 ∧ ((¬ r3 = 0 → (∃ (r4 : Int32) (mi4 : MI) (ml4 : ML), Ret m_rd_isWord [(vR 12 0 4), (vR 100 0 11)] (some (vI r4)) c (MRc nb db (some (0, 800, 3)) rs) mi3 ml3 mi4 ml4 ∧ ((¬ r4 = 0 → ((r4 = 0 → (∃ (mi5 : MI) (ml5 : ML), Ret m_rd_next [(vR 12 0 4)] none c (MRc nb db (some (0, 800, 3)) rs) (u2 (u2 (u2 mi4 db 5 ((mi4 db 5) &&& (((nI 1) <<< ((mi4 4 9) &&& 31)) ^^^ (-(nI 1))))) db 6 ((mi4 db 6) &&& (((nI 1) <<< ((mi4 4 9) &&& 31)) ^^^ (-(nI 1))))) db 6 (((mi4 db 6) &&& (((nI 1) <<< ((mi4 4 9) &&& 31)) ^^^ (-(nI 1)))) ||| ((nI 1) <<< ((mi4 4 9) &&& 31)))) ml4 mi5 ml5 ∧ (Fin (some (vI (nI 1))) mi5 ml5 rv mi' ml'))) ∧ (¬ r4 = 0 → (∃ (mi6 : MI) (ml6 : ML), Ret m_rd_next [(vR 12 0 4)] none c (MRc nb db (some (0, 800, 3)) rs) (u2 (u2 (u2 mi4 db 5 ((mi4 db 5) &&& (((nI 1) <<< ((mi4 4 9) &&& 31)) ^^^ (-(nI 1))))) db 6 ((mi4 db 6) &&& (((nI 1) <<< ((mi4 4 9) &&& 31)) ^^^ (-(nI 1))))) db 5 (((mi4 db 5) &&& (((nI 1) <<< ((mi4 4 9) &&& 31)) ^^^ (-(nI 1)))) ||| ((nI 1) <<< ((mi4 4 9) &&& 31)))) ml4 mi6 ml6 ∧ (Fin (some (vI (nI 1))) mi6 ml6 rv mi' ml'))))) ∧ (r4 = 0 → (∃ (r7 : Int32) (mi7 : MI) (ml7 : ML), Ret m_rd_isWord [(vR 12 0 4), (vR 100 0 12)] (some (vI r7)) c (MRc nb db (some (0, 800, 3)) rs) mi4 ml4 mi7 ml7 ∧ ((¬ r7 = 0 → ((r4 = 0 → (∃ (mi8 : MI) (ml8 : ML), Ret m_rd_next [(vR 12 0 4)] none c (MRc nb db (some (0, 800, 3)) rs) (u2 (u2 (u2 mi7 db 5 ((mi7 db 5) &&& (((nI 1) <<< ((mi7 4 9) &&& 31)) ^^^ (-(nI 1))))) db 6 ((mi7 db 6) &&& (((nI 1) <<< ((mi7 4 9) &&& 31)) ^^^ (-(nI 1))))) db 6 (((mi7 db 6) &&& (((nI 1) <<< ((mi7 4 9) &&& 31)) ^^^ (-(nI 1)))) ||| ((nI 1) <<< ((mi7 4 9) &&& 31)))) ml7 mi8 ml8 ∧ (Fin (some (vI (nI 1))) mi8 ml8 rv mi' ml'))) ∧ (¬ r4 = 0 → (∃ (mi9 : MI) (ml9 : ML), Ret m_rd_next [(vR 12 0 4)] none c (MRc nb db (some (0, 800, 3)) rs) (u2 (u2 (u2 mi7 db 5 ((mi7 db 5) &&& (((nI 1) <<< ((mi7 4 9) &&& 31)) ^^^ (-(nI 1))))) db 6 ((mi7 db 6) &&& (((nI 1) <<< ((mi7 4 9) &&& 31)) ^^^ (-(nI 1))))) db 5 (((mi7 db 5) &&& (((nI 1) <<< ((mi7 4 9) &&& 31)) ^^^ (-(nI 1)))) ||| ((nI 1) <<< ((mi7 4 9) &&& 31)))) ml7 mi9 ml9 ∧ (Fin (some (vI (nI 1))) mi9 ml9 rv mi' ml'))))) ∧ (r7 = 0 → (Fin (some (vI (nI 0))) (u2 (u2 mi7 4 0 (nI 1)) 4 1 (mi7 4 6)) ml7 rv mi' ml')))))))) ∧ (r3 = 0 → (Fin (some (vI (nI 0))) mi3 ml3 rv mi' ml')))))) ∧ (¬ r1 < (nI 3) → (Fin (some (vI (nI 0))) (u2 (u2 mi 4 0 (nI 4)) 4 1 (mi 4 6)) ml rv mi' ml')))) :
    Ret m_rd_takeStuck [(vR 12 0 4)] rv c (MRc nb db (some (0, 800, 3)) rs) mi ml mi' ml' := by
  rcases hb with ⟨rfl, rfl⟩ | ⟨rfl, rfl⟩
  all_goals
    intro Q hQ
    refine ok_wq inlT 400 rfl rfl ?_
    obtain ⟨r1, hR, h⟩ := h
    refine ⟨0, 0, Nat.zero_le _, Nat.zero_le _, hR _ ?_⟩
    refine ⟨fun g => ?_, fun g => ?_⟩
    · have h := h.1 (g)
      obtain ⟨mi2, ml2, hR, h⟩ := h
      refine ⟨0, 0, Nat.zero_le _, Nat.zero_le _, hR _ ?_⟩
      obtain ⟨r3, mi3, ml3, hR, h⟩ := h
      refine ⟨0, 0, Nat.zero_le _, Nat.zero_le _, hR _ ?_⟩
      refine ⟨fun g => ?_, fun g => ?_⟩
      · have h := h.1 (g)
        obtain ⟨r4, mi4, ml4, hR, h⟩ := h
        refine ⟨0, 0, Nat.zero_le _, Nat.zero_le _, hR _ ?_⟩
        refine ⟨fun g => ?_, fun g => ?_⟩
        · have h := h.1 (g)
          refine ⟨fun g => ?_, fun g => ?_⟩
          · have h := h.1 (g)
            refine ⟨fun _ => ?_, fun g => absurd g (by decide)⟩
            refine ⟨fun g => absurd g (by decide), fun _ => ?_⟩
            obtain ⟨mi5, ml5, hR, h⟩ := h
            refine ⟨0, 0, Nat.zero_le _, Nat.zero_le _, hR _ ?_⟩
            refine ⟨Or.inr rfl, ?_⟩
            exact h.use hQ
          · have h := h.2 (g)
            refine ⟨fun g => absurd g (by decide), fun _ => ?_⟩
            refine ⟨fun _ => ?_, fun g => absurd g (by decide)⟩
            obtain ⟨mi6, ml6, hR, h⟩ := h
            refine ⟨0, 0, Nat.zero_le _, Nat.zero_le _, hR _ ?_⟩
            refine ⟨Or.inr rfl, ?_⟩
            exact h.use hQ
        · have h := h.2 (g)
          obtain ⟨r7, mi7, ml7, hR, h⟩ := h
          refine ⟨0, 0, Nat.zero_le _, Nat.zero_le _, hR _ ?_⟩
          refine ⟨fun g => ?_, fun g => ?_⟩
          · have h := h.1 (g)
            refine ⟨fun g => ?_, fun g => ?_⟩
            · have h := h.1 (g)
              refine ⟨fun _ => ?_, fun g => absurd g (by decide)⟩
              refine ⟨fun g => absurd g (by decide), fun _ => ?_⟩
              obtain ⟨mi8, ml8, hR, h⟩ := h
              refine ⟨0, 0, Nat.zero_le _, Nat.zero_le _, hR _ ?_⟩
              refine ⟨Or.inr rfl, ?_⟩
              exact h.use hQ
            · have h := h.2 (g)
              refine ⟨fun g => absurd g (by decide), fun _ => ?_⟩
              refine ⟨fun _ => ?_, fun g => absurd g (by decide)⟩
              obtain ⟨mi9, ml9, hR, h⟩ := h
              refine ⟨0, 0, Nat.zero_le _, Nat.zero_le _, hR _ ?_⟩
              refine ⟨Or.inr rfl, ?_⟩
              exact h.use hQ
          · have h := h.2 (g)
            refine ⟨Or.inl rfl, ?_⟩
            refine ⟨Or.inl rfl, ?_⟩
            exact h.use hQ
      · have h := h.2 (g)
        refine ⟨Or.inl rfl, ?_⟩
        exact h.use hQ
    · have h := h.2 (g)
      refine ⟨Or.inl rfl, ?_⟩
      refine ⟨Or.inl rfl, ?_⟩
      exact h.use hQ
theorem g_rd_takeNoise_0 {nb db : Nat} {rs : RX} {c : Nat} {mi mi' : MI} {ml ml' : ML} {rv : Option AV}  (hb : nb = 43 ∧ db = 5 ∨ nb = 5 ∧ db = 43)
    (h : ∃ (r1 : Int32), Ret m_ji_bitCount [(vI (mi 4 11))] (some (vI r1)) c (MRc nb db (some (0, 800, 3)) rs) mi ml mi ml ∧ ((r1 < (nI 8) → (∃ (mi2 : MI) (ml2 : ML), Ret m_rd_next [(vR 12 0 4)] none c (MRc nb db (some (0, 800, 3)) rs) mi ml mi2 ml2 ∧ (∃ (r3 : Int32) (mi3 : MI) (ml3 : ML), Ret m_rd_takeNew [(vR 12 0 4), (vI (mi2 4 11))] (some (vI r3)) c (MRc nb db (some (0, 800, 3)) rs) mi2 ml2 mi3 ml3 ∧ ((¬ r3 = 0 → (∃ (r4 : Int32) (mi4 : MI) (ml4 : ML), Ret m_rd_isWord [(vR 12 0 4), (vR 100 0 13)] (some (vI r4)) c (MRc nb db (some (0, 800, 3)) rs) (u2 mi3 4 11 ((mi3 4 11) ||| ((nI 1) <<< ((mi3 4 9) &&& 31)))) ml3 mi4 ml4 ∧ ((¬ r4 = 0 → (∃ (mi5 : MI) (ml5 : ML), Ret m_rd_next [(vR 12 0 4)] none c (MRc nb db (some (0, 800, 3)) rs) mi4 ml4 mi5 ml5 ∧ (∃ (r6 : Int32) (mi6 : MI) (ml6 : ML), Ret m_rd_takeWhole [(vR 12 0 4), (vI (nI 1)), (vI (nI 99))] (some (vI r6)) c (MRc nb db (some (0, 800, 3)) rs) mi5 ml5 mi6 ml6 ∧ ((¬ r6 = 0 → ((r4 = 0 → (vp_in (mi3 4 9) 31 ∧ (Fin (some (vI (nI 1))) (u2 mi6 (db + 3) (mi3 4 9).toNatClampNeg (-(mi6 4 9))) ml6 rv mi' ml'))) ∧ (¬ r4 = 0 → (vp_in (mi3 4 9) 31 ∧ (Fin (some (vI (nI 1))) (u2 mi6 (db + 3) (mi3 4 9).toNatClampNeg (mi6 4 9)) ml6 rv mi' ml'))))) ∧ (r6 = 0 → (Fin (some (vI (nI 0))) mi6 ml6 rv mi' ml')))))) ∧ (r4 = 0 → (∃ (r7 : Int32) (mi7 : MI) (ml7 : ML), Ret m_rd_isWord [(vR 12 0 4), (vR 100 0 14)] (some (vI r7)) c (MRc nb db (some (0, 800, 3)) rs) mi4 ml4 mi7 ml7 ∧ ((¬ r7 = 0 → (∃ (mi8 : MI) (ml8 : ML), Ret m_rd_next [(vR 12 0 4)] none c (MRc nb db (some (0, 800, 3)) rs) mi7 ml7 mi8 ml8 ∧ (∃ (r9 : Int32) (mi9 : MI) (ml9 : ML), Ret m_rd_takeWhole [(vR 12 0 4), (vI (nI 1)), (vI (nI 99))] (some (vI r9)) c (MRc nb db (some (0, 800, 3)) rs) mi8 ml8 mi9 ml9 ∧ ((¬ r9 = 0 → ((r4 = 0 → (vp_in (mi3 4 9) 31 ∧ (Fin (some (vI (nI 1))) (u2 mi9 (db + 3) (mi3 4 9).toNatClampNeg (-(mi9 4 9))) ml9 rv mi' ml'))) ∧ (¬ r4 = 0 → (vp_in (mi3 4 9) 31 ∧ (Fin (some (vI (nI 1))) (u2 mi9 (db + 3) (mi3 4 9).toNatClampNeg (mi9 4 9)) ml9 rv mi' ml'))))) ∧ (r9 = 0 → (Fin (some (vI (nI 0))) mi9 ml9 rv mi' ml')))))) ∧ (r7 = 0 → (Fin (some (vI (nI 0))) (u2 (u2 mi7 4 0 (nI 1)) 4 1 (mi7 4 6)) ml7 rv mi' ml')))))))) ∧ (r3 = 0 → (Fin (some (vI (nI 0))) mi3 ml3 rv mi' ml')))))) ∧ (¬ r1 < (nI 8) → (Fin (some (vI (nI 0))) (u2 (u2 mi 4 0 (nI 4)) 4 1 (mi 4 6)) ml rv mi' ml')))) :
    Ret m_rd_takeNoise [(vR 12 0 4)] rv c (MRc nb db (some (0, 800, 3)) rs) mi ml mi' ml' := by
  rcases hb with ⟨rfl, rfl⟩ | ⟨rfl, rfl⟩
  all_goals
    intro Q hQ
    refine ok_wq inlT 400 rfl rfl ?_
    obtain ⟨r1, hR, h⟩ := h
    refine ⟨0, 0, Nat.zero_le _, Nat.zero_le _, hR _ ?_⟩
    refine ⟨fun g => ?_, fun g => ?_⟩
    · have h := h.1 (g)
      obtain ⟨mi2, ml2, hR, h⟩ := h
      refine ⟨0, 0, Nat.zero_le _, Nat.zero_le _, hR _ ?_⟩
      obtain ⟨r3, mi3, ml3, hR, h⟩ := h
      refine ⟨0, 0, Nat.zero_le _, Nat.zero_le _, hR _ ?_⟩
      refine ⟨fun g => ?_, fun g => ?_⟩
      · have h := h.1 (g)
        obtain ⟨r4, mi4, ml4, hR, h⟩ := h
        refine ⟨0, 0, Nat.zero_le _, Nat.zero_le _, hR _ ?_⟩
        refine ⟨fun g => ?_, fun g => ?_⟩
        · have h := h.1 (g)
          obtain ⟨mi5, ml5, hR, h⟩ := h
          refine ⟨0, 0, Nat.zero_le _, Nat.zero_le _, hR _ ?_⟩
          obtain ⟨r6, mi6, ml6, hR, h⟩ := h
          refine ⟨0, 0, Nat.zero_le _, Nat.zero_le _, hR _ ?_⟩
          refine ⟨fun g => ?_, fun g => ?_⟩
          · have h := h.1 (g)
            refine ⟨fun g => ?_, fun g => ?_⟩
            · have h := h.1 (g)
              refine ⟨h.1, ?_⟩
              have h := h.2
              refine ⟨Or.inr rfl, ?_⟩
              exact h.use hQ
            · have h := h.2 (g)
              refine ⟨h.1, ?_⟩
              have h := h.2
              refine ⟨Or.inr rfl, ?_⟩
              exact h.use hQ
          · have h := h.2 (g)
            refine ⟨Or.inl rfl, ?_⟩
            exact h.use hQ
        · have h := h.2 (g)
          obtain ⟨r7, mi7, ml7, hR, h⟩ := h
          refine ⟨0, 0, Nat.zero_le _, Nat.zero_le _, hR _ ?_⟩
          refine ⟨fun g => ?_, fun g => ?_⟩
          · have h := h.1 (g)
            obtain ⟨mi8, ml8, hR, h⟩ := h
            refine ⟨0, 0, Nat.zero_le _, Nat.zero_le _, hR _ ?_⟩
            obtain ⟨r9, mi9, ml9, hR, h⟩ := h
            refine ⟨0, 0, Nat.zero_le _, Nat.zero_le _, hR _ ?_⟩
            refine ⟨fun g => ?_, fun g => ?_⟩
            · have h := h.1 (g)
              refine ⟨fun g => ?_, fun g => ?_⟩
              · have h := h.1 (g)
                refine ⟨h.1, ?_⟩
                have h := h.2
                refine ⟨Or.inr rfl, ?_⟩
                exact h.use hQ
              · have h := h.2 (g)
                refine ⟨h.1, ?_⟩
                have h := h.2
                refine ⟨Or.inr rfl, ?_⟩
                exact h.use hQ
            · have h := h.2 (g)
              refine ⟨Or.inl rfl, ?_⟩
              exact h.use hQ
          · have h := h.2 (g)
            refine ⟨Or.inl rfl, ?_⟩
            refine ⟨Or.inl rfl, ?_⟩
            exact h.use hQ
      · have h := h.2 (g)
        refine ⟨Or.inl rfl, ?_⟩
        exact h.use hQ
    · have h := h.2 (g)
      refine ⟨Or.inl rfl, ?_⟩
      refine ⟨Or.inl rfl, ?_⟩
      exact h.use hQ
theorem g_rd_takeLost_0 {nb db : Nat} {rs : RX} {c : Nat} {mi mi' : MI} {ml ml' : ML} {rv : Option AV}  (hb : nb = 43 ∧ db = 5 ∨ nb = 5 ∧ db = 43)
    (h : ∃ (r1 : Int32), Ret m_bn_lostCount [(vR 13 0 db)] (some (vI r1)) c (MRc nb db (some (0, 800, 3)) rs) mi ml mi ml ∧ ((r1 < (nI 3) → (∃ (mi2 : MI) (ml2 : ML), Ret m_rd_next [(vR 12 0 4)] none c (MRc nb db (some (0, 800, 3)) rs) mi ml mi2 ml2 ∧ (∃ (r3 : Int32) (mi3 : MI) (ml3 : ML), Ret m_rd_takeNew [(vR 12 0 4), (vI (mi2 db 7))] (some (vI r3)) c (MRc nb db (some (0, 800, 3)) rs) mi2 ml2 mi3 ml3 ∧ ((¬ r3 = 0 → (Fin (some (vI (nI 1))) (u2 mi3 db 7 ((mi3 db 7) ||| ((nI 1) <<< ((mi3 4 9) &&& 31)))) ml3 rv mi' ml')) ∧ (r3 = 0 → (Fin (some (vI (nI 0))) mi3 ml3 rv mi' ml')))))) ∧ (¬ r1 < (nI 3) → (Fin (some (vI (nI 0))) (u2 (u2 mi 4 0 (nI 4)) 4 1 (mi 4 6)) ml rv mi' ml')))) :
    Ret m_rd_takeLost [(vR 12 0 4)] rv c (MRc nb db (some (0, 800, 3)) rs) mi ml mi' ml' := by
  rcases hb with ⟨rfl, rfl⟩ | ⟨rfl, rfl⟩
  all_goals
    intro Q hQ
    refine ok_wq inlT 400 rfl rfl ?_
    obtain ⟨r1, hR, h⟩ := h
    refine ⟨0, 0, Nat.zero_le _, Nat.zero_le _, hR _ ?_⟩
    refine ⟨fun g => ?_, fun g => ?_⟩
    · have h := h.1 (g)
      obtain ⟨mi2, ml2, hR, h⟩ := h
      refine ⟨0, 0, Nat.zero_le _, Nat.zero_le _, hR _ ?_⟩
      obtain ⟨r3, mi3, ml3, hR, h⟩ := h
      refine ⟨0, 0, Nat.zero_le _, Nat.zero_le _, hR _ ?_⟩
      refine ⟨fun g => ?_, fun g => ?_⟩
      · have h := h.1 (g)
        refine ⟨Or.inr rfl, ?_⟩
        exact h.use hQ
      · have h := h.2 (g)
        refine ⟨Or.inl rfl, ?_⟩
        exact h.use hQ
    · have h := h.2 (g)
      refine ⟨Or.inl rfl, ?_⟩
      refine ⟨Or.inl rfl, ?_⟩
      exact h.use hQ
theorem g_rd_takeMask_0 {nb db : Nat} {rs : RX} {c : Nat} {mi mi' : MI} {ml ml' : ML} {rv : Option AV}  (hb : nb = 43 ∧ db = 5 ∨ nb = 5 ∧ db = 43)
    (h : ((mi db 4) < (nI 12) → (∃ (mi1 : MI) (ml1 : ML), Ret m_rd_next [(vR 12 0 4)] none c (MRc nb db (some (0, 800, 3)) rs) mi ml mi1 ml1 ∧ (Go m_rd_takeMask 26 [some (vR 12 0 4), some (vI (nI 0)), some (vI (nI 0))] [] rv c (MRc nb db (some (0, 800, 3)) rs) mi1 ml1 mi' ml'))) ∧ (¬ (mi db 4) < (nI 12) → (Fin (some (vI (nI 0))) (u2 (u2 mi 4 0 (nI 4)) 4 1 (mi 4 6)) ml rv mi' ml'))) :
    Ret m_rd_takeMask [(vR 12 0 4)] rv c (MRc nb db (some (0, 800, 3)) rs) mi ml mi' ml' := by
  rcases hb with ⟨rfl, rfl⟩ | ⟨rfl, rfl⟩
  all_goals
    intro Q hQ
    refine ok_wq inlT 400 rfl rfl ?_
    refine ⟨fun g => ?_, fun g => ?_⟩
    · have h := h.1 (g)
      obtain ⟨mi1, ml1, hR, h⟩ := h
      refine ⟨0, 0, Nat.zero_le _, Nat.zero_le _, hR _ ?_⟩
      exact h Q hQ
    · have h := h.2 (g)
      refine ⟨Or.inl rfl, ?_⟩
      refine ⟨Or.inl rfl, ?_⟩
      exact h.use hQ
theorem g_rd_takeMask_26 {nb db : Nat} {rs : RX} {c : Nat} {mi mi' : MI} {ml ml' : ML} {rv : Option AV} {l1 : Int32} {l2 : Int32} (hb : nb = 43 ∧ db = 5 ∨ nb = 5 ∧ db = 43)
    (h : ((nI 31) < l2 → (vp_in (mi db 4) 12 ∧ (Fin (some (vI (nI 1))) (u2 (u2 mi (db + 4) (mi db 4).toNatClampNeg l1) db 4 ((mi db 4) + (nI 1))) ml rv mi' ml'))) ∧ (¬ (nI 31) < l2 → ((l1 = 0 → (∃ (r1 : Int32) (mi1 : MI) (ml1 : ML), Ret m_rd_takeNew [(vR 12 0 4), (vI l1)] (some (vI r1)) c (MRc nb db (some (0, 800, 3)) rs) mi ml mi1 ml1 ∧ ((¬ r1 = 0 → (Go m_rd_takeMask 26 [some (vR 12 0 4), some (vI (l1 ||| ((nI 1) <<< ((mi1 4 9) &&& 31)))), some (vI (l2 + nI 1))] [] rv c (MRc nb db (some (0, 800, 3)) rs) mi1 ml1 mi' ml')) ∧ (r1 = 0 → (Fin (some (vI (nI 0))) mi1 ml1 rv mi' ml'))))) ∧ (¬ l1 = 0 → ((¬ (mi 4 5) = (nI 2) → (vp_in (mi db 4) 12 ∧ (Fin (some (vI (nI 1))) (u2 (u2 mi (db + 4) (mi db 4).toNatClampNeg l1) db 4 ((mi db 4) + (nI 1))) ml rv mi' ml'))) ∧ ((mi 4 5) = (nI 2) → (∃ (r2 : Int32) (mi2 : MI) (ml2 : ML), Ret m_rd_takeNew [(vR 12 0 4), (vI l1)] (some (vI r2)) c (MRc nb db (some (0, 800, 3)) rs) mi ml mi2 ml2 ∧ ((¬ r2 = 0 → (Go m_rd_takeMask 26 [some (vR 12 0 4), some (vI (l1 ||| ((nI 1) <<< ((mi2 4 9) &&& 31)))), some (vI (l2 + nI 1))] [] rv c (MRc nb db (some (0, 800, 3)) rs) mi2 ml2 mi' ml')) ∧ (r2 = 0 → (Fin (some (vI (nI 0))) mi2 ml2 rv mi' ml')))))))))) :
    Go m_rd_takeMask 26 [some (vR 12 0 4), some (vI l1), some (vI l2)] [] rv c (MRc nb db (some (0, 800, 3)) rs) mi ml mi' ml' := by
  rcases hb with ⟨rfl, rfl⟩ | ⟨rfl, rfl⟩
  all_goals
    intro Q hQ
    refine at_wq inlT 400 rfl ?_
    refine ⟨fun g => ?_, fun g => ?_⟩
    · have h := h.1 (g)
      refine ⟨h.1, ?_⟩
      have h := h.2
      refine ⟨Or.inr rfl, ?_⟩
      exact h.use hQ
    · have h := h.2 (g)
      refine ⟨fun g => ?_, fun g => ?_⟩
      · have h := h.1 (g)
        obtain ⟨r1, mi1, ml1, hR, h⟩ := h
        refine ⟨0, 0, Nat.zero_le _, Nat.zero_le _, hR _ ?_⟩
        refine ⟨fun g => ?_, fun g => ?_⟩
        · have h := h.1 (g)
          exact h Q hQ
        · have h := h.2 (g)
          refine ⟨Or.inl rfl, ?_⟩
          exact h.use hQ
      · have h := h.2 (g)
        refine ⟨fun g => ?_, fun g => ?_⟩
        · have h := h.1 (g)
          refine ⟨h.1, ?_⟩
          have h := h.2
          refine ⟨Or.inr rfl, ?_⟩
          exact h.use hQ
        · have h := h.2 (g)
          obtain ⟨r2, mi2, ml2, hR, h⟩ := h
          refine ⟨0, 0, Nat.zero_le _, Nat.zero_le _, hR _ ?_⟩
          refine ⟨fun g => ?_, fun g => ?_⟩
          · have h := h.1 (g)
            exact h Q hQ
          · have h := h.2 (g)
            refine ⟨Or.inl rfl, ?_⟩
            exact h.use hQ
