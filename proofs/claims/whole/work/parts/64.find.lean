/-! ===== rules of Tour.find, laid by wip/whole/genw2.py ===== -/
theorem g_tr_find_63 {nb db b : Nat} {by_ rs : RX} {c : Nat} {mi mi' : MI} {ml ml' : ML} {rv : Option AV}  (hbb : b = 43 ∨ b = 5)
    (h : Go m_tr_find 72 [some (vR 17 0 35), some (vR 13 0 b), some (vI (((nI 1) <<< ((mi 35 5) &&& 31)) - (nI 1))), none] [] rv c (MRc nb db by_ rs) mi ml mi' ml') :
    Go m_tr_find 63 [some (vR 17 0 35), some (vR 13 0 b), none, none] [] rv c (MRc nb db by_ rs) mi ml mi' ml' := by
  rcases hbb with rfl | rfl
  all_goals
    intro Q hQ
    refine at_wq inlT 400 rfl ?_
    exact h Q hQ
theorem g_tr_find_72 {nb db b : Nat} {by_ rs : RX} {c : Nat} {mi mi' : MI} {ml ml' : ML} {rv : Option AV} {l2 : Int32} (hbb : b = 43 ∨ b = 5)
    (h : (l2 ≤ 0 → (∃ (r1 : Int32), Ret m_tr_fewestFrom [(vR 17 0 35), (vI (nI 0)), (vI (nI 12))] (some (vI r1)) c (MRc nb db by_ rs) mi ml mi ml ∧ (∃ (mi2 : MI) (ml2 : ML), Ret m_tr_walk [(vR 17 0 35)] none c (MRc nb db by_ rs) (u2 mi 35 1 r1) ml mi2 ml2 ∧ (Fin none mi2 ml2 rv mi' ml')))) ∧ (¬ l2 ≤ 0 → (Go m_tr_find 78 [some (vR 17 0 35), some (vR 13 0 b), some (vI l2), some (vI (nI 0))] [] rv c (MRc nb db by_ rs) mi ml mi' ml'))) :
    Go m_tr_find 72 [some (vR 17 0 35), some (vR 13 0 b), some (vI l2), none] [] rv c (MRc nb db by_ rs) mi ml mi' ml' := by
  rcases hbb with rfl | rfl
  all_goals
    intro Q hQ
    refine at_wq inlT 400 rfl ?_
    refine ⟨fun g => ?_, fun g => ?_⟩
    · have h := h.1 (g)
      obtain ⟨r1, hR, h⟩ := h
      refine ⟨0, 0, Nat.zero_le _, Nat.zero_le _, hR _ ?_⟩
      obtain ⟨mi2, ml2, hR, h⟩ := h
      refine ⟨0, 0, Nat.zero_le _, Nat.zero_le _, hR _ ?_⟩
      exact h.use hQ
    · have h := h.2 (g)
      exact h Q hQ
theorem g_tr_find_78 {nb db b : Nat} {by_ : RX} {rn rc : Nat} {c : Nat} {mi mi' : MI} {ml ml' : ML} {rv : Option AV} {l2 : Int32} {l3 : Int32} (hbb : b = 43 ∨ b = 5)
    (h : ((mi 35 5) ≤ l3 → (Go m_tr_find 72 [some (vR 17 0 35), some (vR 13 0 b), some (vI (l2 + -(nI 1))), none] [] rv c (MRc nb db by_ (some (0, rn, rc))) mi ml mi' ml')) ∧ (¬ (mi 35 5) ≤ l3 → ((¬ ((l2 >>> (l3 &&& 31)) &&& (nI 1)) = (nI 1) → (Go m_tr_find 78 [some (vR 17 0 35), some (vR 13 0 b), some (vI l2), some (vI (l3 + nI 1))] [] rv c (MRc nb db by_ (some (0, rn, rc))) mi ml mi' ml')) ∧ (((l2 >>> (l3 &&& 31)) &&& (nI 1)) = (nI 1) → (∃ (r1 : Int32), Ret m_tr_fewestFrom [(vR 17 0 35), (vI l2), (vI l3)] (some (vI r1)) c (MRc nb db by_ (some (0, rn, rc))) mi ml mi ml ∧ (vp_in ((l2 * (mi 35 5)) + l3) rn ∧ (Go m_tr_find 78 [some (vR 17 0 35), some (vR 13 0 b), some (vI l2), some (vI (l3 + nI 1))] [] rv c (MRc nb db by_ (some (0, rn, rc))) (u2 mi rc ((l2 * (mi 35 5)) + l3).toNatClampNeg r1) ml mi' ml'))))))) :
    Go m_tr_find 78 [some (vR 17 0 35), some (vR 13 0 b), some (vI l2), some (vI l3)] [] rv c (MRc nb db by_ (some (0, rn, rc))) mi ml mi' ml' := by
  rcases hbb with rfl | rfl
  all_goals
    intro Q hQ
    refine at_wq inlT 400 rfl ?_
    refine ⟨fun g => ?_, fun g => ?_⟩
    · have h := h.1 (g)
      exact At.wk (h Q hQ) ⟨rfl, rfl, rfl, trivial⟩
    · have h := h.2 (g)
      refine ⟨fun g => ?_, fun g => ?_⟩
      · have h := h.1 (g)
        exact h Q hQ
      · have h := h.2 (g)
        obtain ⟨r1, hR, h⟩ := h
        refine ⟨0, 0, Nat.zero_le _, Nat.zero_le _, hR _ ?_⟩
        refine ⟨h.1, ?_⟩
        have h := h.2
        exact h Q hQ
