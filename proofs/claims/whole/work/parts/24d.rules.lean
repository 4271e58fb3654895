/-! ===== rules of the walk, laid by wip/whole/genw.py ===== -/
theorem g_ac_note_0 {nb db : Nat} {by_ rs : RX} {c : Nat} {mi mi' : MI} {ml ml' : ML} {rv : Option AV} {a0 : Int32} {a1 : Int32} {a2 : Int32}
    (h : ((mi 39 0) < (nI 10) → (vp_in (mi 39 0) 10 ∧ (vp_in (mi 39 0) 10 ∧ (vp_in (mi 39 0) 10 ∧ (Fin none (u2 (u2 (u2 (u2 mi 40 (mi 39 0).toNatClampNeg a0) 41 (mi 39 0).toNatClampNeg a1) 42 (mi 39 0).toNatClampNeg a2) 39 0 ((mi 39 0) + (nI 1))) ml rv mi' ml'))))) ∧ (¬ (mi 39 0) < (nI 10) → (∃ (mi1 : MI) (ml1 : ML), Ret m_ac_dropOldest [(vR 18 0 39)] none c (MRc nb db by_ rs) mi ml mi1 ml1 ∧ (vp_in (mi1 39 0) 10 ∧ (vp_in (mi1 39 0) 10 ∧ (vp_in (mi1 39 0) 10 ∧ (Fin none (u2 (u2 (u2 (u2 mi1 40 (mi1 39 0).toNatClampNeg a0) 41 (mi1 39 0).toNatClampNeg a1) 42 (mi1 39 0).toNatClampNeg a2) 39 0 ((mi1 39 0) + (nI 1))) ml1 rv mi' ml'))))))) :
    Ret m_ac_note [(vR 18 0 39), (vI a0), (vI a1), (vI a2)] rv c (MRc nb db by_ rs) mi ml mi' ml' := by
  intro Q hQ
  refine ok_wq inlT 400 rfl rfl ?_
  refine ⟨fun g => ?_, fun g => ?_⟩
  · have h := h.1 (g)
    refine ⟨h.1, ?_⟩
    have h := h.2
    refine ⟨h.1, ?_⟩
    have h := h.2
    refine ⟨h.1, ?_⟩
    have h := h.2
    exact h.use hQ
  · have h := h.2 (g)
    obtain ⟨mi1, ml1, hR, h⟩ := h
    refine ⟨0, 0, Nat.zero_le _, Nat.zero_le _, hR _ ?_⟩
    refine ⟨h.1, ?_⟩
    have h := h.2
    refine ⟨h.1, ?_⟩
    have h := h.2
    refine ⟨h.1, ?_⟩
    have h := h.2
    exact h.use hQ
theorem g_ac_dropOldest_0 {nb db : Nat} {by_ rs : RX} {c : Nat} {mi mi' : MI} {ml ml' : ML} {rv : Option AV} 
    (h : Go m_ac_dropOldest 2 [some (vR 18 0 39), some (vI (nI 1))] [] rv c (MRc nb db by_ rs) mi ml mi' ml') :
    Ret m_ac_dropOldest [(vR 18 0 39)] rv c (MRc nb db by_ rs) mi ml mi' ml' := by
  intro Q hQ
  refine ok_wq inlT 400 rfl rfl ?_
  exact h Q hQ
theorem g_ac_dropOldest_2 {nb db : Nat} {by_ rs : RX} {c : Nat} {mi mi' : MI} {ml ml' : ML} {rv : Option AV} {l1 : Int32}
    (h : ((nI 10) ≤ l1 → (Fin none (u2 mi 39 0 (nI 9)) ml rv mi' ml')) ∧ (¬ (nI 10) ≤ l1 → (vp_in l1 10 ∧ (vp_in (l1 - (nI 1)) 10 ∧ (vp_in l1 10 ∧ (vp_in (l1 - (nI 1)) 10 ∧ (vp_in l1 10 ∧ (vp_in (l1 - (nI 1)) 10 ∧ (Go m_ac_dropOldest 2 [some (vR 18 0 39), some (vI (l1 + nI 1))] [] rv c (MRc nb db by_ rs) (u2 (u2 (u2 mi 40 (l1 - (nI 1)).toNatClampNeg (mi 40 l1.toNatClampNeg)) 41 (l1 - (nI 1)).toNatClampNeg (mi 41 l1.toNatClampNeg)) 42 (l1 - (nI 1)).toNatClampNeg (mi 42 l1.toNatClampNeg)) ml mi' ml'))))))))) :
    Go m_ac_dropOldest 2 [some (vR 18 0 39), some (vI l1)] [] rv c (MRc nb db by_ rs) mi ml mi' ml' := by
  intro Q hQ
  refine at_wq inlT 400 rfl ?_
  refine ⟨fun g => ?_, fun g => ?_⟩
  · have h := h.1 (g)
    exact h.use hQ
  · have h := h.2 (g)
    refine ⟨h.1, ?_⟩
    have h := h.2
    refine ⟨h.1, ?_⟩
    have h := h.2
    refine ⟨h.1, ?_⟩
    have h := h.2
    refine ⟨h.1, ?_⟩
    have h := h.2
    refine ⟨h.1, ?_⟩
    have h := h.2
    refine ⟨h.1, ?_⟩
    have h := h.2
    exact h Q hQ
theorem g_ac_takeBack_0 {nb db b : Nat} {by_ rs : RX} {c : Nat} {mi mi' : MI} {ml ml' : ML} {rv : Option AV}  (hbb : b = 43 ∨ b = 5)
    (h : (0 < (mi 39 0) → (vp_in ((mi 39 0) - (nI 1)) 10 ∧ (vp_in ((mi 39 0) - (nI 1)) 10 ∧ ((¬ (mi 40 ((mi 39 0) - (nI 1)).toNatClampNeg) = 0 → (vp_in ((mi 39 0) - (nI 1)) 10 ∧ ((¬ (mi 40 ((mi 39 0) - (nI 1)).toNatClampNeg) = (nI 1) → (Fin none (u2 (u2 mi 39 0 ((mi 39 0) - (nI 1))) b 7 ((mi b 7) &&& (((nI 1) <<< ((mi 41 ((mi 39 0) - (nI 1)).toNatClampNeg) &&& 31)) ^^^ (-(nI 1))))) ml rv mi' ml')) ∧ ((mi 40 ((mi 39 0) - (nI 1)).toNatClampNeg) = (nI 1) → (vp_in ((mi 39 0) - (nI 1)) 10 ∧ ((¬ (mi 42 ((mi 39 0) - (nI 1)).toNatClampNeg) = (nI 1) → ((¬ (mi 42 ((mi 39 0) - (nI 1)).toNatClampNeg) = (nI 2) → (Fin none (u2 (u2 (u2 mi 39 0 ((mi 39 0) - (nI 1))) b 5 ((mi b 5) &&& (((nI 1) <<< ((mi 41 ((mi 39 0) - (nI 1)).toNatClampNeg) &&& 31)) ^^^ (-(nI 1))))) b 6 ((mi b 6) &&& (((nI 1) <<< ((mi 41 ((mi 39 0) - (nI 1)).toNatClampNeg) &&& 31)) ^^^ (-(nI 1))))) ml rv mi' ml')) ∧ ((mi 42 ((mi 39 0) - (nI 1)).toNatClampNeg) = (nI 2) → (Fin none (u2 (u2 (u2 (u2 mi 39 0 ((mi 39 0) - (nI 1))) b 5 ((mi b 5) &&& (((nI 1) <<< ((mi 41 ((mi 39 0) - (nI 1)).toNatClampNeg) &&& 31)) ^^^ (-(nI 1))))) b 6 ((mi b 6) &&& (((nI 1) <<< ((mi 41 ((mi 39 0) - (nI 1)).toNatClampNeg) &&& 31)) ^^^ (-(nI 1))))) b 6 (((mi b 6) &&& (((nI 1) <<< ((mi 41 ((mi 39 0) - (nI 1)).toNatClampNeg) &&& 31)) ^^^ (-(nI 1)))) ||| ((nI 1) <<< ((mi 41 ((mi 39 0) - (nI 1)).toNatClampNeg) &&& 31)))) ml rv mi' ml')))) ∧ ((mi 42 ((mi 39 0) - (nI 1)).toNatClampNeg) = (nI 1) → ((¬ (mi 42 ((mi 39 0) - (nI 1)).toNatClampNeg) = (nI 2) → (Fin none (u2 (u2 (u2 (u2 mi 39 0 ((mi 39 0) - (nI 1))) b 5 ((mi b 5) &&& (((nI 1) <<< ((mi 41 ((mi 39 0) - (nI 1)).toNatClampNeg) &&& 31)) ^^^ (-(nI 1))))) b 6 ((mi b 6) &&& (((nI 1) <<< ((mi 41 ((mi 39 0) - (nI 1)).toNatClampNeg) &&& 31)) ^^^ (-(nI 1))))) b 5 (((mi b 5) &&& (((nI 1) <<< ((mi 41 ((mi 39 0) - (nI 1)).toNatClampNeg) &&& 31)) ^^^ (-(nI 1)))) ||| ((nI 1) <<< ((mi 41 ((mi 39 0) - (nI 1)).toNatClampNeg) &&& 31)))) ml rv mi' ml')) ∧ ((mi 42 ((mi 39 0) - (nI 1)).toNatClampNeg) = (nI 2) → (Fin none (u2 (u2 (u2 (u2 (u2 mi 39 0 ((mi 39 0) - (nI 1))) b 5 ((mi b 5) &&& (((nI 1) <<< ((mi 41 ((mi 39 0) - (nI 1)).toNatClampNeg) &&& 31)) ^^^ (-(nI 1))))) b 6 ((mi b 6) &&& (((nI 1) <<< ((mi 41 ((mi 39 0) - (nI 1)).toNatClampNeg) &&& 31)) ^^^ (-(nI 1))))) b 5 (((mi b 5) &&& (((nI 1) <<< ((mi 41 ((mi 39 0) - (nI 1)).toNatClampNeg) &&& 31)) ^^^ (-(nI 1)))) ||| ((nI 1) <<< ((mi 41 ((mi 39 0) - (nI 1)).toNatClampNeg) &&& 31)))) b 6 (((mi b 6) &&& (((nI 1) <<< ((mi 41 ((mi 39 0) - (nI 1)).toNatClampNeg) &&& 31)) ^^^ (-(nI 1)))) ||| ((nI 1) <<< ((mi 41 ((mi 39 0) - (nI 1)).toNatClampNeg) &&& 31)))) ml rv mi' ml')))))))))) ∧ ((mi 40 ((mi 39 0) - (nI 1)).toNatClampNeg) = 0 → (((mi 41 ((mi 39 0) - (nI 1)).toNatClampNeg) < 0 → (vp_in ((mi 39 0) - (nI 1)) 10 ∧ ((¬ (mi 40 ((mi 39 0) - (nI 1)).toNatClampNeg) = (nI 1) → (Fin none (u2 (u2 mi 39 0 ((mi 39 0) - (nI 1))) b 7 ((mi b 7) &&& (((nI 1) <<< ((mi 41 ((mi 39 0) - (nI 1)).toNatClampNeg) &&& 31)) ^^^ (-(nI 1))))) ml rv mi' ml')) ∧ ((mi 40 ((mi 39 0) - (nI 1)).toNatClampNeg) = (nI 1) → (vp_in ((mi 39 0) - (nI 1)) 10 ∧ ((¬ (mi 42 ((mi 39 0) - (nI 1)).toNatClampNeg) = (nI 1) → ((¬ (mi 42 ((mi 39 0) - (nI 1)).toNatClampNeg) = (nI 2) → (Fin none (u2 (u2 (u2 mi 39 0 ((mi 39 0) - (nI 1))) b 5 ((mi b 5) &&& (((nI 1) <<< ((mi 41 ((mi 39 0) - (nI 1)).toNatClampNeg) &&& 31)) ^^^ (-(nI 1))))) b 6 ((mi b 6) &&& (((nI 1) <<< ((mi 41 ((mi 39 0) - (nI 1)).toNatClampNeg) &&& 31)) ^^^ (-(nI 1))))) ml rv mi' ml')) ∧ ((mi 42 ((mi 39 0) - (nI 1)).toNatClampNeg) = (nI 2) → (Fin none (u2 (u2 (u2 (u2 mi 39 0 ((mi 39 0) - (nI 1))) b 5 ((mi b 5) &&& (((nI 1) <<< ((mi 41 ((mi 39 0) - (nI 1)).toNatClampNeg) &&& 31)) ^^^ (-(nI 1))))) b 6 ((mi b 6) &&& (((nI 1) <<< ((mi 41 ((mi 39 0) - (nI 1)).toNatClampNeg) &&& 31)) ^^^ (-(nI 1))))) b 6 (((mi b 6) &&& (((nI 1) <<< ((mi 41 ((mi 39 0) - (nI 1)).toNatClampNeg) &&& 31)) ^^^ (-(nI 1)))) ||| ((nI 1) <<< ((mi 41 ((mi 39 0) - (nI 1)).toNatClampNeg) &&& 31)))) ml rv mi' ml')))) ∧ ((mi 42 ((mi 39 0) - (nI 1)).toNatClampNeg) = (nI 1) → ((¬ (mi 42 ((mi 39 0) - (nI 1)).toNatClampNeg) = (nI 2) → (Fin none (u2 (u2 (u2 (u2 mi 39 0 ((mi 39 0) - (nI 1))) b 5 ((mi b 5) &&& (((nI 1) <<< ((mi 41 ((mi 39 0) - (nI 1)).toNatClampNeg) &&& 31)) ^^^ (-(nI 1))))) b 6 ((mi b 6) &&& (((nI 1) <<< ((mi 41 ((mi 39 0) - (nI 1)).toNatClampNeg) &&& 31)) ^^^ (-(nI 1))))) b 5 (((mi b 5) &&& (((nI 1) <<< ((mi 41 ((mi 39 0) - (nI 1)).toNatClampNeg) &&& 31)) ^^^ (-(nI 1)))) ||| ((nI 1) <<< ((mi 41 ((mi 39 0) - (nI 1)).toNatClampNeg) &&& 31)))) ml rv mi' ml')) ∧ ((mi 42 ((mi 39 0) - (nI 1)).toNatClampNeg) = (nI 2) → (Fin none (u2 (u2 (u2 (u2 (u2 mi 39 0 ((mi 39 0) - (nI 1))) b 5 ((mi b 5) &&& (((nI 1) <<< ((mi 41 ((mi 39 0) - (nI 1)).toNatClampNeg) &&& 31)) ^^^ (-(nI 1))))) b 6 ((mi b 6) &&& (((nI 1) <<< ((mi 41 ((mi 39 0) - (nI 1)).toNatClampNeg) &&& 31)) ^^^ (-(nI 1))))) b 5 (((mi b 5) &&& (((nI 1) <<< ((mi 41 ((mi 39 0) - (nI 1)).toNatClampNeg) &&& 31)) ^^^ (-(nI 1)))) ||| ((nI 1) <<< ((mi 41 ((mi 39 0) - (nI 1)).toNatClampNeg) &&& 31)))) b 6 (((mi b 6) &&& (((nI 1) <<< ((mi 41 ((mi 39 0) - (nI 1)).toNatClampNeg) &&& 31)) ^^^ (-(nI 1)))) ||| ((nI 1) <<< ((mi 41 ((mi 39 0) - (nI 1)).toNatClampNeg) &&& 31)))) ml rv mi' ml')))))))))) ∧ (¬ (mi 41 ((mi 39 0) - (nI 1)).toNatClampNeg) < 0 → (((mi b 0) ≤ (mi 41 ((mi 39 0) - (nI 1)).toNatClampNeg) → (vp_in ((mi 39 0) - (nI 1)) 10 ∧ ((¬ (mi 40 ((mi 39 0) - (nI 1)).toNatClampNeg) = (nI 1) → (Fin none (u2 (u2 mi 39 0 ((mi 39 0) - (nI 1))) b 7 ((mi b 7) &&& (((nI 1) <<< ((mi 41 ((mi 39 0) - (nI 1)).toNatClampNeg) &&& 31)) ^^^ (-(nI 1))))) ml rv mi' ml')) ∧ ((mi 40 ((mi 39 0) - (nI 1)).toNatClampNeg) = (nI 1) → (vp_in ((mi 39 0) - (nI 1)) 10 ∧ ((¬ (mi 42 ((mi 39 0) - (nI 1)).toNatClampNeg) = (nI 1) → ((¬ (mi 42 ((mi 39 0) - (nI 1)).toNatClampNeg) = (nI 2) → (Fin none (u2 (u2 (u2 mi 39 0 ((mi 39 0) - (nI 1))) b 5 ((mi b 5) &&& (((nI 1) <<< ((mi 41 ((mi 39 0) - (nI 1)).toNatClampNeg) &&& 31)) ^^^ (-(nI 1))))) b 6 ((mi b 6) &&& (((nI 1) <<< ((mi 41 ((mi 39 0) - (nI 1)).toNatClampNeg) &&& 31)) ^^^ (-(nI 1))))) ml rv mi' ml')) ∧ ((mi 42 ((mi 39 0) - (nI 1)).toNatClampNeg) = (nI 2) → (Fin none (u2 (u2 (u2 (u2 mi 39 0 ((mi 39 0) - (nI 1))) b 5 ((mi b 5) &&& (((nI 1) <<< ((mi 41 ((mi 39 0) - (nI 1)).toNatClampNeg) &&& 31)) ^^^ (-(nI 1))))) b 6 ((mi b 6) &&& (((nI 1) <<< ((mi 41 ((mi 39 0) - (nI 1)).toNatClampNeg) &&& 31)) ^^^ (-(nI 1))))) b 6 (((mi b 6) &&& (((nI 1) <<< ((mi 41 ((mi 39 0) - (nI 1)).toNatClampNeg) &&& 31)) ^^^ (-(nI 1)))) ||| ((nI 1) <<< ((mi 41 ((mi 39 0) - (nI 1)).toNatClampNeg) &&& 31)))) ml rv mi' ml')))) ∧ ((mi 42 ((mi 39 0) - (nI 1)).toNatClampNeg) = (nI 1) → ((¬ (mi 42 ((mi 39 0) - (nI 1)).toNatClampNeg) = (nI 2) → (Fin none (u2 (u2 (u2 (u2 mi 39 0 ((mi 39 0) - (nI 1))) b 5 ((mi b 5) &&& (((nI 1) <<< ((mi 41 ((mi 39 0) - (nI 1)).toNatClampNeg) &&& 31)) ^^^ (-(nI 1))))) b 6 ((mi b 6) &&& (((nI 1) <<< ((mi 41 ((mi 39 0) - (nI 1)).toNatClampNeg) &&& 31)) ^^^ (-(nI 1))))) b 5 (((mi b 5) &&& (((nI 1) <<< ((mi 41 ((mi 39 0) - (nI 1)).toNatClampNeg) &&& 31)) ^^^ (-(nI 1)))) ||| ((nI 1) <<< ((mi 41 ((mi 39 0) - (nI 1)).toNatClampNeg) &&& 31)))) ml rv mi' ml')) ∧ ((mi 42 ((mi 39 0) - (nI 1)).toNatClampNeg) = (nI 2) → (Fin none (u2 (u2 (u2 (u2 (u2 mi 39 0 ((mi 39 0) - (nI 1))) b 5 ((mi b 5) &&& (((nI 1) <<< ((mi 41 ((mi 39 0) - (nI 1)).toNatClampNeg) &&& 31)) ^^^ (-(nI 1))))) b 6 ((mi b 6) &&& (((nI 1) <<< ((mi 41 ((mi 39 0) - (nI 1)).toNatClampNeg) &&& 31)) ^^^ (-(nI 1))))) b 5 (((mi b 5) &&& (((nI 1) <<< ((mi 41 ((mi 39 0) - (nI 1)).toNatClampNeg) &&& 31)) ^^^ (-(nI 1)))) ||| ((nI 1) <<< ((mi 41 ((mi 39 0) - (nI 1)).toNatClampNeg) &&& 31)))) b 6 (((mi b 6) &&& (((nI 1) <<< ((mi 41 ((mi 39 0) - (nI 1)).toNatClampNeg) &&& 31)) ^^^ (-(nI 1)))) ||| ((nI 1) <<< ((mi 41 ((mi 39 0) - (nI 1)).toNatClampNeg) &&& 31)))) ml rv mi' ml')))))))))) ∧ (¬ (mi b 0) ≤ (mi 41 ((mi 39 0) - (nI 1)).toNatClampNeg) → (vp_in ((mi 39 0) - (nI 1)) 10 ∧ (vp_in (mi 41 ((mi 39 0) - (nI 1)).toNatClampNeg) 31 ∧ (Fin none (u2 (u2 mi 39 0 ((mi 39 0) - (nI 1))) (b + 2) (mi 41 ((mi 39 0) - (nI 1)).toNatClampNeg).toNatClampNeg (mi 42 ((mi 39 0) - (nI 1)).toNatClampNeg)) ml rv mi' ml')))))))))))) ∧ (¬ 0 < (mi 39 0) → (Fin none mi ml rv mi' ml'))) :
    Ret m_ac_takeBack [(vR 18 0 39), (vR 13 0 b)] rv c (MRc nb db by_ rs) mi ml mi' ml' := by
  rcases hbb with rfl | rfl
  all_goals
    intro Q hQ
    refine ok_wq inlT 400 rfl rfl ?_
    refine ⟨fun g => ?_, fun g => ?_⟩
    · have h := h.1 (g)
      refine ⟨h.1, ?_⟩
      have h := h.2
      refine ⟨h.1, ?_⟩
      have h := h.2
      refine ⟨fun g => ?_, fun g => ?_⟩
      · have h := h.1 (g)
        refine ⟨h.1, ?_⟩
        have h := h.2
        refine ⟨fun g => ?_, fun g => ?_⟩
        · have h := h.1 (g)
          exact h.use hQ
        · have h := h.2 (g)
          refine ⟨h.1, ?_⟩
          have h := h.2
          refine ⟨fun g => ?_, fun g => ?_⟩
          · have h := h.1 (g)
            refine ⟨fun g => ?_, fun g => ?_⟩
            · have h := h.1 (g)
              exact h.use hQ
            · have h := h.2 (g)
              exact h.use hQ
          · have h := h.2 (g)
            refine ⟨fun g => ?_, fun g => ?_⟩
            · have h := h.1 (g)
              exact h.use hQ
            · have h := h.2 (g)
              exact h.use hQ
      · have h := h.2 (g)
        refine ⟨fun g => ?_, fun g => ?_⟩
        · have h := h.1 (g)
          refine ⟨Or.inl rfl, ?_⟩
          refine ⟨fun _ => ?_, fun g => absurd g (by decide)⟩
          refine ⟨h.1, ?_⟩
          have h := h.2
          refine ⟨fun g => ?_, fun g => ?_⟩
          · have h := h.1 (g)
            exact h.use hQ
          · have h := h.2 (g)
            refine ⟨h.1, ?_⟩
            have h := h.2
            refine ⟨fun g => ?_, fun g => ?_⟩
            · have h := h.1 (g)
              refine ⟨fun g => ?_, fun g => ?_⟩
              · have h := h.1 (g)
                exact h.use hQ
              · have h := h.2 (g)
                exact h.use hQ
            · have h := h.2 (g)
              refine ⟨fun g => ?_, fun g => ?_⟩
              · have h := h.1 (g)
                exact h.use hQ
              · have h := h.2 (g)
                exact h.use hQ
        · have h := h.2 (g)
          refine ⟨fun g => ?_, fun g => ?_⟩
          · have h := h.1 (g)
            refine ⟨Or.inl rfl, ?_⟩
            refine ⟨fun _ => ?_, fun g => absurd g (by decide)⟩
            refine ⟨h.1, ?_⟩
            have h := h.2
            refine ⟨fun g => ?_, fun g => ?_⟩
            · have h := h.1 (g)
              exact h.use hQ
            · have h := h.2 (g)
              refine ⟨h.1, ?_⟩
              have h := h.2
              refine ⟨fun g => ?_, fun g => ?_⟩
              · have h := h.1 (g)
                refine ⟨fun g => ?_, fun g => ?_⟩
                · have h := h.1 (g)
                  exact h.use hQ
                · have h := h.2 (g)
                  exact h.use hQ
              · have h := h.2 (g)
                refine ⟨fun g => ?_, fun g => ?_⟩
                · have h := h.1 (g)
                  exact h.use hQ
                · have h := h.2 (g)
                  exact h.use hQ
          · have h := h.2 (g)
            refine ⟨Or.inr rfl, ?_⟩
            refine ⟨fun g => absurd g (by decide), fun _ => ?_⟩
            refine ⟨h.1, ?_⟩
            have h := h.2
            refine ⟨h.1, ?_⟩
            have h := h.2
            exact h.use hQ
    · have h := h.2 (g)
      exact h.use hQ
theorem g_mt_build_0 {nb db b : Nat} {by_ rs : RX} {c : Nat} {mi mi' : MI} {ml ml' : ML} {rv : Option AV}  (hbb : b = 43 ∨ b = 5)
    (h : Go m_mt_build 12 [some (vR 16 0 19), some (vR 13 0 b), some (vI (nI 0))] [] rv c (MRc nb db by_ rs) (u2 mi 19 0 (nI 0)) (u2 ml 19 2 (lN 1)) mi' ml') :
    Ret m_mt_build [(vR 16 0 19), (vR 13 0 b)] rv c (MRc nb db by_ rs) mi ml mi' ml' := by
  rcases hbb with rfl | rfl
  all_goals
    intro Q hQ
    refine ok_wq inlT 400 rfl rfl ?_
    exact h Q hQ
theorem g_mt_build_12 {nb db b : Nat} {by_ rs : RX} {c : Nat} {mi mi' : MI} {ml ml' : ML} {rv : Option AV} {l2 : Int32} (hbb : b = 43 ∨ b = 5)
    (h : ((mi b 4) ≤ l2 → (∃ (mi1 : MI) (ml1 : ML), Ret m_mt_findTold [(vR 16 0 19), (vR 13 0 b)] none c (MRc nb db by_ rs) mi ml mi1 ml1 ∧ (Fin none mi1 ml1 rv mi' ml'))) ∧ (¬ (mi b 4) ≤ l2 → (∃ (mi2 : MI) (ml2 : ML), Ret m_mt_load [(vR 16 0 19), (vR 13 0 b), (vI l2)] none c (MRc nb db by_ rs) mi ml mi2 ml2 ∧ (∃ (r3 : Int32), Ret m_mt_firstColour [(vR 16 0 19), (vR 13 0 b), (vI l2)] (some (vI r3)) c (MRc nb db by_ rs) mi2 ml2 mi2 ml2 ∧ (vp_in l2 12 ∧ (vp_in l2 12 ∧ ((((u2 mi2 34 l2.toNatClampNeg r3) 34 l2.toNatClampNeg) < 0 → (Go m_mt_build 12 [some (vR 16 0 19), some (vR 13 0 b), some (vI (l2 + nI 1))] [] rv c (MRc nb db by_ rs) (u2 mi2 34 l2.toNatClampNeg r3) ml2 mi' ml')) ∧ (¬ ((u2 mi2 34 l2.toNatClampNeg r3) 34 l2.toNatClampNeg) < 0 → (vp_in l2 12 ∧ (∃ (mi4 : MI) (ml4 : ML), Ret m_mt_clearPivot [(vR 16 0 19), (vI l2), (vI ((u2 mi2 34 l2.toNatClampNeg r3) 34 l2.toNatClampNeg))] none c (MRc nb db by_ rs) (u2 mi2 34 l2.toNatClampNeg r3) ml2 mi4 ml4 ∧ (Go m_mt_build 12 [some (vR 16 0 19), some (vR 13 0 b), some (vI (l2 + nI 1))] [] rv c (MRc nb db by_ rs) (u2 mi4 19 0 ((mi4 19 0) + (nI 1))) ml4 mi' ml'))))))))))) :
    Go m_mt_build 12 [some (vR 16 0 19), some (vR 13 0 b), some (vI l2)] [] rv c (MRc nb db by_ rs) mi ml mi' ml' := by
  rcases hbb with rfl | rfl
  all_goals
    intro Q hQ
    refine at_wq inlT 400 rfl ?_
    refine ⟨fun g => ?_, fun g => ?_⟩
    · have h := h.1 (g)
      obtain ⟨mi1, ml1, hR, h⟩ := h
      refine ⟨0, 0, Nat.zero_le _, Nat.zero_le _, hR _ ?_⟩
      exact h.use hQ
    · have h := h.2 (g)
      obtain ⟨mi2, ml2, hR, h⟩ := h
      refine ⟨0, 0, Nat.zero_le _, Nat.zero_le _, hR _ ?_⟩
      obtain ⟨r3, hR, h⟩ := h
      refine ⟨0, 0, Nat.zero_le _, Nat.zero_le _, hR _ ?_⟩
      refine ⟨h.1, ?_⟩
      have h := h.2
      refine ⟨h.1, ?_⟩
      have h := h.2
      refine ⟨fun g => ?_, fun g => ?_⟩
      · have h := h.1 (g)
        exact h Q hQ
      · have h := h.2 (g)
        refine ⟨h.1, ?_⟩
        have h := h.2
        obtain ⟨mi4, ml4, hR, h⟩ := h
        refine ⟨0, 0, Nat.zero_le _, Nat.zero_le _, hR _ ?_⟩
        exact h Q hQ
theorem g_mt_squares_0 {nb db b : Nat} {by_ rs : RX} {c : Nat} {mi mi' : MI} {ml ml' : ML} {rv : Option AV} {a1 : Int32} (hbb : b = 43 ∨ b = 5)
    (h : Go m_mt_squares 5 [some (vR 16 0 19), some (vR 13 0 b), some (vI a1), some (vL (lN 0)), none, some (vI (nI 0))] [] rv c (MRc nb db by_ rs) mi ml mi' ml') :
    Ret m_mt_squares [(vR 16 0 19), (vR 13 0 b), (vI a1)] rv c (MRc nb db by_ rs) mi ml mi' ml' := by
  rcases hbb with rfl | rfl
  all_goals
    intro Q hQ
    refine ok_wq inlT 400 rfl rfl ?_
    exact h Q hQ
theorem g_mt_squares_5 {nb db b : Nat} {by_ rs : RX} {c : Nat} {mi mi' : MI} {ml ml' : ML} {rv : Option AV} {l2 : Int32} {l3 : Int64} {l5 : Int32} (hbb : b = 43 ∨ b = 5)
    (h : ((mi b 4) ≤ l5 → (Fin (some (vL l3)) mi ml rv mi' ml')) ∧ (¬ (mi b 4) ≤ l5 → ((l2 < 0 → ((l2 < 0 → (Go m_mt_squares 5 [some (vR 16 0 19), some (vR 13 0 b), some (vI l2), some (vL (l3 + ((lN 0) * (lN 0)))), none, some (vI (l5 + nI 1))] [] rv c (MRc nb db by_ rs) mi ml mi' ml')) ∧ (¬ l2 < 0 → (((nI 12) ≤ l2 → (Go m_mt_squares 5 [some (vR 16 0 19), some (vR 13 0 b), some (vI l2), some (vL (l3 + ((lN 0) * (lN 0)))), none, some (vI (l5 + nI 1))] [] rv c (MRc nb db by_ rs) mi ml mi' ml')) ∧ (¬ (nI 12) ≤ l2 → ((l5 < 0 → (Go m_mt_squares 5 [some (vR 16 0 19), some (vR 13 0 b), some (vI l2), some (vL (l3 + ((lN 0) * (lN 0)))), none, some (vI (l5 + nI 1))] [] rv c (MRc nb db by_ rs) mi ml mi' ml')) ∧ (¬ l5 < 0 → ((l5 < (nI 12) → (∃ t1 : Nat, l2 = nI t1 ∧ t1 < 12 ∧ (vp_in ((nI 31) + l5) 43 ∧ (Go m_mt_squares 5 [some (vR 16 0 19), some (vR 13 0 b), some (vI l2), some (vL (l3 + ((lN 0) * (ml (22 + t1) ((nI 31) + l5).toNatClampNeg)))), none, some (vI (l5 + nI 1))] [] rv c (MRc nb db by_ rs) mi ml mi' ml')))) ∧ (¬ l5 < (nI 12) → (Go m_mt_squares 5 [some (vR 16 0 19), some (vR 13 0 b), some (vI l2), some (vL (l3 + ((lN 0) * (lN 0)))), none, some (vI (l5 + nI 1))] [] rv c (MRc nb db by_ rs) mi ml mi' ml')))))))))) ∧ (¬ l2 < 0 → (((nI 12) ≤ l2 → ((l2 < 0 → (Go m_mt_squares 5 [some (vR 16 0 19), some (vR 13 0 b), some (vI l2), some (vL (l3 + ((lN 0) * (lN 0)))), none, some (vI (l5 + nI 1))] [] rv c (MRc nb db by_ rs) mi ml mi' ml')) ∧ (¬ l2 < 0 → (((nI 12) ≤ l2 → (Go m_mt_squares 5 [some (vR 16 0 19), some (vR 13 0 b), some (vI l2), some (vL (l3 + ((lN 0) * (lN 0)))), none, some (vI (l5 + nI 1))] [] rv c (MRc nb db by_ rs) mi ml mi' ml')) ∧ (¬ (nI 12) ≤ l2 → ((l5 < 0 → (Go m_mt_squares 5 [some (vR 16 0 19), some (vR 13 0 b), some (vI l2), some (vL (l3 + ((lN 0) * (lN 0)))), none, some (vI (l5 + nI 1))] [] rv c (MRc nb db by_ rs) mi ml mi' ml')) ∧ (¬ l5 < 0 → ((l5 < (nI 12) → (∃ t2 : Nat, l2 = nI t2 ∧ t2 < 12 ∧ (vp_in ((nI 31) + l5) 43 ∧ (Go m_mt_squares 5 [some (vR 16 0 19), some (vR 13 0 b), some (vI l2), some (vL (l3 + ((lN 0) * (ml (22 + t2) ((nI 31) + l5).toNatClampNeg)))), none, some (vI (l5 + nI 1))] [] rv c (MRc nb db by_ rs) mi ml mi' ml')))) ∧ (¬ l5 < (nI 12) → (Go m_mt_squares 5 [some (vR 16 0 19), some (vR 13 0 b), some (vI l2), some (vL (l3 + ((lN 0) * (lN 0)))), none, some (vI (l5 + nI 1))] [] rv c (MRc nb db by_ rs) mi ml mi' ml')))))))))) ∧ (¬ (nI 12) ≤ l2 → ((l5 < 0 → ((l2 < 0 → (Go m_mt_squares 5 [some (vR 16 0 19), some (vR 13 0 b), some (vI l2), some (vL (l3 + ((lN 0) * (lN 0)))), none, some (vI (l5 + nI 1))] [] rv c (MRc nb db by_ rs) mi ml mi' ml')) ∧ (¬ l2 < 0 → (((nI 12) ≤ l2 → (Go m_mt_squares 5 [some (vR 16 0 19), some (vR 13 0 b), some (vI l2), some (vL (l3 + ((lN 0) * (lN 0)))), none, some (vI (l5 + nI 1))] [] rv c (MRc nb db by_ rs) mi ml mi' ml')) ∧ (¬ (nI 12) ≤ l2 → ((l5 < 0 → (Go m_mt_squares 5 [some (vR 16 0 19), some (vR 13 0 b), some (vI l2), some (vL (l3 + ((lN 0) * (lN 0)))), none, some (vI (l5 + nI 1))] [] rv c (MRc nb db by_ rs) mi ml mi' ml')) ∧ (¬ l5 < 0 → ((l5 < (nI 12) → (∃ t3 : Nat, l2 = nI t3 ∧ t3 < 12 ∧ (vp_in ((nI 31) + l5) 43 ∧ (Go m_mt_squares 5 [some (vR 16 0 19), some (vR 13 0 b), some (vI l2), some (vL (l3 + ((lN 0) * (ml (22 + t3) ((nI 31) + l5).toNatClampNeg)))), none, some (vI (l5 + nI 1))] [] rv c (MRc nb db by_ rs) mi ml mi' ml')))) ∧ (¬ l5 < (nI 12) → (Go m_mt_squares 5 [some (vR 16 0 19), some (vR 13 0 b), some (vI l2), some (vL (l3 + ((lN 0) * (lN 0)))), none, some (vI (l5 + nI 1))] [] rv c (MRc nb db by_ rs) mi ml mi' ml')))))))))) ∧ (¬ l5 < 0 → ((l5 < (nI 12) → (∃ t4 : Nat, l2 = nI t4 ∧ t4 < 12 ∧ (vp_in ((nI 31) + l5) 43 ∧ ((l2 < 0 → (Go m_mt_squares 5 [some (vR 16 0 19), some (vR 13 0 b), some (vI l2), some (vL (l3 + ((ml (22 + t4) ((nI 31) + l5).toNatClampNeg) * (lN 0)))), none, some (vI (l5 + nI 1))] [] rv c (MRc nb db by_ rs) mi ml mi' ml')) ∧ (¬ l2 < 0 → (((nI 12) ≤ l2 → (Go m_mt_squares 5 [some (vR 16 0 19), some (vR 13 0 b), some (vI l2), some (vL (l3 + ((ml (22 + t4) ((nI 31) + l5).toNatClampNeg) * (lN 0)))), none, some (vI (l5 + nI 1))] [] rv c (MRc nb db by_ rs) mi ml mi' ml')) ∧ (¬ (nI 12) ≤ l2 → ((l5 < 0 → (Go m_mt_squares 5 [some (vR 16 0 19), some (vR 13 0 b), some (vI l2), some (vL (l3 + ((ml (22 + t4) ((nI 31) + l5).toNatClampNeg) * (lN 0)))), none, some (vI (l5 + nI 1))] [] rv c (MRc nb db by_ rs) mi ml mi' ml')) ∧ (¬ l5 < 0 → ((l5 < (nI 12) → (∃ t5 : Nat, l2 = nI t5 ∧ t5 < 12 ∧ (vp_in ((nI 31) + l5) 43 ∧ (Go m_mt_squares 5 [some (vR 16 0 19), some (vR 13 0 b), some (vI l2), some (vL (l3 + ((ml (22 + t4) ((nI 31) + l5).toNatClampNeg) * (ml (22 + t5) ((nI 31) + l5).toNatClampNeg)))), none, some (vI (l5 + nI 1))] [] rv c (MRc nb db by_ rs) mi ml mi' ml')))) ∧ (¬ l5 < (nI 12) → (Go m_mt_squares 5 [some (vR 16 0 19), some (vR 13 0 b), some (vI l2), some (vL (l3 + ((ml (22 + t4) ((nI 31) + l5).toNatClampNeg) * (lN 0)))), none, some (vI (l5 + nI 1))] [] rv c (MRc nb db by_ rs) mi ml mi' ml')))))))))))) ∧ (¬ l5 < (nI 12) → ((l2 < 0 → (Go m_mt_squares 5 [some (vR 16 0 19), some (vR 13 0 b), some (vI l2), some (vL (l3 + ((lN 0) * (lN 0)))), none, some (vI (l5 + nI 1))] [] rv c (MRc nb db by_ rs) mi ml mi' ml')) ∧ (¬ l2 < 0 → (((nI 12) ≤ l2 → (Go m_mt_squares 5 [some (vR 16 0 19), some (vR 13 0 b), some (vI l2), some (vL (l3 + ((lN 0) * (lN 0)))), none, some (vI (l5 + nI 1))] [] rv c (MRc nb db by_ rs) mi ml mi' ml')) ∧ (¬ (nI 12) ≤ l2 → ((l5 < 0 → (Go m_mt_squares 5 [some (vR 16 0 19), some (vR 13 0 b), some (vI l2), some (vL (l3 + ((lN 0) * (lN 0)))), none, some (vI (l5 + nI 1))] [] rv c (MRc nb db by_ rs) mi ml mi' ml')) ∧ (¬ l5 < 0 → ((l5 < (nI 12) → (∃ t6 : Nat, l2 = nI t6 ∧ t6 < 12 ∧ (vp_in ((nI 31) + l5) 43 ∧ (Go m_mt_squares 5 [some (vR 16 0 19), some (vR 13 0 b), some (vI l2), some (vL (l3 + ((lN 0) * (ml (22 + t6) ((nI 31) + l5).toNatClampNeg)))), none, some (vI (l5 + nI 1))] [] rv c (MRc nb db by_ rs) mi ml mi' ml')))) ∧ (¬ l5 < (nI 12) → (Go m_mt_squares 5 [some (vR 16 0 19), some (vR 13 0 b), some (vI l2), some (vL (l3 + ((lN 0) * (lN 0)))), none, some (vI (l5 + nI 1))] [] rv c (MRc nb db by_ rs) mi ml mi' ml'))))))))))))))))))) :
    Go m_mt_squares 5 [some (vR 16 0 19), some (vR 13 0 b), some (vI l2), some (vL l3), none, some (vI l5)] [] rv c (MRc nb db by_ rs) mi ml mi' ml' := by
  rcases hbb with rfl | rfl
  all_goals
    intro Q hQ
    refine at_wq inlT 400 rfl ?_
    refine ⟨fun g => ?_, fun g => ?_⟩
    · have h := h.1 (g)
      exact h.use hQ
    · have h := h.2 (g)
      refine ⟨fun g => ?_, fun g => ?_⟩
      · have h := h.1 (g)
        refine ⟨fun g => ?_, fun g => ?_⟩
        · have h := h.1 (g)
          exact h Q hQ
        · have h := h.2 (g)
          refine ⟨fun g => ?_, fun g => ?_⟩
          · have h := h.1 (g)
            exact h Q hQ
          · have h := h.2 (g)
            refine ⟨fun g => ?_, fun g => ?_⟩
            · have h := h.1 (g)
              exact h Q hQ
            · have h := h.2 (g)
              refine ⟨fun g => ?_, fun g => ?_⟩
              · have h := h.1 (g)
                obtain ⟨t1, e_t1, l_t1, h⟩ := h
                refine ⟨row_in e_t1 l_t1, (1, 43, 22 + t1), row_mr e_t1 l_t1, ?_⟩
                refine ⟨h.1, ?_⟩
                have h := h.2
                exact h Q hQ
              · have h := h.2 (g)
                exact h Q hQ
      · have h := h.2 (g)
        refine ⟨fun g => ?_, fun g => ?_⟩
        · have h := h.1 (g)
          refine ⟨fun g => ?_, fun g => ?_⟩
          · have h := h.1 (g)
            exact h Q hQ
          · have h := h.2 (g)
            refine ⟨fun g => ?_, fun g => ?_⟩
            · have h := h.1 (g)
              exact h Q hQ
            · have h := h.2 (g)
              refine ⟨fun g => ?_, fun g => ?_⟩
              · have h := h.1 (g)
                exact h Q hQ
              · have h := h.2 (g)
                refine ⟨fun g => ?_, fun g => ?_⟩
                · have h := h.1 (g)
                  obtain ⟨t2, e_t2, l_t2, h⟩ := h
                  refine ⟨row_in e_t2 l_t2, (1, 43, 22 + t2), row_mr e_t2 l_t2, ?_⟩
                  refine ⟨h.1, ?_⟩
                  have h := h.2
                  exact h Q hQ
                · have h := h.2 (g)
                  exact h Q hQ
        · have h := h.2 (g)
          refine ⟨fun g => ?_, fun g => ?_⟩
          · have h := h.1 (g)
            refine ⟨fun g => ?_, fun g => ?_⟩
            · have h := h.1 (g)
              exact h Q hQ
            · have h := h.2 (g)
              refine ⟨fun g => ?_, fun g => ?_⟩
              · have h := h.1 (g)
                exact h Q hQ
              · have h := h.2 (g)
                refine ⟨fun g => ?_, fun g => ?_⟩
                · have h := h.1 (g)
                  exact h Q hQ
                · have h := h.2 (g)
                  refine ⟨fun g => ?_, fun g => ?_⟩
                  · have h := h.1 (g)
                    obtain ⟨t3, e_t3, l_t3, h⟩ := h
                    refine ⟨row_in e_t3 l_t3, (1, 43, 22 + t3), row_mr e_t3 l_t3, ?_⟩
                    refine ⟨h.1, ?_⟩
                    have h := h.2
                    exact h Q hQ
                  · have h := h.2 (g)
                    exact h Q hQ
          · have h := h.2 (g)
            refine ⟨fun g => ?_, fun g => ?_⟩
            · have h := h.1 (g)
              obtain ⟨t4, e_t4, l_t4, h⟩ := h
              refine ⟨row_in e_t4 l_t4, (1, 43, 22 + t4), row_mr e_t4 l_t4, ?_⟩
              refine ⟨h.1, ?_⟩
              have h := h.2
              refine ⟨fun g => ?_, fun g => ?_⟩
              · have h := h.1 (g)
                exact h Q hQ
              · have h := h.2 (g)
                refine ⟨fun g => ?_, fun g => ?_⟩
                · have h := h.1 (g)
                  exact h Q hQ
                · have h := h.2 (g)
                  refine ⟨fun g => ?_, fun g => ?_⟩
                  · have h := h.1 (g)
                    exact h Q hQ
                  · have h := h.2 (g)
                    refine ⟨fun g => ?_, fun g => ?_⟩
                    · have h := h.1 (g)
                      obtain ⟨t5, e_t5, l_t5, h⟩ := h
                      refine ⟨row_in e_t5 l_t5, (1, 43, 22 + t5), row_mr e_t5 l_t5, ?_⟩
                      refine ⟨h.1, ?_⟩
                      have h := h.2
                      exact h Q hQ
                    · have h := h.2 (g)
                      exact h Q hQ
            · have h := h.2 (g)
              refine ⟨fun g => ?_, fun g => ?_⟩
              · have h := h.1 (g)
                exact h Q hQ
              · have h := h.2 (g)
                refine ⟨fun g => ?_, fun g => ?_⟩
                · have h := h.1 (g)
                  exact h Q hQ
                · have h := h.2 (g)
                  refine ⟨fun g => ?_, fun g => ?_⟩
                  · have h := h.1 (g)
                    exact h Q hQ
                  · have h := h.2 (g)
                    refine ⟨fun g => ?_, fun g => ?_⟩
                    · have h := h.1 (g)
                      obtain ⟨t6, e_t6, l_t6, h⟩ := h
                      refine ⟨row_in e_t6 l_t6, (1, 43, 22 + t6), row_mr e_t6 l_t6, ?_⟩
                      refine ⟨h.1, ?_⟩
                      have h := h.2
                      exact h Q hQ
                    · have h := h.2 (g)
                      exact h Q hQ
theorem g_mt_sumOfLooks_0 {nb db b : Nat} {by_ rs : RX} {c : Nat} {mi mi' : MI} {ml ml' : ML} {rv : Option AV} {a1 : Int32} (hbb : b = 43 ∨ b = 5)
    (h : Go m_mt_sumOfLooks 5 [some (vR 16 0 19), some (vR 13 0 b), some (vI a1), some (vL (lN 0)), none, some (vI (nI 0))] [] rv c (MRc nb db by_ rs) mi ml mi' ml') :
    Ret m_mt_sumOfLooks [(vR 16 0 19), (vR 13 0 b), (vI a1)] rv c (MRc nb db by_ rs) mi ml mi' ml' := by
  rcases hbb with rfl | rfl
  all_goals
    intro Q hQ
    refine ok_wq inlT 400 rfl rfl ?_
    exact h Q hQ
theorem g_mt_sumOfLooks_5 {nb db b : Nat} {by_ rs : RX} {c : Nat} {mi mi' : MI} {ml ml' : ML} {rv : Option AV} {l2 : Int32} {l3 : Int64} {l5 : Int32} (hbb : b = 43 ∨ b = 5)
    (h : ((mi b 4) ≤ l5 → (Fin (some (vL l3)) mi ml rv mi' ml')) ∧ (¬ (mi b 4) ≤ l5 → ((l2 < 0 → (vp_in l5 12 ∧ (∃ (r1 : Int32), Ret m_bn_readOf [(vR 13 0 b), (vI (mi (b + 4) l5.toNatClampNeg))] (some (vI r1)) c (MRc nb db by_ rs) mi ml mi ml ∧ (Go m_mt_sumOfLooks 5 [some (vR 16 0 19), some (vR 13 0 b), some (vI l2), some (vL (l3 + ((lN 0) * ((r1 - (mi b 2)).toInt64)))), none, some (vI (l5 + nI 1))] [] rv c (MRc nb db by_ rs) mi ml mi' ml')))) ∧ (¬ l2 < 0 → (((nI 12) ≤ l2 → (vp_in l5 12 ∧ (∃ (r2 : Int32), Ret m_bn_readOf [(vR 13 0 b), (vI (mi (b + 4) l5.toNatClampNeg))] (some (vI r2)) c (MRc nb db by_ rs) mi ml mi ml ∧ (Go m_mt_sumOfLooks 5 [some (vR 16 0 19), some (vR 13 0 b), some (vI l2), some (vL (l3 + ((lN 0) * ((r2 - (mi b 2)).toInt64)))), none, some (vI (l5 + nI 1))] [] rv c (MRc nb db by_ rs) mi ml mi' ml')))) ∧ (¬ (nI 12) ≤ l2 → ((l5 < 0 → (vp_in l5 12 ∧ (∃ (r3 : Int32), Ret m_bn_readOf [(vR 13 0 b), (vI (mi (b + 4) l5.toNatClampNeg))] (some (vI r3)) c (MRc nb db by_ rs) mi ml mi ml ∧ (Go m_mt_sumOfLooks 5 [some (vR 16 0 19), some (vR 13 0 b), some (vI l2), some (vL (l3 + ((lN 0) * ((r3 - (mi b 2)).toInt64)))), none, some (vI (l5 + nI 1))] [] rv c (MRc nb db by_ rs) mi ml mi' ml')))) ∧ (¬ l5 < 0 → ((l5 < (nI 12) → (∃ t4 : Nat, l2 = nI t4 ∧ t4 < 12 ∧ (vp_in ((nI 31) + l5) 43 ∧ (vp_in l5 12 ∧ (∃ (r5 : Int32), Ret m_bn_readOf [(vR 13 0 b), (vI (mi (b + 4) l5.toNatClampNeg))] (some (vI r5)) c (MRc nb db by_ rs) mi ml mi ml ∧ (Go m_mt_sumOfLooks 5 [some (vR 16 0 19), some (vR 13 0 b), some (vI l2), some (vL (l3 + ((ml (22 + t4) ((nI 31) + l5).toNatClampNeg) * ((r5 - (mi b 2)).toInt64)))), none, some (vI (l5 + nI 1))] [] rv c (MRc nb db by_ rs) mi ml mi' ml')))))) ∧ (¬ l5 < (nI 12) → (vp_in l5 12 ∧ (∃ (r6 : Int32), Ret m_bn_readOf [(vR 13 0 b), (vI (mi (b + 4) l5.toNatClampNeg))] (some (vI r6)) c (MRc nb db by_ rs) mi ml mi ml ∧ (Go m_mt_sumOfLooks 5 [some (vR 16 0 19), some (vR 13 0 b), some (vI l2), some (vL (l3 + ((lN 0) * ((r6 - (mi b 2)).toInt64)))), none, some (vI (l5 + nI 1))] [] rv c (MRc nb db by_ rs) mi ml mi' ml'))))))))))))) :
    Go m_mt_sumOfLooks 5 [some (vR 16 0 19), some (vR 13 0 b), some (vI l2), some (vL l3), none, some (vI l5)] [] rv c (MRc nb db by_ rs) mi ml mi' ml' := by
  rcases hbb with rfl | rfl
  all_goals
    intro Q hQ
    refine at_wq inlT 400 rfl ?_
    refine ⟨fun g => ?_, fun g => ?_⟩
    · have h := h.1 (g)
      exact h.use hQ
    · have h := h.2 (g)
      refine ⟨fun g => ?_, fun g => ?_⟩
      · have h := h.1 (g)
        refine ⟨h.1, ?_⟩
        have h := h.2
        obtain ⟨r1, hR, h⟩ := h
        refine ⟨0, 0, Nat.zero_le _, Nat.zero_le _, hR _ ?_⟩
        exact h Q hQ
      · have h := h.2 (g)
        refine ⟨fun g => ?_, fun g => ?_⟩
        · have h := h.1 (g)
          refine ⟨h.1, ?_⟩
          have h := h.2
          obtain ⟨r2, hR, h⟩ := h
          refine ⟨0, 0, Nat.zero_le _, Nat.zero_le _, hR _ ?_⟩
          exact h Q hQ
        · have h := h.2 (g)
          refine ⟨fun g => ?_, fun g => ?_⟩
          · have h := h.1 (g)
            refine ⟨h.1, ?_⟩
            have h := h.2
            obtain ⟨r3, hR, h⟩ := h
            refine ⟨0, 0, Nat.zero_le _, Nat.zero_le _, hR _ ?_⟩
            exact h Q hQ
          · have h := h.2 (g)
            refine ⟨fun g => ?_, fun g => ?_⟩
            · have h := h.1 (g)
              obtain ⟨t4, e_t4, l_t4, h⟩ := h
              refine ⟨row_in e_t4 l_t4, (1, 43, 22 + t4), row_mr e_t4 l_t4, ?_⟩
              refine ⟨h.1, ?_⟩
              have h := h.2
              refine ⟨h.1, ?_⟩
              have h := h.2
              obtain ⟨r5, hR, h⟩ := h
              refine ⟨0, 0, Nat.zero_le _, Nat.zero_le _, hR _ ?_⟩
              exact h Q hQ
            · have h := h.2 (g)
              refine ⟨h.1, ?_⟩
              have h := h.2
              obtain ⟨r6, hR, h⟩ := h
              refine ⟨0, 0, Nat.zero_le _, Nat.zero_le _, hR _ ?_⟩
              exact h Q hQ
theorem g_mt_allAgree_0 {nb db b : Nat} {by_ rs : RX} {c : Nat} {mi mi' : MI} {ml ml' : ML} {rv : Option AV}  (hbb : b = 43 ∨ b = 5)
    (h : Go m_mt_allAgree 2 [some (vR 16 0 19), some (vR 13 0 b), some (vI (nI 0))] [] rv c (MRc nb db by_ rs) mi ml mi' ml') :
    Ret m_mt_allAgree [(vR 16 0 19), (vR 13 0 b)] rv c (MRc nb db by_ rs) mi ml mi' ml' := by
  rcases hbb with rfl | rfl
  all_goals
    intro Q hQ
    refine ok_wq inlT 400 rfl rfl ?_
    exact h Q hQ
theorem g_mt_allAgree_2 {nb db b : Nat} {by_ rs : RX} {c : Nat} {mi mi' : MI} {ml ml' : ML} {rv : Option AV} {l2 : Int32} (hbb : b = 43 ∨ b = 5)
    (h : ((mi b 4) ≤ l2 → (Fin (some (vI (nI 1))) mi ml rv mi' ml')) ∧ (¬ (mi b 4) ≤ l2 → (vp_in l2 12 ∧ ((0 ≤ (mi 34 l2.toNatClampNeg) → (Go m_mt_allAgree 2 [some (vR 16 0 19), some (vR 13 0 b), some (vI (l2 + nI 1))] [] rv c (MRc nb db by_ rs) mi ml mi' ml')) ∧ (¬ 0 ≤ (mi 34 l2.toNatClampNeg) → (∃ (r1 : Int64), Ret m_mt_sumOfLooks [(vR 16 0 19), (vR 13 0 b), (vI l2)] (some (vL r1)) c (MRc nb db by_ rs) mi ml mi ml ∧ ((r1 = (lN 0) → (Go m_mt_allAgree 2 [some (vR 16 0 19), some (vR 13 0 b), some (vI (l2 + nI 1))] [] rv c (MRc nb db by_ rs) mi ml mi' ml')) ∧ (¬ r1 = (lN 0) → (Fin (some (vI (nI 0))) mi ml rv mi' ml'))))))))) :
    Go m_mt_allAgree 2 [some (vR 16 0 19), some (vR 13 0 b), some (vI l2)] [] rv c (MRc nb db by_ rs) mi ml mi' ml' := by
  rcases hbb with rfl | rfl
  all_goals
    intro Q hQ
    refine at_wq inlT 400 rfl ?_
    refine ⟨fun g => ?_, fun g => ?_⟩
    · have h := h.1 (g)
      refine ⟨Or.inr rfl, ?_⟩
      exact h.use hQ
    · have h := h.2 (g)
      refine ⟨h.1, ?_⟩
      have h := h.2
      refine ⟨fun g => ?_, fun g => ?_⟩
      · have h := h.1 (g)
        exact h Q hQ
      · have h := h.2 (g)
        obtain ⟨r1, hR, h⟩ := h
        refine ⟨0, 0, Nat.zero_le _, Nat.zero_le _, hR _ ?_⟩
        refine ⟨fun g => ?_, fun g => ?_⟩
        · have h := h.1 ((lgc_eq _ _).mp g)
          exact h Q hQ
        · have h := h.2 (fun z => g ((lgc_eq _ _).mpr z))
          refine ⟨Or.inl rfl, ?_⟩
          exact h.use hQ
theorem g_mt_load_0 {nb db b : Nat} {by_ rs : RX} {c : Nat} {mi mi' : MI} {ml ml' : ML} {rv : Option AV} {a1 : Int32} (hbb : b = 43 ∨ b = 5)
    (h : ∃ t1 : Nat, a1 = nI t1 ∧ t1 < 12 ∧ (vp_in a1 12 ∧ (Go m_mt_load 18 [some (vR 16 0 19), some (vR 13 0 b), some (vI a1), some (vR 1 43 (22 + t1)), some (vI (mi (b + 4) a1.toNatClampNeg)), some (vI (nI 0)), none] [] rv c (MRc nb db by_ rs) mi ml mi' ml'))) :
    Ret m_mt_load [(vR 16 0 19), (vR 13 0 b), (vI a1)] rv c (MRc nb db by_ rs) mi ml mi' ml' := by
  rcases hbb with rfl | rfl
  all_goals
    intro Q hQ
    refine ok_wq inlT 400 rfl rfl ?_
    obtain ⟨t1, e_t1, l_t1, h⟩ := h
    refine ⟨row_in e_t1 l_t1, (1, 43, 22 + t1), row_mr e_t1 l_t1, ?_⟩
    refine ⟨h.1, ?_⟩
    have h := h.2
    exact h Q hQ
theorem g_mt_load_18 {nb db b : Nat} {by_ rs : RX} {c : Nat} {mi mi' : MI} {ml ml' : ML} {rv : Option AV} {l2 : Int32} {q3 : Nat} {l4 : Int32} {l5 : Int32} (hbb : b = 43 ∨ b = 5)
    (h : ((nI 43) ≤ l5 → (Go m_mt_load 93 [some (vR 16 0 19), some (vR 13 0 b), some (vI l2), some (vR 1 43 q3), some (vI l4), some (vI (nI 0)), none] [] rv c (MRc nb db by_ rs) mi ml mi' ml')) ∧ (¬ (nI 43) ≤ l5 → (((nI 31) ≤ l5 → ((¬ l5 = ((nI 31) + l2) → (vp_in l5 43 ∧ (Go m_mt_load 18 [some (vR 16 0 19), some (vR 13 0 b), some (vI l2), some (vR 1 43 q3), some (vI l4), some (vI (l5 + nI 1)), none] [] rv c (MRc nb db by_ rs) mi (u2 ml q3 l5.toNatClampNeg (lN 0)) mi' ml'))) ∧ (l5 = ((nI 31) + l2) → (vp_in l5 43 ∧ (Go m_mt_load 18 [some (vR 16 0 19), some (vR 13 0 b), some (vI l2), some (vR 1 43 q3), some (vI l4), some (vI (l5 + nI 1)), none] [] rv c (MRc nb db by_ rs) mi (u2 ml q3 l5.toNatClampNeg (ml 19 2)) mi' ml'))))) ∧ (¬ (nI 31) ≤ l5 → ((¬ ((l4 >>> (l5 &&& 31)) &&& (nI 1)) = (nI 1) → (vp_in l5 43 ∧ (Go m_mt_load 18 [some (vR 16 0 19), some (vR 13 0 b), some (vI l2), some (vR 1 43 q3), some (vI l4), some (vI (l5 + nI 1)), none] [] rv c (MRc nb db by_ rs) mi (u2 ml q3 l5.toNatClampNeg (lN 0)) mi' ml'))) ∧ (((l4 >>> (l5 &&& 31)) &&& (nI 1)) = (nI 1) → (vp_in l5 43 ∧ (Go m_mt_load 18 [some (vR 16 0 19), some (vR 13 0 b), some (vI l2), some (vR 1 43 q3), some (vI l4), some (vI (l5 + nI 1)), none] [] rv c (MRc nb db by_ rs) mi (u2 ml q3 l5.toNatClampNeg (ml 19 2)) mi' ml')))))))) :
    Go m_mt_load 18 [some (vR 16 0 19), some (vR 13 0 b), some (vI l2), some (vR 1 43 q3), some (vI l4), some (vI l5), none] [] rv c (MRc nb db by_ rs) mi ml mi' ml' := by
  rcases hbb with rfl | rfl
  all_goals
    intro Q hQ
    refine at_wq inlT 400 rfl ?_
    refine ⟨fun g => ?_, fun g => ?_⟩
    · have h := h.1 (g)
      exact h Q hQ
    · have h := h.2 (g)
      refine ⟨fun g => ?_, fun g => ?_⟩
      · have h := h.1 (g)
        refine ⟨fun g => ?_, fun g => ?_⟩
        · have h := h.1 (g)
          refine ⟨fun _ => ?_, fun g => absurd g (by decide)⟩
          refine ⟨h.1, ?_⟩
          have h := h.2
          exact At.wk (h Q hQ) ⟨rfl, rfl, rfl, rfl, rfl, rfl, trivial⟩
        · have h := h.2 (g)
          refine ⟨fun g => absurd g (by decide), fun _ => ?_⟩
          refine ⟨h.1, ?_⟩
          have h := h.2
          exact At.wk (h Q hQ) ⟨rfl, rfl, rfl, rfl, rfl, rfl, trivial⟩
      · have h := h.2 (g)
        refine ⟨fun g => ?_, fun g => ?_⟩
        · have h := h.1 (g)
          refine ⟨fun _ => ?_, fun g => absurd g (by decide)⟩
          refine ⟨h.1, ?_⟩
          have h := h.2
          exact At.wk (h Q hQ) ⟨rfl, rfl, rfl, rfl, rfl, rfl, trivial⟩
        · have h := h.2 (g)
          refine ⟨fun g => absurd g (by decide), fun _ => ?_⟩
          refine ⟨h.1, ?_⟩
          have h := h.2
          exact At.wk (h Q hQ) ⟨rfl, rfl, rfl, rfl, rfl, rfl, trivial⟩
theorem g_mt_load_93 {nb db b : Nat} {by_ rs : RX} {c : Nat} {mi mi' : MI} {ml ml' : ML} {rv : Option AV} {l2 : Int32} {q3 : Nat} {l4 : Int32} {l5 : Int32} (hbb : b = 43 ∨ b = 5)
    (h : (l2 ≤ l5 → (Fin none mi ml rv mi' ml')) ∧ (¬ l2 ≤ l5 → (vp_in l5 12 ∧ (((mi 34 l5.toNatClampNeg) < 0 → (Go m_mt_load 93 [some (vR 16 0 19), some (vR 13 0 b), some (vI l2), some (vR 1 43 q3), some (vI l4), some (vI (l5 + nI 1)), none] [] rv c (MRc nb db by_ rs) mi ml mi' ml')) ∧ (¬ (mi 34 l5.toNatClampNeg) < 0 → (vp_in l5 12 ∧ ((¬ ((l4 >>> ((mi 34 l5.toNatClampNeg) &&& 31)) &&& (nI 1)) = (nI 1) → (Go m_mt_load 93 [some (vR 16 0 19), some (vR 13 0 b), some (vI l2), some (vR 1 43 q3), some (vI l4), some (vI (l5 + nI 1)), none] [] rv c (MRc nb db by_ rs) mi ml mi' ml')) ∧ (((l4 >>> ((mi 34 l5.toNatClampNeg) &&& 31)) &&& (nI 1)) = (nI 1) → (Go m_mt_load 128 [some (vR 16 0 19), some (vR 13 0 b), some (vI l2), some (vR 1 43 q3), some (vI l4), some (vI l5), some (vI (nI 0))] [] rv c (MRc nb db by_ rs) mi ml mi' ml'))))))))) :
    Go m_mt_load 93 [some (vR 16 0 19), some (vR 13 0 b), some (vI l2), some (vR 1 43 q3), some (vI l4), some (vI l5), none] [] rv c (MRc nb db by_ rs) mi ml mi' ml' := by
  rcases hbb with rfl | rfl
  all_goals
    intro Q hQ
    refine at_wq inlT 400 rfl ?_
    refine ⟨fun g => ?_, fun g => ?_⟩
    · have h := h.1 (g)
      exact h.use hQ
    · have h := h.2 (g)
      refine ⟨h.1, ?_⟩
      have h := h.2
      refine ⟨fun g => ?_, fun g => ?_⟩
      · have h := h.1 (g)
        exact h Q hQ
      · have h := h.2 (g)
        refine ⟨h.1, ?_⟩
        have h := h.2
        refine ⟨fun g => ?_, fun g => ?_⟩
        · have h := h.1 (g)
          exact h Q hQ
        · have h := h.2 (g)
          exact h Q hQ
theorem g_mt_load_128 {nb db b : Nat} {by_ rs : RX} {c : Nat} {mi mi' : MI} {ml ml' : ML} {rv : Option AV} {l2 : Int32} {q3 : Nat} {l4 : Int32} {l5 : Int32} {l6 : Int32} (hbb : b = 43 ∨ b = 5)
    (h : ((nI 43) ≤ l6 → (Go m_mt_load 93 [some (vR 16 0 19), some (vR 13 0 b), some (vI l2), some (vR 1 43 q3), some (vI l4), some (vI (l5 + nI 1)), none] [] rv c (MRc nb db by_ rs) mi ml mi' ml')) ∧ (¬ (nI 43) ≤ l6 → (vp_in l6 43 ∧ (∃ t1 : Nat, l5 = nI t1 ∧ t1 < 12 ∧ (vp_in l6 43 ∧ (vp_in l6 43 ∧ (Go m_mt_load 128 [some (vR 16 0 19), some (vR 13 0 b), some (vI l2), some (vR 1 43 q3), some (vI l4), some (vI l5), some (vI (l6 + nI 1))] [] rv c (MRc nb db by_ rs) mi (u2 ml q3 l6.toNatClampNeg ((ml q3 l6.toNatClampNeg) - (ml (22 + t1) l6.toNatClampNeg))) mi' ml'))))))) :
    Go m_mt_load 128 [some (vR 16 0 19), some (vR 13 0 b), some (vI l2), some (vR 1 43 q3), some (vI l4), some (vI l5), some (vI l6)] [] rv c (MRc nb db by_ rs) mi ml mi' ml' := by
  rcases hbb with rfl | rfl
  all_goals
    intro Q hQ
    refine at_wq inlT 400 rfl ?_
    refine ⟨fun g => ?_, fun g => ?_⟩
    · have h := h.1 (g)
      exact At.wk (h Q hQ) ⟨rfl, rfl, rfl, rfl, rfl, rfl, trivial⟩
    · have h := h.2 (g)
      refine ⟨h.1, ?_⟩
      have h := h.2
      obtain ⟨t1, e_t1, l_t1, h⟩ := h
      refine ⟨row_in e_t1 l_t1, (1, 43, 22 + t1), row_mr e_t1 l_t1, ?_⟩
      refine ⟨h.1, ?_⟩
      have h := h.2
      refine ⟨h.1, ?_⟩
      have h := h.2
      exact h Q hQ
theorem g_mt_firstColour_0 {nb db b : Nat} {by_ rs : RX} {c : Nat} {mi mi' : MI} {ml ml' : ML} {rv : Option AV} {a1 : Int32} (hbb : b = 43 ∨ b = 5)
    (h : Go m_mt_firstColour 2 [some (vR 16 0 19), some (vR 13 0 b), some (vI a1), some (vI (nI 0))] [] rv c (MRc nb db by_ rs) mi ml mi' ml') :
    Ret m_mt_firstColour [(vR 16 0 19), (vR 13 0 b), (vI a1)] rv c (MRc nb db by_ rs) mi ml mi' ml' := by
  rcases hbb with rfl | rfl
  all_goals
    intro Q hQ
    refine ok_wq inlT 400 rfl rfl ?_
    exact h Q hQ
theorem g_mt_firstColour_2 {nb db b : Nat} {by_ rs : RX} {c : Nat} {mi mi' : MI} {ml ml' : ML} {rv : Option AV} {l2 : Int32} {l3 : Int32} (hbb : b = 43 ∨ b = 5)
    (h : ((mi b 0) ≤ l3 → (Fin (some (vI (-(nI 1)))) mi ml rv mi' ml')) ∧ (¬ (mi b 0) ≤ l3 → (∃ t1 : Nat, l2 = nI t1 ∧ t1 < 12 ∧ (vp_in l3 43 ∧ (((ml (22 + t1) l3.toNatClampNeg) = (lN 0) → (Go m_mt_firstColour 2 [some (vR 16 0 19), some (vR 13 0 b), some (vI l2), some (vI (l3 + nI 1))] [] rv c (MRc nb db by_ rs) mi ml mi' ml')) ∧ (¬ (ml (22 + t1) l3.toNatClampNeg) = (lN 0) → (Fin (some (vI l3)) mi ml rv mi' ml'))))))) :
    Go m_mt_firstColour 2 [some (vR 16 0 19), some (vR 13 0 b), some (vI l2), some (vI l3)] [] rv c (MRc nb db by_ rs) mi ml mi' ml' := by
  rcases hbb with rfl | rfl
  all_goals
    intro Q hQ
    refine at_wq inlT 400 rfl ?_
    refine ⟨fun g => ?_, fun g => ?_⟩
    · have h := h.1 (g)
      exact h.use hQ
    · have h := h.2 (g)
      obtain ⟨t1, e_t1, l_t1, h⟩ := h
      refine ⟨row_in e_t1 l_t1, (1, 43, 22 + t1), row_mr e_t1 l_t1, ?_⟩
      refine ⟨h.1, ?_⟩
      have h := h.2
      refine ⟨fun g => ?_, fun g => ?_⟩
      · have h := h.1 ((lgc_eq _ _).mp g)
        exact h Q hQ
      · have h := h.2 (fun z => g ((lgc_eq _ _).mpr z))
        exact h.use hQ
theorem g_mt_clearPivot_0 {nb db : Nat} {by_ rs : RX} {c : Nat} {mi mi' : MI} {ml ml' : ML} {rv : Option AV} {a0 : Int32} {a1 : Int32}
    (h : ∃ t1 : Nat, a0 = nI t1 ∧ t1 < 12 ∧ (vp_in a1 43 ∧ (((lN 0) ≤ (ml (22 + t1) a1.toNatClampNeg) → (vp_in a1 43 ∧ (Go m_mt_clearPivot 48 [some (vR 16 0 19), some (vI a0), some (vI a1), some (vR 1 43 (22 + t1)), some (vL (ml (22 + t1) a1.toNatClampNeg)), none, some (vI (nI 0)), none, none, none, none] [] rv c (MRc nb db by_ rs) mi ml mi' ml'))) ∧ (¬ (lN 0) ≤ (ml (22 + t1) a1.toNatClampNeg) → (Go m_mt_clearPivot 18 [some (vR 16 0 19), some (vI a0), some (vI a1), some (vR 1 43 (22 + t1)), some (vI (nI 0)), none, none, none, none, none, none] [] rv c (MRc nb db by_ rs) mi ml mi' ml'))))) :
    Ret m_mt_clearPivot [(vR 16 0 19), (vI a0), (vI a1)] rv c (MRc nb db by_ rs) mi ml mi' ml' := by
  intro Q hQ
  refine ok_wq inlT 400 rfl rfl ?_
  obtain ⟨t1, e_t1, l_t1, h⟩ := h
  refine ⟨row_in e_t1 l_t1, (1, 43, 22 + t1), row_mr e_t1 l_t1, ?_⟩
  refine ⟨h.1, ?_⟩
  have h := h.2
  refine ⟨fun g => ?_, fun g => ?_⟩
  · have h := h.1 ((lgc_ge _ _).mp g)
    refine ⟨h.1, ?_⟩
    have h := h.2
    exact h Q hQ
  · have h := h.2 (fun z => g ((lgc_ge _ _).mpr z))
    exact h Q hQ
theorem g_mt_clearPivot_18 {nb db : Nat} {by_ rs : RX} {c : Nat} {mi mi' : MI} {ml ml' : ML} {rv : Option AV} {l1 : Int32} {l2 : Int32} {q3 : Nat} {l4 : Int32}
    (h : ((nI 43) ≤ l4 → (vp_in l2 43 ∧ (Go m_mt_clearPivot 48 [some (vR 16 0 19), some (vI l1), some (vI l2), some (vR 1 43 q3), some (vL (ml q3 l2.toNatClampNeg)), none, some (vI (nI 0)), none, none, none, none] [] rv c (MRc nb db by_ rs) mi ml mi' ml'))) ∧ (¬ (nI 43) ≤ l4 → (vp_in l4 43 ∧ (vp_in l4 43 ∧ (Go m_mt_clearPivot 18 [some (vR 16 0 19), some (vI l1), some (vI l2), some (vR 1 43 q3), some (vI (l4 + nI 1)), none, none, none, none, none, none] [] rv c (MRc nb db by_ rs) mi (u2 ml q3 l4.toNatClampNeg (-(ml q3 l4.toNatClampNeg))) mi' ml'))))) :
    Go m_mt_clearPivot 18 [some (vR 16 0 19), some (vI l1), some (vI l2), some (vR 1 43 q3), some (vI l4), none, none, none, none, none, none] [] rv c (MRc nb db by_ rs) mi ml mi' ml' := by
  intro Q hQ
  refine at_wq inlT 400 rfl ?_
  refine ⟨fun g => ?_, fun g => ?_⟩
  · have h := h.1 (g)
    refine ⟨h.1, ?_⟩
    have h := h.2
    exact h Q hQ
  · have h := h.2 (g)
    refine ⟨h.1, ?_⟩
    have h := h.2
    refine ⟨h.1, ?_⟩
    have h := h.2
    exact h Q hQ
theorem g_mt_clearPivot_48 {nb db : Nat} {by_ rs : RX} {c : Nat} {mi mi' : MI} {ml ml' : ML} {rv : Option AV} {l1 : Int32} {l2 : Int32} {q3 : Nat} {l4 : Int64} {l6 : Int32}
    (h : (l1 ≤ l6 → (Fin none mi (u2 ml 19 2 l4) rv mi' ml')) ∧ (¬ l1 ≤ l6 → (((ml 19 2) ≤ (lN 0) → (Fin none mi (u2 ml 19 2 l4) rv mi' ml')) ∧ (¬ (ml 19 2) ≤ (lN 0) → (vp_in l6 12 ∧ (((mi 34 l6.toNatClampNeg) < 0 → (Go m_mt_clearPivot 48 [some (vR 16 0 19), some (vI l1), some (vI l2), some (vR 1 43 q3), some (vL l4), none, some (vI (l6 + nI 1)), none, none, none, none] [] rv c (MRc nb db by_ rs) mi ml mi' ml')) ∧ (¬ (mi 34 l6.toNatClampNeg) < 0 → (∃ t1 : Nat, l6 = nI t1 ∧ t1 < 12 ∧ (vp_in l2 43 ∧ (Go m_mt_clearPivot 91 [some (vR 16 0 19), some (vI l1), some (vI l2), some (vR 1 43 q3), some (vL l4), none, some (vI l6), some (vR 1 43 (22 + t1)), some (vL (ml (22 + t1) l2.toNatClampNeg)), none, some (vI (nI 0))] [] rv c (MRc nb db by_ rs) mi ml mi' ml')))))))))) :
    Go m_mt_clearPivot 48 [some (vR 16 0 19), some (vI l1), some (vI l2), some (vR 1 43 q3), some (vL l4), none, some (vI l6), none, none, none, none] [] rv c (MRc nb db by_ rs) mi ml mi' ml' := by
  intro Q hQ
  refine at_wq inlT 400 rfl ?_
  refine ⟨fun g => ?_, fun g => ?_⟩
  · have h := h.1 (g)
    exact h.use hQ
  · have h := h.2 (g)
    refine ⟨fun g => ?_, fun g => ?_⟩
    · have h := h.1 ((lgc_le _ _).mp g)
      exact h.use hQ
    · have h := h.2 (fun z => g ((lgc_le _ _).mpr z))
      refine ⟨h.1, ?_⟩
      have h := h.2
      refine ⟨fun g => ?_, fun g => ?_⟩
      · have h := h.1 (g)
        exact h Q hQ
      · have h := h.2 (g)
        obtain ⟨t1, e_t1, l_t1, h⟩ := h
        refine ⟨row_in e_t1 l_t1, (1, 43, 22 + t1), row_mr e_t1 l_t1, ?_⟩
        refine ⟨h.1, ?_⟩
        have h := h.2
        exact h Q hQ
theorem g_mt_clearPivot_91 {nb db : Nat} {by_ rs : RX} {c : Nat} {mi mi' : MI} {ml ml' : ML} {rv : Option AV} {l1 : Int32} {l2 : Int32} {q3 : Nat} {l4 : Int64} {l6 : Int32} {q7 : Nat} {l8 : Int64} {l10 : Int32}
    (h : ((nI 43) ≤ l10 → (Go m_mt_clearPivot 48 [some (vR 16 0 19), some (vI l1), some (vI l2), some (vR 1 43 q3), some (vL l4), none, some (vI (l6 + nI 1)), none, none, none, none] [] rv c (MRc nb db by_ rs) mi ml mi' ml')) ∧ (¬ (nI 43) ≤ l10 → (vp_in l10 43 ∧ (vp_in l10 43 ∧ (¬ (ml 19 2) = 0 ∧ (vp_in l10 43 ∧ (Go m_mt_clearPivot 91 [some (vR 16 0 19), some (vI l1), some (vI l2), some (vR 1 43 q3), some (vL l4), none, some (vI l6), some (vR 1 43 q7), some (vL l8), none, some (vI (l10 + nI 1))] [] rv c (MRc nb db by_ rs) mi (u2 ml q7 l10.toNatClampNeg (((l4 * (ml q7 l10.toNatClampNeg)) - (l8 * (ml q3 l10.toNatClampNeg))) / (ml 19 2))) mi' ml'))))))) :
    Go m_mt_clearPivot 91 [some (vR 16 0 19), some (vI l1), some (vI l2), some (vR 1 43 q3), some (vL l4), none, some (vI l6), some (vR 1 43 q7), some (vL l8), none, some (vI l10)] [] rv c (MRc nb db by_ rs) mi ml mi' ml' := by
  intro Q hQ
  refine at_wq inlT 400 rfl ?_
  refine ⟨fun g => ?_, fun g => ?_⟩
  · have h := h.1 (g)
    exact At.wk (h Q hQ) ⟨rfl, rfl, rfl, rfl, rfl, rfl, trivial⟩
  · have h := h.2 (g)
    refine ⟨h.1, ?_⟩
    have h := h.2
    refine ⟨h.1, ?_⟩
    have h := h.2
    refine ⟨h.1, ?_⟩
    have h := h.2
    refine ⟨h.1, ?_⟩
    have h := h.2
    exact h Q hQ
theorem g_mt_findTold_0 {nb db b : Nat} {by_ rs : RX} {c : Nat} {mi mi' : MI} {ml ml' : ML} {rv : Option AV}  (hbb : b = 43 ∨ b = 5)
    (h : Go m_mt_findTold 7 [some (vR 16 0 19), some (vR 13 0 b), some (vI (nI 0))] [] rv c (MRc nb db by_ rs) (u2 mi 19 1 (nI 0)) ml mi' ml') :
    Ret m_mt_findTold [(vR 16 0 19), (vR 13 0 b)] rv c (MRc nb db by_ rs) mi ml mi' ml' := by
  rcases hbb with rfl | rfl
  all_goals
    intro Q hQ
    refine ok_wq inlT 400 rfl rfl ?_
    exact h Q hQ
theorem g_mt_findTold_7 {nb db b : Nat} {by_ rs : RX} {c : Nat} {mi mi' : MI} {ml ml' : ML} {rv : Option AV} {l2 : Int32} (hbb : b = 43 ∨ b = 5)
    (h : ((mi b 4) ≤ l2 → (Fin none mi ml rv mi' ml')) ∧ (¬ (mi b 4) ≤ l2 → (vp_in l2 12 ∧ (((mi 34 l2.toNatClampNeg) < 0 → (Go m_mt_findTold 7 [some (vR 16 0 19), some (vR 13 0 b), some (vI (l2 + nI 1))] [] rv c (MRc nb db by_ rs) mi ml mi' ml')) ∧ (¬ (mi 34 l2.toNatClampNeg) < 0 → (∃ (r1 : Int32), Ret m_mt_hasOnlyPivot [(vR 16 0 19), (vR 13 0 b), (vI l2)] (some (vI r1)) c (MRc nb db by_ rs) mi ml mi ml ∧ ((r1 = 0 → (Go m_mt_findTold 7 [some (vR 16 0 19), some (vR 13 0 b), some (vI (l2 + nI 1))] [] rv c (MRc nb db by_ rs) mi ml mi' ml')) ∧ (¬ r1 = 0 → (vp_in l2 12 ∧ (vp_in l2 12 ∧ (vp_in (mi 34 l2.toNatClampNeg) 31 ∧ (Go m_mt_findTold 7 [some (vR 16 0 19), some (vR 13 0 b), some (vI (l2 + nI 1))] [] rv c (MRc nb db by_ rs) (u2 (u2 mi 19 1 ((mi 19 1) ||| ((nI 1) <<< ((mi 34 l2.toNatClampNeg) &&& 31)))) 20 (mi 34 l2.toNatClampNeg).toNatClampNeg l2) ml mi' ml')))))))))))) :
    Go m_mt_findTold 7 [some (vR 16 0 19), some (vR 13 0 b), some (vI l2)] [] rv c (MRc nb db by_ rs) mi ml mi' ml' := by
  rcases hbb with rfl | rfl
  all_goals
    intro Q hQ
    refine at_wq inlT 400 rfl ?_
    refine ⟨fun g => ?_, fun g => ?_⟩
    · have h := h.1 (g)
      exact h.use hQ
    · have h := h.2 (g)
      refine ⟨h.1, ?_⟩
      have h := h.2
      refine ⟨fun g => ?_, fun g => ?_⟩
      · have h := h.1 (g)
        exact h Q hQ
      · have h := h.2 (g)
        obtain ⟨r1, hR, h⟩ := h
        refine ⟨0, 0, Nat.zero_le _, Nat.zero_le _, hR _ ?_⟩
        refine ⟨fun g => ?_, fun g => ?_⟩
        · have h := h.1 (g)
          exact h Q hQ
        · have h := h.2 (g)
          refine ⟨h.1, ?_⟩
          have h := h.2
          refine ⟨h.1, ?_⟩
          have h := h.2
          refine ⟨h.1, ?_⟩
          have h := h.2
          exact h Q hQ
theorem g_mt_hasOnlyPivot_0 {nb db b : Nat} {by_ rs : RX} {c : Nat} {mi mi' : MI} {ml ml' : ML} {rv : Option AV} {a1 : Int32} (hbb : b = 43 ∨ b = 5)
    (h : Go m_mt_hasOnlyPivot 2 [some (vR 16 0 19), some (vR 13 0 b), some (vI a1), some (vI (nI 0))] [] rv c (MRc nb db by_ rs) mi ml mi' ml') :
    Ret m_mt_hasOnlyPivot [(vR 16 0 19), (vR 13 0 b), (vI a1)] rv c (MRc nb db by_ rs) mi ml mi' ml' := by
  rcases hbb with rfl | rfl
  all_goals
    intro Q hQ
    refine ok_wq inlT 400 rfl rfl ?_
    exact h Q hQ
theorem g_mt_hasOnlyPivot_2 {nb db b : Nat} {by_ rs : RX} {c : Nat} {mi mi' : MI} {ml ml' : ML} {rv : Option AV} {l2 : Int32} {l3 : Int32} (hbb : b = 43 ∨ b = 5)
    (h : ((mi b 0) ≤ l3 → (Fin (some (vI (nI 1))) mi ml rv mi' ml')) ∧ (¬ (mi b 0) ≤ l3 → (vp_in l2 12 ∧ ((l3 = (mi 34 l2.toNatClampNeg) → (Go m_mt_hasOnlyPivot 2 [some (vR 16 0 19), some (vR 13 0 b), some (vI l2), some (vI (l3 + nI 1))] [] rv c (MRc nb db by_ rs) mi ml mi' ml')) ∧ (¬ l3 = (mi 34 l2.toNatClampNeg) → (∃ t1 : Nat, l2 = nI t1 ∧ t1 < 12 ∧ (vp_in l3 43 ∧ (((ml (22 + t1) l3.toNatClampNeg) = (lN 0) → (Go m_mt_hasOnlyPivot 2 [some (vR 16 0 19), some (vR 13 0 b), some (vI l2), some (vI (l3 + nI 1))] [] rv c (MRc nb db by_ rs) mi ml mi' ml')) ∧ (¬ (ml (22 + t1) l3.toNatClampNeg) = (lN 0) → (Fin (some (vI (nI 0))) mi ml rv mi' ml')))))))))) :
    Go m_mt_hasOnlyPivot 2 [some (vR 16 0 19), some (vR 13 0 b), some (vI l2), some (vI l3)] [] rv c (MRc nb db by_ rs) mi ml mi' ml' := by
  rcases hbb with rfl | rfl
  all_goals
    intro Q hQ
    refine at_wq inlT 400 rfl ?_
    refine ⟨fun g => ?_, fun g => ?_⟩
    · have h := h.1 (g)
      refine ⟨Or.inr rfl, ?_⟩
      exact h.use hQ
    · have h := h.2 (g)
      refine ⟨h.1, ?_⟩
      have h := h.2
      refine ⟨fun g => ?_, fun g => ?_⟩
      · have h := h.1 (g)
        exact h Q hQ
      · have h := h.2 (g)
        obtain ⟨t1, e_t1, l_t1, h⟩ := h
        refine ⟨row_in e_t1 l_t1, (1, 43, 22 + t1), row_mr e_t1 l_t1, ?_⟩
        refine ⟨h.1, ?_⟩
        have h := h.2
        refine ⟨fun g => ?_, fun g => ?_⟩
        · have h := h.1 ((lgc_eq _ _).mp g)
          exact h Q hQ
        · have h := h.2 (fun z => g ((lgc_eq _ _).mpr z))
          refine ⟨Or.inl rfl, ?_⟩
          exact h.use hQ
theorem g_tr_findSteps_0 {nb db b : Nat} {by_ rs : RX} {c : Nat} {mi mi' : MI} {ml ml' : ML} {rv : Option AV}  (hbb : b = 43 ∨ b = 5)
    (h : Go m_tr_findSteps 2 [some (vR 17 0 35), some (vR 13 0 b), some (vI (nI 0)), none, none] [] rv c (MRc nb db by_ rs) mi ml mi' ml') :
    Ret m_tr_findSteps [(vR 17 0 35), (vR 13 0 b)] rv c (MRc nb db by_ rs) mi ml mi' ml' := by
  rcases hbb with rfl | rfl
  all_goals
    intro Q hQ
    refine ok_wq inlT 400 rfl rfl ?_
    exact h Q hQ
theorem g_tr_findSteps_2 {nb db b : Nat} {by_ rs : RX} {c : Nat} {mi mi' : MI} {ml ml' : ML} {rv : Option AV} {l2 : Int32} (hbb : b = 43 ∨ b = 5)
    (h : ((nI 12) < l2 → (Fin none mi ml rv mi' ml')) ∧ (¬ (nI 12) < l2 → (((mi 35 5) ≤ l2 → (Go m_tr_findSteps 30 [some (vR 17 0 35), some (vR 13 0 b), some (vI l2), some (vI (nI 0)), some (vI (nI 0))] [] rv c (MRc nb db by_ rs) mi ml mi' ml')) ∧ (¬ (mi 35 5) ≤ l2 → (vp_in l2 12 ∧ (Go m_tr_findSteps 30 [some (vR 17 0 35), some (vR 13 0 b), some (vI l2), some (vI (mi (b + 4) l2.toNatClampNeg)), some (vI (nI 0))] [] rv c (MRc nb db by_ rs) mi ml mi' ml')))))) :
    Go m_tr_findSteps 2 [some (vR 17 0 35), some (vR 13 0 b), some (vI l2), none, none] [] rv c (MRc nb db by_ rs) mi ml mi' ml' := by
  rcases hbb with rfl | rfl
  all_goals
    intro Q hQ
    refine at_wq inlT 400 rfl ?_
    refine ⟨fun g => ?_, fun g => ?_⟩
    · have h := h.1 (g)
      exact h.use hQ
    · have h := h.2 (g)
      refine ⟨fun g => ?_, fun g => ?_⟩
      · have h := h.1 (g)
        exact h Q hQ
      · have h := h.2 (g)
        refine ⟨h.1, ?_⟩
        have h := h.2
        exact h Q hQ
theorem g_tr_findSteps_30 {nb db b : Nat} {by_ rs : RX} {c : Nat} {mi mi' : MI} {ml ml' : ML} {rv : Option AV} {l2 : Int32} {l3 : Int32} {l4 : Int32} (hbb : b = 43 ∨ b = 5)
    (h : ((mi 35 5) ≤ l4 → (Go m_tr_findSteps 2 [some (vR 17 0 35), some (vR 13 0 b), some (vI (l2 + nI 1)), none, none] [] rv c (MRc nb db by_ rs) mi ml mi' ml')) ∧ (¬ (mi 35 5) ≤ l4 → (vp_in l4 12 ∧ (∃ (r1 : Int32), Ret m_ji_bitCount [(vI (l3 ^^^ (mi (b + 4) l4.toNatClampNeg)))] (some (vI r1)) c (MRc nb db by_ rs) mi ml mi ml ∧ (vp_in ((l2 * (nI 12)) + l4) 156 ∧ (Go m_tr_findSteps 30 [some (vR 17 0 35), some (vR 13 0 b), some (vI l2), some (vI l3), some (vI (l4 + nI 1))] [] rv c (MRc nb db by_ rs) (u2 mi 37 ((l2 * (nI 12)) + l4).toNatClampNeg r1) ml mi' ml')))))) :
    Go m_tr_findSteps 30 [some (vR 17 0 35), some (vR 13 0 b), some (vI l2), some (vI l3), some (vI l4)] [] rv c (MRc nb db by_ rs) mi ml mi' ml' := by
  rcases hbb with rfl | rfl
  all_goals
    intro Q hQ
    refine at_wq inlT 400 rfl ?_
    refine ⟨fun g => ?_, fun g => ?_⟩
    · have h := h.1 (g)
      exact At.wk (h Q hQ) ⟨rfl, rfl, rfl, trivial⟩
    · have h := h.2 (g)
      refine ⟨h.1, ?_⟩
      have h := h.2
      obtain ⟨r1, hR, h⟩ := h
      refine ⟨0, 0, Nat.zero_le _, Nat.zero_le _, hR _ ?_⟩
      refine ⟨h.1, ?_⟩
      have h := h.2
      exact h Q hQ
theorem g_tr_fewestFrom_0 {nb db : Nat} {by_ rs : RX} {c : Nat} {mi mi' : MI} {ml ml' : ML} {rv : Option AV} {a0 : Int32} {a1 : Int32}
    (h : Go m_tr_fewestFrom 5 [some (vR 17 0 35), some (vI a0), some (vI a1), some (vI (-(nI 1))), some (vI (nI 0)), none] [] rv c (MRc nb db by_ rs) mi ml mi' ml') :
    Ret m_tr_fewestFrom [(vR 17 0 35), (vI a0), (vI a1)] rv c (MRc nb db by_ rs) mi ml mi' ml' := by
  intro Q hQ
  refine ok_wq inlT 400 rfl rfl ?_
  exact h Q hQ
theorem g_tr_fewestFrom_5 {nb db : Nat} {by_ rs : RX} {c : Nat} {mi mi' : MI} {ml ml' : ML} {rv : Option AV} {l1 : Int32} {l2 : Int32} {l3 : Int32} {l4 : Int32}
    (h : ((mi 35 5) ≤ l4 → (Fin (some (vI (if l3 < (nI 0) then (nI 0) else l3))) mi ml rv mi' ml')) ∧ (¬ (mi 35 5) ≤ l4 → ((¬ ((l1 >>> (l4 &&& 31)) &&& (nI 1)) = 0 → (Go m_tr_fewestFrom 5 [some (vR 17 0 35), some (vI l1), some (vI l2), some (vI l3), some (vI (l4 + nI 1)), none] [] rv c (MRc nb db by_ rs) mi ml mi' ml')) ∧ (((l1 >>> (l4 &&& 31)) &&& (nI 1)) = 0 → (∃ (r1 : Int32), Ret m_tr_movesBy [(vR 17 0 35), (vI l1), (vI l2), (vI l4)] (some (vI r1)) c (MRc nb db by_ rs) mi ml mi ml ∧ ((l3 < 0 → (Go m_tr_fewestFrom 5 [some (vR 17 0 35), some (vI l1), some (vI l2), some (vI r1), some (vI (l4 + nI 1)), none] [] rv c (MRc nb db by_ rs) mi ml mi' ml')) ∧ (¬ l3 < 0 → ((l3 ≤ r1 → (Go m_tr_fewestFrom 5 [some (vR 17 0 35), some (vI l1), some (vI l2), some (vI l3), some (vI (l4 + nI 1)), none] [] rv c (MRc nb db by_ rs) mi ml mi' ml')) ∧ (¬ l3 ≤ r1 → (Go m_tr_fewestFrom 5 [some (vR 17 0 35), some (vI l1), some (vI l2), some (vI r1), some (vI (l4 + nI 1)), none] [] rv c (MRc nb db by_ rs) mi ml mi' ml')))))))))) :
    Go m_tr_fewestFrom 5 [some (vR 17 0 35), some (vI l1), some (vI l2), some (vI l3), some (vI l4), none] [] rv c (MRc nb db by_ rs) mi ml mi' ml' := by
  intro Q hQ
  refine at_wq inlT 400 rfl ?_
  refine ⟨fun g => ?_, fun g => ?_⟩
  · have h := h.1 (g)
    exact h.use hQ
  · have h := h.2 (g)
    refine ⟨fun g => ?_, fun g => ?_⟩
    · have h := h.1 (g)
      exact h Q hQ
    · have h := h.2 (g)
      obtain ⟨r1, hR, h⟩ := h
      refine ⟨0, 0, Nat.zero_le _, Nat.zero_le _, hR _ ?_⟩
      refine ⟨fun g => ?_, fun g => ?_⟩
      · have h := h.1 (g)
        exact At.wk (h Q hQ) ⟨rfl, rfl, rfl, rfl, rfl, trivial⟩
      · have h := h.2 (g)
        refine ⟨fun g => ?_, fun g => ?_⟩
        · have h := h.1 (g)
          exact At.wk (h Q hQ) ⟨rfl, rfl, rfl, rfl, rfl, trivial⟩
        · have h := h.2 (g)
          exact At.wk (h Q hQ) ⟨rfl, rfl, rfl, rfl, rfl, trivial⟩
theorem g_tr_movesBy_0 {nb db : Nat} {by_ : RX} {rn rc : Nat} {c : Nat} {mi mi' : MI} {ml ml' : ML} {rv : Option AV} {a0 : Int32} {a1 : Int32} {a2 : Int32}
    (h : vp_in ((a1 * (nI 12)) + a2) 156 ∧ (vp_in (((a0 ||| ((nI 1) <<< (a2 &&& 31))) * (mi 35 5)) + a2) rn ∧ (Fin (some (vI ((mi 37 ((a1 * (nI 12)) + a2).toNatClampNeg) + (mi rc (((a0 ||| ((nI 1) <<< (a2 &&& 31))) * (mi 35 5)) + a2).toNatClampNeg)))) mi ml rv mi' ml'))) :
    Ret m_tr_movesBy [(vR 17 0 35), (vI a0), (vI a1), (vI a2)] rv c (MRc nb db by_ (some (0, rn, rc))) mi ml mi' ml' := by
  intro Q hQ
  refine ok_wq inlT 400 rfl rfl ?_
  refine ⟨h.1, ?_⟩
  have h := h.2
  refine ⟨h.1, ?_⟩
  have h := h.2
  exact h.use hQ
theorem g_tr_walk_0 {nb db : Nat} {by_ rs : RX} {c : Nat} {mi mi' : MI} {ml ml' : ML} {rv : Option AV} 
    (h : Go m_tr_walk 7 [some (vR 17 0 35), some (vI (nI 0)), some (vI (nI 12)), some (vI (nI 0)), none] [] rv c (MRc nb db by_ rs) mi ml mi' ml') :
    Ret m_tr_walk [(vR 17 0 35)] rv c (MRc nb db by_ rs) mi ml mi' ml' := by
  intro Q hQ
  refine ok_wq inlT 400 rfl rfl ?_
  exact h Q hQ
theorem g_tr_walk_7 {nb db : Nat} {by_ rs : RX} {c : Nat} {mi mi' : MI} {ml ml' : ML} {rv : Option AV} {l1 : Int32} {l2 : Int32} {l3 : Int32}
    (h : ((mi 35 5) ≤ l3 → (Fin none mi ml rv mi' ml')) ∧ (¬ (mi 35 5) ≤ l3 → (∃ (r1 : Int32), Ret m_tr_nextOf [(vR 17 0 35), (vI l1), (vI l2)] (some (vI r1)) c (MRc nb db by_ rs) mi ml mi ml ∧ (vp_in l3 12 ∧ (Go m_tr_walk 7 [some (vR 17 0 35), some (vI (l1 ||| ((nI 1) <<< (r1 &&& 31)))), some (vI r1), some (vI (l3 + nI 1)), none] [] rv c (MRc nb db by_ rs) (u2 mi 36 l3.toNatClampNeg r1) ml mi' ml'))))) :
    Go m_tr_walk 7 [some (vR 17 0 35), some (vI l1), some (vI l2), some (vI l3), none] [] rv c (MRc nb db by_ rs) mi ml mi' ml' := by
  intro Q hQ
  refine at_wq inlT 400 rfl ?_
  refine ⟨fun g => ?_, fun g => ?_⟩
  · have h := h.1 (g)
    exact h.use hQ
  · have h := h.2 (g)
    obtain ⟨r1, hR, h⟩ := h
    refine ⟨0, 0, Nat.zero_le _, Nat.zero_le _, hR _ ?_⟩
    refine ⟨h.1, ?_⟩
    have h := h.2
    exact At.wk (h Q hQ) ⟨rfl, rfl, rfl, rfl, trivial⟩
theorem g_tr_nextOf_0 {nb db : Nat} {by_ rs : RX} {c : Nat} {mi mi' : MI} {ml ml' : ML} {rv : Option AV} {a0 : Int32} {a1 : Int32}
    (h : ∃ (r1 : Int32), Ret m_tr_fewestFrom [(vR 17 0 35), (vI a0), (vI a1)] (some (vI r1)) c (MRc nb db by_ rs) mi ml mi ml ∧ (Go m_tr_nextOf 10 [some (vR 17 0 35), some (vI a0), some (vI a1), some (vI r1), some (vI (nI 0))] [] rv c (MRc nb db by_ rs) mi ml mi' ml')) :
    Ret m_tr_nextOf [(vR 17 0 35), (vI a0), (vI a1)] rv c (MRc nb db by_ rs) mi ml mi' ml' := by
  intro Q hQ
  refine ok_wq inlT 400 rfl rfl ?_
  obtain ⟨r1, hR, h⟩ := h
  refine ⟨0, 0, Nat.zero_le _, Nat.zero_le _, hR _ ?_⟩
  exact h Q hQ
theorem g_tr_nextOf_10 {nb db : Nat} {by_ rs : RX} {c : Nat} {mi mi' : MI} {ml ml' : ML} {rv : Option AV} {l1 : Int32} {l2 : Int32} {l3 : Int32} {l4 : Int32}
    (h : ((mi 35 5) ≤ l4 → (Fin (some (vI (nI 0))) mi ml rv mi' ml')) ∧ (¬ (mi 35 5) ≤ l4 → ((¬ ((l1 >>> (l4 &&& 31)) &&& (nI 1)) = 0 → (Go m_tr_nextOf 10 [some (vR 17 0 35), some (vI l1), some (vI l2), some (vI l3), some (vI (l4 + nI 1))] [] rv c (MRc nb db by_ rs) mi ml mi' ml')) ∧ (((l1 >>> (l4 &&& 31)) &&& (nI 1)) = 0 → (∃ (r1 : Int32), Ret m_tr_movesBy [(vR 17 0 35), (vI l1), (vI l2), (vI l4)] (some (vI r1)) c (MRc nb db by_ rs) mi ml mi ml ∧ ((¬ r1 = l3 → (Go m_tr_nextOf 10 [some (vR 17 0 35), some (vI l1), some (vI l2), some (vI l3), some (vI (l4 + nI 1))] [] rv c (MRc nb db by_ rs) mi ml mi' ml')) ∧ (r1 = l3 → (Fin (some (vI l4)) mi ml rv mi' ml')))))))) :
    Go m_tr_nextOf 10 [some (vR 17 0 35), some (vI l1), some (vI l2), some (vI l3), some (vI l4)] [] rv c (MRc nb db by_ rs) mi ml mi' ml' := by
  intro Q hQ
  refine at_wq inlT 400 rfl ?_
  refine ⟨fun g => ?_, fun g => ?_⟩
  · have h := h.1 (g)
    exact h.use hQ
  · have h := h.2 (g)
    refine ⟨fun g => ?_, fun g => ?_⟩
    · have h := h.1 (g)
      exact h Q hQ
    · have h := h.2 (g)
      obtain ⟨r1, hR, h⟩ := h
      refine ⟨0, 0, Nat.zero_le _, Nat.zero_le _, hR _ ?_⟩
      refine ⟨fun g => ?_, fun g => ?_⟩
      · have h := h.1 (g)
        exact h Q hQ
      · have h := h.2 (g)
        exact h.use hQ
