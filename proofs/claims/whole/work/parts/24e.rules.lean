/-! ===== rules of the walk, laid by wip/whole/genw.py ===== -/
theorem g_r_thrown_0 {nb db : Nat} {by_ rs : RX} {c : Nat} {mi mi' : MI} {ml ml' : ML} {rv : Option AV} 
    (h : Fin (some (vI (mi 48 0))) mi ml rv mi' ml') :
    Ret m_r_thrown [(vR 19 0 48)] rv c (MRc nb db by_ rs) mi ml mi' ml' := by
  intro Q hQ
  refine ok_wq inlT 400 rfl rfl ?_
  exact h.use hQ
theorem g_r_has_0 {nb db : Nat} {by_ rs : RX} {c : Nat} {mi mi' : MI} {ml ml' : ML} {rv : Option AV} {a0 : Int32} {a1 : Int32}
    (h : (¬ ((a0 >>> (a1 &&& 31)) &&& (nI 1)) = (nI 1) → (Fin (some (vI (nI 0))) mi ml rv mi' ml')) ∧ (((a0 >>> (a1 &&& 31)) &&& (nI 1)) = (nI 1) → (Fin (some (vI (nI 1))) mi ml rv mi' ml'))) :
    Ret m_r_has [(vI a0), (vI a1)] rv c (MRc nb db by_ rs) mi ml mi' ml' := by
  intro Q hQ
  refine ok_wq inlT 400 rfl rfl ?_
  refine ⟨fun g => ?_, fun g => ?_⟩
  · have h := h.1 (g)
    refine ⟨Or.inl rfl, ?_⟩
    exact h.use hQ
  · have h := h.2 (g)
    refine ⟨Or.inr rfl, ?_⟩
    exact h.use hQ
theorem g_r_many_0 {nb db : Nat} {by_ rs : RX} {c : Nat} {mi mi' : MI} {ml ml' : ML} {rv : Option AV} {a0 : Int32}
    (h : Go m_r_many 4 [some (vI a0), some (vI (nI 0)), some (vI a0)] [] rv c (MRc nb db by_ rs) mi ml mi' ml') :
    Ret m_r_many [(vI a0)] rv c (MRc nb db by_ rs) mi ml mi' ml' := by
  intro Q hQ
  refine ok_wq inlT 400 rfl rfl ?_
  exact h Q hQ
theorem g_r_many_4 {nb db : Nat} {by_ rs : RX} {c : Nat} {mi mi' : MI} {ml ml' : ML} {rv : Option AV} {l0 : Int32} {l1 : Int32} {l2 : Int32}
    (h : (l2 = 0 → (Fin (some (vI l1)) mi ml rv mi' ml')) ∧ (¬ l2 = 0 → (Go m_r_many 4 [some (vI l0), some (vI (l1 + nI 1)), some (vI (l2 &&& (l2 - (nI 1))))] [] rv c (MRc nb db by_ rs) mi ml mi' ml'))) :
    Go m_r_many 4 [some (vI l0), some (vI l1), some (vI l2)] [] rv c (MRc nb db by_ rs) mi ml mi' ml' := by
  intro Q hQ
  refine at_wq inlT 400 rfl ?_
  refine ⟨fun g => ?_, fun g => ?_⟩
  · have h := h.1 (g)
    exact h.use hQ
  · have h := h.2 (g)
    exact h Q hQ
theorem g_r_divisor_0 {nb db : Nat} {by_ rs : RX} {c : Nat} {mi mi' : MI} {ml ml' : ML} {rv : Option AV} {a0 : Int64} {a1 : Int64}
    (h : ((lN 0) ≤ a0 → (Go m_r_divisor 17 [some (vL a0), none, some (vL a1), none, some (vL a0), none, some (vL a1), none, none, none] [] rv c (MRc nb db by_ rs) mi ml mi' ml')) ∧ (¬ (lN 0) ≤ a0 → (Go m_r_divisor 17 [some (vL a0), none, some (vL a1), none, some (vL (-a0)), none, some (vL a1), none, none, none] [] rv c (MRc nb db by_ rs) mi ml mi' ml'))) :
    Ret m_r_divisor [(vL a0), (vL a1)] rv c (MRc nb db by_ rs) mi ml mi' ml' := by
  intro Q hQ
  refine ok_wq inlT 400 rfl rfl ?_
  refine ⟨fun g => ?_, fun g => ?_⟩
  · have h := h.1 ((lgc_ge _ _).mp g)
    exact h Q hQ
  · have h := h.2 (fun z => g ((lgc_ge _ _).mpr z))
    exact h Q hQ
theorem g_r_divisor_17 {nb db : Nat} {by_ rs : RX} {c : Nat} {mi mi' : MI} {ml ml' : ML} {rv : Option AV} {l0 : Int64} {l2 : Int64} {l4 : Int64} {l6 : Int64}
    (h : (l6 = (lN 0) → (Fin (some (vL l4)) mi ml rv mi' ml')) ∧ (¬ l6 = (lN 0) → (¬ l6 = 0 ∧ (Go m_r_divisor 17 [some (vL l0), none, some (vL l2), none, some (vL l6), none, some (vL (rmL l4 l6)), none, none, none] [] rv c (MRc nb db by_ rs) mi ml mi' ml')))) :
    Go m_r_divisor 17 [some (vL l0), none, some (vL l2), none, some (vL l4), none, some (vL l6), none, none, none] [] rv c (MRc nb db by_ rs) mi ml mi' ml' := by
  intro Q hQ
  refine at_wq inlT 400 rfl ?_
  refine ⟨fun g => ?_, fun g => ?_⟩
  · have h := h.1 ((lgc_eq _ _).mp g)
    exact h.use hQ
  · have h := h.2 (fun z => g ((lgc_eq _ _).mpr z))
    refine ⟨h.1, ?_⟩
    have h := h.2
    exact At.wk (h Q hQ) ⟨rfl, rfl, rfl, rfl, trivial⟩
theorem g_r_sets_0 {nb db : Nat} {by_ rs : RX} {c : Nat} {mi mi' : MI} {ml ml' : ML} {rv : Option AV} {a0 : Int64} {a1 : Int64}
    (h : ∃ (r1 : Int64), Ret m_r_divisor [(vL a0), (vL a1)] (some (vL r1)) c (MRc nb db by_ rs) mi ml mi ml ∧ (¬ r1 = 0 ∧ (¬ r1 = 0 ∧ (Fin none mi (u2 (u2 ml 48 3 (a0 / r1)) 48 4 (a1 / r1)) rv mi' ml')))) :
    Ret m_r_sets [(vR 19 0 48), (vL a0), (vL a1)] rv c (MRc nb db by_ rs) mi ml mi' ml' := by
  intro Q hQ
  refine ok_wq inlT 400 rfl rfl ?_
  obtain ⟨r1, hR, h⟩ := h
  refine ⟨0, 0, Nat.zero_le _, Nat.zero_le _, hR _ ?_⟩
  refine ⟨h.1, ?_⟩
  have h := h.2
  refine ⟨h.1, ?_⟩
  have h := h.2
  exact h.use hQ
theorem g_r_next_0 {nb db : Nat} {by_ rs : RX} {c : Nat} {mi mi' : MI} {ml ml' : ML} {rv : Option AV} 
    (h : ((mi 48 38) ≤ 0 → (Go m_r_next 8 [some (vR 19 0 48), none] [] rv c (MRc nb db by_ rs) mi ml mi' ml')) ∧ (¬ (mi 48 38) ≤ 0 → (Fin none mi ml rv mi' ml'))) :
    Ret m_r_next [(vR 19 0 48)] rv c (MRc nb db by_ rs) mi ml mi' ml' := by
  intro Q hQ
  refine ok_wq inlT 400 rfl rfl ?_
  refine ⟨fun g => ?_, fun g => ?_⟩
  · have h := h.1 (g)
    exact h Q hQ
  · have h := h.2 (g)
    exact h.use hQ
theorem g_r_next_8 {nb db : Nat} {by_ rs : RX} {c : Nat} {mi mi' : MI} {ml ml' : ML} {rv : Option AV} 
    (h : ((mi 48 33) ≤ (mi 48 34) → (((mi 48 33) ≤ (mi 48 34) → (Fin none (u2 (u2 mi 48 36 (mi 48 34)) 48 35 (nI 1)) ml rv mi' ml')) ∧ (¬ (mi 48 33) ≤ (mi 48 34) → (vp_in (mi 48 34) 800 ∧ ((¬ ((mi 57 (mi 48 34).toNatClampNeg) &&& (nI 255)) = (-(nI 1)) → ((((mi 57 (mi 48 34).toNatClampNeg) &&& (nI 255)) < (nI 97) → ((((mi 57 (mi 48 34).toNatClampNeg) &&& (nI 255)) < (nI 48) → (∃ (mi1 : MI) (ml1 : ML), Ret m_r_nextSign [(vR 19 0 48), (vI ((mi 57 (mi 48 34).toNatClampNeg) &&& (nI 255)))] none c (MRc nb db by_ rs) (u2 mi 48 36 (mi 48 34)) ml mi1 ml1 ∧ (Fin none mi1 ml1 rv mi' ml'))) ∧ (¬ ((mi 57 (mi 48 34).toNatClampNeg) &&& (nI 255)) < (nI 48) → (((nI 57) < ((mi 57 (mi 48 34).toNatClampNeg) &&& (nI 255)) → (∃ (mi2 : MI) (ml2 : ML), Ret m_r_nextSign [(vR 19 0 48), (vI ((mi 57 (mi 48 34).toNatClampNeg) &&& (nI 255)))] none c (MRc nb db by_ rs) (u2 mi 48 36 (mi 48 34)) ml mi2 ml2 ∧ (Fin none mi2 ml2 rv mi' ml'))) ∧ (¬ (nI 57) < ((mi 57 (mi 48 34).toNatClampNeg) &&& (nI 255)) → (∃ (mi3 : MI) (ml3 : ML), Ret m_r_nextWhole [(vR 19 0 48)] none c (MRc nb db by_ rs) (u2 mi 48 36 (mi 48 34)) ml mi3 ml3 ∧ (Fin none mi3 ml3 rv mi' ml'))))))) ∧ (¬ ((mi 57 (mi 48 34).toNatClampNeg) &&& (nI 255)) < (nI 97) → (((nI 122) < ((mi 57 (mi 48 34).toNatClampNeg) &&& (nI 255)) → ((((mi 57 (mi 48 34).toNatClampNeg) &&& (nI 255)) < (nI 48) → (∃ (mi4 : MI) (ml4 : ML), Ret m_r_nextSign [(vR 19 0 48), (vI ((mi 57 (mi 48 34).toNatClampNeg) &&& (nI 255)))] none c (MRc nb db by_ rs) (u2 mi 48 36 (mi 48 34)) ml mi4 ml4 ∧ (Fin none mi4 ml4 rv mi' ml'))) ∧ (¬ ((mi 57 (mi 48 34).toNatClampNeg) &&& (nI 255)) < (nI 48) → (((nI 57) < ((mi 57 (mi 48 34).toNatClampNeg) &&& (nI 255)) → (∃ (mi5 : MI) (ml5 : ML), Ret m_r_nextSign [(vR 19 0 48), (vI ((mi 57 (mi 48 34).toNatClampNeg) &&& (nI 255)))] none c (MRc nb db by_ rs) (u2 mi 48 36 (mi 48 34)) ml mi5 ml5 ∧ (Fin none mi5 ml5 rv mi' ml'))) ∧ (¬ (nI 57) < ((mi 57 (mi 48 34).toNatClampNeg) &&& (nI 255)) → (∃ (mi6 : MI) (ml6 : ML), Ret m_r_nextWhole [(vR 19 0 48)] none c (MRc nb db by_ rs) (u2 mi 48 36 (mi 48 34)) ml mi6 ml6 ∧ (Fin none mi6 ml6 rv mi' ml'))))))) ∧ (¬ (nI 122) < ((mi 57 (mi 48 34).toNatClampNeg) &&& (nI 255)) → (∃ (mi7 : MI) (ml7 : ML), Ret m_r_nextWord [(vR 19 0 48)] none c (MRc nb db by_ rs) (u2 mi 48 36 (mi 48 34)) ml mi7 ml7 ∧ (Fin none mi7 ml7 rv mi' ml'))))))) ∧ (((mi 57 (mi 48 34).toNatClampNeg) &&& (nI 255)) = (-(nI 1)) → (Fin none (u2 (u2 mi 48 36 (mi 48 34)) 48 35 (nI 1)) ml rv mi' ml'))))))) ∧ (¬ (mi 48 33) ≤ (mi 48 34) → (vp_in (mi 48 34) 800 ∧ ((¬ ((mi 57 (mi 48 34).toNatClampNeg) &&& (nI 255)) = (nI 32) → (((mi 48 33) ≤ (mi 48 34) → (Fin none (u2 (u2 mi 48 36 (mi 48 34)) 48 35 (nI 1)) ml rv mi' ml')) ∧ (¬ (mi 48 33) ≤ (mi 48 34) → (vp_in (mi 48 34) 800 ∧ ((¬ ((mi 57 (mi 48 34).toNatClampNeg) &&& (nI 255)) = (-(nI 1)) → ((((mi 57 (mi 48 34).toNatClampNeg) &&& (nI 255)) < (nI 97) → ((((mi 57 (mi 48 34).toNatClampNeg) &&& (nI 255)) < (nI 48) → (∃ (mi8 : MI) (ml8 : ML), Ret m_r_nextSign [(vR 19 0 48), (vI ((mi 57 (mi 48 34).toNatClampNeg) &&& (nI 255)))] none c (MRc nb db by_ rs) (u2 mi 48 36 (mi 48 34)) ml mi8 ml8 ∧ (Fin none mi8 ml8 rv mi' ml'))) ∧ (¬ ((mi 57 (mi 48 34).toNatClampNeg) &&& (nI 255)) < (nI 48) → (((nI 57) < ((mi 57 (mi 48 34).toNatClampNeg) &&& (nI 255)) → (∃ (mi9 : MI) (ml9 : ML), Ret m_r_nextSign [(vR 19 0 48), (vI ((mi 57 (mi 48 34).toNatClampNeg) &&& (nI 255)))] none c (MRc nb db by_ rs) (u2 mi 48 36 (mi 48 34)) ml mi9 ml9 ∧ (Fin none mi9 ml9 rv mi' ml'))) ∧ (¬ (nI 57) < ((mi 57 (mi 48 34).toNatClampNeg) &&& (nI 255)) → (∃ (mi10 : MI) (ml10 : ML), Ret m_r_nextWhole [(vR 19 0 48)] none c (MRc nb db by_ rs) (u2 mi 48 36 (mi 48 34)) ml mi10 ml10 ∧ (Fin none mi10 ml10 rv mi' ml'))))))) ∧ (¬ ((mi 57 (mi 48 34).toNatClampNeg) &&& (nI 255)) < (nI 97) → (((nI 122) < ((mi 57 (mi 48 34).toNatClampNeg) &&& (nI 255)) → ((((mi 57 (mi 48 34).toNatClampNeg) &&& (nI 255)) < (nI 48) → (∃ (mi11 : MI) (ml11 : ML), Ret m_r_nextSign [(vR 19 0 48), (vI ((mi 57 (mi 48 34).toNatClampNeg) &&& (nI 255)))] none c (MRc nb db by_ rs) (u2 mi 48 36 (mi 48 34)) ml mi11 ml11 ∧ (Fin none mi11 ml11 rv mi' ml'))) ∧ (¬ ((mi 57 (mi 48 34).toNatClampNeg) &&& (nI 255)) < (nI 48) → (((nI 57) < ((mi 57 (mi 48 34).toNatClampNeg) &&& (nI 255)) → (∃ (mi12 : MI) (ml12 : ML), Ret m_r_nextSign [(vR 19 0 48), (vI ((mi 57 (mi 48 34).toNatClampNeg) &&& (nI 255)))] none c (MRc nb db by_ rs) (u2 mi 48 36 (mi 48 34)) ml mi12 ml12 ∧ (Fin none mi12 ml12 rv mi' ml'))) ∧ (¬ (nI 57) < ((mi 57 (mi 48 34).toNatClampNeg) &&& (nI 255)) → (∃ (mi13 : MI) (ml13 : ML), Ret m_r_nextWhole [(vR 19 0 48)] none c (MRc nb db by_ rs) (u2 mi 48 36 (mi 48 34)) ml mi13 ml13 ∧ (Fin none mi13 ml13 rv mi' ml'))))))) ∧ (¬ (nI 122) < ((mi 57 (mi 48 34).toNatClampNeg) &&& (nI 255)) → (∃ (mi14 : MI) (ml14 : ML), Ret m_r_nextWord [(vR 19 0 48)] none c (MRc nb db by_ rs) (u2 mi 48 36 (mi 48 34)) ml mi14 ml14 ∧ (Fin none mi14 ml14 rv mi' ml'))))))) ∧ (((mi 57 (mi 48 34).toNatClampNeg) &&& (nI 255)) = (-(nI 1)) → (Fin none (u2 (u2 mi 48 36 (mi 48 34)) 48 35 (nI 1)) ml rv mi' ml'))))))) ∧ (((mi 57 (mi 48 34).toNatClampNeg) &&& (nI 255)) = (nI 32) → (Go m_r_next 8 [some (vR 19 0 48), none] [] rv c (MRc nb db by_ rs) (u2 mi 48 34 ((mi 48 34) + (nI 1))) ml mi' ml')))))) :
    Go m_r_next 8 [some (vR 19 0 48), none] [] rv c (MRc nb db by_ rs) mi ml mi' ml' := by
  intro Q hQ
  refine at_wq inlT 400 rfl ?_
  refine ⟨fun g => ?_, fun g => ?_⟩
  · have h := h.1 (g)
    refine ⟨fun _ => ?_, fun g => absurd (show (-(nI 1)) = (nI 32) from g) (by decide)⟩
    refine ⟨fun g => ?_, fun g => ?_⟩
    · have h := h.1 (g)
      refine ⟨fun g => absurd (show ¬ (-(nI 1)) = (-(nI 1)) from g) (by decide), fun _ => ?_⟩
      exact h.use hQ
    · have h := h.2 (g)
      refine ⟨h.1, ?_⟩
      have h := h.2
      refine ⟨fun g => ?_, fun g => ?_⟩
      · have h := h.1 (g)
        refine ⟨fun g => ?_, fun g => ?_⟩
        · have h := h.1 (g)
          refine ⟨Or.inl rfl, ?_⟩
          refine ⟨fun _ => ?_, fun g => absurd (show ¬ (nI 0) = 0 from g) (by decide)⟩
          refine ⟨fun g => ?_, fun g => ?_⟩
          · have h := h.1 (g)
            refine ⟨Or.inl rfl, ?_⟩
            refine ⟨fun _ => ?_, fun g => absurd (show ¬ (nI 0) = 0 from g) (by decide)⟩
            obtain ⟨mi1, ml1, hR, h⟩ := h
            refine ⟨0, 0, Nat.zero_le _, Nat.zero_le _, hR _ ?_⟩
            exact h.use hQ
          · have h := h.2 (g)
            refine ⟨fun g => ?_, fun g => ?_⟩
            · have h := h.1 (g)
              refine ⟨Or.inl rfl, ?_⟩
              refine ⟨fun _ => ?_, fun g => absurd (show ¬ (nI 0) = 0 from g) (by decide)⟩
              obtain ⟨mi2, ml2, hR, h⟩ := h
              refine ⟨0, 0, Nat.zero_le _, Nat.zero_le _, hR _ ?_⟩
              exact h.use hQ
            · have h := h.2 (g)
              refine ⟨Or.inr rfl, ?_⟩
              refine ⟨fun g => absurd (show (nI 1) = 0 from g) (by decide), fun _ => ?_⟩
              obtain ⟨mi3, ml3, hR, h⟩ := h
              refine ⟨0, 0, Nat.zero_le _, Nat.zero_le _, hR _ ?_⟩
              exact h.use hQ
        · have h := h.2 (g)
          refine ⟨fun g => ?_, fun g => ?_⟩
          · have h := h.1 (g)
            refine ⟨Or.inl rfl, ?_⟩
            refine ⟨fun _ => ?_, fun g => absurd (show ¬ (nI 0) = 0 from g) (by decide)⟩
            refine ⟨fun g => ?_, fun g => ?_⟩
            · have h := h.1 (g)
              refine ⟨Or.inl rfl, ?_⟩
              refine ⟨fun _ => ?_, fun g => absurd (show ¬ (nI 0) = 0 from g) (by decide)⟩
              obtain ⟨mi4, ml4, hR, h⟩ := h
              refine ⟨0, 0, Nat.zero_le _, Nat.zero_le _, hR _ ?_⟩
              exact h.use hQ
            · have h := h.2 (g)
              refine ⟨fun g => ?_, fun g => ?_⟩
              · have h := h.1 (g)
                refine ⟨Or.inl rfl, ?_⟩
                refine ⟨fun _ => ?_, fun g => absurd (show ¬ (nI 0) = 0 from g) (by decide)⟩
                obtain ⟨mi5, ml5, hR, h⟩ := h
                refine ⟨0, 0, Nat.zero_le _, Nat.zero_le _, hR _ ?_⟩
                exact h.use hQ
              · have h := h.2 (g)
                refine ⟨Or.inr rfl, ?_⟩
                refine ⟨fun g => absurd (show (nI 1) = 0 from g) (by decide), fun _ => ?_⟩
                obtain ⟨mi6, ml6, hR, h⟩ := h
                refine ⟨0, 0, Nat.zero_le _, Nat.zero_le _, hR _ ?_⟩
                exact h.use hQ
          · have h := h.2 (g)
            refine ⟨Or.inr rfl, ?_⟩
            refine ⟨fun g => absurd (show (nI 1) = 0 from g) (by decide), fun _ => ?_⟩
            obtain ⟨mi7, ml7, hR, h⟩ := h
            refine ⟨0, 0, Nat.zero_le _, Nat.zero_le _, hR _ ?_⟩
            exact h.use hQ
      · have h := h.2 (g)
        exact h.use hQ
  · have h := h.2 (g)
    refine ⟨h.1, ?_⟩
    have h := h.2
    refine ⟨fun g => ?_, fun g => ?_⟩
    · have h := h.1 (g)
      refine ⟨fun g => ?_, fun g => ?_⟩
      · have h := h.1 (g)
        refine ⟨fun g => absurd (show ¬ (-(nI 1)) = (-(nI 1)) from g) (by decide), fun _ => ?_⟩
        exact h.use hQ
      · have h := h.2 (g)
        refine ⟨h.1, ?_⟩
        have h := h.2
        refine ⟨fun g => ?_, fun g => ?_⟩
        · have h := h.1 (g)
          refine ⟨fun g => ?_, fun g => ?_⟩
          · have h := h.1 (g)
            refine ⟨Or.inl rfl, ?_⟩
            refine ⟨fun _ => ?_, fun g => absurd (show ¬ (nI 0) = 0 from g) (by decide)⟩
            refine ⟨fun g => ?_, fun g => ?_⟩
            · have h := h.1 (g)
              refine ⟨Or.inl rfl, ?_⟩
              refine ⟨fun _ => ?_, fun g => absurd (show ¬ (nI 0) = 0 from g) (by decide)⟩
              obtain ⟨mi8, ml8, hR, h⟩ := h
              refine ⟨0, 0, Nat.zero_le _, Nat.zero_le _, hR _ ?_⟩
              exact h.use hQ
            · have h := h.2 (g)
              refine ⟨fun g => ?_, fun g => ?_⟩
              · have h := h.1 (g)
                refine ⟨Or.inl rfl, ?_⟩
                refine ⟨fun _ => ?_, fun g => absurd (show ¬ (nI 0) = 0 from g) (by decide)⟩
                obtain ⟨mi9, ml9, hR, h⟩ := h
                refine ⟨0, 0, Nat.zero_le _, Nat.zero_le _, hR _ ?_⟩
                exact h.use hQ
              · have h := h.2 (g)
                refine ⟨Or.inr rfl, ?_⟩
                refine ⟨fun g => absurd (show (nI 1) = 0 from g) (by decide), fun _ => ?_⟩
                obtain ⟨mi10, ml10, hR, h⟩ := h
                refine ⟨0, 0, Nat.zero_le _, Nat.zero_le _, hR _ ?_⟩
                exact h.use hQ
          · have h := h.2 (g)
            refine ⟨fun g => ?_, fun g => ?_⟩
            · have h := h.1 (g)
              refine ⟨Or.inl rfl, ?_⟩
              refine ⟨fun _ => ?_, fun g => absurd (show ¬ (nI 0) = 0 from g) (by decide)⟩
              refine ⟨fun g => ?_, fun g => ?_⟩
              · have h := h.1 (g)
                refine ⟨Or.inl rfl, ?_⟩
                refine ⟨fun _ => ?_, fun g => absurd (show ¬ (nI 0) = 0 from g) (by decide)⟩
                obtain ⟨mi11, ml11, hR, h⟩ := h
                refine ⟨0, 0, Nat.zero_le _, Nat.zero_le _, hR _ ?_⟩
                exact h.use hQ
              · have h := h.2 (g)
                refine ⟨fun g => ?_, fun g => ?_⟩
                · have h := h.1 (g)
                  refine ⟨Or.inl rfl, ?_⟩
                  refine ⟨fun _ => ?_, fun g => absurd (show ¬ (nI 0) = 0 from g) (by decide)⟩
                  obtain ⟨mi12, ml12, hR, h⟩ := h
                  refine ⟨0, 0, Nat.zero_le _, Nat.zero_le _, hR _ ?_⟩
                  exact h.use hQ
                · have h := h.2 (g)
                  refine ⟨Or.inr rfl, ?_⟩
                  refine ⟨fun g => absurd (show (nI 1) = 0 from g) (by decide), fun _ => ?_⟩
                  obtain ⟨mi13, ml13, hR, h⟩ := h
                  refine ⟨0, 0, Nat.zero_le _, Nat.zero_le _, hR _ ?_⟩
                  exact h.use hQ
            · have h := h.2 (g)
              refine ⟨Or.inr rfl, ?_⟩
              refine ⟨fun g => absurd (show (nI 1) = 0 from g) (by decide), fun _ => ?_⟩
              obtain ⟨mi14, ml14, hR, h⟩ := h
              refine ⟨0, 0, Nat.zero_le _, Nat.zero_le _, hR _ ?_⟩
              exact h.use hQ
        · have h := h.2 (g)
          exact h.use hQ
    · have h := h.2 (g)
      exact h Q hQ
theorem g_r_nextWord_0 {nb db : Nat} {by_ rs : RX} {c : Nat} {mi mi' : MI} {ml ml' : ML} {rv : Option AV} 
    (h : Go m_r_nextWord 5 [some (vR 19 0 48)] [] rv c (MRc nb db by_ rs) mi (u2 ml 48 39 (lN 0)) mi' ml') :
    Ret m_r_nextWord [(vR 19 0 48)] rv c (MRc nb db by_ rs) mi ml mi' ml' := by
  intro Q hQ
  refine ok_wq inlT 400 rfl rfl ?_
  exact h Q hQ
theorem g_r_nextWord_5 {nb db : Nat} {by_ rs : RX} {c : Nat} {mi mi' : MI} {ml ml' : ML} {rv : Option AV} 
    (h : ((mi 48 33) ≤ (mi 48 34) → ((((mi 48 34) - (mi 48 36)) ≤ (nI 7) → (Fin none (u2 mi 48 35 (nI 2)) ml rv mi' ml')) ∧ (¬ ((mi 48 34) - (mi 48 36)) ≤ (nI 7) → (Fin none (u2 mi 48 35 (nI 0)) ml rv mi' ml')))) ∧ (¬ (mi 48 33) ≤ (mi 48 34) → (vp_in (mi 48 34) 800 ∧ ((((mi 57 (mi 48 34).toNatClampNeg) &&& (nI 255)) < (nI 97) → ((((mi 48 34) - (mi 48 36)) ≤ (nI 7) → (Fin none (u2 mi 48 35 (nI 2)) ml rv mi' ml')) ∧ (¬ ((mi 48 34) - (mi 48 36)) ≤ (nI 7) → (Fin none (u2 mi 48 35 (nI 0)) ml rv mi' ml')))) ∧ (¬ ((mi 57 (mi 48 34).toNatClampNeg) &&& (nI 255)) < (nI 97) → (((nI 122) < ((mi 57 (mi 48 34).toNatClampNeg) &&& (nI 255)) → ((((mi 48 34) - (mi 48 36)) ≤ (nI 7) → (Fin none (u2 mi 48 35 (nI 2)) ml rv mi' ml')) ∧ (¬ ((mi 48 34) - (mi 48 36)) ≤ (nI 7) → (Fin none (u2 mi 48 35 (nI 0)) ml rv mi' ml')))) ∧ (¬ (nI 122) < ((mi 57 (mi 48 34).toNatClampNeg) &&& (nI 255)) → (((nI 7) ≤ ((mi 48 34) - (mi 48 36)) → (Go m_r_nextWord 5 [some (vR 19 0 48)] [] rv c (MRc nb db by_ rs) (u2 mi 48 34 ((mi 48 34) + (nI 1))) ml mi' ml')) ∧ (¬ (nI 7) ≤ ((mi 48 34) - (mi 48 36)) → (((mi 48 33) ≤ (mi 48 34) → (Go m_r_nextWord 5 [some (vR 19 0 48)] [] rv c (MRc nb db by_ rs) (u2 mi 48 34 ((mi 48 34) + (nI 1))) (u2 ml 48 39 (((ml 48 39) <<< ((nI 8).toInt64 &&& 63)) ||| ((-(nI 1)).toInt64))) mi' ml')) ∧ (¬ (mi 48 33) ≤ (mi 48 34) → (vp_in (mi 48 34) 800 ∧ (Go m_r_nextWord 5 [some (vR 19 0 48)] [] rv c (MRc nb db by_ rs) (u2 mi 48 34 ((mi 48 34) + (nI 1))) (u2 ml 48 39 (((ml 48 39) <<< ((nI 8).toInt64 &&& 63)) ||| (((mi 57 (mi 48 34).toNatClampNeg) &&& (nI 255)).toInt64))) mi' ml'))))))))))))) :
    Go m_r_nextWord 5 [some (vR 19 0 48)] [] rv c (MRc nb db by_ rs) mi ml mi' ml' := by
  intro Q hQ
  refine at_wq inlT 400 rfl ?_
  refine ⟨fun g => ?_, fun g => ?_⟩
  · have h := h.1 (g)
    refine ⟨fun _ => ?_, fun g => absurd (show ¬ (-(nI 1)) < (nI 97) from g) (by decide)⟩
    refine ⟨Or.inl rfl, ?_⟩
    refine ⟨fun _ => ?_, fun g => absurd (show ¬ (nI 0) = 0 from g) (by decide)⟩
    refine ⟨fun g => ?_, fun g => ?_⟩
    · have h := h.1 (g)
      exact h.use hQ
    · have h := h.2 (g)
      exact h.use hQ
  · have h := h.2 (g)
    refine ⟨h.1, ?_⟩
    have h := h.2
    refine ⟨fun g => ?_, fun g => ?_⟩
    · have h := h.1 (g)
      refine ⟨Or.inl rfl, ?_⟩
      refine ⟨fun _ => ?_, fun g => absurd (show ¬ (nI 0) = 0 from g) (by decide)⟩
      refine ⟨fun g => ?_, fun g => ?_⟩
      · have h := h.1 (g)
        exact h.use hQ
      · have h := h.2 (g)
        exact h.use hQ
    · have h := h.2 (g)
      refine ⟨fun g => ?_, fun g => ?_⟩
      · have h := h.1 (g)
        refine ⟨Or.inl rfl, ?_⟩
        refine ⟨fun _ => ?_, fun g => absurd (show ¬ (nI 0) = 0 from g) (by decide)⟩
        refine ⟨fun g => ?_, fun g => ?_⟩
        · have h := h.1 (g)
          exact h.use hQ
        · have h := h.2 (g)
          exact h.use hQ
      · have h := h.2 (g)
        refine ⟨Or.inr rfl, ?_⟩
        refine ⟨fun g => absurd (show (nI 1) = 0 from g) (by decide), fun _ => ?_⟩
        refine ⟨fun g => ?_, fun g => ?_⟩
        · have h := h.1 (g)
          exact h Q hQ
        · have h := h.2 (g)
          refine ⟨fun g => ?_, fun g => ?_⟩
          · have h := h.1 (g)
            exact h Q hQ
          · have h := h.2 (g)
            refine ⟨h.1, ?_⟩
            have h := h.2
            exact h Q hQ
theorem g_r_nextWhole_0 {nb db : Nat} {by_ rs : RX} {c : Nat} {mi mi' : MI} {ml ml' : ML} {rv : Option AV} 
    (h : Go m_r_nextWhole 5 [some (vR 19 0 48)] [] rv c (MRc nb db by_ rs) (u2 mi 48 37 (nI 0)) ml mi' ml') :
    Ret m_r_nextWhole [(vR 19 0 48)] rv c (MRc nb db by_ rs) mi ml mi' ml' := by
  intro Q hQ
  refine ok_wq inlT 400 rfl rfl ?_
  exact h Q hQ
theorem g_r_nextWhole_5 {nb db : Nat} {by_ rs : RX} {c : Nat} {mi mi' : MI} {ml ml' : ML} {rv : Option AV} 
    (h : ((mi 48 33) ≤ (mi 48 34) → ((((mi 48 34) - (mi 48 36)) ≤ (nI 6) → (Fin none (u2 mi 48 35 (nI 3)) ml rv mi' ml')) ∧ (¬ ((mi 48 34) - (mi 48 36)) ≤ (nI 6) → (Fin none (u2 mi 48 35 (nI 0)) ml rv mi' ml')))) ∧ (¬ (mi 48 33) ≤ (mi 48 34) → (vp_in (mi 48 34) 800 ∧ ((((mi 57 (mi 48 34).toNatClampNeg) &&& (nI 255)) < (nI 48) → ((((mi 48 34) - (mi 48 36)) ≤ (nI 6) → (Fin none (u2 mi 48 35 (nI 3)) ml rv mi' ml')) ∧ (¬ ((mi 48 34) - (mi 48 36)) ≤ (nI 6) → (Fin none (u2 mi 48 35 (nI 0)) ml rv mi' ml')))) ∧ (¬ ((mi 57 (mi 48 34).toNatClampNeg) &&& (nI 255)) < (nI 48) → (((nI 57) < ((mi 57 (mi 48 34).toNatClampNeg) &&& (nI 255)) → ((((mi 48 34) - (mi 48 36)) ≤ (nI 6) → (Fin none (u2 mi 48 35 (nI 3)) ml rv mi' ml')) ∧ (¬ ((mi 48 34) - (mi 48 36)) ≤ (nI 6) → (Fin none (u2 mi 48 35 (nI 0)) ml rv mi' ml')))) ∧ (¬ (nI 57) < ((mi 57 (mi 48 34).toNatClampNeg) &&& (nI 255)) → (((nI 6) ≤ ((mi 48 34) - (mi 48 36)) → (Go m_r_nextWhole 5 [some (vR 19 0 48)] [] rv c (MRc nb db by_ rs) (u2 mi 48 34 ((mi 48 34) + (nI 1))) ml mi' ml')) ∧ (¬ (nI 6) ≤ ((mi 48 34) - (mi 48 36)) → (((mi 48 33) ≤ (mi 48 34) → (Go m_r_nextWhole 5 [some (vR 19 0 48)] [] rv c (MRc nb db by_ rs) (u2 (u2 mi 48 37 ((((nI 10) * (mi 48 37)) + (-(nI 1))) - (nI 48))) 48 34 ((mi 48 34) + (nI 1))) ml mi' ml')) ∧ (¬ (mi 48 33) ≤ (mi 48 34) → (vp_in (mi 48 34) 800 ∧ (Go m_r_nextWhole 5 [some (vR 19 0 48)] [] rv c (MRc nb db by_ rs) (u2 (u2 mi 48 37 ((((nI 10) * (mi 48 37)) + ((mi 57 (mi 48 34).toNatClampNeg) &&& (nI 255))) - (nI 48))) 48 34 ((mi 48 34) + (nI 1))) ml mi' ml'))))))))))))) :
    Go m_r_nextWhole 5 [some (vR 19 0 48)] [] rv c (MRc nb db by_ rs) mi ml mi' ml' := by
  intro Q hQ
  refine at_wq inlT 400 rfl ?_
  refine ⟨fun g => ?_, fun g => ?_⟩
  · have h := h.1 (g)
    refine ⟨fun _ => ?_, fun g => absurd (show ¬ (-(nI 1)) < (nI 48) from g) (by decide)⟩
    refine ⟨Or.inl rfl, ?_⟩
    refine ⟨fun _ => ?_, fun g => absurd (show ¬ (nI 0) = 0 from g) (by decide)⟩
    refine ⟨fun g => ?_, fun g => ?_⟩
    · have h := h.1 (g)
      exact h.use hQ
    · have h := h.2 (g)
      exact h.use hQ
  · have h := h.2 (g)
    refine ⟨h.1, ?_⟩
    have h := h.2
    refine ⟨fun g => ?_, fun g => ?_⟩
    · have h := h.1 (g)
      refine ⟨Or.inl rfl, ?_⟩
      refine ⟨fun _ => ?_, fun g => absurd (show ¬ (nI 0) = 0 from g) (by decide)⟩
      refine ⟨fun g => ?_, fun g => ?_⟩
      · have h := h.1 (g)
        exact h.use hQ
      · have h := h.2 (g)
        exact h.use hQ
    · have h := h.2 (g)
      refine ⟨fun g => ?_, fun g => ?_⟩
      · have h := h.1 (g)
        refine ⟨Or.inl rfl, ?_⟩
        refine ⟨fun _ => ?_, fun g => absurd (show ¬ (nI 0) = 0 from g) (by decide)⟩
        refine ⟨fun g => ?_, fun g => ?_⟩
        · have h := h.1 (g)
          exact h.use hQ
        · have h := h.2 (g)
          exact h.use hQ
      · have h := h.2 (g)
        refine ⟨Or.inr rfl, ?_⟩
        refine ⟨fun g => absurd (show (nI 1) = 0 from g) (by decide), fun _ => ?_⟩
        refine ⟨fun g => ?_, fun g => ?_⟩
        · have h := h.1 (g)
          exact h Q hQ
        · have h := h.2 (g)
          refine ⟨fun g => ?_, fun g => ?_⟩
          · have h := h.1 (g)
            exact h Q hQ
          · have h := h.2 (g)
            refine ⟨h.1, ?_⟩
            have h := h.2
            exact h Q hQ
theorem g_r_nextSign_0 {nb db : Nat} {by_ rs : RX} {c : Nat} {mi mi' : MI} {ml ml' : ML} {rv : Option AV} {a0 : Int32}
    (h : (¬ a0 = (nI 59) → ((¬ a0 = (nI 59) → (Fin none (u2 mi 48 35 (nI 0)) ml rv mi' ml')) ∧ (a0 = (nI 59) → (Fin none (u2 (u2 mi 48 35 (nI 0)) 48 34 ((mi 48 34) + (nI 1))) ml rv mi' ml')))) ∧ (a0 = (nI 59) → ((¬ a0 = (nI 59) → (Fin none (u2 mi 48 35 (nI 4)) ml rv mi' ml')) ∧ (a0 = (nI 59) → (Fin none (u2 (u2 mi 48 35 (nI 4)) 48 34 ((mi 48 34) + (nI 1))) ml rv mi' ml'))))) :
    Ret m_r_nextSign [(vR 19 0 48), (vI a0)] rv c (MRc nb db by_ rs) mi ml mi' ml' := by
  intro Q hQ
  refine ok_wq inlT 400 rfl rfl ?_
  refine ⟨fun g => ?_, fun g => ?_⟩
  · have h := h.1 (g)
    refine ⟨fun g => ?_, fun g => ?_⟩
    · have h := h.1 (g)
      exact h.use hQ
    · have h := h.2 (g)
      exact h.use hQ
  · have h := h.2 (g)
    refine ⟨fun g => ?_, fun g => ?_⟩
    · have h := h.1 (g)
      exact h.use hQ
    · have h := h.2 (g)
      exact h.use hQ
theorem g_r_isWord_0 {nb db : Nat} {by_ rs : RX} {c : Nat} {mi mi' : MI} {ml ml' : ML} {rv : Option AV} {w : Nat}
    (h : Go m_r_isWord 5 [some (vR 19 0 48), some (vR 100 0 w), some (vL (lN 0)), none, some (vI (nI 0))] [] rv c (MRc nb db by_ rs) mi ml mi' ml') :
    Ret m_r_isWord [(vR 19 0 48), (vR 100 0 w)] rv c (MRc nb db by_ rs) mi ml mi' ml' := by
  intro Q hQ
  refine ok_wq inlT 400 rfl rfl ?_
  exact h Q hQ
theorem g_r_isWord_5 {nb db : Nat} {by_ rs : RX} {c : Nat} {mi mi' : MI} {ml ml' : ML} {rv : Option AV} {w : Nat} {l2 : Int64} {l4 : Int32}
    (h : (((nI (strN.getD w 0)) >>> ((nI 0) &&& 31)) ≤ l4 → ((¬ (mi 48 35) = (nI 2) → (Fin (some (vI (nI 0))) mi ml rv mi' ml')) ∧ ((mi 48 35) = (nI 2) → ((¬ (ml 48 39) = l2 → (Fin (some (vI (nI 0))) mi ml rv mi' ml')) ∧ ((ml 48 39) = l2 → (Fin (some (vI (nI 1))) mi ml rv mi' ml')))))) ∧ (¬ ((nI (strN.getD w 0)) >>> ((nI 0) &&& 31)) ≤ l4 → ((l4 < 0 → (False)) ∧ (¬ l4 < 0 → ((l4 < (nI (strN.getD w 0)) → (vp_in l4 (strN.getD w 0) ∧ (Go m_r_isWord 5 [some (vR 19 0 48), some (vR 100 0 w), some (vL ((l2 <<< ((nI 8).toInt64 &&& 63)) ||| ((((((strB.getD w []).getD l4.toNatClampNeg 0) &&& (nI 255)).toUInt32 % 65536).toInt32).toInt64))), none, some (vI (l4 + nI 1))] [] rv c (MRc nb db by_ rs) mi ml mi' ml'))) ∧ (¬ l4 < (nI (strN.getD w 0)) → (False))))))) :
    Go m_r_isWord 5 [some (vR 19 0 48), some (vR 100 0 w), some (vL l2), none, some (vI l4)] [] rv c (MRc nb db by_ rs) mi ml mi' ml' := by
  intro Q hQ
  refine at_wq inlT 400 rfl ?_
  refine ⟨fun g => absurd (show (nI 1) = 0 from g) (by decide), fun _ => ?_⟩
  refine ⟨rfl, ?_⟩
  refine ⟨fun g => ?_, fun g => ?_⟩
  · have h := h.1 (g)
    refine ⟨fun g => ?_, fun g => ?_⟩
    · have h := h.1 (g)
      refine ⟨Or.inl rfl, ?_⟩
      exact h.use hQ
    · have h := h.2 (g)
      refine ⟨fun g => ?_, fun g => ?_⟩
      · have h := h.1 (fun z => g ((lgc_eq _ _).mpr z))
        refine ⟨Or.inl rfl, ?_⟩
        exact h.use hQ
      · have h := h.2 ((lgc_eq _ _).mp g)
        refine ⟨Or.inr rfl, ?_⟩
        exact h.use hQ
  · have h := h.2 (g)
    refine ⟨fun g => absurd (show (nI 1) = 0 from g) (by decide), fun _ => ?_⟩
    refine ⟨fun g => absurd (show ¬ (nI 0) = 0 from g) (by decide), fun _ => ?_⟩
    refine ⟨Or.inr rfl, ?_⟩
    refine ⟨fun g => absurd (show (nI 1) = 0 from g) (by decide), fun _ => ?_⟩
    refine ⟨fun g => ?_, fun g => ?_⟩
    · have h := h.1 (g)
      exact h.elim
    · have h := h.2 (g)
      refine ⟨fun g => ?_, fun g => ?_⟩
      · have h := h.1 (g)
        refine ⟨h.1, ?_⟩
        have h := h.2
        refine ⟨pk_nc _, ?_⟩
        refine ⟨pk_nc _, ?_⟩
        exact h Q hQ
      · have h := h.2 (g)
        exact h.elim
theorem g_r_needs_0 {nb db : Nat} {by_ rs : RX} {c : Nat} {mi mi' : MI} {ml ml' : ML} {rv : Option AV} {w : Nat}
    (h : ∃ (r1 : Int32) (mi1 : MI) (ml1 : ML), Ret m_r_isWord [(vR 19 0 48), (vR 100 0 w)] (some (vI r1)) c (MRc nb db by_ rs) mi ml mi1 ml1 ∧ ((¬ r1 = 0 → (∃ (mi2 : MI) (ml2 : ML), Ret m_r_next [(vR 19 0 48)] none c (MRc nb db by_ rs) mi1 ml1 mi2 ml2 ∧ (Fin none mi2 ml2 rv mi' ml'))) ∧ (r1 = 0 → ((¬ (mi1 48 38) = 0 → (∃ (mi3 : MI) (ml3 : ML), Ret m_r_next [(vR 19 0 48)] none c (MRc nb db by_ rs) (u2 mi1 48 35 (nI 0)) ml1 mi3 ml3 ∧ (Fin none mi3 ml3 rv mi' ml'))) ∧ ((mi1 48 38) = 0 → (∃ (mi4 : MI) (ml4 : ML), Ret m_r_next [(vR 19 0 48)] none c (MRc nb db by_ rs) (u2 (u2 mi1 48 38 (nI 1)) 48 35 (nI 0)) ml1 mi4 ml4 ∧ (Fin none mi4 ml4 rv mi' ml'))))))) :
    Ret m_r_needs [(vR 19 0 48), (vR 100 0 w)] rv c (MRc nb db by_ rs) mi ml mi' ml' := by
  intro Q hQ
  refine ok_wq inlT 400 rfl rfl ?_
  obtain ⟨r1, mi1, ml1, hR, h⟩ := h
  refine ⟨0, 0, Nat.zero_le _, Nat.zero_le _, hR _ ?_⟩
  refine ⟨fun g => ?_, fun g => ?_⟩
  · have h := h.1 (g)
    obtain ⟨mi2, ml2, hR, h⟩ := h
    refine ⟨0, 0, Nat.zero_le _, Nat.zero_le _, hR _ ?_⟩
    exact h.use hQ
  · have h := h.2 (g)
    refine ⟨fun g => ?_, fun g => ?_⟩
    · have h := h.1 (g)
      obtain ⟨mi3, ml3, hR, h⟩ := h
      refine ⟨0, 0, Nat.zero_le _, Nat.zero_le _, hR _ ?_⟩
      exact h.use hQ
    · have h := h.2 (g)
      obtain ⟨mi4, ml4, hR, h⟩ := h
      refine ⟨0, 0, Nat.zero_le _, Nat.zero_le _, hR _ ?_⟩
      exact h.use hQ
theorem g_r_wholeAt_0 {nb db : Nat} {by_ rs : RX} {c : Nat} {mi mi' : MI} {ml ml' : ML} {rv : Option AV} {a0 : Int32} {a1 : Int32}
    (h : ((mi 48 35) = (nI 3) → (((mi 48 37) < a0 → ((¬ (mi 48 38) = 0 → (((mi 48 38) ≤ 0 → (Fin (some (vI (mi 48 37))) (u2 mi 48 35 (nI 0)) ml rv mi' ml')) ∧ (¬ (mi 48 38) ≤ 0 → (Fin (some (vI a0)) (u2 mi 48 35 (nI 0)) ml rv mi' ml')))) ∧ ((mi 48 38) = 0 → (Fin (some (vI a0)) (u2 (u2 mi 48 38 (nI 2)) 48 35 (nI 0)) ml rv mi' ml')))) ∧ (¬ (mi 48 37) < a0 → ((a1 < (mi 48 37) → ((¬ (mi 48 38) = 0 → (((mi 48 38) ≤ 0 → (Fin (some (vI (mi 48 37))) (u2 mi 48 35 (nI 0)) ml rv mi' ml')) ∧ (¬ (mi 48 38) ≤ 0 → (Fin (some (vI a0)) (u2 mi 48 35 (nI 0)) ml rv mi' ml')))) ∧ ((mi 48 38) = 0 → (Fin (some (vI a0)) (u2 (u2 mi 48 38 (nI 2)) 48 35 (nI 0)) ml rv mi' ml')))) ∧ (¬ a1 < (mi 48 37) → (((mi 48 38) ≤ 0 → (Fin (some (vI (mi 48 37))) mi ml rv mi' ml')) ∧ (¬ (mi 48 38) ≤ 0 → (Fin (some (vI a0)) mi ml rv mi' ml')))))))) ∧ (¬ (mi 48 35) = (nI 3) → ((¬ (mi 48 38) = 0 → (((mi 48 38) ≤ 0 → (Fin (some (vI (mi 48 37))) (u2 mi 48 35 (nI 0)) ml rv mi' ml')) ∧ (¬ (mi 48 38) ≤ 0 → (Fin (some (vI a0)) (u2 mi 48 35 (nI 0)) ml rv mi' ml')))) ∧ ((mi 48 38) = 0 → (Fin (some (vI a0)) (u2 (u2 mi 48 38 (nI 1)) 48 35 (nI 0)) ml rv mi' ml'))))) :
    Ret m_r_wholeAt [(vR 19 0 48), (vI a0), (vI a1)] rv c (MRc nb db by_ rs) mi ml mi' ml' := by
  intro Q hQ
  refine ok_wq inlT 400 rfl rfl ?_
  refine ⟨fun g => ?_, fun g => ?_⟩
  · have h := h.1 (g)
    refine ⟨fun g => ?_, fun g => ?_⟩
    · have h := h.1 (g)
      refine ⟨Or.inl rfl, ?_⟩
      refine ⟨fun g => absurd (show ¬ (nI 0) = 0 from g) (by decide), fun _ => ?_⟩
      refine ⟨fun g => ?_, fun g => ?_⟩
      · have h := h.1 (g)
        refine ⟨fun g => ?_, fun g => ?_⟩
        · have h := h.1 (g)
          exact h.use hQ
        · have h := h.2 (g)
          exact h.use hQ
      · have h := h.2 (g)
        refine ⟨fun g => absurd (show (nI 2) ≤ 0 from g) (by decide), fun _ => ?_⟩
        exact h.use hQ
    · have h := h.2 (g)
      refine ⟨fun g => ?_, fun g => ?_⟩
      · have h := h.1 (g)
        refine ⟨Or.inl rfl, ?_⟩
        refine ⟨fun g => absurd (show ¬ (nI 0) = 0 from g) (by decide), fun _ => ?_⟩
        refine ⟨fun g => ?_, fun g => ?_⟩
        · have h := h.1 (g)
          refine ⟨fun g => ?_, fun g => ?_⟩
          · have h := h.1 (g)
            exact h.use hQ
          · have h := h.2 (g)
            exact h.use hQ
        · have h := h.2 (g)
          refine ⟨fun g => absurd (show (nI 2) ≤ 0 from g) (by decide), fun _ => ?_⟩
          exact h.use hQ
      · have h := h.2 (g)
        refine ⟨Or.inr rfl, ?_⟩
        refine ⟨fun _ => ?_, fun g => absurd (show (nI 1) = 0 from g) (by decide)⟩
        refine ⟨fun g => ?_, fun g => ?_⟩
        · have h := h.1 (g)
          exact h.use hQ
        · have h := h.2 (g)
          exact h.use hQ
  · have h := h.2 (g)
    refine ⟨fun g => ?_, fun g => ?_⟩
    · have h := h.1 (g)
      refine ⟨fun g => ?_, fun g => ?_⟩
      · have h := h.1 (g)
        exact h.use hQ
      · have h := h.2 (g)
        exact h.use hQ
    · have h := h.2 (g)
      refine ⟨fun g => absurd (show (nI 1) ≤ 0 from g) (by decide), fun _ => ?_⟩
      exact h.use hQ
theorem g_r_readWhole_0 {nb db : Nat} {by_ rs : RX} {c : Nat} {mi mi' : MI} {ml ml' : ML} {rv : Option AV} {a0 : Int32} {a1 : Int32}
    (h : ∃ (r1 : Int32) (mi1 : MI) (ml1 : ML), Ret m_r_wholeAt [(vR 19 0 48), (vI a0), (vI a1)] (some (vI r1)) c (MRc nb db by_ rs) mi ml mi1 ml1 ∧ (∃ (mi2 : MI) (ml2 : ML), Ret m_r_next [(vR 19 0 48)] none c (MRc nb db by_ rs) mi1 ml1 mi2 ml2 ∧ (Fin (some (vI r1)) mi2 ml2 rv mi' ml'))) :
    Ret m_r_readWhole [(vR 19 0 48), (vI a0), (vI a1)] rv c (MRc nb db by_ rs) mi ml mi' ml' := by
  intro Q hQ
  refine ok_wq inlT 400 rfl rfl ?_
  obtain ⟨r1, mi1, ml1, hR, h⟩ := h
  refine ⟨0, 0, Nat.zero_le _, Nat.zero_le _, hR _ ?_⟩
  obtain ⟨mi2, ml2, hR, h⟩ := h
  refine ⟨0, 0, Nat.zero_le _, Nat.zero_le _, hR _ ?_⟩
  exact h.use hQ
theorem g_r_readNew_0 {nb db : Nat} {by_ rs : RX} {c : Nat} {mi mi' : MI} {ml ml' : ML} {rv : Option AV} {a0 : Int32}
    (h : ∃ (r1 : Int32) (mi1 : MI) (ml1 : ML), Ret m_r_wholeAt [(vR 19 0 48), (vI (nI 0)), (vI ((mi 48 13) - (nI 1)))] (some (vI r1)) c (MRc nb db by_ rs) mi ml mi1 ml1 ∧ ((¬ (mi1 48 38) = 0 → (∃ (mi2 : MI) (ml2 : ML), Ret m_r_next [(vR 19 0 48)] none c (MRc nb db by_ rs) mi1 ml1 mi2 ml2 ∧ (((mi2 48 38) ≤ 0 → (Fin (some (vI r1)) mi2 ml2 rv mi' ml')) ∧ (¬ (mi2 48 38) ≤ 0 → (Fin (some (vI (nI 0))) mi2 ml2 rv mi' ml'))))) ∧ ((mi1 48 38) = 0 → (∃ (r3 : Int32), Ret m_r_has [(vI a0), (vI r1)] (some (vI r3)) c (MRc nb db by_ rs) mi1 ml1 mi1 ml1 ∧ ((r3 = 0 → (∃ (mi4 : MI) (ml4 : ML), Ret m_r_next [(vR 19 0 48)] none c (MRc nb db by_ rs) mi1 ml1 mi4 ml4 ∧ (((mi4 48 38) ≤ 0 → (Fin (some (vI r1)) mi4 ml4 rv mi' ml')) ∧ (¬ (mi4 48 38) ≤ 0 → (Fin (some (vI (nI 0))) mi4 ml4 rv mi' ml'))))) ∧ (¬ r3 = 0 → ((¬ (mi1 48 38) = 0 → (∃ (mi5 : MI) (ml5 : ML), Ret m_r_next [(vR 19 0 48)] none c (MRc nb db by_ rs) (u2 mi1 48 35 (nI 0)) ml1 mi5 ml5 ∧ (((mi5 48 38) ≤ 0 → (Fin (some (vI r1)) mi5 ml5 rv mi' ml')) ∧ (¬ (mi5 48 38) ≤ 0 → (Fin (some (vI (nI 0))) mi5 ml5 rv mi' ml'))))) ∧ ((mi1 48 38) = 0 → (∃ (mi6 : MI) (ml6 : ML), Ret m_r_next [(vR 19 0 48)] none c (MRc nb db by_ rs) (u2 (u2 mi1 48 38 (nI 3)) 48 35 (nI 0)) ml1 mi6 ml6 ∧ (((mi6 48 38) ≤ 0 → (Fin (some (vI r1)) mi6 ml6 rv mi' ml')) ∧ (¬ (mi6 48 38) ≤ 0 → (Fin (some (vI (nI 0))) mi6 ml6 rv mi' ml')))))))))))) :
    Ret m_r_readNew [(vR 19 0 48), (vI a0)] rv c (MRc nb db by_ rs) mi ml mi' ml' := by
  intro Q hQ
  refine ok_wq inlT 400 rfl rfl ?_
  obtain ⟨r1, mi1, ml1, hR, h⟩ := h
  refine ⟨0, 0, Nat.zero_le _, Nat.zero_le _, hR _ ?_⟩
  refine ⟨fun g => ?_, fun g => ?_⟩
  · have h := h.1 (g)
    obtain ⟨mi2, ml2, hR, h⟩ := h
    refine ⟨0, 0, Nat.zero_le _, Nat.zero_le _, hR _ ?_⟩
    refine ⟨fun g => ?_, fun g => ?_⟩
    · have h := h.1 (g)
      exact h.use hQ
    · have h := h.2 (g)
      exact h.use hQ
  · have h := h.2 (g)
    obtain ⟨r3, hR, h⟩ := h
    refine ⟨0, 0, Nat.zero_le _, Nat.zero_le _, hR _ ?_⟩
    refine ⟨fun g => ?_, fun g => ?_⟩
    · have h := h.1 (g)
      obtain ⟨mi4, ml4, hR, h⟩ := h
      refine ⟨0, 0, Nat.zero_le _, Nat.zero_le _, hR _ ?_⟩
      refine ⟨fun g => ?_, fun g => ?_⟩
      · have h := h.1 (g)
        exact h.use hQ
      · have h := h.2 (g)
        exact h.use hQ
    · have h := h.2 (g)
      refine ⟨fun g => ?_, fun g => ?_⟩
      · have h := h.1 (g)
        obtain ⟨mi5, ml5, hR, h⟩ := h
        refine ⟨0, 0, Nat.zero_le _, Nat.zero_le _, hR _ ?_⟩
        refine ⟨fun g => ?_, fun g => ?_⟩
        · have h := h.1 (g)
          exact h.use hQ
        · have h := h.2 (g)
          exact h.use hQ
      · have h := h.2 (g)
        obtain ⟨mi6, ml6, hR, h⟩ := h
        refine ⟨0, 0, Nat.zero_le _, Nat.zero_le _, hR _ ?_⟩
        refine ⟨fun g => ?_, fun g => ?_⟩
        · have h := h.1 (g)
          exact h.use hQ
        · have h := h.2 (g)
          exact h.use hQ
theorem g_r_readAll_0 {nb db : Nat} {by_ rs : RX} {c : Nat} {mi mi' : MI} {ml ml' : ML} {rv : Option AV} 
    (h : Go m_r_readAll 42 [some (vR 19 0 48), some (vI (nI 0))] [] rv c (MRc nb db by_ rs) (u2 (u2 (u2 (u2 (u2 (u2 (u2 (u2 mi 48 13 (nI 0)) 48 17 (nI 0)) 48 18 (nI 0)) 48 19 (nI 0)) 48 20 (nI 0)) 48 21 (nI 0)) 48 22 (nI 0)) 48 23 (nI 0)) ml mi' ml') :
    Ret m_r_readAll [(vR 19 0 48)] rv c (MRc nb db by_ rs) mi ml mi' ml' := by
  intro Q hQ
  refine ok_wq inlT 400 rfl rfl ?_
  exact h Q hQ
theorem g_r_readAll_42 {nb db : Nat} {by_ rs : RX} {c : Nat} {mi mi' : MI} {ml ml' : ML} {rv : Option AV} {l1 : Int32}
    (h : ((nI 63) ≤ l1 → (Go m_r_readAll 63 [some (vR 19 0 48), some (vI (nI 0))] [] rv c (MRc nb db by_ rs) mi ml mi' ml')) ∧ (¬ (nI 63) ≤ l1 → (vp_in l1 63 ∧ (Go m_r_readAll 42 [some (vR 19 0 48), some (vI (l1 + nI 1))] [] rv c (MRc nb db by_ rs) (u2 mi 55 l1.toNatClampNeg (nI 0)) ml mi' ml')))) :
    Go m_r_readAll 42 [some (vR 19 0 48), some (vI l1)] [] rv c (MRc nb db by_ rs) mi ml mi' ml' := by
  intro Q hQ
  refine at_wq inlT 400 rfl ?_
  refine ⟨fun g => ?_, fun g => ?_⟩
  · have h := h.1 (g)
    exact h Q hQ
  · have h := h.2 (g)
    refine ⟨h.1, ?_⟩
    have h := h.2
    exact h Q hQ
theorem g_r_readAll_63 {nb db : Nat} {by_ rs : RX} {c : Nat} {mi mi' : MI} {ml ml' : ML} {rv : Option AV} {l1 : Int32}
    (h : ((nI 31) ≤ l1 → (∃ (mi1 : MI) (ml1 : ML), Ret m_r_next [(vR 19 0 48)] none c (MRc nb db by_ rs) mi ml mi1 ml1 ∧ (∃ (mi2 : MI) (ml2 : ML), Ret m_r_readLine [(vR 19 0 48)] none c (MRc nb db by_ rs) mi1 ml1 mi2 ml2 ∧ (Go m_r_readAll 90 [some (vR 19 0 48), some (vI l1)] [] rv c (MRc nb db by_ rs) mi2 ml2 mi' ml')))) ∧ (¬ (nI 31) ≤ l1 → (vp_in l1 31 ∧ (Go m_r_readAll 63 [some (vR 19 0 48), some (vI (l1 + nI 1))] [] rv c (MRc nb db by_ rs) (u2 mi 52 l1.toNatClampNeg (nI 0)) ml mi' ml')))) :
    Go m_r_readAll 63 [some (vR 19 0 48), some (vI l1)] [] rv c (MRc nb db by_ rs) mi ml mi' ml' := by
  intro Q hQ
  refine at_wq inlT 400 rfl ?_
  refine ⟨fun g => ?_, fun g => ?_⟩
  · have h := h.1 (g)
    obtain ⟨mi1, ml1, hR, h⟩ := h
    refine ⟨0, 0, Nat.zero_le _, Nat.zero_le _, hR _ ?_⟩
    obtain ⟨mi2, ml2, hR, h⟩ := h
    refine ⟨0, 0, Nat.zero_le _, Nat.zero_le _, hR _ ?_⟩
    exact h Q hQ
  · have h := h.2 (g)
    refine ⟨h.1, ?_⟩
    have h := h.2
    exact h Q hQ
theorem g_r_readAll_90 {nb db : Nat} {by_ rs : RX} {c : Nat} {mi mi' : MI} {ml ml' : ML} {rv : Option AV} {l1 : Int32}
    (h : (¬ (mi 48 35) = (nI 4) → (((mi 48 35) = (nI 1) → ((¬ (mi 48 38) = 0 → (Fin none mi ml rv mi' ml')) ∧ ((mi 48 38) = 0 → ((¬ (mi 48 13) = 0 → (Fin none mi ml rv mi' ml')) ∧ ((mi 48 13) = 0 → ((¬ (mi 48 38) = 0 → (Fin none (u2 mi 48 35 (nI 0)) ml rv mi' ml')) ∧ ((mi 48 38) = 0 → (Fin none (u2 (u2 mi 48 38 (nI 5)) 48 35 (nI 0)) ml rv mi' ml')))))))) ∧ (¬ (mi 48 35) = (nI 1) → ((¬ (mi 48 38) = 0 → ((¬ (mi 48 38) = 0 → (Fin none (u2 mi 48 35 (nI 0)) ml rv mi' ml')) ∧ ((mi 48 38) = 0 → ((¬ (mi 48 13) = 0 → (Fin none (u2 mi 48 35 (nI 0)) ml rv mi' ml')) ∧ ((mi 48 13) = 0 → ((¬ (mi 48 38) = 0 → (Fin none (u2 (u2 mi 48 35 (nI 0)) 48 35 (nI 0)) ml rv mi' ml')) ∧ ((mi 48 38) = 0 → (Fin none (u2 (u2 (u2 mi 48 35 (nI 0)) 48 38 (nI 5)) 48 35 (nI 0)) ml rv mi' ml')))))))) ∧ ((mi 48 38) = 0 → (Fin none (u2 (u2 mi 48 38 (nI 1)) 48 35 (nI 0)) ml rv mi' ml')))))) ∧ ((mi 48 35) = (nI 4) → (∃ (mi1 : MI) (ml1 : ML), Ret m_r_next [(vR 19 0 48)] none c (MRc nb db by_ rs) mi ml mi1 ml1 ∧ (∃ (mi2 : MI) (ml2 : ML), Ret m_r_readLine [(vR 19 0 48)] none c (MRc nb db by_ rs) mi1 ml1 mi2 ml2 ∧ (Go m_r_readAll 90 [some (vR 19 0 48), some (vI l1)] [] rv c (MRc nb db by_ rs) mi2 ml2 mi' ml'))))) :
    Go m_r_readAll 90 [some (vR 19 0 48), some (vI l1)] [] rv c (MRc nb db by_ rs) mi ml mi' ml' := by
  intro Q hQ
  refine at_wq inlT 400 rfl ?_
  refine ⟨fun g => ?_, fun g => ?_⟩
  · have h := h.1 (g)
    refine ⟨fun g => ?_, fun g => ?_⟩
    · have h := h.1 (g)
      refine ⟨fun g => ?_, fun g => ?_⟩
      · have h := h.1 (g)
        exact h.use hQ
      · have h := h.2 (g)
        refine ⟨fun g => ?_, fun g => ?_⟩
        · have h := h.1 (g)
          exact h.use hQ
        · have h := h.2 (g)
          refine ⟨fun g => ?_, fun g => ?_⟩
          · have h := h.1 (g)
            exact h.use hQ
          · have h := h.2 (g)
            exact h.use hQ
    · have h := h.2 (g)
      refine ⟨fun g => ?_, fun g => ?_⟩
      · have h := h.1 (g)
        refine ⟨fun g => ?_, fun g => ?_⟩
        · have h := h.1 (g)
          exact h.use hQ
        · have h := h.2 (g)
          refine ⟨fun g => ?_, fun g => ?_⟩
          · have h := h.1 (g)
            exact h.use hQ
          · have h := h.2 (g)
            refine ⟨fun g => ?_, fun g => ?_⟩
            · have h := h.1 (g)
              exact h.use hQ
            · have h := h.2 (g)
              exact h.use hQ
      · have h := h.2 (g)
        refine ⟨fun _ => ?_, fun g => absurd (show (nI 1) = 0 from g) (by decide)⟩
        exact h.use hQ
  · have h := h.2 (g)
    obtain ⟨mi1, ml1, hR, h⟩ := h
    refine ⟨0, 0, Nat.zero_le _, Nat.zero_le _, hR _ ?_⟩
    obtain ⟨mi2, ml2, hR, h⟩ := h
    refine ⟨0, 0, Nat.zero_le _, Nat.zero_le _, hR _ ?_⟩
    exact h Q hQ
theorem g_r_readLine_0 {nb db : Nat} {by_ rs : RX} {c : Nat} {mi mi' : MI} {ml ml' : ML} {rv : Option AV} 
    (h : ∃ (r1 : Int32) (mi1 : MI) (ml1 : ML), Ret m_r_isWord [(vR 19 0 48), (vR 100 0 1)] (some (vI r1)) c (MRc nb db by_ rs) mi ml mi1 ml1 ∧ ((r1 = 0 → (∃ (r2 : Int32) (mi2 : MI) (ml2 : ML), Ret m_r_isWord [(vR 19 0 48), (vR 100 0 2)] (some (vI r2)) c (MRc nb db by_ rs) mi1 ml1 mi2 ml2 ∧ ((r2 = 0 → (∃ (r3 : Int32) (mi3 : MI) (ml3 : ML), Ret m_r_isWord [(vR 19 0 48), (vR 100 0 3)] (some (vI r3)) c (MRc nb db by_ rs) mi2 ml2 mi3 ml3 ∧ ((r3 = 0 → (∃ (r4 : Int32) (mi4 : MI) (ml4 : ML), Ret m_r_isWord [(vR 19 0 48), (vR 100 0 4)] (some (vI r4)) c (MRc nb db by_ rs) mi3 ml3 mi4 ml4 ∧ ((r4 = 0 → (∃ (r5 : Int32) (mi5 : MI) (ml5 : ML), Ret m_r_isWord [(vR 19 0 48), (vR 100 0 5)] (some (vI r5)) c (MRc nb db by_ rs) mi4 ml4 mi5 ml5 ∧ ((r5 = 0 → (∃ (r6 : Int32) (mi6 : MI) (ml6 : ML), Ret m_r_isWord [(vR 19 0 48), (vR 100 0 6)] (some (vI r6)) c (MRc nb db by_ rs) mi5 ml5 mi6 ml6 ∧ ((r6 = 0 → ((¬ (mi6 48 38) = 0 → (Fin none (u2 mi6 48 35 (nI 0)) ml6 rv mi' ml')) ∧ ((mi6 48 38) = 0 → (Fin none (u2 (u2 mi6 48 38 (nI 1)) 48 35 (nI 0)) ml6 rv mi' ml')))) ∧ (¬ r6 = 0 → (∃ (mi7 : MI) (ml7 : ML), Ret m_r_readMaskOf [(vR 19 0 48)] none c (MRc nb db by_ rs) mi6 ml6 mi7 ml7 ∧ (Fin none mi7 ml7 rv mi' ml')))))) ∧ (¬ r5 = 0 → (∃ (mi8 : MI) (ml8 : ML), Ret m_r_readLost [(vR 19 0 48)] none c (MRc nb db by_ rs) mi5 ml5 mi8 ml8 ∧ (Fin none mi8 ml8 rv mi' ml')))))) ∧ (¬ r4 = 0 → (∃ (mi9 : MI) (ml9 : ML), Ret m_r_readNoiseOf [(vR 19 0 48)] none c (MRc nb db by_ rs) mi4 ml4 mi9 ml9 ∧ (Fin none mi9 ml9 rv mi' ml')))))) ∧ (¬ r3 = 0 → (∃ (mi10 : MI) (ml10 : ML), Ret m_r_readStuckOne [(vR 19 0 48)] none c (MRc nb db by_ rs) mi3 ml3 mi10 ml10 ∧ (Fin none mi10 ml10 rv mi' ml')))))) ∧ (¬ r2 = 0 → (∃ (mi11 : MI) (ml11 : ML), Ret m_r_readLight [(vR 19 0 48)] none c (MRc nb db by_ rs) mi2 ml2 mi11 ml11 ∧ (Fin none mi11 ml11 rv mi' ml')))))) ∧ (¬ r1 = 0 → (∃ (mi12 : MI) (ml12 : ML), Ret m_r_readBench [(vR 19 0 48)] none c (MRc nb db by_ rs) mi1 ml1 mi12 ml12 ∧ (Fin none mi12 ml12 rv mi' ml'))))) :
    Ret m_r_readLine [(vR 19 0 48)] rv c (MRc nb db by_ rs) mi ml mi' ml' := by
  intro Q hQ
  refine ok_wq inlT 400 rfl rfl ?_
  obtain ⟨r1, mi1, ml1, hR, h⟩ := h
  refine ⟨0, 0, Nat.zero_le _, Nat.zero_le _, hR _ ?_⟩
  refine ⟨fun g => ?_, fun g => ?_⟩
  · have h := h.1 (g)
    obtain ⟨r2, mi2, ml2, hR, h⟩ := h
    refine ⟨0, 0, Nat.zero_le _, Nat.zero_le _, hR _ ?_⟩
    refine ⟨fun g => ?_, fun g => ?_⟩
    · have h := h.1 (g)
      obtain ⟨r3, mi3, ml3, hR, h⟩ := h
      refine ⟨0, 0, Nat.zero_le _, Nat.zero_le _, hR _ ?_⟩
      refine ⟨fun g => ?_, fun g => ?_⟩
      · have h := h.1 (g)
        obtain ⟨r4, mi4, ml4, hR, h⟩ := h
        refine ⟨0, 0, Nat.zero_le _, Nat.zero_le _, hR _ ?_⟩
        refine ⟨fun g => ?_, fun g => ?_⟩
        · have h := h.1 (g)
          obtain ⟨r5, mi5, ml5, hR, h⟩ := h
          refine ⟨0, 0, Nat.zero_le _, Nat.zero_le _, hR _ ?_⟩
          refine ⟨fun g => ?_, fun g => ?_⟩
          · have h := h.1 (g)
            obtain ⟨r6, mi6, ml6, hR, h⟩ := h
            refine ⟨0, 0, Nat.zero_le _, Nat.zero_le _, hR _ ?_⟩
            refine ⟨fun g => ?_, fun g => ?_⟩
            · have h := h.1 (g)
              refine ⟨fun g => ?_, fun g => ?_⟩
              · have h := h.1 (g)
                exact h.use hQ
              · have h := h.2 (g)
                exact h.use hQ
            · have h := h.2 (g)
              obtain ⟨mi7, ml7, hR, h⟩ := h
              refine ⟨0, 0, Nat.zero_le _, Nat.zero_le _, hR _ ?_⟩
              exact h.use hQ
          · have h := h.2 (g)
            obtain ⟨mi8, ml8, hR, h⟩ := h
            refine ⟨0, 0, Nat.zero_le _, Nat.zero_le _, hR _ ?_⟩
            exact h.use hQ
        · have h := h.2 (g)
          obtain ⟨mi9, ml9, hR, h⟩ := h
          refine ⟨0, 0, Nat.zero_le _, Nat.zero_le _, hR _ ?_⟩
          exact h.use hQ
      · have h := h.2 (g)
        obtain ⟨mi10, ml10, hR, h⟩ := h
        refine ⟨0, 0, Nat.zero_le _, Nat.zero_le _, hR _ ?_⟩
        exact h.use hQ
    · have h := h.2 (g)
      obtain ⟨mi11, ml11, hR, h⟩ := h
      refine ⟨0, 0, Nat.zero_le _, Nat.zero_le _, hR _ ?_⟩
      exact h.use hQ
  · have h := h.2 (g)
    obtain ⟨mi12, ml12, hR, h⟩ := h
    refine ⟨0, 0, Nat.zero_le _, Nat.zero_le _, hR _ ?_⟩
    exact h.use hQ
theorem g_r_begins_0 {nb db : Nat} {by_ rs : RX} {c : Nat} {mi mi' : MI} {ml ml' : ML} {rv : Option AV} {a0 : Int32}
    (h : (a0 = 0 → ((¬ (mi 48 13) = 0 → (∃ (mi1 : MI) (ml1 : ML), Ret m_r_next [(vR 19 0 48)] none c (MRc nb db by_ rs) mi ml mi1 ml1 ∧ (Fin none mi1 ml1 rv mi' ml'))) ∧ ((mi 48 13) = 0 → ((¬ (mi 48 38) = 0 → (∃ (mi2 : MI) (ml2 : ML), Ret m_r_next [(vR 19 0 48)] none c (MRc nb db by_ rs) (u2 mi 48 35 (nI 0)) ml mi2 ml2 ∧ (Fin none mi2 ml2 rv mi' ml'))) ∧ ((mi 48 38) = 0 → (∃ (mi3 : MI) (ml3 : ML), Ret m_r_next [(vR 19 0 48)] none c (MRc nb db by_ rs) (u2 (u2 mi 48 38 (nI 5)) 48 35 (nI 0)) ml mi3 ml3 ∧ (Fin none mi3 ml3 rv mi' ml'))))))) ∧ (¬ a0 = 0 → ((¬ (mi 48 38) = 0 → ((¬ (mi 48 13) = 0 → (∃ (mi4 : MI) (ml4 : ML), Ret m_r_next [(vR 19 0 48)] none c (MRc nb db by_ rs) (u2 mi 48 35 (nI 0)) ml mi4 ml4 ∧ (Fin none mi4 ml4 rv mi' ml'))) ∧ ((mi 48 13) = 0 → ((¬ (mi 48 38) = 0 → (∃ (mi5 : MI) (ml5 : ML), Ret m_r_next [(vR 19 0 48)] none c (MRc nb db by_ rs) (u2 (u2 mi 48 35 (nI 0)) 48 35 (nI 0)) ml mi5 ml5 ∧ (Fin none mi5 ml5 rv mi' ml'))) ∧ ((mi 48 38) = 0 → (∃ (mi6 : MI) (ml6 : ML), Ret m_r_next [(vR 19 0 48)] none c (MRc nb db by_ rs) (u2 (u2 (u2 mi 48 35 (nI 0)) 48 38 (nI 5)) 48 35 (nI 0)) ml mi6 ml6 ∧ (Fin none mi6 ml6 rv mi' ml'))))))) ∧ ((mi 48 38) = 0 → ((¬ (mi 48 13) = 0 → (∃ (mi7 : MI) (ml7 : ML), Ret m_r_next [(vR 19 0 48)] none c (MRc nb db by_ rs) (u2 (u2 mi 48 38 (nI 4)) 48 35 (nI 0)) ml mi7 ml7 ∧ (Fin none mi7 ml7 rv mi' ml'))) ∧ ((mi 48 13) = 0 → (∃ (mi8 : MI) (ml8 : ML), Ret m_r_next [(vR 19 0 48)] none c (MRc nb db by_ rs) (u2 (u2 (u2 mi 48 38 (nI 4)) 48 35 (nI 0)) 48 35 (nI 0)) ml mi8 ml8 ∧ (Fin none mi8 ml8 rv mi' ml')))))))) :
    Ret m_r_begins [(vR 19 0 48), (vI a0)] rv c (MRc nb db by_ rs) mi ml mi' ml' := by
  intro Q hQ
  refine ok_wq inlT 400 rfl rfl ?_
  refine ⟨fun g => ?_, fun g => ?_⟩
  · have h := h.1 (g)
    refine ⟨fun g => ?_, fun g => ?_⟩
    · have h := h.1 (g)
      obtain ⟨mi1, ml1, hR, h⟩ := h
      refine ⟨0, 0, Nat.zero_le _, Nat.zero_le _, hR _ ?_⟩
      exact h.use hQ
    · have h := h.2 (g)
      refine ⟨fun g => ?_, fun g => ?_⟩
      · have h := h.1 (g)
        obtain ⟨mi2, ml2, hR, h⟩ := h
        refine ⟨0, 0, Nat.zero_le _, Nat.zero_le _, hR _ ?_⟩
        exact h.use hQ
      · have h := h.2 (g)
        obtain ⟨mi3, ml3, hR, h⟩ := h
        refine ⟨0, 0, Nat.zero_le _, Nat.zero_le _, hR _ ?_⟩
        exact h.use hQ
  · have h := h.2 (g)
    refine ⟨fun g => ?_, fun g => ?_⟩
    · have h := h.1 (g)
      refine ⟨fun g => ?_, fun g => ?_⟩
      · have h := h.1 (g)
        obtain ⟨mi4, ml4, hR, h⟩ := h
        refine ⟨0, 0, Nat.zero_le _, Nat.zero_le _, hR _ ?_⟩
        exact h.use hQ
      · have h := h.2 (g)
        refine ⟨fun g => ?_, fun g => ?_⟩
        · have h := h.1 (g)
          obtain ⟨mi5, ml5, hR, h⟩ := h
          refine ⟨0, 0, Nat.zero_le _, Nat.zero_le _, hR _ ?_⟩
          exact h.use hQ
        · have h := h.2 (g)
          obtain ⟨mi6, ml6, hR, h⟩ := h
          refine ⟨0, 0, Nat.zero_le _, Nat.zero_le _, hR _ ?_⟩
          exact h.use hQ
    · have h := h.2 (g)
      refine ⟨fun g => ?_, fun g => ?_⟩
      · have h := h.1 (g)
        obtain ⟨mi7, ml7, hR, h⟩ := h
        refine ⟨0, 0, Nat.zero_le _, Nat.zero_le _, hR _ ?_⟩
        exact h.use hQ
      · have h := h.2 (g)
        refine ⟨fun _ => ?_, fun g => absurd (show (nI 4) = 0 from g) (by decide)⟩
        obtain ⟨mi8, ml8, hR, h⟩ := h
        refine ⟨0, 0, Nat.zero_le _, Nat.zero_le _, hR _ ?_⟩
        exact h.use hQ
theorem g_r_readBench_0 {nb db : Nat} {by_ rs : RX} {c : Nat} {mi mi' : MI} {ml ml' : ML} {rv : Option AV} 
    (h : ((mi 48 13) ≤ 0 → (∃ (mi1 : MI) (ml1 : ML), Ret m_r_next [(vR 19 0 48)] none c (MRc nb db by_ rs) mi ml mi1 ml1 ∧ (∃ (r2 : Int32) (mi2 : MI) (ml2 : ML), Ret m_r_isWord [(vR 19 0 48), (vR 100 0 7)] (some (vI r2)) c (MRc nb db by_ rs) mi1 ml1 mi2 ml2 ∧ ((¬ r2 = 0 → (∃ (mi3 : MI) (ml3 : ML), Ret m_r_next [(vR 19 0 48)] none c (MRc nb db by_ rs) mi2 ml2 mi3 ml3 ∧ ((r2 = 0 → (∃ (r4 : Int32) (mi4 : MI) (ml4 : ML), Ret m_r_readOrder [(vR 19 0 48)] (some (vI r4)) c (MRc nb db by_ rs) mi3 ml3 mi4 ml4 ∧ (∃ (mi5 : MI) (ml5 : ML), Ret m_r_needs [(vR 19 0 48), (vR 100 0 9)] none c (MRc nb db by_ rs) mi4 ml4 mi5 ml5 ∧ (∃ (r6 : Int32) (mi6 : MI) (ml6 : ML), Ret m_r_readWhole [(vR 19 0 48), (vI (nI 0)), (vI (nI 999))] (some (vI r6)) c (MRc nb db by_ rs) mi5 ml5 mi6 ml6 ∧ (∃ (mi7 : MI) (ml7 : ML), Ret m_r_needs [(vR 19 0 48), (vR 100 0 10)] none c (MRc nb db by_ rs) mi6 ml6 mi7 ml7 ∧ (∃ (r8 : Int32) (mi8 : MI) (ml8 : ML), Ret m_r_readWhole [(vR 19 0 48), (vI (nI 1)), (vI (nI 999999))] (some (vI r8)) c (MRc nb db by_ rs) mi7 ml7 mi8 ml8 ∧ (((mi8 48 38) ≤ 0 → ((r2 = 0 → ((r2 = 0 → (Fin none (u2 (u2 (u2 (u2 mi8 48 13 r4) 48 14 (nI 1)) 48 15 r6) 48 16 r8) ml8 rv mi' ml')) ∧ (¬ r2 = 0 → (Fin none (u2 (u2 (u2 (u2 mi8 48 13 r4) 48 14 (nI 0)) 48 15 r6) 48 16 r8) ml8 rv mi' ml')))) ∧ (¬ r2 = 0 → ((r2 = 0 → (Fin none (u2 (u2 (u2 (u2 mi8 48 13 (((nI 1) <<< (r4 &&& 31)) - (nI 1))) 48 14 (nI 1)) 48 15 r6) 48 16 r8) ml8 rv mi' ml')) ∧ (¬ r2 = 0 → (Fin none (u2 (u2 (u2 (u2 mi8 48 13 (((nI 1) <<< (r4 &&& 31)) - (nI 1))) 48 14 (nI 0)) 48 15 r6) 48 16 r8) ml8 rv mi' ml')))))) ∧ (¬ (mi8 48 38) ≤ 0 → (Fin none mi8 ml8 rv mi' ml'))))))))) ∧ (¬ r2 = 0 → (∃ (r9 : Int32) (mi9 : MI) (ml9 : ML), Ret m_r_readWhole [(vR 19 0 48), (vI (nI 2)), (vI (nI 5))] (some (vI r9)) c (MRc nb db by_ rs) mi3 ml3 mi9 ml9 ∧ (∃ (mi10 : MI) (ml10 : ML), Ret m_r_needs [(vR 19 0 48), (vR 100 0 9)] none c (MRc nb db by_ rs) mi9 ml9 mi10 ml10 ∧ (∃ (r11 : Int32) (mi11 : MI) (ml11 : ML), Ret m_r_readWhole [(vR 19 0 48), (vI (nI 0)), (vI (nI 999))] (some (vI r11)) c (MRc nb db by_ rs) mi10 ml10 mi11 ml11 ∧ (∃ (mi12 : MI) (ml12 : ML), Ret m_r_needs [(vR 19 0 48), (vR 100 0 10)] none c (MRc nb db by_ rs) mi11 ml11 mi12 ml12 ∧ (∃ (r13 : Int32) (mi13 : MI) (ml13 : ML), Ret m_r_readWhole [(vR 19 0 48), (vI (nI 1)), (vI (nI 999999))] (some (vI r13)) c (MRc nb db by_ rs) mi12 ml12 mi13 ml13 ∧ (((mi13 48 38) ≤ 0 → ((r2 = 0 → ((r2 = 0 → (Fin none (u2 (u2 (u2 (u2 mi13 48 13 r9) 48 14 (nI 1)) 48 15 r11) 48 16 r13) ml13 rv mi' ml')) ∧ (¬ r2 = 0 → (Fin none (u2 (u2 (u2 (u2 mi13 48 13 r9) 48 14 (nI 0)) 48 15 r11) 48 16 r13) ml13 rv mi' ml')))) ∧ (¬ r2 = 0 → ((r2 = 0 → (Fin none (u2 (u2 (u2 (u2 mi13 48 13 (((nI 1) <<< (r9 &&& 31)) - (nI 1))) 48 14 (nI 1)) 48 15 r11) 48 16 r13) ml13 rv mi' ml')) ∧ (¬ r2 = 0 → (Fin none (u2 (u2 (u2 (u2 mi13 48 13 (((nI 1) <<< (r9 &&& 31)) - (nI 1))) 48 14 (nI 0)) 48 15 r11) 48 16 r13) ml13 rv mi' ml')))))) ∧ (¬ (mi13 48 38) ≤ 0 → (Fin none mi13 ml13 rv mi' ml')))))))))))) ∧ (r2 = 0 → (∃ (r14 : Int32) (mi14 : MI) (ml14 : ML), Ret m_r_isWord [(vR 19 0 48), (vR 100 0 8)] (some (vI r14)) c (MRc nb db by_ rs) mi2 ml2 mi14 ml14 ∧ ((¬ r14 = 0 → (∃ (mi15 : MI) (ml15 : ML), Ret m_r_next [(vR 19 0 48)] none c (MRc nb db by_ rs) mi14 ml14 mi15 ml15 ∧ ((r2 = 0 → (∃ (r16 : Int32) (mi16 : MI) (ml16 : ML), Ret m_r_readOrder [(vR 19 0 48)] (some (vI r16)) c (MRc nb db by_ rs) mi15 ml15 mi16 ml16 ∧ (∃ (mi17 : MI) (ml17 : ML), Ret m_r_needs [(vR 19 0 48), (vR 100 0 9)] none c (MRc nb db by_ rs) mi16 ml16 mi17 ml17 ∧ (∃ (r18 : Int32) (mi18 : MI) (ml18 : ML), Ret m_r_readWhole [(vR 19 0 48), (vI (nI 0)), (vI (nI 999))] (some (vI r18)) c (MRc nb db by_ rs) mi17 ml17 mi18 ml18 ∧ (∃ (mi19 : MI) (ml19 : ML), Ret m_r_needs [(vR 19 0 48), (vR 100 0 10)] none c (MRc nb db by_ rs) mi18 ml18 mi19 ml19 ∧ (∃ (r20 : Int32) (mi20 : MI) (ml20 : ML), Ret m_r_readWhole [(vR 19 0 48), (vI (nI 1)), (vI (nI 999999))] (some (vI r20)) c (MRc nb db by_ rs) mi19 ml19 mi20 ml20 ∧ (((mi20 48 38) ≤ 0 → ((r2 = 0 → ((r2 = 0 → (Fin none (u2 (u2 (u2 (u2 mi20 48 13 r16) 48 14 (nI 1)) 48 15 r18) 48 16 r20) ml20 rv mi' ml')) ∧ (¬ r2 = 0 → (Fin none (u2 (u2 (u2 (u2 mi20 48 13 r16) 48 14 (nI 0)) 48 15 r18) 48 16 r20) ml20 rv mi' ml')))) ∧ (¬ r2 = 0 → ((r2 = 0 → (Fin none (u2 (u2 (u2 (u2 mi20 48 13 (((nI 1) <<< (r16 &&& 31)) - (nI 1))) 48 14 (nI 1)) 48 15 r18) 48 16 r20) ml20 rv mi' ml')) ∧ (¬ r2 = 0 → (Fin none (u2 (u2 (u2 (u2 mi20 48 13 (((nI 1) <<< (r16 &&& 31)) - (nI 1))) 48 14 (nI 0)) 48 15 r18) 48 16 r20) ml20 rv mi' ml')))))) ∧ (¬ (mi20 48 38) ≤ 0 → (Fin none mi20 ml20 rv mi' ml'))))))))) ∧ (¬ r2 = 0 → (∃ (r21 : Int32) (mi21 : MI) (ml21 : ML), Ret m_r_readWhole [(vR 19 0 48), (vI (nI 2)), (vI (nI 5))] (some (vI r21)) c (MRc nb db by_ rs) mi15 ml15 mi21 ml21 ∧ (∃ (mi22 : MI) (ml22 : ML), Ret m_r_needs [(vR 19 0 48), (vR 100 0 9)] none c (MRc nb db by_ rs) mi21 ml21 mi22 ml22 ∧ (∃ (r23 : Int32) (mi23 : MI) (ml23 : ML), Ret m_r_readWhole [(vR 19 0 48), (vI (nI 0)), (vI (nI 999))] (some (vI r23)) c (MRc nb db by_ rs) mi22 ml22 mi23 ml23 ∧ (∃ (mi24 : MI) (ml24 : ML), Ret m_r_needs [(vR 19 0 48), (vR 100 0 10)] none c (MRc nb db by_ rs) mi23 ml23 mi24 ml24 ∧ (∃ (r25 : Int32) (mi25 : MI) (ml25 : ML), Ret m_r_readWhole [(vR 19 0 48), (vI (nI 1)), (vI (nI 999999))] (some (vI r25)) c (MRc nb db by_ rs) mi24 ml24 mi25 ml25 ∧ (((mi25 48 38) ≤ 0 → ((r2 = 0 → ((r2 = 0 → (Fin none (u2 (u2 (u2 (u2 mi25 48 13 r21) 48 14 (nI 1)) 48 15 r23) 48 16 r25) ml25 rv mi' ml')) ∧ (¬ r2 = 0 → (Fin none (u2 (u2 (u2 (u2 mi25 48 13 r21) 48 14 (nI 0)) 48 15 r23) 48 16 r25) ml25 rv mi' ml')))) ∧ (¬ r2 = 0 → ((r2 = 0 → (Fin none (u2 (u2 (u2 (u2 mi25 48 13 (((nI 1) <<< (r21 &&& 31)) - (nI 1))) 48 14 (nI 1)) 48 15 r23) 48 16 r25) ml25 rv mi' ml')) ∧ (¬ r2 = 0 → (Fin none (u2 (u2 (u2 (u2 mi25 48 13 (((nI 1) <<< (r21 &&& 31)) - (nI 1))) 48 14 (nI 0)) 48 15 r23) 48 16 r25) ml25 rv mi' ml')))))) ∧ (¬ (mi25 48 38) ≤ 0 → (Fin none mi25 ml25 rv mi' ml')))))))))))) ∧ (r14 = 0 → ((¬ (mi14 48 38) = 0 → (∃ (mi26 : MI) (ml26 : ML), Ret m_r_next [(vR 19 0 48)] none c (MRc nb db by_ rs) (u2 mi14 48 35 (nI 0)) ml14 mi26 ml26 ∧ ((r2 = 0 → (∃ (r27 : Int32) (mi27 : MI) (ml27 : ML), Ret m_r_readOrder [(vR 19 0 48)] (some (vI r27)) c (MRc nb db by_ rs) mi26 ml26 mi27 ml27 ∧ (∃ (mi28 : MI) (ml28 : ML), Ret m_r_needs [(vR 19 0 48), (vR 100 0 9)] none c (MRc nb db by_ rs) mi27 ml27 mi28 ml28 ∧ (∃ (r29 : Int32) (mi29 : MI) (ml29 : ML), Ret m_r_readWhole [(vR 19 0 48), (vI (nI 0)), (vI (nI 999))] (some (vI r29)) c (MRc nb db by_ rs) mi28 ml28 mi29 ml29 ∧ (∃ (mi30 : MI) (ml30 : ML), Ret m_r_needs [(vR 19 0 48), (vR 100 0 10)] none c (MRc nb db by_ rs) mi29 ml29 mi30 ml30 ∧ (∃ (r31 : Int32) (mi31 : MI) (ml31 : ML), Ret m_r_readWhole [(vR 19 0 48), (vI (nI 1)), (vI (nI 999999))] (some (vI r31)) c (MRc nb db by_ rs) mi30 ml30 mi31 ml31 ∧ (((mi31 48 38) ≤ 0 → ((r2 = 0 → ((r2 = 0 → (Fin none (u2 (u2 (u2 (u2 mi31 48 13 r27) 48 14 (nI 1)) 48 15 r29) 48 16 r31) ml31 rv mi' ml')) ∧ (¬ r2 = 0 → (Fin none (u2 (u2 (u2 (u2 mi31 48 13 r27) 48 14 (nI 0)) 48 15 r29) 48 16 r31) ml31 rv mi' ml')))) ∧ (¬ r2 = 0 → ((r2 = 0 → (Fin none (u2 (u2 (u2 (u2 mi31 48 13 (((nI 1) <<< (r27 &&& 31)) - (nI 1))) 48 14 (nI 1)) 48 15 r29) 48 16 r31) ml31 rv mi' ml')) ∧ (¬ r2 = 0 → (Fin none (u2 (u2 (u2 (u2 mi31 48 13 (((nI 1) <<< (r27 &&& 31)) - (nI 1))) 48 14 (nI 0)) 48 15 r29) 48 16 r31) ml31 rv mi' ml')))))) ∧ (¬ (mi31 48 38) ≤ 0 → (Fin none mi31 ml31 rv mi' ml'))))))))) ∧ (¬ r2 = 0 → (∃ (r32 : Int32) (mi32 : MI) (ml32 : ML), Ret m_r_readWhole [(vR 19 0 48), (vI (nI 2)), (vI (nI 5))] (some (vI r32)) c (MRc nb db by_ rs) mi26 ml26 mi32 ml32 ∧ (∃ (mi33 : MI) (ml33 : ML), Ret m_r_needs [(vR 19 0 48), (vR 100 0 9)] none c (MRc nb db by_ rs) mi32 ml32 mi33 ml33 ∧ (∃ (r34 : Int32) (mi34 : MI) (ml34 : ML), Ret m_r_readWhole [(vR 19 0 48), (vI (nI 0)), (vI (nI 999))] (some (vI r34)) c (MRc nb db by_ rs) mi33 ml33 mi34 ml34 ∧ (∃ (mi35 : MI) (ml35 : ML), Ret m_r_needs [(vR 19 0 48), (vR 100 0 10)] none c (MRc nb db by_ rs) mi34 ml34 mi35 ml35 ∧ (∃ (r36 : Int32) (mi36 : MI) (ml36 : ML), Ret m_r_readWhole [(vR 19 0 48), (vI (nI 1)), (vI (nI 999999))] (some (vI r36)) c (MRc nb db by_ rs) mi35 ml35 mi36 ml36 ∧ (((mi36 48 38) ≤ 0 → ((r2 = 0 → ((r2 = 0 → (Fin none (u2 (u2 (u2 (u2 mi36 48 13 r32) 48 14 (nI 1)) 48 15 r34) 48 16 r36) ml36 rv mi' ml')) ∧ (¬ r2 = 0 → (Fin none (u2 (u2 (u2 (u2 mi36 48 13 r32) 48 14 (nI 0)) 48 15 r34) 48 16 r36) ml36 rv mi' ml')))) ∧ (¬ r2 = 0 → ((r2 = 0 → (Fin none (u2 (u2 (u2 (u2 mi36 48 13 (((nI 1) <<< (r32 &&& 31)) - (nI 1))) 48 14 (nI 1)) 48 15 r34) 48 16 r36) ml36 rv mi' ml')) ∧ (¬ r2 = 0 → (Fin none (u2 (u2 (u2 (u2 mi36 48 13 (((nI 1) <<< (r32 &&& 31)) - (nI 1))) 48 14 (nI 0)) 48 15 r34) 48 16 r36) ml36 rv mi' ml')))))) ∧ (¬ (mi36 48 38) ≤ 0 → (Fin none mi36 ml36 rv mi' ml')))))))))))) ∧ ((mi14 48 38) = 0 → (∃ (mi37 : MI) (ml37 : ML), Ret m_r_next [(vR 19 0 48)] none c (MRc nb db by_ rs) (u2 (u2 mi14 48 38 (nI 1)) 48 35 (nI 0)) ml14 mi37 ml37 ∧ ((r2 = 0 → (∃ (r38 : Int32) (mi38 : MI) (ml38 : ML), Ret m_r_readOrder [(vR 19 0 48)] (some (vI r38)) c (MRc nb db by_ rs) mi37 ml37 mi38 ml38 ∧ (∃ (mi39 : MI) (ml39 : ML), Ret m_r_needs [(vR 19 0 48), (vR 100 0 9)] none c (MRc nb db by_ rs) mi38 ml38 mi39 ml39 ∧ (∃ (r40 : Int32) (mi40 : MI) (ml40 : ML), Ret m_r_readWhole [(vR 19 0 48), (vI (nI 0)), (vI (nI 999))] (some (vI r40)) c (MRc nb db by_ rs) mi39 ml39 mi40 ml40 ∧ (∃ (mi41 : MI) (ml41 : ML), Ret m_r_needs [(vR 19 0 48), (vR 100 0 10)] none c (MRc nb db by_ rs) mi40 ml40 mi41 ml41 ∧ (∃ (r42 : Int32) (mi42 : MI) (ml42 : ML), Ret m_r_readWhole [(vR 19 0 48), (vI (nI 1)), (vI (nI 999999))] (some (vI r42)) c (MRc nb db by_ rs) mi41 ml41 mi42 ml42 ∧ (((mi42 48 38) ≤ 0 → ((r2 = 0 → ((r2 = 0 → (Fin none (u2 (u2 (u2 (u2 mi42 48 13 r38) 48 14 (nI 1)) 48 15 r40) 48 16 r42) ml42 rv mi' ml')) ∧ (¬ r2 = 0 → (Fin none (u2 (u2 (u2 (u2 mi42 48 13 r38) 48 14 (nI 0)) 48 15 r40) 48 16 r42) ml42 rv mi' ml')))) ∧ (¬ r2 = 0 → ((r2 = 0 → (Fin none (u2 (u2 (u2 (u2 mi42 48 13 (((nI 1) <<< (r38 &&& 31)) - (nI 1))) 48 14 (nI 1)) 48 15 r40) 48 16 r42) ml42 rv mi' ml')) ∧ (¬ r2 = 0 → (Fin none (u2 (u2 (u2 (u2 mi42 48 13 (((nI 1) <<< (r38 &&& 31)) - (nI 1))) 48 14 (nI 0)) 48 15 r40) 48 16 r42) ml42 rv mi' ml')))))) ∧ (¬ (mi42 48 38) ≤ 0 → (Fin none mi42 ml42 rv mi' ml'))))))))) ∧ (¬ r2 = 0 → (∃ (r43 : Int32) (mi43 : MI) (ml43 : ML), Ret m_r_readWhole [(vR 19 0 48), (vI (nI 2)), (vI (nI 5))] (some (vI r43)) c (MRc nb db by_ rs) mi37 ml37 mi43 ml43 ∧ (∃ (mi44 : MI) (ml44 : ML), Ret m_r_needs [(vR 19 0 48), (vR 100 0 9)] none c (MRc nb db by_ rs) mi43 ml43 mi44 ml44 ∧ (∃ (r45 : Int32) (mi45 : MI) (ml45 : ML), Ret m_r_readWhole [(vR 19 0 48), (vI (nI 0)), (vI (nI 999))] (some (vI r45)) c (MRc nb db by_ rs) mi44 ml44 mi45 ml45 ∧ (∃ (mi46 : MI) (ml46 : ML), Ret m_r_needs [(vR 19 0 48), (vR 100 0 10)] none c (MRc nb db by_ rs) mi45 ml45 mi46 ml46 ∧ (∃ (r47 : Int32) (mi47 : MI) (ml47 : ML), Ret m_r_readWhole [(vR 19 0 48), (vI (nI 1)), (vI (nI 999999))] (some (vI r47)) c (MRc nb db by_ rs) mi46 ml46 mi47 ml47 ∧ (((mi47 48 38) ≤ 0 → ((r2 = 0 → ((r2 = 0 → (Fin none (u2 (u2 (u2 (u2 mi47 48 13 r43) 48 14 (nI 1)) 48 15 r45) 48 16 r47) ml47 rv mi' ml')) ∧ (¬ r2 = 0 → (Fin none (u2 (u2 (u2 (u2 mi47 48 13 r43) 48 14 (nI 0)) 48 15 r45) 48 16 r47) ml47 rv mi' ml')))) ∧ (¬ r2 = 0 → ((r2 = 0 → (Fin none (u2 (u2 (u2 (u2 mi47 48 13 (((nI 1) <<< (r43 &&& 31)) - (nI 1))) 48 14 (nI 1)) 48 15 r45) 48 16 r47) ml47 rv mi' ml')) ∧ (¬ r2 = 0 → (Fin none (u2 (u2 (u2 (u2 mi47 48 13 (((nI 1) <<< (r43 &&& 31)) - (nI 1))) 48 14 (nI 0)) 48 15 r45) 48 16 r47) ml47 rv mi' ml')))))) ∧ (¬ (mi47 48 38) ≤ 0 → (Fin none mi47 ml47 rv mi' ml'))))))))))))))))))))) ∧ (¬ (mi 48 13) ≤ 0 → ((¬ (mi 48 38) = 0 → (∃ (mi48 : MI) (ml48 : ML), Ret m_r_next [(vR 19 0 48)] none c (MRc nb db by_ rs) (u2 mi 48 35 (nI 0)) ml mi48 ml48 ∧ (∃ (r49 : Int32) (mi49 : MI) (ml49 : ML), Ret m_r_isWord [(vR 19 0 48), (vR 100 0 7)] (some (vI r49)) c (MRc nb db by_ rs) mi48 ml48 mi49 ml49 ∧ ((¬ r49 = 0 → (∃ (mi50 : MI) (ml50 : ML), Ret m_r_next [(vR 19 0 48)] none c (MRc nb db by_ rs) mi49 ml49 mi50 ml50 ∧ ((r49 = 0 → (∃ (r51 : Int32) (mi51 : MI) (ml51 : ML), Ret m_r_readOrder [(vR 19 0 48)] (some (vI r51)) c (MRc nb db by_ rs) mi50 ml50 mi51 ml51 ∧ (∃ (mi52 : MI) (ml52 : ML), Ret m_r_needs [(vR 19 0 48), (vR 100 0 9)] none c (MRc nb db by_ rs) mi51 ml51 mi52 ml52 ∧ (∃ (r53 : Int32) (mi53 : MI) (ml53 : ML), Ret m_r_readWhole [(vR 19 0 48), (vI (nI 0)), (vI (nI 999))] (some (vI r53)) c (MRc nb db by_ rs) mi52 ml52 mi53 ml53 ∧ (∃ (mi54 : MI) (ml54 : ML), Ret m_r_needs [(vR 19 0 48), (vR 100 0 10)] none c (MRc nb db by_ rs) mi53 ml53 mi54 ml54 ∧ (∃ (r55 : Int32) (mi55 : MI) (ml55 : ML), Ret m_r_readWhole [(vR 19 0 48), (vI (nI 1)), (vI (nI 999999))] (some (vI r55)) c (MRc nb db by_ rs) mi54 ml54 mi55 ml55 ∧ (((mi55 48 38) ≤ 0 → ((r49 = 0 → ((r49 = 0 → (Fin none (u2 (u2 (u2 (u2 mi55 48 13 r51) 48 14 (nI 1)) 48 15 r53) 48 16 r55) ml55 rv mi' ml')) ∧ (¬ r49 = 0 → (Fin none (u2 (u2 (u2 (u2 mi55 48 13 r51) 48 14 (nI 0)) 48 15 r53) 48 16 r55) ml55 rv mi' ml')))) ∧ (¬ r49 = 0 → ((r49 = 0 → (Fin none (u2 (u2 (u2 (u2 mi55 48 13 (((nI 1) <<< (r51 &&& 31)) - (nI 1))) 48 14 (nI 1)) 48 15 r53) 48 16 r55) ml55 rv mi' ml')) ∧ (¬ r49 = 0 → (Fin none (u2 (u2 (u2 (u2 mi55 48 13 (((nI 1) <<< (r51 &&& 31)) - (nI 1))) 48 14 (nI 0)) 48 15 r53) 48 16 r55) ml55 rv mi' ml')))))) ∧ (¬ (mi55 48 38) ≤ 0 → (Fin none mi55 ml55 rv mi' ml'))))))))) ∧ (¬ r49 = 0 → (∃ (r56 : Int32) (mi56 : MI) (ml56 : ML), Ret m_r_readWhole [(vR 19 0 48), (vI (nI 2)), (vI (nI 5))] (some (vI r56)) c (MRc nb db by_ rs) mi50 ml50 mi56 ml56 ∧ (∃ (mi57 : MI) (ml57 : ML), Ret m_r_needs [(vR 19 0 48), (vR 100 0 9)] none c (MRc nb db by_ rs) mi56 ml56 mi57 ml57 ∧ (∃ (r58 : Int32) (mi58 : MI) (ml58 : ML), Ret m_r_readWhole [(vR 19 0 48), (vI (nI 0)), (vI (nI 999))] (some (vI r58)) c (MRc nb db by_ rs) mi57 ml57 mi58 ml58 ∧ (∃ (mi59 : MI) (ml59 : ML), Ret m_r_needs [(vR 19 0 48), (vR 100 0 10)] none c (MRc nb db by_ rs) mi58 ml58 mi59 ml59 ∧ (∃ (r60 : Int32) (mi60 : MI) (ml60 : ML), Ret m_r_readWhole [(vR 19 0 48), (vI (nI 1)), (vI (nI 999999))] (some (vI r60)) c (MRc nb db by_ rs) mi59 ml59 mi60 ml60 ∧ (((mi60 48 38) ≤ 0 → ((r49 = 0 → ((r49 = 0 → (Fin none (u2 (u2 (u2 (u2 mi60 48 13 r56) 48 14 (nI 1)) 48 15 r58) 48 16 r60) ml60 rv mi' ml')) ∧ (¬ r49 = 0 → (Fin none (u2 (u2 (u2 (u2 mi60 48 13 r56) 48 14 (nI 0)) 48 15 r58) 48 16 r60) ml60 rv mi' ml')))) ∧ (¬ r49 = 0 → ((r49 = 0 → (Fin none (u2 (u2 (u2 (u2 mi60 48 13 (((nI 1) <<< (r56 &&& 31)) - (nI 1))) 48 14 (nI 1)) 48 15 r58) 48 16 r60) ml60 rv mi' ml')) ∧ (¬ r49 = 0 → (Fin none (u2 (u2 (u2 (u2 mi60 48 13 (((nI 1) <<< (r56 &&& 31)) - (nI 1))) 48 14 (nI 0)) 48 15 r58) 48 16 r60) ml60 rv mi' ml')))))) ∧ (¬ (mi60 48 38) ≤ 0 → (Fin none mi60 ml60 rv mi' ml')))))))))))) ∧ (r49 = 0 → (∃ (r61 : Int32) (mi61 : MI) (ml61 : ML), Ret m_r_isWord [(vR 19 0 48), (vR 100 0 8)] (some (vI r61)) c (MRc nb db by_ rs) mi49 ml49 mi61 ml61 ∧ ((¬ r61 = 0 → (∃ (mi62 : MI) (ml62 : ML), Ret m_r_next [(vR 19 0 48)] none c (MRc nb db by_ rs) mi61 ml61 mi62 ml62 ∧ ((r49 = 0 → (∃ (r63 : Int32) (mi63 : MI) (ml63 : ML), Ret m_r_readOrder [(vR 19 0 48)] (some (vI r63)) c (MRc nb db by_ rs) mi62 ml62 mi63 ml63 ∧ (∃ (mi64 : MI) (ml64 : ML), Ret m_r_needs [(vR 19 0 48), (vR 100 0 9)] none c (MRc nb db by_ rs) mi63 ml63 mi64 ml64 ∧ (∃ (r65 : Int32) (mi65 : MI) (ml65 : ML), Ret m_r_readWhole [(vR 19 0 48), (vI (nI 0)), (vI (nI 999))] (some (vI r65)) c (MRc nb db by_ rs) mi64 ml64 mi65 ml65 ∧ (∃ (mi66 : MI) (ml66 : ML), Ret m_r_needs [(vR 19 0 48), (vR 100 0 10)] none c (MRc nb db by_ rs) mi65 ml65 mi66 ml66 ∧ (∃ (r67 : Int32) (mi67 : MI) (ml67 : ML), Ret m_r_readWhole [(vR 19 0 48), (vI (nI 1)), (vI (nI 999999))] (some (vI r67)) c (MRc nb db by_ rs) mi66 ml66 mi67 ml67 ∧ (((mi67 48 38) ≤ 0 → ((r49 = 0 → ((r49 = 0 → (Fin none (u2 (u2 (u2 (u2 mi67 48 13 r63) 48 14 (nI 1)) 48 15 r65) 48 16 r67) ml67 rv mi' ml')) ∧ (¬ r49 = 0 → (Fin none (u2 (u2 (u2 (u2 mi67 48 13 r63) 48 14 (nI 0)) 48 15 r65) 48 16 r67) ml67 rv mi' ml')))) ∧ (¬ r49 = 0 → ((r49 = 0 → (Fin none (u2 (u2 (u2 (u2 mi67 48 13 (((nI 1) <<< (r63 &&& 31)) - (nI 1))) 48 14 (nI 1)) 48 15 r65) 48 16 r67) ml67 rv mi' ml')) ∧ (¬ r49 = 0 → (Fin none (u2 (u2 (u2 (u2 mi67 48 13 (((nI 1) <<< (r63 &&& 31)) - (nI 1))) 48 14 (nI 0)) 48 15 r65) 48 16 r67) ml67 rv mi' ml')))))) ∧ (¬ (mi67 48 38) ≤ 0 → (Fin none mi67 ml67 rv mi' ml'))))))))) ∧ (¬ r49 = 0 → (∃ (r68 : Int32) (mi68 : MI) (ml68 : ML), Ret m_r_readWhole [(vR 19 0 48), (vI (nI 2)), (vI (nI 5))] (some (vI r68)) c (MRc nb db by_ rs) mi62 ml62 mi68 ml68 ∧ (∃ (mi69 : MI) (ml69 : ML), Ret m_r_needs [(vR 19 0 48), (vR 100 0 9)] none c (MRc nb db by_ rs) mi68 ml68 mi69 ml69 ∧ (∃ (r70 : Int32) (mi70 : MI) (ml70 : ML), Ret m_r_readWhole [(vR 19 0 48), (vI (nI 0)), (vI (nI 999))] (some (vI r70)) c (MRc nb db by_ rs) mi69 ml69 mi70 ml70 ∧ (∃ (mi71 : MI) (ml71 : ML), Ret m_r_needs [(vR 19 0 48), (vR 100 0 10)] none c (MRc nb db by_ rs) mi70 ml70 mi71 ml71 ∧ (∃ (r72 : Int32) (mi72 : MI) (ml72 : ML), Ret m_r_readWhole [(vR 19 0 48), (vI (nI 1)), (vI (nI 999999))] (some (vI r72)) c (MRc nb db by_ rs) mi71 ml71 mi72 ml72 ∧ (((mi72 48 38) ≤ 0 → ((r49 = 0 → ((r49 = 0 → (Fin none (u2 (u2 (u2 (u2 mi72 48 13 r68) 48 14 (nI 1)) 48 15 r70) 48 16 r72) ml72 rv mi' ml')) ∧ (¬ r49 = 0 → (Fin none (u2 (u2 (u2 (u2 mi72 48 13 r68) 48 14 (nI 0)) 48 15 r70) 48 16 r72) ml72 rv mi' ml')))) ∧ (¬ r49 = 0 → ((r49 = 0 → (Fin none (u2 (u2 (u2 (u2 mi72 48 13 (((nI 1) <<< (r68 &&& 31)) - (nI 1))) 48 14 (nI 1)) 48 15 r70) 48 16 r72) ml72 rv mi' ml')) ∧ (¬ r49 = 0 → (Fin none (u2 (u2 (u2 (u2 mi72 48 13 (((nI 1) <<< (r68 &&& 31)) - (nI 1))) 48 14 (nI 0)) 48 15 r70) 48 16 r72) ml72 rv mi' ml')))))) ∧ (¬ (mi72 48 38) ≤ 0 → (Fin none mi72 ml72 rv mi' ml')))))))))))) ∧ (r61 = 0 → ((¬ (mi61 48 38) = 0 → (∃ (mi73 : MI) (ml73 : ML), Ret m_r_next [(vR 19 0 48)] none c (MRc nb db by_ rs) (u2 mi61 48 35 (nI 0)) ml61 mi73 ml73 ∧ ((r49 = 0 → (∃ (r74 : Int32) (mi74 : MI) (ml74 : ML), Ret m_r_readOrder [(vR 19 0 48)] (some (vI r74)) c (MRc nb db by_ rs) mi73 ml73 mi74 ml74 ∧ (∃ (mi75 : MI) (ml75 : ML), Ret m_r_needs [(vR 19 0 48), (vR 100 0 9)] none c (MRc nb db by_ rs) mi74 ml74 mi75 ml75 ∧ (∃ (r76 : Int32) (mi76 : MI) (ml76 : ML), Ret m_r_readWhole [(vR 19 0 48), (vI (nI 0)), (vI (nI 999))] (some (vI r76)) c (MRc nb db by_ rs) mi75 ml75 mi76 ml76 ∧ (∃ (mi77 : MI) (ml77 : ML), Ret m_r_needs [(vR 19 0 48), (vR 100 0 10)] none c (MRc nb db by_ rs) mi76 ml76 mi77 ml77 ∧ (∃ (r78 : Int32) (mi78 : MI) (ml78 : ML), Ret m_r_readWhole [(vR 19 0 48), (vI (nI 1)), (vI (nI 999999))] (some (vI r78)) c (MRc nb db by_ rs) mi77 ml77 mi78 ml78 ∧ (((mi78 48 38) ≤ 0 → ((r49 = 0 → ((r49 = 0 → (Fin none (u2 (u2 (u2 (u2 mi78 48 13 r74) 48 14 (nI 1)) 48 15 r76) 48 16 r78) ml78 rv mi' ml')) ∧ (¬ r49 = 0 → (Fin none (u2 (u2 (u2 (u2 mi78 48 13 r74) 48 14 (nI 0)) 48 15 r76) 48 16 r78) ml78 rv mi' ml')))) ∧ (¬ r49 = 0 → ((r49 = 0 → (Fin none (u2 (u2 (u2 (u2 mi78 48 13 (((nI 1) <<< (r74 &&& 31)) - (nI 1))) 48 14 (nI 1)) 48 15 r76) 48 16 r78) ml78 rv mi' ml')) ∧ (¬ r49 = 0 → (Fin none (u2 (u2 (u2 (u2 mi78 48 13 (((nI 1) <<< (r74 &&& 31)) - (nI 1))) 48 14 (nI 0)) 48 15 r76) 48 16 r78) ml78 rv mi' ml')))))) ∧ (¬ (mi78 48 38) ≤ 0 → (Fin none mi78 ml78 rv mi' ml'))))))))) ∧ (¬ r49 = 0 → (∃ (r79 : Int32) (mi79 : MI) (ml79 : ML), Ret m_r_readWhole [(vR 19 0 48), (vI (nI 2)), (vI (nI 5))] (some (vI r79)) c (MRc nb db by_ rs) mi73 ml73 mi79 ml79 ∧ (∃ (mi80 : MI) (ml80 : ML), Ret m_r_needs [(vR 19 0 48), (vR 100 0 9)] none c (MRc nb db by_ rs) mi79 ml79 mi80 ml80 ∧ (∃ (r81 : Int32) (mi81 : MI) (ml81 : ML), Ret m_r_readWhole [(vR 19 0 48), (vI (nI 0)), (vI (nI 999))] (some (vI r81)) c (MRc nb db by_ rs) mi80 ml80 mi81 ml81 ∧ (∃ (mi82 : MI) (ml82 : ML), Ret m_r_needs [(vR 19 0 48), (vR 100 0 10)] none c (MRc nb db by_ rs) mi81 ml81 mi82 ml82 ∧ (∃ (r83 : Int32) (mi83 : MI) (ml83 : ML), Ret m_r_readWhole [(vR 19 0 48), (vI (nI 1)), (vI (nI 999999))] (some (vI r83)) c (MRc nb db by_ rs) mi82 ml82 mi83 ml83 ∧ (((mi83 48 38) ≤ 0 → ((r49 = 0 → ((r49 = 0 → (Fin none (u2 (u2 (u2 (u2 mi83 48 13 r79) 48 14 (nI 1)) 48 15 r81) 48 16 r83) ml83 rv mi' ml')) ∧ (¬ r49 = 0 → (Fin none (u2 (u2 (u2 (u2 mi83 48 13 r79) 48 14 (nI 0)) 48 15 r81) 48 16 r83) ml83 rv mi' ml')))) ∧ (¬ r49 = 0 → ((r49 = 0 → (Fin none (u2 (u2 (u2 (u2 mi83 48 13 (((nI 1) <<< (r79 &&& 31)) - (nI 1))) 48 14 (nI 1)) 48 15 r81) 48 16 r83) ml83 rv mi' ml')) ∧ (¬ r49 = 0 → (Fin none (u2 (u2 (u2 (u2 mi83 48 13 (((nI 1) <<< (r79 &&& 31)) - (nI 1))) 48 14 (nI 0)) 48 15 r81) 48 16 r83) ml83 rv mi' ml')))))) ∧ (¬ (mi83 48 38) ≤ 0 → (Fin none mi83 ml83 rv mi' ml')))))))))))) ∧ ((mi61 48 38) = 0 → (∃ (mi84 : MI) (ml84 : ML), Ret m_r_next [(vR 19 0 48)] none c (MRc nb db by_ rs) (u2 (u2 mi61 48 38 (nI 1)) 48 35 (nI 0)) ml61 mi84 ml84 ∧ ((r49 = 0 → (∃ (r85 : Int32) (mi85 : MI) (ml85 : ML), Ret m_r_readOrder [(vR 19 0 48)] (some (vI r85)) c (MRc nb db by_ rs) mi84 ml84 mi85 ml85 ∧ (∃ (mi86 : MI) (ml86 : ML), Ret m_r_needs [(vR 19 0 48), (vR 100 0 9)] none c (MRc nb db by_ rs) mi85 ml85 mi86 ml86 ∧ (∃ (r87 : Int32) (mi87 : MI) (ml87 : ML), Ret m_r_readWhole [(vR 19 0 48), (vI (nI 0)), (vI (nI 999))] (some (vI r87)) c (MRc nb db by_ rs) mi86 ml86 mi87 ml87 ∧ (∃ (mi88 : MI) (ml88 : ML), Ret m_r_needs [(vR 19 0 48), (vR 100 0 10)] none c (MRc nb db by_ rs) mi87 ml87 mi88 ml88 ∧ (∃ (r89 : Int32) (mi89 : MI) (ml89 : ML), Ret m_r_readWhole [(vR 19 0 48), (vI (nI 1)), (vI (nI 999999))] (some (vI r89)) c (MRc nb db by_ rs) mi88 ml88 mi89 ml89 ∧ (((mi89 48 38) ≤ 0 → ((r49 = 0 → ((r49 = 0 → (Fin none (u2 (u2 (u2 (u2 mi89 48 13 r85) 48 14 (nI 1)) 48 15 r87) 48 16 r89) ml89 rv mi' ml')) ∧ (¬ r49 = 0 → (Fin none (u2 (u2 (u2 (u2 mi89 48 13 r85) 48 14 (nI 0)) 48 15 r87) 48 16 r89) ml89 rv mi' ml')))) ∧ (¬ r49 = 0 → ((r49 = 0 → (Fin none (u2 (u2 (u2 (u2 mi89 48 13 (((nI 1) <<< (r85 &&& 31)) - (nI 1))) 48 14 (nI 1)) 48 15 r87) 48 16 r89) ml89 rv mi' ml')) ∧ (¬ r49 = 0 → (Fin none (u2 (u2 (u2 (u2 mi89 48 13 (((nI 1) <<< (r85 &&& 31)) - (nI 1))) 48 14 (nI 0)) 48 15 r87) 48 16 r89) ml89 rv mi' ml')))))) ∧ (¬ (mi89 48 38) ≤ 0 → (Fin none mi89 ml89 rv mi' ml'))))))))) ∧ (¬ r49 = 0 → (∃ (r90 : Int32) (mi90 : MI) (ml90 : ML), Ret m_r_readWhole [(vR 19 0 48), (vI (nI 2)), (vI (nI 5))] (some (vI r90)) c (MRc nb db by_ rs) mi84 ml84 mi90 ml90 ∧ (∃ (mi91 : MI) (ml91 : ML), Ret m_r_needs [(vR 19 0 48), (vR 100 0 9)] none c (MRc nb db by_ rs) mi90 ml90 mi91 ml91 ∧ (∃ (r92 : Int32) (mi92 : MI) (ml92 : ML), Ret m_r_readWhole [(vR 19 0 48), (vI (nI 0)), (vI (nI 999))] (some (vI r92)) c (MRc nb db by_ rs) mi91 ml91 mi92 ml92 ∧ (∃ (mi93 : MI) (ml93 : ML), Ret m_r_needs [(vR 19 0 48), (vR 100 0 10)] none c (MRc nb db by_ rs) mi92 ml92 mi93 ml93 ∧ (∃ (r94 : Int32) (mi94 : MI) (ml94 : ML), Ret m_r_readWhole [(vR 19 0 48), (vI (nI 1)), (vI (nI 999999))] (some (vI r94)) c (MRc nb db by_ rs) mi93 ml93 mi94 ml94 ∧ (((mi94 48 38) ≤ 0 → ((r49 = 0 → ((r49 = 0 → (Fin none (u2 (u2 (u2 (u2 mi94 48 13 r90) 48 14 (nI 1)) 48 15 r92) 48 16 r94) ml94 rv mi' ml')) ∧ (¬ r49 = 0 → (Fin none (u2 (u2 (u2 (u2 mi94 48 13 r90) 48 14 (nI 0)) 48 15 r92) 48 16 r94) ml94 rv mi' ml')))) ∧ (¬ r49 = 0 → ((r49 = 0 → (Fin none (u2 (u2 (u2 (u2 mi94 48 13 (((nI 1) <<< (r90 &&& 31)) - (nI 1))) 48 14 (nI 1)) 48 15 r92) 48 16 r94) ml94 rv mi' ml')) ∧ (¬ r49 = 0 → (Fin none (u2 (u2 (u2 (u2 mi94 48 13 (((nI 1) <<< (r90 &&& 31)) - (nI 1))) 48 14 (nI 0)) 48 15 r92) 48 16 r94) ml94 rv mi' ml')))))) ∧ (¬ (mi94 48 38) ≤ 0 → (Fin none mi94 ml94 rv mi' ml'))))))))))))))))))))) ∧ ((mi 48 38) = 0 → (∃ (mi95 : MI) (ml95 : ML), Ret m_r_next [(vR 19 0 48)] none c (MRc nb db by_ rs) (u2 (u2 mi 48 38 (nI 3)) 48 35 (nI 0)) ml mi95 ml95 ∧ (∃ (r96 : Int32) (mi96 : MI) (ml96 : ML), Ret m_r_isWord [(vR 19 0 48), (vR 100 0 7)] (some (vI r96)) c (MRc nb db by_ rs) mi95 ml95 mi96 ml96 ∧ ((¬ r96 = 0 → (∃ (mi97 : MI) (ml97 : ML), Ret m_r_next [(vR 19 0 48)] none c (MRc nb db by_ rs) mi96 ml96 mi97 ml97 ∧ ((r96 = 0 → (∃ (r98 : Int32) (mi98 : MI) (ml98 : ML), Ret m_r_readOrder [(vR 19 0 48)] (some (vI r98)) c (MRc nb db by_ rs) mi97 ml97 mi98 ml98 ∧ (∃ (mi99 : MI) (ml99 : ML), Ret m_r_needs [(vR 19 0 48), (vR 100 0 9)] none c (MRc nb db by_ rs) mi98 ml98 mi99 ml99 ∧ (∃ (r100 : Int32) (mi100 : MI) (ml100 : ML), Ret m_r_readWhole [(vR 19 0 48), (vI (nI 0)), (vI (nI 999))] (some (vI r100)) c (MRc nb db by_ rs) mi99 ml99 mi100 ml100 ∧ (∃ (mi101 : MI) (ml101 : ML), Ret m_r_needs [(vR 19 0 48), (vR 100 0 10)] none c (MRc nb db by_ rs) mi100 ml100 mi101 ml101 ∧ (∃ (r102 : Int32) (mi102 : MI) (ml102 : ML), Ret m_r_readWhole [(vR 19 0 48), (vI (nI 1)), (vI (nI 999999))] (some (vI r102)) c (MRc nb db by_ rs) mi101 ml101 mi102 ml102 ∧ (((mi102 48 38) ≤ 0 → ((r96 = 0 → ((r96 = 0 → (Fin none (u2 (u2 (u2 (u2 mi102 48 13 r98) 48 14 (nI 1)) 48 15 r100) 48 16 r102) ml102 rv mi' ml')) ∧ (¬ r96 = 0 → (Fin none (u2 (u2 (u2 (u2 mi102 48 13 r98) 48 14 (nI 0)) 48 15 r100) 48 16 r102) ml102 rv mi' ml')))) ∧ (¬ r96 = 0 → ((r96 = 0 → (Fin none (u2 (u2 (u2 (u2 mi102 48 13 (((nI 1) <<< (r98 &&& 31)) - (nI 1))) 48 14 (nI 1)) 48 15 r100) 48 16 r102) ml102 rv mi' ml')) ∧ (¬ r96 = 0 → (Fin none (u2 (u2 (u2 (u2 mi102 48 13 (((nI 1) <<< (r98 &&& 31)) - (nI 1))) 48 14 (nI 0)) 48 15 r100) 48 16 r102) ml102 rv mi' ml')))))) ∧ (¬ (mi102 48 38) ≤ 0 → (Fin none mi102 ml102 rv mi' ml'))))))))) ∧ (¬ r96 = 0 → (∃ (r103 : Int32) (mi103 : MI) (ml103 : ML), Ret m_r_readWhole [(vR 19 0 48), (vI (nI 2)), (vI (nI 5))] (some (vI r103)) c (MRc nb db by_ rs) mi97 ml97 mi103 ml103 ∧ (∃ (mi104 : MI) (ml104 : ML), Ret m_r_needs [(vR 19 0 48), (vR 100 0 9)] none c (MRc nb db by_ rs) mi103 ml103 mi104 ml104 ∧ (∃ (r105 : Int32) (mi105 : MI) (ml105 : ML), Ret m_r_readWhole [(vR 19 0 48), (vI (nI 0)), (vI (nI 999))] (some (vI r105)) c (MRc nb db by_ rs) mi104 ml104 mi105 ml105 ∧ (∃ (mi106 : MI) (ml106 : ML), Ret m_r_needs [(vR 19 0 48), (vR 100 0 10)] none c (MRc nb db by_ rs) mi105 ml105 mi106 ml106 ∧ (∃ (r107 : Int32) (mi107 : MI) (ml107 : ML), Ret m_r_readWhole [(vR 19 0 48), (vI (nI 1)), (vI (nI 999999))] (some (vI r107)) c (MRc nb db by_ rs) mi106 ml106 mi107 ml107 ∧ (((mi107 48 38) ≤ 0 → ((r96 = 0 → ((r96 = 0 → (Fin none (u2 (u2 (u2 (u2 mi107 48 13 r103) 48 14 (nI 1)) 48 15 r105) 48 16 r107) ml107 rv mi' ml')) ∧ (¬ r96 = 0 → (Fin none (u2 (u2 (u2 (u2 mi107 48 13 r103) 48 14 (nI 0)) 48 15 r105) 48 16 r107) ml107 rv mi' ml')))) ∧ (¬ r96 = 0 → ((r96 = 0 → (Fin none (u2 (u2 (u2 (u2 mi107 48 13 (((nI 1) <<< (r103 &&& 31)) - (nI 1))) 48 14 (nI 1)) 48 15 r105) 48 16 r107) ml107 rv mi' ml')) ∧ (¬ r96 = 0 → (Fin none (u2 (u2 (u2 (u2 mi107 48 13 (((nI 1) <<< (r103 &&& 31)) - (nI 1))) 48 14 (nI 0)) 48 15 r105) 48 16 r107) ml107 rv mi' ml')))))) ∧ (¬ (mi107 48 38) ≤ 0 → (Fin none mi107 ml107 rv mi' ml')))))))))))) ∧ (r96 = 0 → (∃ (r108 : Int32) (mi108 : MI) (ml108 : ML), Ret m_r_isWord [(vR 19 0 48), (vR 100 0 8)] (some (vI r108)) c (MRc nb db by_ rs) mi96 ml96 mi108 ml108 ∧ ((¬ r108 = 0 → (∃ (mi109 : MI) (ml109 : ML), Ret m_r_next [(vR 19 0 48)] none c (MRc nb db by_ rs) mi108 ml108 mi109 ml109 ∧ ((r96 = 0 → (∃ (r110 : Int32) (mi110 : MI) (ml110 : ML), Ret m_r_readOrder [(vR 19 0 48)] (some (vI r110)) c (MRc nb db by_ rs) mi109 ml109 mi110 ml110 ∧ (∃ (mi111 : MI) (ml111 : ML), Ret m_r_needs [(vR 19 0 48), (vR 100 0 9)] none c (MRc nb db by_ rs) mi110 ml110 mi111 ml111 ∧ (∃ (r112 : Int32) (mi112 : MI) (ml112 : ML), Ret m_r_readWhole [(vR 19 0 48), (vI (nI 0)), (vI (nI 999))] (some (vI r112)) c (MRc nb db by_ rs) mi111 ml111 mi112 ml112 ∧ (∃ (mi113 : MI) (ml113 : ML), Ret m_r_needs [(vR 19 0 48), (vR 100 0 10)] none c (MRc nb db by_ rs) mi112 ml112 mi113 ml113 ∧ (∃ (r114 : Int32) (mi114 : MI) (ml114 : ML), Ret m_r_readWhole [(vR 19 0 48), (vI (nI 1)), (vI (nI 999999))] (some (vI r114)) c (MRc nb db by_ rs) mi113 ml113 mi114 ml114 ∧ (((mi114 48 38) ≤ 0 → ((r96 = 0 → ((r96 = 0 → (Fin none (u2 (u2 (u2 (u2 mi114 48 13 r110) 48 14 (nI 1)) 48 15 r112) 48 16 r114) ml114 rv mi' ml')) ∧ (¬ r96 = 0 → (Fin none (u2 (u2 (u2 (u2 mi114 48 13 r110) 48 14 (nI 0)) 48 15 r112) 48 16 r114) ml114 rv mi' ml')))) ∧ (¬ r96 = 0 → ((r96 = 0 → (Fin none (u2 (u2 (u2 (u2 mi114 48 13 (((nI 1) <<< (r110 &&& 31)) - (nI 1))) 48 14 (nI 1)) 48 15 r112) 48 16 r114) ml114 rv mi' ml')) ∧ (¬ r96 = 0 → (Fin none (u2 (u2 (u2 (u2 mi114 48 13 (((nI 1) <<< (r110 &&& 31)) - (nI 1))) 48 14 (nI 0)) 48 15 r112) 48 16 r114) ml114 rv mi' ml')))))) ∧ (¬ (mi114 48 38) ≤ 0 → (Fin none mi114 ml114 rv mi' ml'))))))))) ∧ (¬ r96 = 0 → (∃ (r115 : Int32) (mi115 : MI) (ml115 : ML), Ret m_r_readWhole [(vR 19 0 48), (vI (nI 2)), (vI (nI 5))] (some (vI r115)) c (MRc nb db by_ rs) mi109 ml109 mi115 ml115 ∧ (∃ (mi116 : MI) (ml116 : ML), Ret m_r_needs [(vR 19 0 48), (vR 100 0 9)] none c (MRc nb db by_ rs) mi115 ml115 mi116 ml116 ∧ (∃ (r117 : Int32) (mi117 : MI) (ml117 : ML), Ret m_r_readWhole [(vR 19 0 48), (vI (nI 0)), (vI (nI 999))] (some (vI r117)) c (MRc nb db by_ rs) mi116 ml116 mi117 ml117 ∧ (∃ (mi118 : MI) (ml118 : ML), Ret m_r_needs [(vR 19 0 48), (vR 100 0 10)] none c (MRc nb db by_ rs) mi117 ml117 mi118 ml118 ∧ (∃ (r119 : Int32) (mi119 : MI) (ml119 : ML), Ret m_r_readWhole [(vR 19 0 48), (vI (nI 1)), (vI (nI 999999))] (some (vI r119)) c (MRc nb db by_ rs) mi118 ml118 mi119 ml119 ∧ (((mi119 48 38) ≤ 0 → ((r96 = 0 → ((r96 = 0 → (Fin none (u2 (u2 (u2 (u2 mi119 48 13 r115) 48 14 (nI 1)) 48 15 r117) 48 16 r119) ml119 rv mi' ml')) ∧ (¬ r96 = 0 → (Fin none (u2 (u2 (u2 (u2 mi119 48 13 r115) 48 14 (nI 0)) 48 15 r117) 48 16 r119) ml119 rv mi' ml')))) ∧ (¬ r96 = 0 → ((r96 = 0 → (Fin none (u2 (u2 (u2 (u2 mi119 48 13 (((nI 1) <<< (r115 &&& 31)) - (nI 1))) 48 14 (nI 1)) 48 15 r117) 48 16 r119) ml119 rv mi' ml')) ∧ (¬ r96 = 0 → (Fin none (u2 (u2 (u2 (u2 mi119 48 13 (((nI 1) <<< (r115 &&& 31)) - (nI 1))) 48 14 (nI 0)) 48 15 r117) 48 16 r119) ml119 rv mi' ml')))))) ∧ (¬ (mi119 48 38) ≤ 0 → (Fin none mi119 ml119 rv mi' ml')))))))))))) ∧ (r108 = 0 → ((¬ (mi108 48 38) = 0 → (∃ (mi120 : MI) (ml120 : ML), Ret m_r_next [(vR 19 0 48)] none c (MRc nb db by_ rs) (u2 mi108 48 35 (nI 0)) ml108 mi120 ml120 ∧ ((r96 = 0 → (∃ (r121 : Int32) (mi121 : MI) (ml121 : ML), Ret m_r_readOrder [(vR 19 0 48)] (some (vI r121)) c (MRc nb db by_ rs) mi120 ml120 mi121 ml121 ∧ (∃ (mi122 : MI) (ml122 : ML), Ret m_r_needs [(vR 19 0 48), (vR 100 0 9)] none c (MRc nb db by_ rs) mi121 ml121 mi122 ml122 ∧ (∃ (r123 : Int32) (mi123 : MI) (ml123 : ML), Ret m_r_readWhole [(vR 19 0 48), (vI (nI 0)), (vI (nI 999))] (some (vI r123)) c (MRc nb db by_ rs) mi122 ml122 mi123 ml123 ∧ (∃ (mi124 : MI) (ml124 : ML), Ret m_r_needs [(vR 19 0 48), (vR 100 0 10)] none c (MRc nb db by_ rs) mi123 ml123 mi124 ml124 ∧ (∃ (r125 : Int32) (mi125 : MI) (ml125 : ML), Ret m_r_readWhole [(vR 19 0 48), (vI (nI 1)), (vI (nI 999999))] (some (vI r125)) c (MRc nb db by_ rs) mi124 ml124 mi125 ml125 ∧ (((mi125 48 38) ≤ 0 → ((r96 = 0 → ((r96 = 0 → (Fin none (u2 (u2 (u2 (u2 mi125 48 13 r121) 48 14 (nI 1)) 48 15 r123) 48 16 r125) ml125 rv mi' ml')) ∧ (¬ r96 = 0 → (Fin none (u2 (u2 (u2 (u2 mi125 48 13 r121) 48 14 (nI 0)) 48 15 r123) 48 16 r125) ml125 rv mi' ml')))) ∧ (¬ r96 = 0 → ((r96 = 0 → (Fin none (u2 (u2 (u2 (u2 mi125 48 13 (((nI 1) <<< (r121 &&& 31)) - (nI 1))) 48 14 (nI 1)) 48 15 r123) 48 16 r125) ml125 rv mi' ml')) ∧ (¬ r96 = 0 → (Fin none (u2 (u2 (u2 (u2 mi125 48 13 (((nI 1) <<< (r121 &&& 31)) - (nI 1))) 48 14 (nI 0)) 48 15 r123) 48 16 r125) ml125 rv mi' ml')))))) ∧ (¬ (mi125 48 38) ≤ 0 → (Fin none mi125 ml125 rv mi' ml'))))))))) ∧ (¬ r96 = 0 → (∃ (r126 : Int32) (mi126 : MI) (ml126 : ML), Ret m_r_readWhole [(vR 19 0 48), (vI (nI 2)), (vI (nI 5))] (some (vI r126)) c (MRc nb db by_ rs) mi120 ml120 mi126 ml126 ∧ (∃ (mi127 : MI) (ml127 : ML), Ret m_r_needs [(vR 19 0 48), (vR 100 0 9)] none c (MRc nb db by_ rs) mi126 ml126 mi127 ml127 ∧ (∃ (r128 : Int32) (mi128 : MI) (ml128 : ML), Ret m_r_readWhole [(vR 19 0 48), (vI (nI 0)), (vI (nI 999))] (some (vI r128)) c (MRc nb db by_ rs) mi127 ml127 mi128 ml128 ∧ (∃ (mi129 : MI) (ml129 : ML), Ret m_r_needs [(vR 19 0 48), (vR 100 0 10)] none c (MRc nb db by_ rs) mi128 ml128 mi129 ml129 ∧ (∃ (r130 : Int32) (mi130 : MI) (ml130 : ML), Ret m_r_readWhole [(vR 19 0 48), (vI (nI 1)), (vI (nI 999999))] (some (vI r130)) c (MRc nb db by_ rs) mi129 ml129 mi130 ml130 ∧ (((mi130 48 38) ≤ 0 → ((r96 = 0 → ((r96 = 0 → (Fin none (u2 (u2 (u2 (u2 mi130 48 13 r126) 48 14 (nI 1)) 48 15 r128) 48 16 r130) ml130 rv mi' ml')) ∧ (¬ r96 = 0 → (Fin none (u2 (u2 (u2 (u2 mi130 48 13 r126) 48 14 (nI 0)) 48 15 r128) 48 16 r130) ml130 rv mi' ml')))) ∧ (¬ r96 = 0 → ((r96 = 0 → (Fin none (u2 (u2 (u2 (u2 mi130 48 13 (((nI 1) <<< (r126 &&& 31)) - (nI 1))) 48 14 (nI 1)) 48 15 r128) 48 16 r130) ml130 rv mi' ml')) ∧ (¬ r96 = 0 → (Fin none (u2 (u2 (u2 (u2 mi130 48 13 (((nI 1) <<< (r126 &&& 31)) - (nI 1))) 48 14 (nI 0)) 48 15 r128) 48 16 r130) ml130 rv mi' ml')))))) ∧ (¬ (mi130 48 38) ≤ 0 → (Fin none mi130 ml130 rv mi' ml')))))))))))) ∧ ((mi108 48 38) = 0 → (∃ (mi131 : MI) (ml131 : ML), Ret m_r_next [(vR 19 0 48)] none c (MRc nb db by_ rs) (u2 (u2 mi108 48 38 (nI 1)) 48 35 (nI 0)) ml108 mi131 ml131 ∧ ((r96 = 0 → (∃ (r132 : Int32) (mi132 : MI) (ml132 : ML), Ret m_r_readOrder [(vR 19 0 48)] (some (vI r132)) c (MRc nb db by_ rs) mi131 ml131 mi132 ml132 ∧ (∃ (mi133 : MI) (ml133 : ML), Ret m_r_needs [(vR 19 0 48), (vR 100 0 9)] none c (MRc nb db by_ rs) mi132 ml132 mi133 ml133 ∧ (∃ (r134 : Int32) (mi134 : MI) (ml134 : ML), Ret m_r_readWhole [(vR 19 0 48), (vI (nI 0)), (vI (nI 999))] (some (vI r134)) c (MRc nb db by_ rs) mi133 ml133 mi134 ml134 ∧ (∃ (mi135 : MI) (ml135 : ML), Ret m_r_needs [(vR 19 0 48), (vR 100 0 10)] none c (MRc nb db by_ rs) mi134 ml134 mi135 ml135 ∧ (∃ (r136 : Int32) (mi136 : MI) (ml136 : ML), Ret m_r_readWhole [(vR 19 0 48), (vI (nI 1)), (vI (nI 999999))] (some (vI r136)) c (MRc nb db by_ rs) mi135 ml135 mi136 ml136 ∧ (((mi136 48 38) ≤ 0 → ((r96 = 0 → ((r96 = 0 → (Fin none (u2 (u2 (u2 (u2 mi136 48 13 r132) 48 14 (nI 1)) 48 15 r134) 48 16 r136) ml136 rv mi' ml')) ∧ (¬ r96 = 0 → (Fin none (u2 (u2 (u2 (u2 mi136 48 13 r132) 48 14 (nI 0)) 48 15 r134) 48 16 r136) ml136 rv mi' ml')))) ∧ (¬ r96 = 0 → ((r96 = 0 → (Fin none (u2 (u2 (u2 (u2 mi136 48 13 (((nI 1) <<< (r132 &&& 31)) - (nI 1))) 48 14 (nI 1)) 48 15 r134) 48 16 r136) ml136 rv mi' ml')) ∧ (¬ r96 = 0 → (Fin none (u2 (u2 (u2 (u2 mi136 48 13 (((nI 1) <<< (r132 &&& 31)) - (nI 1))) 48 14 (nI 0)) 48 15 r134) 48 16 r136) ml136 rv mi' ml')))))) ∧ (¬ (mi136 48 38) ≤ 0 → (Fin none mi136 ml136 rv mi' ml'))))))))) ∧ (¬ r96 = 0 → (∃ (r137 : Int32) (mi137 : MI) (ml137 : ML), Ret m_r_readWhole [(vR 19 0 48), (vI (nI 2)), (vI (nI 5))] (some (vI r137)) c (MRc nb db by_ rs) mi131 ml131 mi137 ml137 ∧ (∃ (mi138 : MI) (ml138 : ML), Ret m_r_needs [(vR 19 0 48), (vR 100 0 9)] none c (MRc nb db by_ rs) mi137 ml137 mi138 ml138 ∧ (∃ (r139 : Int32) (mi139 : MI) (ml139 : ML), Ret m_r_readWhole [(vR 19 0 48), (vI (nI 0)), (vI (nI 999))] (some (vI r139)) c (MRc nb db by_ rs) mi138 ml138 mi139 ml139 ∧ (∃ (mi140 : MI) (ml140 : ML), Ret m_r_needs [(vR 19 0 48), (vR 100 0 10)] none c (MRc nb db by_ rs) mi139 ml139 mi140 ml140 ∧ (∃ (r141 : Int32) (mi141 : MI) (ml141 : ML), Ret m_r_readWhole [(vR 19 0 48), (vI (nI 1)), (vI (nI 999999))] (some (vI r141)) c (MRc nb db by_ rs) mi140 ml140 mi141 ml141 ∧ (((mi141 48 38) ≤ 0 → ((r96 = 0 → ((r96 = 0 → (Fin none (u2 (u2 (u2 (u2 mi141 48 13 r137) 48 14 (nI 1)) 48 15 r139) 48 16 r141) ml141 rv mi' ml')) ∧ (¬ r96 = 0 → (Fin none (u2 (u2 (u2 (u2 mi141 48 13 r137) 48 14 (nI 0)) 48 15 r139) 48 16 r141) ml141 rv mi' ml')))) ∧ (¬ r96 = 0 → ((r96 = 0 → (Fin none (u2 (u2 (u2 (u2 mi141 48 13 (((nI 1) <<< (r137 &&& 31)) - (nI 1))) 48 14 (nI 1)) 48 15 r139) 48 16 r141) ml141 rv mi' ml')) ∧ (¬ r96 = 0 → (Fin none (u2 (u2 (u2 (u2 mi141 48 13 (((nI 1) <<< (r137 &&& 31)) - (nI 1))) 48 14 (nI 0)) 48 15 r139) 48 16 r141) ml141 rv mi' ml')))))) ∧ (¬ (mi141 48 38) ≤ 0 → (Fin none mi141 ml141 rv mi' ml')))))))))))))))))))))))) :
    Ret m_r_readBench [(vR 19 0 48)] rv c (MRc nb db by_ rs) mi ml mi' ml' := by
  intro Q hQ
  refine ok_wq inlT 400 rfl rfl ?_
  refine ⟨fun g => ?_, fun g => ?_⟩
  · have h := h.1 (g)
    obtain ⟨mi1, ml1, hR, h⟩ := h
    refine ⟨0, 0, Nat.zero_le _, Nat.zero_le _, hR _ ?_⟩
    obtain ⟨r2, mi2, ml2, hR, h⟩ := h
    refine ⟨0, 0, Nat.zero_le _, Nat.zero_le _, hR _ ?_⟩
    refine ⟨fun g => ?_, fun g => ?_⟩
    · have h := h.1 (g)
      obtain ⟨mi3, ml3, hR, h⟩ := h
      refine ⟨0, 0, Nat.zero_le _, Nat.zero_le _, hR _ ?_⟩
      refine ⟨fun g => ?_, fun g => ?_⟩
      · have h := h.1 (g)
        obtain ⟨r4, mi4, ml4, hR, h⟩ := h
        refine ⟨0, 0, Nat.zero_le _, Nat.zero_le _, hR _ ?_⟩
        obtain ⟨mi5, ml5, hR, h⟩ := h
        refine ⟨0, 0, Nat.zero_le _, Nat.zero_le _, hR _ ?_⟩
        obtain ⟨r6, mi6, ml6, hR, h⟩ := h
        refine ⟨0, 0, Nat.zero_le _, Nat.zero_le _, hR _ ?_⟩
        obtain ⟨mi7, ml7, hR, h⟩ := h
        refine ⟨0, 0, Nat.zero_le _, Nat.zero_le _, hR _ ?_⟩
        obtain ⟨r8, mi8, ml8, hR, h⟩ := h
        refine ⟨0, 0, Nat.zero_le _, Nat.zero_le _, hR _ ?_⟩
        refine ⟨fun g => ?_, fun g => ?_⟩
        · have h := h.1 (g)
          refine ⟨fun g => ?_, fun g => ?_⟩
          · have h := h.1 (g)
            refine ⟨fun g => ?_, fun g => ?_⟩
            · have h := h.1 (g)
              exact h.use hQ
            · have h := h.2 (g)
              exact h.use hQ
          · have h := h.2 (g)
            refine ⟨fun g => ?_, fun g => ?_⟩
            · have h := h.1 (g)
              exact h.use hQ
            · have h := h.2 (g)
              exact h.use hQ
        · have h := h.2 (g)
          exact h.use hQ
      · have h := h.2 (g)
        obtain ⟨r9, mi9, ml9, hR, h⟩ := h
        refine ⟨0, 0, Nat.zero_le _, Nat.zero_le _, hR _ ?_⟩
        obtain ⟨mi10, ml10, hR, h⟩ := h
        refine ⟨0, 0, Nat.zero_le _, Nat.zero_le _, hR _ ?_⟩
        obtain ⟨r11, mi11, ml11, hR, h⟩ := h
        refine ⟨0, 0, Nat.zero_le _, Nat.zero_le _, hR _ ?_⟩
        obtain ⟨mi12, ml12, hR, h⟩ := h
        refine ⟨0, 0, Nat.zero_le _, Nat.zero_le _, hR _ ?_⟩
        obtain ⟨r13, mi13, ml13, hR, h⟩ := h
        refine ⟨0, 0, Nat.zero_le _, Nat.zero_le _, hR _ ?_⟩
        refine ⟨fun g => ?_, fun g => ?_⟩
        · have h := h.1 (g)
          refine ⟨fun g => ?_, fun g => ?_⟩
          · have h := h.1 (g)
            refine ⟨fun g => ?_, fun g => ?_⟩
            · have h := h.1 (g)
              exact h.use hQ
            · have h := h.2 (g)
              exact h.use hQ
          · have h := h.2 (g)
            refine ⟨fun g => ?_, fun g => ?_⟩
            · have h := h.1 (g)
              exact h.use hQ
            · have h := h.2 (g)
              exact h.use hQ
        · have h := h.2 (g)
          exact h.use hQ
    · have h := h.2 (g)
      obtain ⟨r14, mi14, ml14, hR, h⟩ := h
      refine ⟨0, 0, Nat.zero_le _, Nat.zero_le _, hR _ ?_⟩
      refine ⟨fun g => ?_, fun g => ?_⟩
      · have h := h.1 (g)
        obtain ⟨mi15, ml15, hR, h⟩ := h
        refine ⟨0, 0, Nat.zero_le _, Nat.zero_le _, hR _ ?_⟩
        refine ⟨fun g => ?_, fun g => ?_⟩
        · have h := h.1 (g)
          obtain ⟨r16, mi16, ml16, hR, h⟩ := h
          refine ⟨0, 0, Nat.zero_le _, Nat.zero_le _, hR _ ?_⟩
          obtain ⟨mi17, ml17, hR, h⟩ := h
          refine ⟨0, 0, Nat.zero_le _, Nat.zero_le _, hR _ ?_⟩
          obtain ⟨r18, mi18, ml18, hR, h⟩ := h
          refine ⟨0, 0, Nat.zero_le _, Nat.zero_le _, hR _ ?_⟩
          obtain ⟨mi19, ml19, hR, h⟩ := h
          refine ⟨0, 0, Nat.zero_le _, Nat.zero_le _, hR _ ?_⟩
          obtain ⟨r20, mi20, ml20, hR, h⟩ := h
          refine ⟨0, 0, Nat.zero_le _, Nat.zero_le _, hR _ ?_⟩
          refine ⟨fun g => ?_, fun g => ?_⟩
          · have h := h.1 (g)
            refine ⟨fun g => ?_, fun g => ?_⟩
            · have h := h.1 (g)
              refine ⟨fun g => ?_, fun g => ?_⟩
              · have h := h.1 (g)
                exact h.use hQ
              · have h := h.2 (g)
                exact h.use hQ
            · have h := h.2 (g)
              refine ⟨fun g => ?_, fun g => ?_⟩
              · have h := h.1 (g)
                exact h.use hQ
              · have h := h.2 (g)
                exact h.use hQ
          · have h := h.2 (g)
            exact h.use hQ
        · have h := h.2 (g)
          obtain ⟨r21, mi21, ml21, hR, h⟩ := h
          refine ⟨0, 0, Nat.zero_le _, Nat.zero_le _, hR _ ?_⟩
          obtain ⟨mi22, ml22, hR, h⟩ := h
          refine ⟨0, 0, Nat.zero_le _, Nat.zero_le _, hR _ ?_⟩
          obtain ⟨r23, mi23, ml23, hR, h⟩ := h
          refine ⟨0, 0, Nat.zero_le _, Nat.zero_le _, hR _ ?_⟩
          obtain ⟨mi24, ml24, hR, h⟩ := h
          refine ⟨0, 0, Nat.zero_le _, Nat.zero_le _, hR _ ?_⟩
          obtain ⟨r25, mi25, ml25, hR, h⟩ := h
          refine ⟨0, 0, Nat.zero_le _, Nat.zero_le _, hR _ ?_⟩
          refine ⟨fun g => ?_, fun g => ?_⟩
          · have h := h.1 (g)
            refine ⟨fun g => ?_, fun g => ?_⟩
            · have h := h.1 (g)
              refine ⟨fun g => ?_, fun g => ?_⟩
              · have h := h.1 (g)
                exact h.use hQ
              · have h := h.2 (g)
                exact h.use hQ
            · have h := h.2 (g)
              refine ⟨fun g => ?_, fun g => ?_⟩
              · have h := h.1 (g)
                exact h.use hQ
              · have h := h.2 (g)
                exact h.use hQ
          · have h := h.2 (g)
            exact h.use hQ
      · have h := h.2 (g)
        refine ⟨fun g => ?_, fun g => ?_⟩
        · have h := h.1 (g)
          obtain ⟨mi26, ml26, hR, h⟩ := h
          refine ⟨0, 0, Nat.zero_le _, Nat.zero_le _, hR _ ?_⟩
          refine ⟨fun g => ?_, fun g => ?_⟩
          · have h := h.1 (g)
            obtain ⟨r27, mi27, ml27, hR, h⟩ := h
            refine ⟨0, 0, Nat.zero_le _, Nat.zero_le _, hR _ ?_⟩
            obtain ⟨mi28, ml28, hR, h⟩ := h
            refine ⟨0, 0, Nat.zero_le _, Nat.zero_le _, hR _ ?_⟩
            obtain ⟨r29, mi29, ml29, hR, h⟩ := h
            refine ⟨0, 0, Nat.zero_le _, Nat.zero_le _, hR _ ?_⟩
            obtain ⟨mi30, ml30, hR, h⟩ := h
            refine ⟨0, 0, Nat.zero_le _, Nat.zero_le _, hR _ ?_⟩
            obtain ⟨r31, mi31, ml31, hR, h⟩ := h
            refine ⟨0, 0, Nat.zero_le _, Nat.zero_le _, hR _ ?_⟩
            refine ⟨fun g => ?_, fun g => ?_⟩
            · have h := h.1 (g)
              refine ⟨fun g => ?_, fun g => ?_⟩
              · have h := h.1 (g)
                refine ⟨fun g => ?_, fun g => ?_⟩
                · have h := h.1 (g)
                  exact h.use hQ
                · have h := h.2 (g)
                  exact h.use hQ
              · have h := h.2 (g)
                refine ⟨fun g => ?_, fun g => ?_⟩
                · have h := h.1 (g)
                  exact h.use hQ
                · have h := h.2 (g)
                  exact h.use hQ
            · have h := h.2 (g)
              exact h.use hQ
          · have h := h.2 (g)
            obtain ⟨r32, mi32, ml32, hR, h⟩ := h
            refine ⟨0, 0, Nat.zero_le _, Nat.zero_le _, hR _ ?_⟩
            obtain ⟨mi33, ml33, hR, h⟩ := h
            refine ⟨0, 0, Nat.zero_le _, Nat.zero_le _, hR _ ?_⟩
            obtain ⟨r34, mi34, ml34, hR, h⟩ := h
            refine ⟨0, 0, Nat.zero_le _, Nat.zero_le _, hR _ ?_⟩
            obtain ⟨mi35, ml35, hR, h⟩ := h
            refine ⟨0, 0, Nat.zero_le _, Nat.zero_le _, hR _ ?_⟩
            obtain ⟨r36, mi36, ml36, hR, h⟩ := h
            refine ⟨0, 0, Nat.zero_le _, Nat.zero_le _, hR _ ?_⟩
            refine ⟨fun g => ?_, fun g => ?_⟩
            · have h := h.1 (g)
              refine ⟨fun g => ?_, fun g => ?_⟩
              · have h := h.1 (g)
                refine ⟨fun g => ?_, fun g => ?_⟩
                · have h := h.1 (g)
                  exact h.use hQ
                · have h := h.2 (g)
                  exact h.use hQ
              · have h := h.2 (g)
                refine ⟨fun g => ?_, fun g => ?_⟩
                · have h := h.1 (g)
                  exact h.use hQ
                · have h := h.2 (g)
                  exact h.use hQ
            · have h := h.2 (g)
              exact h.use hQ
        · have h := h.2 (g)
          obtain ⟨mi37, ml37, hR, h⟩ := h
          refine ⟨0, 0, Nat.zero_le _, Nat.zero_le _, hR _ ?_⟩
          refine ⟨fun g => ?_, fun g => ?_⟩
          · have h := h.1 (g)
            obtain ⟨r38, mi38, ml38, hR, h⟩ := h
            refine ⟨0, 0, Nat.zero_le _, Nat.zero_le _, hR _ ?_⟩
            obtain ⟨mi39, ml39, hR, h⟩ := h
            refine ⟨0, 0, Nat.zero_le _, Nat.zero_le _, hR _ ?_⟩
            obtain ⟨r40, mi40, ml40, hR, h⟩ := h
            refine ⟨0, 0, Nat.zero_le _, Nat.zero_le _, hR _ ?_⟩
            obtain ⟨mi41, ml41, hR, h⟩ := h
            refine ⟨0, 0, Nat.zero_le _, Nat.zero_le _, hR _ ?_⟩
            obtain ⟨r42, mi42, ml42, hR, h⟩ := h
            refine ⟨0, 0, Nat.zero_le _, Nat.zero_le _, hR _ ?_⟩
            refine ⟨fun g => ?_, fun g => ?_⟩
            · have h := h.1 (g)
              refine ⟨fun g => ?_, fun g => ?_⟩
              · have h := h.1 (g)
                refine ⟨fun g => ?_, fun g => ?_⟩
                · have h := h.1 (g)
                  exact h.use hQ
                · have h := h.2 (g)
                  exact h.use hQ
              · have h := h.2 (g)
                refine ⟨fun g => ?_, fun g => ?_⟩
                · have h := h.1 (g)
                  exact h.use hQ
                · have h := h.2 (g)
                  exact h.use hQ
            · have h := h.2 (g)
              exact h.use hQ
          · have h := h.2 (g)
            obtain ⟨r43, mi43, ml43, hR, h⟩ := h
            refine ⟨0, 0, Nat.zero_le _, Nat.zero_le _, hR _ ?_⟩
            obtain ⟨mi44, ml44, hR, h⟩ := h
            refine ⟨0, 0, Nat.zero_le _, Nat.zero_le _, hR _ ?_⟩
            obtain ⟨r45, mi45, ml45, hR, h⟩ := h
            refine ⟨0, 0, Nat.zero_le _, Nat.zero_le _, hR _ ?_⟩
            obtain ⟨mi46, ml46, hR, h⟩ := h
            refine ⟨0, 0, Nat.zero_le _, Nat.zero_le _, hR _ ?_⟩
            obtain ⟨r47, mi47, ml47, hR, h⟩ := h
            refine ⟨0, 0, Nat.zero_le _, Nat.zero_le _, hR _ ?_⟩
            refine ⟨fun g => ?_, fun g => ?_⟩
            · have h := h.1 (g)
              refine ⟨fun g => ?_, fun g => ?_⟩
              · have h := h.1 (g)
                refine ⟨fun g => ?_, fun g => ?_⟩
                · have h := h.1 (g)
                  exact h.use hQ
                · have h := h.2 (g)
                  exact h.use hQ
              · have h := h.2 (g)
                refine ⟨fun g => ?_, fun g => ?_⟩
                · have h := h.1 (g)
                  exact h.use hQ
                · have h := h.2 (g)
                  exact h.use hQ
            · have h := h.2 (g)
              exact h.use hQ
  · have h := h.2 (g)
    refine ⟨fun g => ?_, fun g => ?_⟩
    · have h := h.1 (g)
      obtain ⟨mi48, ml48, hR, h⟩ := h
      refine ⟨0, 0, Nat.zero_le _, Nat.zero_le _, hR _ ?_⟩
      obtain ⟨r49, mi49, ml49, hR, h⟩ := h
      refine ⟨0, 0, Nat.zero_le _, Nat.zero_le _, hR _ ?_⟩
      refine ⟨fun g => ?_, fun g => ?_⟩
      · have h := h.1 (g)
        obtain ⟨mi50, ml50, hR, h⟩ := h
        refine ⟨0, 0, Nat.zero_le _, Nat.zero_le _, hR _ ?_⟩
        refine ⟨fun g => ?_, fun g => ?_⟩
        · have h := h.1 (g)
          obtain ⟨r51, mi51, ml51, hR, h⟩ := h
          refine ⟨0, 0, Nat.zero_le _, Nat.zero_le _, hR _ ?_⟩
          obtain ⟨mi52, ml52, hR, h⟩ := h
          refine ⟨0, 0, Nat.zero_le _, Nat.zero_le _, hR _ ?_⟩
          obtain ⟨r53, mi53, ml53, hR, h⟩ := h
          refine ⟨0, 0, Nat.zero_le _, Nat.zero_le _, hR _ ?_⟩
          obtain ⟨mi54, ml54, hR, h⟩ := h
          refine ⟨0, 0, Nat.zero_le _, Nat.zero_le _, hR _ ?_⟩
          obtain ⟨r55, mi55, ml55, hR, h⟩ := h
          refine ⟨0, 0, Nat.zero_le _, Nat.zero_le _, hR _ ?_⟩
          refine ⟨fun g => ?_, fun g => ?_⟩
          · have h := h.1 (g)
            refine ⟨fun g => ?_, fun g => ?_⟩
            · have h := h.1 (g)
              refine ⟨fun g => ?_, fun g => ?_⟩
              · have h := h.1 (g)
                exact h.use hQ
              · have h := h.2 (g)
                exact h.use hQ
            · have h := h.2 (g)
              refine ⟨fun g => ?_, fun g => ?_⟩
              · have h := h.1 (g)
                exact h.use hQ
              · have h := h.2 (g)
                exact h.use hQ
          · have h := h.2 (g)
            exact h.use hQ
        · have h := h.2 (g)
          obtain ⟨r56, mi56, ml56, hR, h⟩ := h
          refine ⟨0, 0, Nat.zero_le _, Nat.zero_le _, hR _ ?_⟩
          obtain ⟨mi57, ml57, hR, h⟩ := h
          refine ⟨0, 0, Nat.zero_le _, Nat.zero_le _, hR _ ?_⟩
          obtain ⟨r58, mi58, ml58, hR, h⟩ := h
          refine ⟨0, 0, Nat.zero_le _, Nat.zero_le _, hR _ ?_⟩
          obtain ⟨mi59, ml59, hR, h⟩ := h
          refine ⟨0, 0, Nat.zero_le _, Nat.zero_le _, hR _ ?_⟩
          obtain ⟨r60, mi60, ml60, hR, h⟩ := h
          refine ⟨0, 0, Nat.zero_le _, Nat.zero_le _, hR _ ?_⟩
          refine ⟨fun g => ?_, fun g => ?_⟩
          · have h := h.1 (g)
            refine ⟨fun g => ?_, fun g => ?_⟩
            · have h := h.1 (g)
              refine ⟨fun g => ?_, fun g => ?_⟩
              · have h := h.1 (g)
                exact h.use hQ
              · have h := h.2 (g)
                exact h.use hQ
            · have h := h.2 (g)
              refine ⟨fun g => ?_, fun g => ?_⟩
              · have h := h.1 (g)
                exact h.use hQ
              · have h := h.2 (g)
                exact h.use hQ
          · have h := h.2 (g)
            exact h.use hQ
      · have h := h.2 (g)
        obtain ⟨r61, mi61, ml61, hR, h⟩ := h
        refine ⟨0, 0, Nat.zero_le _, Nat.zero_le _, hR _ ?_⟩
        refine ⟨fun g => ?_, fun g => ?_⟩
        · have h := h.1 (g)
          obtain ⟨mi62, ml62, hR, h⟩ := h
          refine ⟨0, 0, Nat.zero_le _, Nat.zero_le _, hR _ ?_⟩
          refine ⟨fun g => ?_, fun g => ?_⟩
          · have h := h.1 (g)
            obtain ⟨r63, mi63, ml63, hR, h⟩ := h
            refine ⟨0, 0, Nat.zero_le _, Nat.zero_le _, hR _ ?_⟩
            obtain ⟨mi64, ml64, hR, h⟩ := h
            refine ⟨0, 0, Nat.zero_le _, Nat.zero_le _, hR _ ?_⟩
            obtain ⟨r65, mi65, ml65, hR, h⟩ := h
            refine ⟨0, 0, Nat.zero_le _, Nat.zero_le _, hR _ ?_⟩
            obtain ⟨mi66, ml66, hR, h⟩ := h
            refine ⟨0, 0, Nat.zero_le _, Nat.zero_le _, hR _ ?_⟩
            obtain ⟨r67, mi67, ml67, hR, h⟩ := h
            refine ⟨0, 0, Nat.zero_le _, Nat.zero_le _, hR _ ?_⟩
            refine ⟨fun g => ?_, fun g => ?_⟩
            · have h := h.1 (g)
              refine ⟨fun g => ?_, fun g => ?_⟩
              · have h := h.1 (g)
                refine ⟨fun g => ?_, fun g => ?_⟩
                · have h := h.1 (g)
                  exact h.use hQ
                · have h := h.2 (g)
                  exact h.use hQ
              · have h := h.2 (g)
                refine ⟨fun g => ?_, fun g => ?_⟩
                · have h := h.1 (g)
                  exact h.use hQ
                · have h := h.2 (g)
                  exact h.use hQ
            · have h := h.2 (g)
              exact h.use hQ
          · have h := h.2 (g)
            obtain ⟨r68, mi68, ml68, hR, h⟩ := h
            refine ⟨0, 0, Nat.zero_le _, Nat.zero_le _, hR _ ?_⟩
            obtain ⟨mi69, ml69, hR, h⟩ := h
            refine ⟨0, 0, Nat.zero_le _, Nat.zero_le _, hR _ ?_⟩
            obtain ⟨r70, mi70, ml70, hR, h⟩ := h
            refine ⟨0, 0, Nat.zero_le _, Nat.zero_le _, hR _ ?_⟩
            obtain ⟨mi71, ml71, hR, h⟩ := h
            refine ⟨0, 0, Nat.zero_le _, Nat.zero_le _, hR _ ?_⟩
            obtain ⟨r72, mi72, ml72, hR, h⟩ := h
            refine ⟨0, 0, Nat.zero_le _, Nat.zero_le _, hR _ ?_⟩
            refine ⟨fun g => ?_, fun g => ?_⟩
            · have h := h.1 (g)
              refine ⟨fun g => ?_, fun g => ?_⟩
              · have h := h.1 (g)
                refine ⟨fun g => ?_, fun g => ?_⟩
                · have h := h.1 (g)
                  exact h.use hQ
                · have h := h.2 (g)
                  exact h.use hQ
              · have h := h.2 (g)
                refine ⟨fun g => ?_, fun g => ?_⟩
                · have h := h.1 (g)
                  exact h.use hQ
                · have h := h.2 (g)
                  exact h.use hQ
            · have h := h.2 (g)
              exact h.use hQ
        · have h := h.2 (g)
          refine ⟨fun g => ?_, fun g => ?_⟩
          · have h := h.1 (g)
            obtain ⟨mi73, ml73, hR, h⟩ := h
            refine ⟨0, 0, Nat.zero_le _, Nat.zero_le _, hR _ ?_⟩
            refine ⟨fun g => ?_, fun g => ?_⟩
            · have h := h.1 (g)
              obtain ⟨r74, mi74, ml74, hR, h⟩ := h
              refine ⟨0, 0, Nat.zero_le _, Nat.zero_le _, hR _ ?_⟩
              obtain ⟨mi75, ml75, hR, h⟩ := h
              refine ⟨0, 0, Nat.zero_le _, Nat.zero_le _, hR _ ?_⟩
              obtain ⟨r76, mi76, ml76, hR, h⟩ := h
              refine ⟨0, 0, Nat.zero_le _, Nat.zero_le _, hR _ ?_⟩
              obtain ⟨mi77, ml77, hR, h⟩ := h
              refine ⟨0, 0, Nat.zero_le _, Nat.zero_le _, hR _ ?_⟩
              obtain ⟨r78, mi78, ml78, hR, h⟩ := h
              refine ⟨0, 0, Nat.zero_le _, Nat.zero_le _, hR _ ?_⟩
              refine ⟨fun g => ?_, fun g => ?_⟩
              · have h := h.1 (g)
                refine ⟨fun g => ?_, fun g => ?_⟩
                · have h := h.1 (g)
                  refine ⟨fun g => ?_, fun g => ?_⟩
                  · have h := h.1 (g)
                    exact h.use hQ
                  · have h := h.2 (g)
                    exact h.use hQ
                · have h := h.2 (g)
                  refine ⟨fun g => ?_, fun g => ?_⟩
                  · have h := h.1 (g)
                    exact h.use hQ
                  · have h := h.2 (g)
                    exact h.use hQ
              · have h := h.2 (g)
                exact h.use hQ
            · have h := h.2 (g)
              obtain ⟨r79, mi79, ml79, hR, h⟩ := h
              refine ⟨0, 0, Nat.zero_le _, Nat.zero_le _, hR _ ?_⟩
              obtain ⟨mi80, ml80, hR, h⟩ := h
              refine ⟨0, 0, Nat.zero_le _, Nat.zero_le _, hR _ ?_⟩
              obtain ⟨r81, mi81, ml81, hR, h⟩ := h
              refine ⟨0, 0, Nat.zero_le _, Nat.zero_le _, hR _ ?_⟩
              obtain ⟨mi82, ml82, hR, h⟩ := h
              refine ⟨0, 0, Nat.zero_le _, Nat.zero_le _, hR _ ?_⟩
              obtain ⟨r83, mi83, ml83, hR, h⟩ := h
              refine ⟨0, 0, Nat.zero_le _, Nat.zero_le _, hR _ ?_⟩
              refine ⟨fun g => ?_, fun g => ?_⟩
              · have h := h.1 (g)
                refine ⟨fun g => ?_, fun g => ?_⟩
                · have h := h.1 (g)
                  refine ⟨fun g => ?_, fun g => ?_⟩
                  · have h := h.1 (g)
                    exact h.use hQ
                  · have h := h.2 (g)
                    exact h.use hQ
                · have h := h.2 (g)
                  refine ⟨fun g => ?_, fun g => ?_⟩
                  · have h := h.1 (g)
                    exact h.use hQ
                  · have h := h.2 (g)
                    exact h.use hQ
              · have h := h.2 (g)
                exact h.use hQ
          · have h := h.2 (g)
            obtain ⟨mi84, ml84, hR, h⟩ := h
            refine ⟨0, 0, Nat.zero_le _, Nat.zero_le _, hR _ ?_⟩
            refine ⟨fun g => ?_, fun g => ?_⟩
            · have h := h.1 (g)
              obtain ⟨r85, mi85, ml85, hR, h⟩ := h
              refine ⟨0, 0, Nat.zero_le _, Nat.zero_le _, hR _ ?_⟩
              obtain ⟨mi86, ml86, hR, h⟩ := h
              refine ⟨0, 0, Nat.zero_le _, Nat.zero_le _, hR _ ?_⟩
              obtain ⟨r87, mi87, ml87, hR, h⟩ := h
              refine ⟨0, 0, Nat.zero_le _, Nat.zero_le _, hR _ ?_⟩
              obtain ⟨mi88, ml88, hR, h⟩ := h
              refine ⟨0, 0, Nat.zero_le _, Nat.zero_le _, hR _ ?_⟩
              obtain ⟨r89, mi89, ml89, hR, h⟩ := h
              refine ⟨0, 0, Nat.zero_le _, Nat.zero_le _, hR _ ?_⟩
              refine ⟨fun g => ?_, fun g => ?_⟩
              · have h := h.1 (g)
                refine ⟨fun g => ?_, fun g => ?_⟩
                · have h := h.1 (g)
                  refine ⟨fun g => ?_, fun g => ?_⟩
                  · have h := h.1 (g)
                    exact h.use hQ
                  · have h := h.2 (g)
                    exact h.use hQ
                · have h := h.2 (g)
                  refine ⟨fun g => ?_, fun g => ?_⟩
                  · have h := h.1 (g)
                    exact h.use hQ
                  · have h := h.2 (g)
                    exact h.use hQ
              · have h := h.2 (g)
                exact h.use hQ
            · have h := h.2 (g)
              obtain ⟨r90, mi90, ml90, hR, h⟩ := h
              refine ⟨0, 0, Nat.zero_le _, Nat.zero_le _, hR _ ?_⟩
              obtain ⟨mi91, ml91, hR, h⟩ := h
              refine ⟨0, 0, Nat.zero_le _, Nat.zero_le _, hR _ ?_⟩
              obtain ⟨r92, mi92, ml92, hR, h⟩ := h
              refine ⟨0, 0, Nat.zero_le _, Nat.zero_le _, hR _ ?_⟩
              obtain ⟨mi93, ml93, hR, h⟩ := h
              refine ⟨0, 0, Nat.zero_le _, Nat.zero_le _, hR _ ?_⟩
              obtain ⟨r94, mi94, ml94, hR, h⟩ := h
              refine ⟨0, 0, Nat.zero_le _, Nat.zero_le _, hR _ ?_⟩
              refine ⟨fun g => ?_, fun g => ?_⟩
              · have h := h.1 (g)
                refine ⟨fun g => ?_, fun g => ?_⟩
                · have h := h.1 (g)
                  refine ⟨fun g => ?_, fun g => ?_⟩
                  · have h := h.1 (g)
                    exact h.use hQ
                  · have h := h.2 (g)
                    exact h.use hQ
                · have h := h.2 (g)
                  refine ⟨fun g => ?_, fun g => ?_⟩
                  · have h := h.1 (g)
                    exact h.use hQ
                  · have h := h.2 (g)
                    exact h.use hQ
              · have h := h.2 (g)
                exact h.use hQ
    · have h := h.2 (g)
      obtain ⟨mi95, ml95, hR, h⟩ := h
      refine ⟨0, 0, Nat.zero_le _, Nat.zero_le _, hR _ ?_⟩
      obtain ⟨r96, mi96, ml96, hR, h⟩ := h
      refine ⟨0, 0, Nat.zero_le _, Nat.zero_le _, hR _ ?_⟩
      refine ⟨fun g => ?_, fun g => ?_⟩
      · have h := h.1 (g)
        obtain ⟨mi97, ml97, hR, h⟩ := h
        refine ⟨0, 0, Nat.zero_le _, Nat.zero_le _, hR _ ?_⟩
        refine ⟨fun g => ?_, fun g => ?_⟩
        · have h := h.1 (g)
          obtain ⟨r98, mi98, ml98, hR, h⟩ := h
          refine ⟨0, 0, Nat.zero_le _, Nat.zero_le _, hR _ ?_⟩
          obtain ⟨mi99, ml99, hR, h⟩ := h
          refine ⟨0, 0, Nat.zero_le _, Nat.zero_le _, hR _ ?_⟩
          obtain ⟨r100, mi100, ml100, hR, h⟩ := h
          refine ⟨0, 0, Nat.zero_le _, Nat.zero_le _, hR _ ?_⟩
          obtain ⟨mi101, ml101, hR, h⟩ := h
          refine ⟨0, 0, Nat.zero_le _, Nat.zero_le _, hR _ ?_⟩
          obtain ⟨r102, mi102, ml102, hR, h⟩ := h
          refine ⟨0, 0, Nat.zero_le _, Nat.zero_le _, hR _ ?_⟩
          refine ⟨fun g => ?_, fun g => ?_⟩
          · have h := h.1 (g)
            refine ⟨fun g => ?_, fun g => ?_⟩
            · have h := h.1 (g)
              refine ⟨fun g => ?_, fun g => ?_⟩
              · have h := h.1 (g)
                exact h.use hQ
              · have h := h.2 (g)
                exact h.use hQ
            · have h := h.2 (g)
              refine ⟨fun g => ?_, fun g => ?_⟩
              · have h := h.1 (g)
                exact h.use hQ
              · have h := h.2 (g)
                exact h.use hQ
          · have h := h.2 (g)
            exact h.use hQ
        · have h := h.2 (g)
          obtain ⟨r103, mi103, ml103, hR, h⟩ := h
          refine ⟨0, 0, Nat.zero_le _, Nat.zero_le _, hR _ ?_⟩
          obtain ⟨mi104, ml104, hR, h⟩ := h
          refine ⟨0, 0, Nat.zero_le _, Nat.zero_le _, hR _ ?_⟩
          obtain ⟨r105, mi105, ml105, hR, h⟩ := h
          refine ⟨0, 0, Nat.zero_le _, Nat.zero_le _, hR _ ?_⟩
          obtain ⟨mi106, ml106, hR, h⟩ := h
          refine ⟨0, 0, Nat.zero_le _, Nat.zero_le _, hR _ ?_⟩
          obtain ⟨r107, mi107, ml107, hR, h⟩ := h
          refine ⟨0, 0, Nat.zero_le _, Nat.zero_le _, hR _ ?_⟩
          refine ⟨fun g => ?_, fun g => ?_⟩
          · have h := h.1 (g)
            refine ⟨fun g => ?_, fun g => ?_⟩
            · have h := h.1 (g)
              refine ⟨fun g => ?_, fun g => ?_⟩
              · have h := h.1 (g)
                exact h.use hQ
              · have h := h.2 (g)
                exact h.use hQ
            · have h := h.2 (g)
              refine ⟨fun g => ?_, fun g => ?_⟩
              · have h := h.1 (g)
                exact h.use hQ
              · have h := h.2 (g)
                exact h.use hQ
          · have h := h.2 (g)
            exact h.use hQ
      · have h := h.2 (g)
        obtain ⟨r108, mi108, ml108, hR, h⟩ := h
        refine ⟨0, 0, Nat.zero_le _, Nat.zero_le _, hR _ ?_⟩
        refine ⟨fun g => ?_, fun g => ?_⟩
        · have h := h.1 (g)
          obtain ⟨mi109, ml109, hR, h⟩ := h
          refine ⟨0, 0, Nat.zero_le _, Nat.zero_le _, hR _ ?_⟩
          refine ⟨fun g => ?_, fun g => ?_⟩
          · have h := h.1 (g)
            obtain ⟨r110, mi110, ml110, hR, h⟩ := h
            refine ⟨0, 0, Nat.zero_le _, Nat.zero_le _, hR _ ?_⟩
            obtain ⟨mi111, ml111, hR, h⟩ := h
            refine ⟨0, 0, Nat.zero_le _, Nat.zero_le _, hR _ ?_⟩
            obtain ⟨r112, mi112, ml112, hR, h⟩ := h
            refine ⟨0, 0, Nat.zero_le _, Nat.zero_le _, hR _ ?_⟩
            obtain ⟨mi113, ml113, hR, h⟩ := h
            refine ⟨0, 0, Nat.zero_le _, Nat.zero_le _, hR _ ?_⟩
            obtain ⟨r114, mi114, ml114, hR, h⟩ := h
            refine ⟨0, 0, Nat.zero_le _, Nat.zero_le _, hR _ ?_⟩
            refine ⟨fun g => ?_, fun g => ?_⟩
            · have h := h.1 (g)
              refine ⟨fun g => ?_, fun g => ?_⟩
              · have h := h.1 (g)
                refine ⟨fun g => ?_, fun g => ?_⟩
                · have h := h.1 (g)
                  exact h.use hQ
                · have h := h.2 (g)
                  exact h.use hQ
              · have h := h.2 (g)
                refine ⟨fun g => ?_, fun g => ?_⟩
                · have h := h.1 (g)
                  exact h.use hQ
                · have h := h.2 (g)
                  exact h.use hQ
            · have h := h.2 (g)
              exact h.use hQ
          · have h := h.2 (g)
            obtain ⟨r115, mi115, ml115, hR, h⟩ := h
            refine ⟨0, 0, Nat.zero_le _, Nat.zero_le _, hR _ ?_⟩
            obtain ⟨mi116, ml116, hR, h⟩ := h
            refine ⟨0, 0, Nat.zero_le _, Nat.zero_le _, hR _ ?_⟩
            obtain ⟨r117, mi117, ml117, hR, h⟩ := h
            refine ⟨0, 0, Nat.zero_le _, Nat.zero_le _, hR _ ?_⟩
            obtain ⟨mi118, ml118, hR, h⟩ := h
            refine ⟨0, 0, Nat.zero_le _, Nat.zero_le _, hR _ ?_⟩
            obtain ⟨r119, mi119, ml119, hR, h⟩ := h
            refine ⟨0, 0, Nat.zero_le _, Nat.zero_le _, hR _ ?_⟩
            refine ⟨fun g => ?_, fun g => ?_⟩
            · have h := h.1 (g)
              refine ⟨fun g => ?_, fun g => ?_⟩
              · have h := h.1 (g)
                refine ⟨fun g => ?_, fun g => ?_⟩
                · have h := h.1 (g)
                  exact h.use hQ
                · have h := h.2 (g)
                  exact h.use hQ
              · have h := h.2 (g)
                refine ⟨fun g => ?_, fun g => ?_⟩
                · have h := h.1 (g)
                  exact h.use hQ
                · have h := h.2 (g)
                  exact h.use hQ
            · have h := h.2 (g)
              exact h.use hQ
        · have h := h.2 (g)
          refine ⟨fun g => ?_, fun g => ?_⟩
          · have h := h.1 (g)
            obtain ⟨mi120, ml120, hR, h⟩ := h
            refine ⟨0, 0, Nat.zero_le _, Nat.zero_le _, hR _ ?_⟩
            refine ⟨fun g => ?_, fun g => ?_⟩
            · have h := h.1 (g)
              obtain ⟨r121, mi121, ml121, hR, h⟩ := h
              refine ⟨0, 0, Nat.zero_le _, Nat.zero_le _, hR _ ?_⟩
              obtain ⟨mi122, ml122, hR, h⟩ := h
              refine ⟨0, 0, Nat.zero_le _, Nat.zero_le _, hR _ ?_⟩
              obtain ⟨r123, mi123, ml123, hR, h⟩ := h
              refine ⟨0, 0, Nat.zero_le _, Nat.zero_le _, hR _ ?_⟩
              obtain ⟨mi124, ml124, hR, h⟩ := h
              refine ⟨0, 0, Nat.zero_le _, Nat.zero_le _, hR _ ?_⟩
              obtain ⟨r125, mi125, ml125, hR, h⟩ := h
              refine ⟨0, 0, Nat.zero_le _, Nat.zero_le _, hR _ ?_⟩
              refine ⟨fun g => ?_, fun g => ?_⟩
              · have h := h.1 (g)
                refine ⟨fun g => ?_, fun g => ?_⟩
                · have h := h.1 (g)
                  refine ⟨fun g => ?_, fun g => ?_⟩
                  · have h := h.1 (g)
                    exact h.use hQ
                  · have h := h.2 (g)
                    exact h.use hQ
                · have h := h.2 (g)
                  refine ⟨fun g => ?_, fun g => ?_⟩
                  · have h := h.1 (g)
                    exact h.use hQ
                  · have h := h.2 (g)
                    exact h.use hQ
              · have h := h.2 (g)
                exact h.use hQ
            · have h := h.2 (g)
              obtain ⟨r126, mi126, ml126, hR, h⟩ := h
              refine ⟨0, 0, Nat.zero_le _, Nat.zero_le _, hR _ ?_⟩
              obtain ⟨mi127, ml127, hR, h⟩ := h
              refine ⟨0, 0, Nat.zero_le _, Nat.zero_le _, hR _ ?_⟩
              obtain ⟨r128, mi128, ml128, hR, h⟩ := h
              refine ⟨0, 0, Nat.zero_le _, Nat.zero_le _, hR _ ?_⟩
              obtain ⟨mi129, ml129, hR, h⟩ := h
              refine ⟨0, 0, Nat.zero_le _, Nat.zero_le _, hR _ ?_⟩
              obtain ⟨r130, mi130, ml130, hR, h⟩ := h
              refine ⟨0, 0, Nat.zero_le _, Nat.zero_le _, hR _ ?_⟩
              refine ⟨fun g => ?_, fun g => ?_⟩
              · have h := h.1 (g)
                refine ⟨fun g => ?_, fun g => ?_⟩
                · have h := h.1 (g)
                  refine ⟨fun g => ?_, fun g => ?_⟩
                  · have h := h.1 (g)
                    exact h.use hQ
                  · have h := h.2 (g)
                    exact h.use hQ
                · have h := h.2 (g)
                  refine ⟨fun g => ?_, fun g => ?_⟩
                  · have h := h.1 (g)
                    exact h.use hQ
                  · have h := h.2 (g)
                    exact h.use hQ
              · have h := h.2 (g)
                exact h.use hQ
          · have h := h.2 (g)
            obtain ⟨mi131, ml131, hR, h⟩ := h
            refine ⟨0, 0, Nat.zero_le _, Nat.zero_le _, hR _ ?_⟩
            refine ⟨fun g => ?_, fun g => ?_⟩
            · have h := h.1 (g)
              obtain ⟨r132, mi132, ml132, hR, h⟩ := h
              refine ⟨0, 0, Nat.zero_le _, Nat.zero_le _, hR _ ?_⟩
              obtain ⟨mi133, ml133, hR, h⟩ := h
              refine ⟨0, 0, Nat.zero_le _, Nat.zero_le _, hR _ ?_⟩
              obtain ⟨r134, mi134, ml134, hR, h⟩ := h
              refine ⟨0, 0, Nat.zero_le _, Nat.zero_le _, hR _ ?_⟩
              obtain ⟨mi135, ml135, hR, h⟩ := h
              refine ⟨0, 0, Nat.zero_le _, Nat.zero_le _, hR _ ?_⟩
              obtain ⟨r136, mi136, ml136, hR, h⟩ := h
              refine ⟨0, 0, Nat.zero_le _, Nat.zero_le _, hR _ ?_⟩
              refine ⟨fun g => ?_, fun g => ?_⟩
              · have h := h.1 (g)
                refine ⟨fun g => ?_, fun g => ?_⟩
                · have h := h.1 (g)
                  refine ⟨fun g => ?_, fun g => ?_⟩
                  · have h := h.1 (g)
                    exact h.use hQ
                  · have h := h.2 (g)
                    exact h.use hQ
                · have h := h.2 (g)
                  refine ⟨fun g => ?_, fun g => ?_⟩
                  · have h := h.1 (g)
                    exact h.use hQ
                  · have h := h.2 (g)
                    exact h.use hQ
              · have h := h.2 (g)
                exact h.use hQ
            · have h := h.2 (g)
              obtain ⟨r137, mi137, ml137, hR, h⟩ := h
              refine ⟨0, 0, Nat.zero_le _, Nat.zero_le _, hR _ ?_⟩
              obtain ⟨mi138, ml138, hR, h⟩ := h
              refine ⟨0, 0, Nat.zero_le _, Nat.zero_le _, hR _ ?_⟩
              obtain ⟨r139, mi139, ml139, hR, h⟩ := h
              refine ⟨0, 0, Nat.zero_le _, Nat.zero_le _, hR _ ?_⟩
              obtain ⟨mi140, ml140, hR, h⟩ := h
              refine ⟨0, 0, Nat.zero_le _, Nat.zero_le _, hR _ ?_⟩
              obtain ⟨r141, mi141, ml141, hR, h⟩ := h
              refine ⟨0, 0, Nat.zero_le _, Nat.zero_le _, hR _ ?_⟩
              refine ⟨fun g => ?_, fun g => ?_⟩
              · have h := h.1 (g)
                refine ⟨fun g => ?_, fun g => ?_⟩
                · have h := h.1 (g)
                  refine ⟨fun g => ?_, fun g => ?_⟩
                  · have h := h.1 (g)
                    exact h.use hQ
                  · have h := h.2 (g)
                    exact h.use hQ
                · have h := h.2 (g)
                  refine ⟨fun g => ?_, fun g => ?_⟩
                  · have h := h.1 (g)
                    exact h.use hQ
                  · have h := h.2 (g)
                    exact h.use hQ
              · have h := h.2 (g)
                exact h.use hQ
theorem g_r_readOrder_0 {nb db : Nat} {by_ rs : RX} {c : Nat} {mi mi' : MI} {ml ml' : ML} {rv : Option AV} 
    (h : ∃ (r1 : Int32) (mi1 : MI) (ml1 : ML), Ret m_r_wholeAt [(vR 19 0 48), (vI (nI 3)), (vI (nI 31))] (some (vI r1)) c (MRc nb db by_ rs) mi ml mi1 ml1 ∧ (Go m_r_readOrder 9 [some (vR 19 0 48), some (vI r1)] [(vI r1)] rv c (MRc nb db by_ rs) mi1 ml1 mi' ml')) :
    Ret m_r_readOrder [(vR 19 0 48)] rv c (MRc nb db by_ rs) mi ml mi' ml' := by
  intro Q hQ
  refine ok_wq inlT 400 rfl rfl ?_
  obtain ⟨r1, mi1, ml1, hR, h⟩ := h
  refine ⟨0, 0, Nat.zero_le _, Nat.zero_le _, hR _ ?_⟩
  exact h Q hQ
theorem g_r_readLight_0 {nb db : Nat} {by_ rs : RX} {c : Nat} {mi mi' : MI} {ml ml' : ML} {rv : Option AV} 
    (h : ∃ (mi1 : MI) (ml1 : ML), Ret m_r_begins [(vR 19 0 48), (vI (nI 0))] none c (MRc nb db by_ rs) mi ml mi1 ml1 ∧ (∃ (r2 : Int32) (mi2 : MI) (ml2 : ML), Ret m_r_readNew [(vR 19 0 48), (vI (mi1 48 21))] (some (vI r2)) c (MRc nb db by_ rs) mi1 ml1 mi2 ml2 ∧ (∃ (r3 : Int32) (mi3 : MI) (ml3 : ML), Ret m_r_readWhole [(vR 19 0 48), (vI (nI 0)), (vI (nI 9999))] (some (vI r3)) c (MRc nb db by_ rs) mi2 ml2 mi3 ml3 ∧ (((mi3 48 38) ≤ 0 → (vp_in r2 63 ∧ (Fin none (u2 (u2 mi3 48 21 ((mi3 48 21) ||| ((nI 1) <<< (r2 &&& 31)))) 55 r2.toNatClampNeg r3) ml3 rv mi' ml'))) ∧ (¬ (mi3 48 38) ≤ 0 → (Fin none mi3 ml3 rv mi' ml')))))) :
    Ret m_r_readLight [(vR 19 0 48)] rv c (MRc nb db by_ rs) mi ml mi' ml' := by
  intro Q hQ
  refine ok_wq inlT 400 rfl rfl ?_
  obtain ⟨mi1, ml1, hR, h⟩ := h
  refine ⟨0, 0, Nat.zero_le _, Nat.zero_le _, hR _ ?_⟩
  obtain ⟨r2, mi2, ml2, hR, h⟩ := h
  refine ⟨0, 0, Nat.zero_le _, Nat.zero_le _, hR _ ?_⟩
  obtain ⟨r3, mi3, ml3, hR, h⟩ := h
  refine ⟨0, 0, Nat.zero_le _, Nat.zero_le _, hR _ ?_⟩
  refine ⟨fun g => ?_, fun g => ?_⟩
  · have h := h.1 (g)
    refine ⟨h.1, ?_⟩
    have h := h.2
    exact h.use hQ
  · have h := h.2 (g)
    exact h.use hQ
theorem g_r_readStuckOne_0 {nb db : Nat} {by_ rs : RX} {c : Nat} {mi mi' : MI} {ml ml' : ML} {rv : Option AV} 
    (h : (¬ (mi 48 18) = (nI 3) → (∃ (mi1 : MI) (ml1 : ML), Ret m_r_begins [(vR 19 0 48), (vI (nI 0))] none c (MRc nb db by_ rs) mi ml mi1 ml1 ∧ (∃ (r2 : Int32) (mi2 : MI) (ml2 : ML), Ret m_r_readNew [(vR 19 0 48), (vI (mi1 48 22))] (some (vI r2)) c (MRc nb db by_ rs) mi1 ml1 mi2 ml2 ∧ (∃ (r3 : Int32) (mi3 : MI) (ml3 : ML), Ret m_r_isWord [(vR 19 0 48), (vR 100 0 11)] (some (vI r3)) c (MRc nb db by_ rs) mi2 ml2 mi3 ml3 ∧ ((¬ r3 = 0 → (∃ (mi4 : MI) (ml4 : ML), Ret m_r_next [(vR 19 0 48)] none c (MRc nb db by_ rs) mi3 ml3 mi4 ml4 ∧ (((mi4 48 38) ≤ 0 → ((r3 = 0 → (vp_in ((nI 31) + r2) 63 ∧ (Fin none (u2 (u2 (u2 mi4 48 22 ((mi4 48 22) ||| ((nI 1) <<< (r2 &&& 31)))) 55 ((nI 31) + r2).toNatClampNeg (nI 2)) 48 18 ((mi4 48 18) + (nI 1))) ml4 rv mi' ml'))) ∧ (¬ r3 = 0 → (vp_in ((nI 31) + r2) 63 ∧ (Fin none (u2 (u2 (u2 mi4 48 22 ((mi4 48 22) ||| ((nI 1) <<< (r2 &&& 31)))) 55 ((nI 31) + r2).toNatClampNeg (nI 1)) 48 18 ((mi4 48 18) + (nI 1))) ml4 rv mi' ml'))))) ∧ (¬ (mi4 48 38) ≤ 0 → (Fin none mi4 ml4 rv mi' ml'))))) ∧ (r3 = 0 → (∃ (r5 : Int32) (mi5 : MI) (ml5 : ML), Ret m_r_isWord [(vR 19 0 48), (vR 100 0 12)] (some (vI r5)) c (MRc nb db by_ rs) mi3 ml3 mi5 ml5 ∧ ((¬ r5 = 0 → (∃ (mi6 : MI) (ml6 : ML), Ret m_r_next [(vR 19 0 48)] none c (MRc nb db by_ rs) mi5 ml5 mi6 ml6 ∧ (((mi6 48 38) ≤ 0 → ((r3 = 0 → (vp_in ((nI 31) + r2) 63 ∧ (Fin none (u2 (u2 (u2 mi6 48 22 ((mi6 48 22) ||| ((nI 1) <<< (r2 &&& 31)))) 55 ((nI 31) + r2).toNatClampNeg (nI 2)) 48 18 ((mi6 48 18) + (nI 1))) ml6 rv mi' ml'))) ∧ (¬ r3 = 0 → (vp_in ((nI 31) + r2) 63 ∧ (Fin none (u2 (u2 (u2 mi6 48 22 ((mi6 48 22) ||| ((nI 1) <<< (r2 &&& 31)))) 55 ((nI 31) + r2).toNatClampNeg (nI 1)) 48 18 ((mi6 48 18) + (nI 1))) ml6 rv mi' ml'))))) ∧ (¬ (mi6 48 38) ≤ 0 → (Fin none mi6 ml6 rv mi' ml'))))) ∧ (r5 = 0 → ((¬ (mi5 48 38) = 0 → (∃ (mi7 : MI) (ml7 : ML), Ret m_r_next [(vR 19 0 48)] none c (MRc nb db by_ rs) (u2 mi5 48 35 (nI 0)) ml5 mi7 ml7 ∧ (((mi7 48 38) ≤ 0 → ((r3 = 0 → (vp_in ((nI 31) + r2) 63 ∧ (Fin none (u2 (u2 (u2 mi7 48 22 ((mi7 48 22) ||| ((nI 1) <<< (r2 &&& 31)))) 55 ((nI 31) + r2).toNatClampNeg (nI 2)) 48 18 ((mi7 48 18) + (nI 1))) ml7 rv mi' ml'))) ∧ (¬ r3 = 0 → (vp_in ((nI 31) + r2) 63 ∧ (Fin none (u2 (u2 (u2 mi7 48 22 ((mi7 48 22) ||| ((nI 1) <<< (r2 &&& 31)))) 55 ((nI 31) + r2).toNatClampNeg (nI 1)) 48 18 ((mi7 48 18) + (nI 1))) ml7 rv mi' ml'))))) ∧ (¬ (mi7 48 38) ≤ 0 → (Fin none mi7 ml7 rv mi' ml'))))) ∧ ((mi5 48 38) = 0 → (∃ (mi8 : MI) (ml8 : ML), Ret m_r_next [(vR 19 0 48)] none c (MRc nb db by_ rs) (u2 (u2 mi5 48 38 (nI 1)) 48 35 (nI 0)) ml5 mi8 ml8 ∧ (((mi8 48 38) ≤ 0 → ((r3 = 0 → (vp_in ((nI 31) + r2) 63 ∧ (Fin none (u2 (u2 (u2 mi8 48 22 ((mi8 48 22) ||| ((nI 1) <<< (r2 &&& 31)))) 55 ((nI 31) + r2).toNatClampNeg (nI 2)) 48 18 ((mi8 48 18) + (nI 1))) ml8 rv mi' ml'))) ∧ (¬ r3 = 0 → (vp_in ((nI 31) + r2) 63 ∧ (Fin none (u2 (u2 (u2 mi8 48 22 ((mi8 48 22) ||| ((nI 1) <<< (r2 &&& 31)))) 55 ((nI 31) + r2).toNatClampNeg (nI 1)) 48 18 ((mi8 48 18) + (nI 1))) ml8 rv mi' ml'))))) ∧ (¬ (mi8 48 38) ≤ 0 → (Fin none mi8 ml8 rv mi' ml'))))))))))))))) ∧ ((mi 48 18) = (nI 3) → (∃ (mi9 : MI) (ml9 : ML), Ret m_r_begins [(vR 19 0 48), (vI (nI 1))] none c (MRc nb db by_ rs) mi ml mi9 ml9 ∧ (∃ (r10 : Int32) (mi10 : MI) (ml10 : ML), Ret m_r_readNew [(vR 19 0 48), (vI (mi9 48 22))] (some (vI r10)) c (MRc nb db by_ rs) mi9 ml9 mi10 ml10 ∧ (∃ (r11 : Int32) (mi11 : MI) (ml11 : ML), Ret m_r_isWord [(vR 19 0 48), (vR 100 0 11)] (some (vI r11)) c (MRc nb db by_ rs) mi10 ml10 mi11 ml11 ∧ ((¬ r11 = 0 → (∃ (mi12 : MI) (ml12 : ML), Ret m_r_next [(vR 19 0 48)] none c (MRc nb db by_ rs) mi11 ml11 mi12 ml12 ∧ (((mi12 48 38) ≤ 0 → ((r11 = 0 → (vp_in ((nI 31) + r10) 63 ∧ (Fin none (u2 (u2 (u2 mi12 48 22 ((mi12 48 22) ||| ((nI 1) <<< (r10 &&& 31)))) 55 ((nI 31) + r10).toNatClampNeg (nI 2)) 48 18 ((mi12 48 18) + (nI 1))) ml12 rv mi' ml'))) ∧ (¬ r11 = 0 → (vp_in ((nI 31) + r10) 63 ∧ (Fin none (u2 (u2 (u2 mi12 48 22 ((mi12 48 22) ||| ((nI 1) <<< (r10 &&& 31)))) 55 ((nI 31) + r10).toNatClampNeg (nI 1)) 48 18 ((mi12 48 18) + (nI 1))) ml12 rv mi' ml'))))) ∧ (¬ (mi12 48 38) ≤ 0 → (Fin none mi12 ml12 rv mi' ml'))))) ∧ (r11 = 0 → (∃ (r13 : Int32) (mi13 : MI) (ml13 : ML), Ret m_r_isWord [(vR 19 0 48), (vR 100 0 12)] (some (vI r13)) c (MRc nb db by_ rs) mi11 ml11 mi13 ml13 ∧ ((¬ r13 = 0 → (∃ (mi14 : MI) (ml14 : ML), Ret m_r_next [(vR 19 0 48)] none c (MRc nb db by_ rs) mi13 ml13 mi14 ml14 ∧ (((mi14 48 38) ≤ 0 → ((r11 = 0 → (vp_in ((nI 31) + r10) 63 ∧ (Fin none (u2 (u2 (u2 mi14 48 22 ((mi14 48 22) ||| ((nI 1) <<< (r10 &&& 31)))) 55 ((nI 31) + r10).toNatClampNeg (nI 2)) 48 18 ((mi14 48 18) + (nI 1))) ml14 rv mi' ml'))) ∧ (¬ r11 = 0 → (vp_in ((nI 31) + r10) 63 ∧ (Fin none (u2 (u2 (u2 mi14 48 22 ((mi14 48 22) ||| ((nI 1) <<< (r10 &&& 31)))) 55 ((nI 31) + r10).toNatClampNeg (nI 1)) 48 18 ((mi14 48 18) + (nI 1))) ml14 rv mi' ml'))))) ∧ (¬ (mi14 48 38) ≤ 0 → (Fin none mi14 ml14 rv mi' ml'))))) ∧ (r13 = 0 → ((¬ (mi13 48 38) = 0 → (∃ (mi15 : MI) (ml15 : ML), Ret m_r_next [(vR 19 0 48)] none c (MRc nb db by_ rs) (u2 mi13 48 35 (nI 0)) ml13 mi15 ml15 ∧ (((mi15 48 38) ≤ 0 → ((r11 = 0 → (vp_in ((nI 31) + r10) 63 ∧ (Fin none (u2 (u2 (u2 mi15 48 22 ((mi15 48 22) ||| ((nI 1) <<< (r10 &&& 31)))) 55 ((nI 31) + r10).toNatClampNeg (nI 2)) 48 18 ((mi15 48 18) + (nI 1))) ml15 rv mi' ml'))) ∧ (¬ r11 = 0 → (vp_in ((nI 31) + r10) 63 ∧ (Fin none (u2 (u2 (u2 mi15 48 22 ((mi15 48 22) ||| ((nI 1) <<< (r10 &&& 31)))) 55 ((nI 31) + r10).toNatClampNeg (nI 1)) 48 18 ((mi15 48 18) + (nI 1))) ml15 rv mi' ml'))))) ∧ (¬ (mi15 48 38) ≤ 0 → (Fin none mi15 ml15 rv mi' ml'))))) ∧ ((mi13 48 38) = 0 → (∃ (mi16 : MI) (ml16 : ML), Ret m_r_next [(vR 19 0 48)] none c (MRc nb db by_ rs) (u2 (u2 mi13 48 38 (nI 1)) 48 35 (nI 0)) ml13 mi16 ml16 ∧ (((mi16 48 38) ≤ 0 → ((r11 = 0 → (vp_in ((nI 31) + r10) 63 ∧ (Fin none (u2 (u2 (u2 mi16 48 22 ((mi16 48 22) ||| ((nI 1) <<< (r10 &&& 31)))) 55 ((nI 31) + r10).toNatClampNeg (nI 2)) 48 18 ((mi16 48 18) + (nI 1))) ml16 rv mi' ml'))) ∧ (¬ r11 = 0 → (vp_in ((nI 31) + r10) 63 ∧ (Fin none (u2 (u2 (u2 mi16 48 22 ((mi16 48 22) ||| ((nI 1) <<< (r10 &&& 31)))) 55 ((nI 31) + r10).toNatClampNeg (nI 1)) 48 18 ((mi16 48 18) + (nI 1))) ml16 rv mi' ml'))))) ∧ (¬ (mi16 48 38) ≤ 0 → (Fin none mi16 ml16 rv mi' ml')))))))))))))))) :
    Ret m_r_readStuckOne [(vR 19 0 48)] rv c (MRc nb db by_ rs) mi ml mi' ml' := by
  intro Q hQ
  refine ok_wq inlT 400 rfl rfl ?_
  refine ⟨fun g => ?_, fun g => ?_⟩
  · have h := h.1 (g)
    obtain ⟨mi1, ml1, hR, h⟩ := h
    refine ⟨0, 0, Nat.zero_le _, Nat.zero_le _, hR _ ?_⟩
    obtain ⟨r2, mi2, ml2, hR, h⟩ := h
    refine ⟨0, 0, Nat.zero_le _, Nat.zero_le _, hR _ ?_⟩
    obtain ⟨r3, mi3, ml3, hR, h⟩ := h
    refine ⟨0, 0, Nat.zero_le _, Nat.zero_le _, hR _ ?_⟩
    refine ⟨fun g => ?_, fun g => ?_⟩
    · have h := h.1 (g)
      obtain ⟨mi4, ml4, hR, h⟩ := h
      refine ⟨0, 0, Nat.zero_le _, Nat.zero_le _, hR _ ?_⟩
      refine ⟨fun g => ?_, fun g => ?_⟩
      · have h := h.1 (g)
        refine ⟨fun g => ?_, fun g => ?_⟩
        · have h := h.1 (g)
          refine ⟨h.1, ?_⟩
          have h := h.2
          exact h.use hQ
        · have h := h.2 (g)
          refine ⟨h.1, ?_⟩
          have h := h.2
          exact h.use hQ
      · have h := h.2 (g)
        exact h.use hQ
    · have h := h.2 (g)
      obtain ⟨r5, mi5, ml5, hR, h⟩ := h
      refine ⟨0, 0, Nat.zero_le _, Nat.zero_le _, hR _ ?_⟩
      refine ⟨fun g => ?_, fun g => ?_⟩
      · have h := h.1 (g)
        obtain ⟨mi6, ml6, hR, h⟩ := h
        refine ⟨0, 0, Nat.zero_le _, Nat.zero_le _, hR _ ?_⟩
        refine ⟨fun g => ?_, fun g => ?_⟩
        · have h := h.1 (g)
          refine ⟨fun g => ?_, fun g => ?_⟩
          · have h := h.1 (g)
            refine ⟨h.1, ?_⟩
            have h := h.2
            exact h.use hQ
          · have h := h.2 (g)
            refine ⟨h.1, ?_⟩
            have h := h.2
            exact h.use hQ
        · have h := h.2 (g)
          exact h.use hQ
      · have h := h.2 (g)
        refine ⟨fun g => ?_, fun g => ?_⟩
        · have h := h.1 (g)
          obtain ⟨mi7, ml7, hR, h⟩ := h
          refine ⟨0, 0, Nat.zero_le _, Nat.zero_le _, hR _ ?_⟩
          refine ⟨fun g => ?_, fun g => ?_⟩
          · have h := h.1 (g)
            refine ⟨fun g => ?_, fun g => ?_⟩
            · have h := h.1 (g)
              refine ⟨h.1, ?_⟩
              have h := h.2
              exact h.use hQ
            · have h := h.2 (g)
              refine ⟨h.1, ?_⟩
              have h := h.2
              exact h.use hQ
          · have h := h.2 (g)
            exact h.use hQ
        · have h := h.2 (g)
          obtain ⟨mi8, ml8, hR, h⟩ := h
          refine ⟨0, 0, Nat.zero_le _, Nat.zero_le _, hR _ ?_⟩
          refine ⟨fun g => ?_, fun g => ?_⟩
          · have h := h.1 (g)
            refine ⟨fun g => ?_, fun g => ?_⟩
            · have h := h.1 (g)
              refine ⟨h.1, ?_⟩
              have h := h.2
              exact h.use hQ
            · have h := h.2 (g)
              refine ⟨h.1, ?_⟩
              have h := h.2
              exact h.use hQ
          · have h := h.2 (g)
            exact h.use hQ
  · have h := h.2 (g)
    obtain ⟨mi9, ml9, hR, h⟩ := h
    refine ⟨0, 0, Nat.zero_le _, Nat.zero_le _, hR _ ?_⟩
    obtain ⟨r10, mi10, ml10, hR, h⟩ := h
    refine ⟨0, 0, Nat.zero_le _, Nat.zero_le _, hR _ ?_⟩
    obtain ⟨r11, mi11, ml11, hR, h⟩ := h
    refine ⟨0, 0, Nat.zero_le _, Nat.zero_le _, hR _ ?_⟩
    refine ⟨fun g => ?_, fun g => ?_⟩
    · have h := h.1 (g)
      obtain ⟨mi12, ml12, hR, h⟩ := h
      refine ⟨0, 0, Nat.zero_le _, Nat.zero_le _, hR _ ?_⟩
      refine ⟨fun g => ?_, fun g => ?_⟩
      · have h := h.1 (g)
        refine ⟨fun g => ?_, fun g => ?_⟩
        · have h := h.1 (g)
          refine ⟨h.1, ?_⟩
          have h := h.2
          exact h.use hQ
        · have h := h.2 (g)
          refine ⟨h.1, ?_⟩
          have h := h.2
          exact h.use hQ
      · have h := h.2 (g)
        exact h.use hQ
    · have h := h.2 (g)
      obtain ⟨r13, mi13, ml13, hR, h⟩ := h
      refine ⟨0, 0, Nat.zero_le _, Nat.zero_le _, hR _ ?_⟩
      refine ⟨fun g => ?_, fun g => ?_⟩
      · have h := h.1 (g)
        obtain ⟨mi14, ml14, hR, h⟩ := h
        refine ⟨0, 0, Nat.zero_le _, Nat.zero_le _, hR _ ?_⟩
        refine ⟨fun g => ?_, fun g => ?_⟩
        · have h := h.1 (g)
          refine ⟨fun g => ?_, fun g => ?_⟩
          · have h := h.1 (g)
            refine ⟨h.1, ?_⟩
            have h := h.2
            exact h.use hQ
          · have h := h.2 (g)
            refine ⟨h.1, ?_⟩
            have h := h.2
            exact h.use hQ
        · have h := h.2 (g)
          exact h.use hQ
      · have h := h.2 (g)
        refine ⟨fun g => ?_, fun g => ?_⟩
        · have h := h.1 (g)
          obtain ⟨mi15, ml15, hR, h⟩ := h
          refine ⟨0, 0, Nat.zero_le _, Nat.zero_le _, hR _ ?_⟩
          refine ⟨fun g => ?_, fun g => ?_⟩
          · have h := h.1 (g)
            refine ⟨fun g => ?_, fun g => ?_⟩
            · have h := h.1 (g)
              refine ⟨h.1, ?_⟩
              have h := h.2
              exact h.use hQ
            · have h := h.2 (g)
              refine ⟨h.1, ?_⟩
              have h := h.2
              exact h.use hQ
          · have h := h.2 (g)
            exact h.use hQ
        · have h := h.2 (g)
          obtain ⟨mi16, ml16, hR, h⟩ := h
          refine ⟨0, 0, Nat.zero_le _, Nat.zero_le _, hR _ ?_⟩
          refine ⟨fun g => ?_, fun g => ?_⟩
          · have h := h.1 (g)
            refine ⟨fun g => ?_, fun g => ?_⟩
            · have h := h.1 (g)
              refine ⟨h.1, ?_⟩
              have h := h.2
              exact h.use hQ
            · have h := h.2 (g)
              refine ⟨h.1, ?_⟩
              have h := h.2
              exact h.use hQ
          · have h := h.2 (g)
            exact h.use hQ
theorem g_r_readNoiseOf_0 {nb db : Nat} {by_ rs : RX} {c : Nat} {mi mi' : MI} {ml ml' : ML} {rv : Option AV} 
    (h : (¬ (mi 48 19) = (nI 8) → (∃ (mi1 : MI) (ml1 : ML), Ret m_r_begins [(vR 19 0 48), (vI (nI 0))] none c (MRc nb db by_ rs) mi ml mi1 ml1 ∧ (∃ (r2 : Int32) (mi2 : MI) (ml2 : ML), Ret m_r_readNew [(vR 19 0 48), (vI (mi1 48 23))] (some (vI r2)) c (MRc nb db by_ rs) mi1 ml1 mi2 ml2 ∧ (∃ (r3 : Int32) (mi3 : MI) (ml3 : ML), Ret m_r_isWord [(vR 19 0 48), (vR 100 0 13)] (some (vI r3)) c (MRc nb db by_ rs) mi2 ml2 mi3 ml3 ∧ ((¬ r3 = 0 → (∃ (mi4 : MI) (ml4 : ML), Ret m_r_next [(vR 19 0 48)] none c (MRc nb db by_ rs) mi3 ml3 mi4 ml4 ∧ (∃ (r5 : Int32) (mi5 : MI) (ml5 : ML), Ret m_r_readWhole [(vR 19 0 48), (vI (nI 1)), (vI (nI 99))] (some (vI r5)) c (MRc nb db by_ rs) mi4 ml4 mi5 ml5 ∧ (((mi5 48 38) ≤ 0 → ((r3 = 0 → (vp_in r2 31 ∧ (Fin none (u2 (u2 (u2 mi5 48 23 ((mi5 48 23) ||| ((nI 1) <<< (r2 &&& 31)))) 52 r2.toNatClampNeg (-r5)) 48 19 ((mi5 48 19) + (nI 1))) ml5 rv mi' ml'))) ∧ (¬ r3 = 0 → (vp_in r2 31 ∧ (Fin none (u2 (u2 (u2 mi5 48 23 ((mi5 48 23) ||| ((nI 1) <<< (r2 &&& 31)))) 52 r2.toNatClampNeg r5) 48 19 ((mi5 48 19) + (nI 1))) ml5 rv mi' ml'))))) ∧ (¬ (mi5 48 38) ≤ 0 → (Fin none mi5 ml5 rv mi' ml')))))) ∧ (r3 = 0 → (∃ (r6 : Int32) (mi6 : MI) (ml6 : ML), Ret m_r_isWord [(vR 19 0 48), (vR 100 0 14)] (some (vI r6)) c (MRc nb db by_ rs) mi3 ml3 mi6 ml6 ∧ ((¬ r6 = 0 → (∃ (mi7 : MI) (ml7 : ML), Ret m_r_next [(vR 19 0 48)] none c (MRc nb db by_ rs) mi6 ml6 mi7 ml7 ∧ (∃ (r8 : Int32) (mi8 : MI) (ml8 : ML), Ret m_r_readWhole [(vR 19 0 48), (vI (nI 1)), (vI (nI 99))] (some (vI r8)) c (MRc nb db by_ rs) mi7 ml7 mi8 ml8 ∧ (((mi8 48 38) ≤ 0 → ((r3 = 0 → (vp_in r2 31 ∧ (Fin none (u2 (u2 (u2 mi8 48 23 ((mi8 48 23) ||| ((nI 1) <<< (r2 &&& 31)))) 52 r2.toNatClampNeg (-r8)) 48 19 ((mi8 48 19) + (nI 1))) ml8 rv mi' ml'))) ∧ (¬ r3 = 0 → (vp_in r2 31 ∧ (Fin none (u2 (u2 (u2 mi8 48 23 ((mi8 48 23) ||| ((nI 1) <<< (r2 &&& 31)))) 52 r2.toNatClampNeg r8) 48 19 ((mi8 48 19) + (nI 1))) ml8 rv mi' ml'))))) ∧ (¬ (mi8 48 38) ≤ 0 → (Fin none mi8 ml8 rv mi' ml')))))) ∧ (r6 = 0 → ((¬ (mi6 48 38) = 0 → (∃ (mi9 : MI) (ml9 : ML), Ret m_r_next [(vR 19 0 48)] none c (MRc nb db by_ rs) (u2 mi6 48 35 (nI 0)) ml6 mi9 ml9 ∧ (∃ (r10 : Int32) (mi10 : MI) (ml10 : ML), Ret m_r_readWhole [(vR 19 0 48), (vI (nI 1)), (vI (nI 99))] (some (vI r10)) c (MRc nb db by_ rs) mi9 ml9 mi10 ml10 ∧ (((mi10 48 38) ≤ 0 → ((r3 = 0 → (vp_in r2 31 ∧ (Fin none (u2 (u2 (u2 mi10 48 23 ((mi10 48 23) ||| ((nI 1) <<< (r2 &&& 31)))) 52 r2.toNatClampNeg (-r10)) 48 19 ((mi10 48 19) + (nI 1))) ml10 rv mi' ml'))) ∧ (¬ r3 = 0 → (vp_in r2 31 ∧ (Fin none (u2 (u2 (u2 mi10 48 23 ((mi10 48 23) ||| ((nI 1) <<< (r2 &&& 31)))) 52 r2.toNatClampNeg r10) 48 19 ((mi10 48 19) + (nI 1))) ml10 rv mi' ml'))))) ∧ (¬ (mi10 48 38) ≤ 0 → (Fin none mi10 ml10 rv mi' ml')))))) ∧ ((mi6 48 38) = 0 → (∃ (mi11 : MI) (ml11 : ML), Ret m_r_next [(vR 19 0 48)] none c (MRc nb db by_ rs) (u2 (u2 mi6 48 38 (nI 1)) 48 35 (nI 0)) ml6 mi11 ml11 ∧ (∃ (r12 : Int32) (mi12 : MI) (ml12 : ML), Ret m_r_readWhole [(vR 19 0 48), (vI (nI 1)), (vI (nI 99))] (some (vI r12)) c (MRc nb db by_ rs) mi11 ml11 mi12 ml12 ∧ (((mi12 48 38) ≤ 0 → ((r3 = 0 → (vp_in r2 31 ∧ (Fin none (u2 (u2 (u2 mi12 48 23 ((mi12 48 23) ||| ((nI 1) <<< (r2 &&& 31)))) 52 r2.toNatClampNeg (-r12)) 48 19 ((mi12 48 19) + (nI 1))) ml12 rv mi' ml'))) ∧ (¬ r3 = 0 → (vp_in r2 31 ∧ (Fin none (u2 (u2 (u2 mi12 48 23 ((mi12 48 23) ||| ((nI 1) <<< (r2 &&& 31)))) 52 r2.toNatClampNeg r12) 48 19 ((mi12 48 19) + (nI 1))) ml12 rv mi' ml'))))) ∧ (¬ (mi12 48 38) ≤ 0 → (Fin none mi12 ml12 rv mi' ml')))))))))))))))) ∧ ((mi 48 19) = (nI 8) → (∃ (mi13 : MI) (ml13 : ML), Ret m_r_begins [(vR 19 0 48), (vI (nI 1))] none c (MRc nb db by_ rs) mi ml mi13 ml13 ∧ (∃ (r14 : Int32) (mi14 : MI) (ml14 : ML), Ret m_r_readNew [(vR 19 0 48), (vI (mi13 48 23))] (some (vI r14)) c (MRc nb db by_ rs) mi13 ml13 mi14 ml14 ∧ (∃ (r15 : Int32) (mi15 : MI) (ml15 : ML), Ret m_r_isWord [(vR 19 0 48), (vR 100 0 13)] (some (vI r15)) c (MRc nb db by_ rs) mi14 ml14 mi15 ml15 ∧ ((¬ r15 = 0 → (∃ (mi16 : MI) (ml16 : ML), Ret m_r_next [(vR 19 0 48)] none c (MRc nb db by_ rs) mi15 ml15 mi16 ml16 ∧ (∃ (r17 : Int32) (mi17 : MI) (ml17 : ML), Ret m_r_readWhole [(vR 19 0 48), (vI (nI 1)), (vI (nI 99))] (some (vI r17)) c (MRc nb db by_ rs) mi16 ml16 mi17 ml17 ∧ (((mi17 48 38) ≤ 0 → ((r15 = 0 → (vp_in r14 31 ∧ (Fin none (u2 (u2 (u2 mi17 48 23 ((mi17 48 23) ||| ((nI 1) <<< (r14 &&& 31)))) 52 r14.toNatClampNeg (-r17)) 48 19 ((mi17 48 19) + (nI 1))) ml17 rv mi' ml'))) ∧ (¬ r15 = 0 → (vp_in r14 31 ∧ (Fin none (u2 (u2 (u2 mi17 48 23 ((mi17 48 23) ||| ((nI 1) <<< (r14 &&& 31)))) 52 r14.toNatClampNeg r17) 48 19 ((mi17 48 19) + (nI 1))) ml17 rv mi' ml'))))) ∧ (¬ (mi17 48 38) ≤ 0 → (Fin none mi17 ml17 rv mi' ml')))))) ∧ (r15 = 0 → (∃ (r18 : Int32) (mi18 : MI) (ml18 : ML), Ret m_r_isWord [(vR 19 0 48), (vR 100 0 14)] (some (vI r18)) c (MRc nb db by_ rs) mi15 ml15 mi18 ml18 ∧ ((¬ r18 = 0 → (∃ (mi19 : MI) (ml19 : ML), Ret m_r_next [(vR 19 0 48)] none c (MRc nb db by_ rs) mi18 ml18 mi19 ml19 ∧ (∃ (r20 : Int32) (mi20 : MI) (ml20 : ML), Ret m_r_readWhole [(vR 19 0 48), (vI (nI 1)), (vI (nI 99))] (some (vI r20)) c (MRc nb db by_ rs) mi19 ml19 mi20 ml20 ∧ (((mi20 48 38) ≤ 0 → ((r15 = 0 → (vp_in r14 31 ∧ (Fin none (u2 (u2 (u2 mi20 48 23 ((mi20 48 23) ||| ((nI 1) <<< (r14 &&& 31)))) 52 r14.toNatClampNeg (-r20)) 48 19 ((mi20 48 19) + (nI 1))) ml20 rv mi' ml'))) ∧ (¬ r15 = 0 → (vp_in r14 31 ∧ (Fin none (u2 (u2 (u2 mi20 48 23 ((mi20 48 23) ||| ((nI 1) <<< (r14 &&& 31)))) 52 r14.toNatClampNeg r20) 48 19 ((mi20 48 19) + (nI 1))) ml20 rv mi' ml'))))) ∧ (¬ (mi20 48 38) ≤ 0 → (Fin none mi20 ml20 rv mi' ml')))))) ∧ (r18 = 0 → ((¬ (mi18 48 38) = 0 → (∃ (mi21 : MI) (ml21 : ML), Ret m_r_next [(vR 19 0 48)] none c (MRc nb db by_ rs) (u2 mi18 48 35 (nI 0)) ml18 mi21 ml21 ∧ (∃ (r22 : Int32) (mi22 : MI) (ml22 : ML), Ret m_r_readWhole [(vR 19 0 48), (vI (nI 1)), (vI (nI 99))] (some (vI r22)) c (MRc nb db by_ rs) mi21 ml21 mi22 ml22 ∧ (((mi22 48 38) ≤ 0 → ((r15 = 0 → (vp_in r14 31 ∧ (Fin none (u2 (u2 (u2 mi22 48 23 ((mi22 48 23) ||| ((nI 1) <<< (r14 &&& 31)))) 52 r14.toNatClampNeg (-r22)) 48 19 ((mi22 48 19) + (nI 1))) ml22 rv mi' ml'))) ∧ (¬ r15 = 0 → (vp_in r14 31 ∧ (Fin none (u2 (u2 (u2 mi22 48 23 ((mi22 48 23) ||| ((nI 1) <<< (r14 &&& 31)))) 52 r14.toNatClampNeg r22) 48 19 ((mi22 48 19) + (nI 1))) ml22 rv mi' ml'))))) ∧ (¬ (mi22 48 38) ≤ 0 → (Fin none mi22 ml22 rv mi' ml')))))) ∧ ((mi18 48 38) = 0 → (∃ (mi23 : MI) (ml23 : ML), Ret m_r_next [(vR 19 0 48)] none c (MRc nb db by_ rs) (u2 (u2 mi18 48 38 (nI 1)) 48 35 (nI 0)) ml18 mi23 ml23 ∧ (∃ (r24 : Int32) (mi24 : MI) (ml24 : ML), Ret m_r_readWhole [(vR 19 0 48), (vI (nI 1)), (vI (nI 99))] (some (vI r24)) c (MRc nb db by_ rs) mi23 ml23 mi24 ml24 ∧ (((mi24 48 38) ≤ 0 → ((r15 = 0 → (vp_in r14 31 ∧ (Fin none (u2 (u2 (u2 mi24 48 23 ((mi24 48 23) ||| ((nI 1) <<< (r14 &&& 31)))) 52 r14.toNatClampNeg (-r24)) 48 19 ((mi24 48 19) + (nI 1))) ml24 rv mi' ml'))) ∧ (¬ r15 = 0 → (vp_in r14 31 ∧ (Fin none (u2 (u2 (u2 mi24 48 23 ((mi24 48 23) ||| ((nI 1) <<< (r14 &&& 31)))) 52 r14.toNatClampNeg r24) 48 19 ((mi24 48 19) + (nI 1))) ml24 rv mi' ml'))))) ∧ (¬ (mi24 48 38) ≤ 0 → (Fin none mi24 ml24 rv mi' ml'))))))))))))))))) :
    Ret m_r_readNoiseOf [(vR 19 0 48)] rv c (MRc nb db by_ rs) mi ml mi' ml' := by
  intro Q hQ
  refine ok_wq inlT 400 rfl rfl ?_
  refine ⟨fun g => ?_, fun g => ?_⟩
  · have h := h.1 (g)
    obtain ⟨mi1, ml1, hR, h⟩ := h
    refine ⟨0, 0, Nat.zero_le _, Nat.zero_le _, hR _ ?_⟩
    obtain ⟨r2, mi2, ml2, hR, h⟩ := h
    refine ⟨0, 0, Nat.zero_le _, Nat.zero_le _, hR _ ?_⟩
    refine at_ldcSw (n := 256) (i := 13) (tx := "plus") (by decide +kernel) (by decide +kernel) (by decide) ?_
    refine at_wq inlT 400 rfl ?_
    obtain ⟨r3, mi3, ml3, hR, h⟩ := h
    refine ⟨0, 0, Nat.zero_le _, Nat.zero_le _, hR _ ?_⟩
    refine ⟨fun g => ?_, fun g => ?_⟩
    · have h := h.1 (g)
      obtain ⟨mi4, ml4, hR, h⟩ := h
      refine ⟨0, 0, Nat.zero_le _, Nat.zero_le _, hR _ ?_⟩
      obtain ⟨r5, mi5, ml5, hR, h⟩ := h
      refine ⟨0, 0, Nat.zero_le _, Nat.zero_le _, hR _ ?_⟩
      refine ⟨fun g => ?_, fun g => ?_⟩
      · have h := h.1 (g)
        refine ⟨fun g => ?_, fun g => ?_⟩
        · have h := h.1 (g)
          refine ⟨h.1, ?_⟩
          have h := h.2
          exact h.use hQ
        · have h := h.2 (g)
          refine ⟨h.1, ?_⟩
          have h := h.2
          exact h.use hQ
      · have h := h.2 (g)
        exact h.use hQ
    · have h := h.2 (g)
      refine at_ldcSw (n := 258) (i := 14) (tx := "less") (by decide +kernel) (by decide +kernel) (by decide) ?_
      refine at_wq inlT 400 rfl ?_
      obtain ⟨r6, mi6, ml6, hR, h⟩ := h
      refine ⟨0, 0, Nat.zero_le _, Nat.zero_le _, hR _ ?_⟩
      refine ⟨fun g => ?_, fun g => ?_⟩
      · have h := h.1 (g)
        obtain ⟨mi7, ml7, hR, h⟩ := h
        refine ⟨0, 0, Nat.zero_le _, Nat.zero_le _, hR _ ?_⟩
        obtain ⟨r8, mi8, ml8, hR, h⟩ := h
        refine ⟨0, 0, Nat.zero_le _, Nat.zero_le _, hR _ ?_⟩
        refine ⟨fun g => ?_, fun g => ?_⟩
        · have h := h.1 (g)
          refine ⟨fun g => ?_, fun g => ?_⟩
          · have h := h.1 (g)
            refine ⟨h.1, ?_⟩
            have h := h.2
            exact h.use hQ
          · have h := h.2 (g)
            refine ⟨h.1, ?_⟩
            have h := h.2
            exact h.use hQ
        · have h := h.2 (g)
          exact h.use hQ
      · have h := h.2 (g)
        refine ⟨fun g => ?_, fun g => ?_⟩
        · have h := h.1 (g)
          obtain ⟨mi9, ml9, hR, h⟩ := h
          refine ⟨0, 0, Nat.zero_le _, Nat.zero_le _, hR _ ?_⟩
          obtain ⟨r10, mi10, ml10, hR, h⟩ := h
          refine ⟨0, 0, Nat.zero_le _, Nat.zero_le _, hR _ ?_⟩
          refine ⟨fun g => ?_, fun g => ?_⟩
          · have h := h.1 (g)
            refine ⟨fun g => ?_, fun g => ?_⟩
            · have h := h.1 (g)
              refine ⟨h.1, ?_⟩
              have h := h.2
              exact h.use hQ
            · have h := h.2 (g)
              refine ⟨h.1, ?_⟩
              have h := h.2
              exact h.use hQ
          · have h := h.2 (g)
            exact h.use hQ
        · have h := h.2 (g)
          obtain ⟨mi11, ml11, hR, h⟩ := h
          refine ⟨0, 0, Nat.zero_le _, Nat.zero_le _, hR _ ?_⟩
          obtain ⟨r12, mi12, ml12, hR, h⟩ := h
          refine ⟨0, 0, Nat.zero_le _, Nat.zero_le _, hR _ ?_⟩
          refine ⟨fun g => ?_, fun g => ?_⟩
          · have h := h.1 (g)
            refine ⟨fun g => ?_, fun g => ?_⟩
            · have h := h.1 (g)
              refine ⟨h.1, ?_⟩
              have h := h.2
              exact h.use hQ
            · have h := h.2 (g)
              refine ⟨h.1, ?_⟩
              have h := h.2
              exact h.use hQ
          · have h := h.2 (g)
            exact h.use hQ
  · have h := h.2 (g)
    obtain ⟨mi13, ml13, hR, h⟩ := h
    refine ⟨0, 0, Nat.zero_le _, Nat.zero_le _, hR _ ?_⟩
    obtain ⟨r14, mi14, ml14, hR, h⟩ := h
    refine ⟨0, 0, Nat.zero_le _, Nat.zero_le _, hR _ ?_⟩
    refine at_ldcSw (n := 256) (i := 13) (tx := "plus") (by decide +kernel) (by decide +kernel) (by decide) ?_
    refine at_wq inlT 400 rfl ?_
    obtain ⟨r15, mi15, ml15, hR, h⟩ := h
    refine ⟨0, 0, Nat.zero_le _, Nat.zero_le _, hR _ ?_⟩
    refine ⟨fun g => ?_, fun g => ?_⟩
    · have h := h.1 (g)
      obtain ⟨mi16, ml16, hR, h⟩ := h
      refine ⟨0, 0, Nat.zero_le _, Nat.zero_le _, hR _ ?_⟩
      obtain ⟨r17, mi17, ml17, hR, h⟩ := h
      refine ⟨0, 0, Nat.zero_le _, Nat.zero_le _, hR _ ?_⟩
      refine ⟨fun g => ?_, fun g => ?_⟩
      · have h := h.1 (g)
        refine ⟨fun g => ?_, fun g => ?_⟩
        · have h := h.1 (g)
          refine ⟨h.1, ?_⟩
          have h := h.2
          exact h.use hQ
        · have h := h.2 (g)
          refine ⟨h.1, ?_⟩
          have h := h.2
          exact h.use hQ
      · have h := h.2 (g)
        exact h.use hQ
    · have h := h.2 (g)
      refine at_ldcSw (n := 258) (i := 14) (tx := "less") (by decide +kernel) (by decide +kernel) (by decide) ?_
      refine at_wq inlT 400 rfl ?_
      obtain ⟨r18, mi18, ml18, hR, h⟩ := h
      refine ⟨0, 0, Nat.zero_le _, Nat.zero_le _, hR _ ?_⟩
      refine ⟨fun g => ?_, fun g => ?_⟩
      · have h := h.1 (g)
        obtain ⟨mi19, ml19, hR, h⟩ := h
        refine ⟨0, 0, Nat.zero_le _, Nat.zero_le _, hR _ ?_⟩
        obtain ⟨r20, mi20, ml20, hR, h⟩ := h
        refine ⟨0, 0, Nat.zero_le _, Nat.zero_le _, hR _ ?_⟩
        refine ⟨fun g => ?_, fun g => ?_⟩
        · have h := h.1 (g)
          refine ⟨fun g => ?_, fun g => ?_⟩
          · have h := h.1 (g)
            refine ⟨h.1, ?_⟩
            have h := h.2
            exact h.use hQ
          · have h := h.2 (g)
            refine ⟨h.1, ?_⟩
            have h := h.2
            exact h.use hQ
        · have h := h.2 (g)
          exact h.use hQ
      · have h := h.2 (g)
        refine ⟨fun g => ?_, fun g => ?_⟩
        · have h := h.1 (g)
          obtain ⟨mi21, ml21, hR, h⟩ := h
          refine ⟨0, 0, Nat.zero_le _, Nat.zero_le _, hR _ ?_⟩
          obtain ⟨r22, mi22, ml22, hR, h⟩ := h
          refine ⟨0, 0, Nat.zero_le _, Nat.zero_le _, hR _ ?_⟩
          refine ⟨fun g => ?_, fun g => ?_⟩
          · have h := h.1 (g)
            refine ⟨fun g => ?_, fun g => ?_⟩
            · have h := h.1 (g)
              refine ⟨h.1, ?_⟩
              have h := h.2
              exact h.use hQ
            · have h := h.2 (g)
              refine ⟨h.1, ?_⟩
              have h := h.2
              exact h.use hQ
          · have h := h.2 (g)
            exact h.use hQ
        · have h := h.2 (g)
          obtain ⟨mi23, ml23, hR, h⟩ := h
          refine ⟨0, 0, Nat.zero_le _, Nat.zero_le _, hR _ ?_⟩
          obtain ⟨r24, mi24, ml24, hR, h⟩ := h
          refine ⟨0, 0, Nat.zero_le _, Nat.zero_le _, hR _ ?_⟩
          refine ⟨fun g => ?_, fun g => ?_⟩
          · have h := h.1 (g)
            refine ⟨fun g => ?_, fun g => ?_⟩
            · have h := h.1 (g)
              refine ⟨h.1, ?_⟩
              have h := h.2
              exact h.use hQ
            · have h := h.2 (g)
              refine ⟨h.1, ?_⟩
              have h := h.2
              exact h.use hQ
          · have h := h.2 (g)
            exact h.use hQ
theorem g_r_readLost_0 {nb db : Nat} {by_ rs : RX} {c : Nat} {mi mi' : MI} {ml ml' : ML} {rv : Option AV} 
    (h : (¬ (mi 48 20) = (nI 3) → (∃ (mi1 : MI) (ml1 : ML), Ret m_r_begins [(vR 19 0 48), (vI (nI 0))] none c (MRc nb db by_ rs) mi ml mi1 ml1 ∧ (∃ (r2 : Int32) (mi2 : MI) (ml2 : ML), Ret m_r_readNew [(vR 19 0 48), (vI (mi1 55 62))] (some (vI r2)) c (MRc nb db by_ rs) mi1 ml1 mi2 ml2 ∧ (((mi2 48 38) ≤ 0 → (Fin none (u2 (u2 mi2 55 62 ((mi2 55 62) ||| ((nI 1) <<< (r2 &&& 31)))) 48 20 ((mi2 48 20) + (nI 1))) ml2 rv mi' ml')) ∧ (¬ (mi2 48 38) ≤ 0 → (Fin none mi2 ml2 rv mi' ml')))))) ∧ ((mi 48 20) = (nI 3) → (∃ (mi3 : MI) (ml3 : ML), Ret m_r_begins [(vR 19 0 48), (vI (nI 1))] none c (MRc nb db by_ rs) mi ml mi3 ml3 ∧ (∃ (r4 : Int32) (mi4 : MI) (ml4 : ML), Ret m_r_readNew [(vR 19 0 48), (vI (mi3 55 62))] (some (vI r4)) c (MRc nb db by_ rs) mi3 ml3 mi4 ml4 ∧ (((mi4 48 38) ≤ 0 → (Fin none (u2 (u2 mi4 55 62 ((mi4 55 62) ||| ((nI 1) <<< (r4 &&& 31)))) 48 20 ((mi4 48 20) + (nI 1))) ml4 rv mi' ml')) ∧ (¬ (mi4 48 38) ≤ 0 → (Fin none mi4 ml4 rv mi' ml'))))))) :
    Ret m_r_readLost [(vR 19 0 48)] rv c (MRc nb db by_ rs) mi ml mi' ml' := by
  intro Q hQ
  refine ok_wq inlT 400 rfl rfl ?_
  refine ⟨fun g => ?_, fun g => ?_⟩
  · have h := h.1 (g)
    obtain ⟨mi1, ml1, hR, h⟩ := h
    refine ⟨0, 0, Nat.zero_le _, Nat.zero_le _, hR _ ?_⟩
    refine ⟨vp_in_nI (by decide) (by decide), ?_⟩
    obtain ⟨r2, mi2, ml2, hR, h⟩ := h
    refine ⟨0, 0, Nat.zero_le _, Nat.zero_le _, hR _ ?_⟩
    refine ⟨fun g => ?_, fun g => ?_⟩
    · have h := h.1 (g)
      refine ⟨vp_in_nI (by decide) (by decide), ?_⟩
      refine ⟨vp_in_nI (by decide) (by decide), ?_⟩
      exact h.use hQ
    · have h := h.2 (g)
      exact h.use hQ
  · have h := h.2 (g)
    obtain ⟨mi3, ml3, hR, h⟩ := h
    refine ⟨0, 0, Nat.zero_le _, Nat.zero_le _, hR _ ?_⟩
    refine ⟨vp_in_nI (by decide) (by decide), ?_⟩
    obtain ⟨r4, mi4, ml4, hR, h⟩ := h
    refine ⟨0, 0, Nat.zero_le _, Nat.zero_le _, hR _ ?_⟩
    refine ⟨fun g => ?_, fun g => ?_⟩
    · have h := h.1 (g)
      refine ⟨vp_in_nI (by decide) (by decide), ?_⟩
      refine ⟨vp_in_nI (by decide) (by decide), ?_⟩
      exact h.use hQ
    · have h := h.2 (g)
      exact h.use hQ
theorem g_r_readMaskOf_0 {nb db : Nat} {by_ rs : RX} {c : Nat} {mi mi' : MI} {ml ml' : ML} {rv : Option AV} 
    (h : (¬ (mi 48 17) = (nI 12) → (∃ (mi1 : MI) (ml1 : ML), Ret m_r_begins [(vR 19 0 48), (vI (nI 0))] none c (MRc nb db by_ rs) mi ml mi1 ml1 ∧ (Go m_r_readMaskOf 22 [some (vR 19 0 48), some (vI (nI 0)), some (vI (nI 1))] [] rv c (MRc nb db by_ rs) mi1 ml1 mi' ml'))) ∧ ((mi 48 17) = (nI 12) → (∃ (mi2 : MI) (ml2 : ML), Ret m_r_begins [(vR 19 0 48), (vI (nI 1))] none c (MRc nb db by_ rs) mi ml mi2 ml2 ∧ (Go m_r_readMaskOf 22 [some (vR 19 0 48), some (vI (nI 0)), some (vI (nI 1))] [] rv c (MRc nb db by_ rs) mi2 ml2 mi' ml')))) :
    Ret m_r_readMaskOf [(vR 19 0 48)] rv c (MRc nb db by_ rs) mi ml mi' ml' := by
  intro Q hQ
  refine ok_wq inlT 400 rfl rfl ?_
  refine ⟨fun g => ?_, fun g => ?_⟩
  · have h := h.1 (g)
    obtain ⟨mi1, ml1, hR, h⟩ := h
    refine ⟨0, 0, Nat.zero_le _, Nat.zero_le _, hR _ ?_⟩
    exact h Q hQ
  · have h := h.2 (g)
    obtain ⟨mi2, ml2, hR, h⟩ := h
    refine ⟨0, 0, Nat.zero_le _, Nat.zero_le _, hR _ ?_⟩
    exact h Q hQ
theorem g_r_readMaskOf_22 {nb db : Nat} {by_ rs : RX} {c : Nat} {mi mi' : MI} {ml ml' : ML} {rv : Option AV} {l1 : Int32} {l2 : Int32}
    (h : (l2 = 0 → (((mi 48 38) ≤ 0 → (vp_in (mi 48 17) 12 ∧ (Fin none (u2 (u2 mi 53 (mi 48 17).toNatClampNeg l1) 48 17 ((mi 48 17) + (nI 1))) ml rv mi' ml'))) ∧ (¬ (mi 48 38) ≤ 0 → (Fin none mi ml rv mi' ml')))) ∧ (¬ l2 = 0 → (∃ (r1 : Int32) (mi1 : MI) (ml1 : ML), Ret m_r_readNew [(vR 19 0 48), (vI l1)] (some (vI r1)) c (MRc nb db by_ rs) mi ml mi1 ml1 ∧ ((¬ (mi1 48 35) = (nI 3) → (Go m_r_readMaskOf 22 [some (vR 19 0 48), some (vI (l1 ||| ((nI 1) <<< (r1 &&& 31)))), some (vI (nI 0))] [] rv c (MRc nb db by_ rs) mi1 ml1 mi' ml')) ∧ ((mi1 48 35) = (nI 3) → (Go m_r_readMaskOf 22 [some (vR 19 0 48), some (vI (l1 ||| ((nI 1) <<< (r1 &&& 31)))), some (vI (nI 1))] [] rv c (MRc nb db by_ rs) mi1 ml1 mi' ml')))))) :
    Go m_r_readMaskOf 22 [some (vR 19 0 48), some (vI l1), some (vI l2)] [] rv c (MRc nb db by_ rs) mi ml mi' ml' := by
  intro Q hQ
  refine at_wq inlT 400 rfl ?_
  refine ⟨fun g => ?_, fun g => ?_⟩
  · have h := h.1 (g)
    refine ⟨fun g => ?_, fun g => ?_⟩
    · have h := h.1 (g)
      refine ⟨h.1, ?_⟩
      have h := h.2
      exact h.use hQ
    · have h := h.2 (g)
      exact h.use hQ
  · have h := h.2 (g)
    obtain ⟨r1, mi1, ml1, hR, h⟩ := h
    refine ⟨0, 0, Nat.zero_le _, Nat.zero_le _, hR _ ?_⟩
    refine ⟨fun g => ?_, fun g => ?_⟩
    · have h := h.1 (g)
      exact h Q hQ
    · have h := h.2 (g)
      exact h Q hQ
theorem g_r_feed_0 {nb db : Nat} {by_ rs : RX} {c : Nat} {mi mi' : MI} {ml ml' : ML} {rv : Option AV} {a0 : Int32} {a1 : Int32} {a2 : Int32} {a3 : Int32} {a4 : Int32}
    (h : (((mi 48 32) + (nI 20)) ≤ (nI 800) → (Go m_r_feed 23 [some (vR 19 0 48), some (vI a0), some (vI a1), some (vI a2), some (vI a3), some (vI a4), some (vI (nI 0)), none] [] rv c (MRc nb db by_ rs) (u2 mi 48 0 (nI 0)) ml mi' ml')) ∧ (¬ ((mi 48 32) + (nI 20)) ≤ (nI 800) → (Fin (some (vI (-(nI 1)))) (u2 mi 48 0 (nI 0)) ml rv mi' ml'))) :
    Ret m_r_feed [(vR 19 0 48), (vI a0), (vI a1), (vI a2), (vI a3), (vI a4)] rv c (MRc nb db by_ rs) mi ml mi' ml' := by
  intro Q hQ
  refine ok_wq inlT 400 rfl rfl ?_
  refine ⟨fun g => ?_, fun g => ?_⟩
  · have h := h.1 (g)
    exact h Q hQ
  · have h := h.2 (g)
    exact h.use hQ
theorem g_r_feed_23 {nb db : Nat} {by_ rs : RX} {c : Nat} {mi mi' : MI} {ml ml' : ML} {rv : Option AV} {l1 : Int32} {l2 : Int32} {l3 : Int32} {l4 : Int32} {l5 : Int32} {l6 : Int32}
    (h : ((nI 20) ≤ l6 → (Fin (some (vI (mi 48 32))) mi ml rv mi' ml')) ∧ (¬ (nI 20) ≤ l6 → (((nI 4) ≤ l6 → (((nI 8) ≤ l6 → (((nI 12) ≤ l6 → (((nI 16) ≤ l6 → (vp_in (mi 48 32) 800 ∧ (Go m_r_feed 23 [some (vR 19 0 48), some (vI l1), some (vI l2), some (vI l3), some (vI l4), some (vI l5), some (vI (l6 + nI 1)), none] [] rv c (MRc nb db by_ rs) (u2 (u2 mi 57 (mi 48 32).toNatClampNeg (vp_nar .byte ((l5 >>> (((nI 24) - ((nI 8) * (rmI l6 (nI 4)))) &&& 31)).toInt8.toInt32))) 48 32 ((mi 48 32) + (nI 1))) ml mi' ml'))) ∧ (¬ (nI 16) ≤ l6 → (vp_in (mi 48 32) 800 ∧ (Go m_r_feed 23 [some (vR 19 0 48), some (vI l1), some (vI l2), some (vI l3), some (vI l4), some (vI l5), some (vI (l6 + nI 1)), none] [] rv c (MRc nb db by_ rs) (u2 (u2 mi 57 (mi 48 32).toNatClampNeg (vp_nar .byte ((l4 >>> (((nI 24) - ((nI 8) * (rmI l6 (nI 4)))) &&& 31)).toInt8.toInt32))) 48 32 ((mi 48 32) + (nI 1))) ml mi' ml'))))) ∧ (¬ (nI 12) ≤ l6 → (vp_in (mi 48 32) 800 ∧ (Go m_r_feed 23 [some (vR 19 0 48), some (vI l1), some (vI l2), some (vI l3), some (vI l4), some (vI l5), some (vI (l6 + nI 1)), none] [] rv c (MRc nb db by_ rs) (u2 (u2 mi 57 (mi 48 32).toNatClampNeg (vp_nar .byte ((l3 >>> (((nI 24) - ((nI 8) * (rmI l6 (nI 4)))) &&& 31)).toInt8.toInt32))) 48 32 ((mi 48 32) + (nI 1))) ml mi' ml'))))) ∧ (¬ (nI 8) ≤ l6 → (vp_in (mi 48 32) 800 ∧ (Go m_r_feed 23 [some (vR 19 0 48), some (vI l1), some (vI l2), some (vI l3), some (vI l4), some (vI l5), some (vI (l6 + nI 1)), none] [] rv c (MRc nb db by_ rs) (u2 (u2 mi 57 (mi 48 32).toNatClampNeg (vp_nar .byte ((l2 >>> (((nI 24) - ((nI 8) * (rmI l6 (nI 4)))) &&& 31)).toInt8.toInt32))) 48 32 ((mi 48 32) + (nI 1))) ml mi' ml'))))) ∧ (¬ (nI 4) ≤ l6 → (vp_in (mi 48 32) 800 ∧ (Go m_r_feed 23 [some (vR 19 0 48), some (vI l1), some (vI l2), some (vI l3), some (vI l4), some (vI l5), some (vI (l6 + nI 1)), none] [] rv c (MRc nb db by_ rs) (u2 (u2 mi 57 (mi 48 32).toNatClampNeg (vp_nar .byte ((l1 >>> (((nI 24) - ((nI 8) * (rmI l6 (nI 4)))) &&& 31)).toInt8.toInt32))) 48 32 ((mi 48 32) + (nI 1))) ml mi' ml')))))) :
    Go m_r_feed 23 [some (vR 19 0 48), some (vI l1), some (vI l2), some (vI l3), some (vI l4), some (vI l5), some (vI l6), none] [] rv c (MRc nb db by_ rs) mi ml mi' ml' := by
  intro Q hQ
  refine at_wq inlT 400 rfl ?_
  refine ⟨fun g => ?_, fun g => ?_⟩
  · have h := h.1 (g)
    exact h.use hQ
  · have h := h.2 (g)
    refine ⟨fun g => ?_, fun g => ?_⟩
    · have h := h.1 (g)
      refine ⟨fun g => ?_, fun g => ?_⟩
      · have h := h.1 (g)
        refine ⟨fun g => ?_, fun g => ?_⟩
        · have h := h.1 (g)
          refine ⟨fun g => ?_, fun g => ?_⟩
          · have h := h.1 (g)
            refine ⟨by decide, ?_⟩
            refine ⟨h.1, ?_⟩
            have h := h.2
            exact At.wk (h Q hQ) ⟨rfl, rfl, rfl, rfl, rfl, rfl, rfl, trivial⟩
          · have h := h.2 (g)
            refine ⟨by decide, ?_⟩
            refine ⟨h.1, ?_⟩
            have h := h.2
            exact At.wk (h Q hQ) ⟨rfl, rfl, rfl, rfl, rfl, rfl, rfl, trivial⟩
        · have h := h.2 (g)
          refine ⟨by decide, ?_⟩
          refine ⟨h.1, ?_⟩
          have h := h.2
          exact At.wk (h Q hQ) ⟨rfl, rfl, rfl, rfl, rfl, rfl, rfl, trivial⟩
      · have h := h.2 (g)
        refine ⟨by decide, ?_⟩
        refine ⟨h.1, ?_⟩
        have h := h.2
        exact At.wk (h Q hQ) ⟨rfl, rfl, rfl, rfl, rfl, rfl, rfl, trivial⟩
    · have h := h.2 (g)
      refine ⟨by decide, ?_⟩
      refine ⟨h.1, ?_⟩
      have h := h.2
      exact At.wk (h Q hQ) ⟨rfl, rfl, rfl, rfl, rfl, rfl, rfl, trivial⟩
theorem g_r_bench_0 {nb db : Nat} {by_ rs : RX} {c : Nat} {mi mi' : MI} {ml ml' : ML} {rv : Option AV} {a0 : Int32}
    (h : (a0 < 0 → (Fin (some (vI (-(nI 1)))) (u2 (u2 (u2 mi 48 0 (nI 0)) 48 1 (nI 2)) 48 2 (-(nI 1))) ml rv mi' ml')) ∧ (¬ a0 < 0 → ((a0 ≤ (mi 48 32) → (∃ (mi1 : MI) (ml1 : ML), Ret m_r_readAll [(vR 19 0 48)] none c (MRc nb db by_ rs) (u2 (u2 (u2 (u2 (u2 mi 48 0 (nI 0)) 48 33 a0) 48 32 (nI 0)) 48 34 (nI 0)) 48 38 (nI 0)) ml mi1 ml1 ∧ (((mi1 48 38) ≤ 0 → (∃ (mi2 : MI) (ml2 : ML), Ret m_r_takesOver [(vR 19 0 48)] none c (MRc nb db by_ rs) mi1 ml1 mi2 ml2 ∧ (Fin (some (vI (mi2 48 5))) (u2 (u2 mi2 48 1 (nI 0)) 48 2 (-(nI 1))) ml2 rv mi' ml'))) ∧ (¬ (mi1 48 38) ≤ 0 → (Fin (some (vI (-(nI 1)))) (u2 (u2 mi1 48 1 (nI 4)) 48 2 (mi1 48 36)) ml1 rv mi' ml'))))) ∧ (¬ a0 ≤ (mi 48 32) → (Fin (some (vI (-(nI 1)))) (u2 (u2 (u2 mi 48 0 (nI 0)) 48 1 (nI 2)) 48 2 (-(nI 1))) ml rv mi' ml'))))) :
    Ret m_r_bench [(vR 19 0 48), (vI a0)] rv c (MRc nb db by_ rs) mi ml mi' ml' := by
  intro Q hQ
  refine ok_wq inlT 400 rfl rfl ?_
  refine ⟨fun g => ?_, fun g => ?_⟩
  · have h := h.1 (g)
    exact h.use hQ
  · have h := h.2 (g)
    refine ⟨fun g => ?_, fun g => ?_⟩
    · have h := h.1 (g)
      obtain ⟨mi1, ml1, hR, h⟩ := h
      refine ⟨0, 0, Nat.zero_le _, Nat.zero_le _, hR _ ?_⟩
      refine ⟨fun g => ?_, fun g => ?_⟩
      · have h := h.1 (g)
        obtain ⟨mi2, ml2, hR, h⟩ := h
        refine ⟨0, 0, Nat.zero_le _, Nat.zero_le _, hR _ ?_⟩
        exact h.use hQ
      · have h := h.2 (g)
        exact h.use hQ
    · have h := h.2 (g)
      exact h.use hQ
theorem g_r_takesOver_0 {nb db : Nat} {by_ rs : RX} {c : Nat} {mi mi' : MI} {ml ml' : ML} {rv : Option AV} 
    (h : Go m_r_takesOver 47 [some (vR 19 0 48), some (vI (nI 0))] [] rv c (MRc nb db by_ rs) (u2 (u2 (u2 (u2 (u2 (u2 mi 48 26 (nI 1)) 48 5 (mi 48 13)) 48 6 (mi 48 14)) 48 7 (mi 48 15)) 48 8 (mi 48 16)) 48 9 (mi 48 17)) ml mi' ml') :
    Ret m_r_takesOver [(vR 19 0 48)] rv c (MRc nb db by_ rs) mi ml mi' ml' := by
  intro Q hQ
  refine ok_wq inlT 400 rfl rfl ?_
  refine ⟨Or.inr rfl, ?_⟩
  exact h Q hQ
theorem g_r_takesOver_47 {nb db : Nat} {by_ rs : RX} {c : Nat} {mi mi' : MI} {ml ml' : ML} {rv : Option AV} {l1 : Int32}
    (h : ((nI 63) ≤ l1 → (Go m_r_takesOver 73 [some (vR 19 0 48), some (vI (nI 0))] [] rv c (MRc nb db by_ rs) mi ml mi' ml')) ∧ (¬ (nI 63) ≤ l1 → (vp_in l1 63 ∧ (vp_in l1 63 ∧ (Go m_r_takesOver 47 [some (vR 19 0 48), some (vI (l1 + nI 1))] [] rv c (MRc nb db by_ rs) (u2 mi 54 l1.toNatClampNeg (mi 55 l1.toNatClampNeg)) ml mi' ml'))))) :
    Go m_r_takesOver 47 [some (vR 19 0 48), some (vI l1)] [] rv c (MRc nb db by_ rs) mi ml mi' ml' := by
  intro Q hQ
  refine at_wq inlT 400 rfl ?_
  refine ⟨fun g => ?_, fun g => ?_⟩
  · have h := h.1 (g)
    exact h Q hQ
  · have h := h.2 (g)
    refine ⟨h.1, ?_⟩
    have h := h.2
    refine ⟨h.1, ?_⟩
    have h := h.2
    exact h Q hQ
theorem g_r_takesOver_73 {nb db : Nat} {by_ rs : RX} {c : Nat} {mi mi' : MI} {ml ml' : ML} {rv : Option AV} {l1 : Int32}
    (h : ((nI 31) ≤ l1 → (Go m_r_takesOver 99 [some (vR 19 0 48), some (vI (nI 0))] [] rv c (MRc nb db by_ rs) mi ml mi' ml')) ∧ (¬ (nI 31) ≤ l1 → (vp_in l1 31 ∧ (vp_in l1 31 ∧ (Go m_r_takesOver 73 [some (vR 19 0 48), some (vI (l1 + nI 1))] [] rv c (MRc nb db by_ rs) (u2 mi 50 l1.toNatClampNeg (mi 52 l1.toNatClampNeg)) ml mi' ml'))))) :
    Go m_r_takesOver 73 [some (vR 19 0 48), some (vI l1)] [] rv c (MRc nb db by_ rs) mi ml mi' ml' := by
  intro Q hQ
  refine at_wq inlT 400 rfl ?_
  refine ⟨fun g => ?_, fun g => ?_⟩
  · have h := h.1 (g)
    exact h Q hQ
  · have h := h.2 (g)
    refine ⟨h.1, ?_⟩
    have h := h.2
    refine ⟨h.1, ?_⟩
    have h := h.2
    exact h Q hQ
theorem g_r_takesOver_99 {nb db : Nat} {by_ rs : RX} {c : Nat} {mi mi' : MI} {ml ml' : ML} {rv : Option AV} {l1 : Int32}
    (h : ((mi 48 9) ≤ l1 → ((¬ (mi 48 6) = 0 → (∃ (mi1 : MI) (ml1 : ML), Ret m_r_laysSquares [(vR 19 0 48)] none c (MRc nb db by_ rs) mi ml mi1 ml1 ∧ (Fin none (u2 (u2 (u2 (u2 (u2 mi1 48 44 (nI 0)) 48 45 (nI 0)) 48 30 (nI 0)) 48 43 (nI 0)) 48 46 (nI 0)) ml1 rv mi' ml'))) ∧ ((mi 48 6) = 0 → (∃ (mi2 : MI) (ml2 : ML), Ret m_r_laysDoubled [(vR 19 0 48)] none c (MRc nb db by_ rs) mi ml mi2 ml2 ∧ (Fin none (u2 (u2 (u2 (u2 (u2 mi2 48 44 (nI 0)) 48 45 (nI 0)) 48 30 (nI 0)) 48 43 (nI 0)) 48 46 (nI 0)) ml2 rv mi' ml'))))) ∧ (¬ (mi 48 9) ≤ l1 → (vp_in l1 12 ∧ (vp_in l1 12 ∧ (Go m_r_takesOver 99 [some (vR 19 0 48), some (vI (l1 + nI 1))] [] rv c (MRc nb db by_ rs) (u2 mi 51 l1.toNatClampNeg (mi 53 l1.toNatClampNeg)) ml mi' ml'))))) :
    Go m_r_takesOver 99 [some (vR 19 0 48), some (vI l1)] [] rv c (MRc nb db by_ rs) mi ml mi' ml' := by
  intro Q hQ
  refine at_wq inlT 400 rfl ?_
  refine ⟨fun g => ?_, fun g => ?_⟩
  · have h := h.1 (g)
    refine ⟨fun g => ?_, fun g => ?_⟩
    · have h := h.1 (g)
      obtain ⟨mi1, ml1, hR, h⟩ := h
      refine ⟨0, 0, Nat.zero_le _, Nat.zero_le _, hR _ ?_⟩
      refine ⟨Or.inl rfl, ?_⟩
      exact h.use hQ
    · have h := h.2 (g)
      obtain ⟨mi2, ml2, hR, h⟩ := h
      refine ⟨0, 0, Nat.zero_le _, Nat.zero_le _, hR _ ?_⟩
      refine ⟨Or.inl rfl, ?_⟩
      exact h.use hQ
  · have h := h.2 (g)
    refine ⟨h.1, ?_⟩
    have h := h.2
    refine ⟨h.1, ?_⟩
    have h := h.2
    exact h Q hQ
theorem g_r_laysDoubled_0 {nb db : Nat} {by_ rs : RX} {c : Nat} {mi mi' : MI} {ml ml' : ML} {rv : Option AV} 
    (h : Go m_r_laysDoubled 2 [some (vR 19 0 48), some (vI (nI 0)), none, none] [] rv c (MRc nb db by_ rs) mi ml mi' ml') :
    Ret m_r_laysDoubled [(vR 19 0 48)] rv c (MRc nb db by_ rs) mi ml mi' ml' := by
  intro Q hQ
  refine ok_wq inlT 400 rfl rfl ?_
  exact h Q hQ
theorem g_r_laysDoubled_2 {nb db : Nat} {by_ rs : RX} {c : Nat} {mi mi' : MI} {ml ml' : ML} {rv : Option AV} {l1 : Int32}
    (h : ((mi 48 5) < ((nI 1) <<< (l1 &&& 31)) → (Go m_r_laysDoubled 20 [some (vR 19 0 48), some (vI l1), some (vI (nI 0)), none] [] rv c (MRc nb db by_ rs) mi ml mi' ml')) ∧ (¬ (mi 48 5) < ((nI 1) <<< (l1 &&& 31)) → (Go m_r_laysDoubled 2 [some (vR 19 0 48), some (vI (l1 + nI 1)), none, none] [] rv c (MRc nb db by_ rs) mi ml mi' ml'))) :
    Go m_r_laysDoubled 2 [some (vR 19 0 48), some (vI l1), none, none] [] rv c (MRc nb db by_ rs) mi ml mi' ml' := by
  intro Q hQ
  refine at_wq inlT 400 rfl ?_
  refine ⟨fun g => ?_, fun g => ?_⟩
  · have h := h.1 (g)
    exact h Q hQ
  · have h := h.2 (g)
    exact h Q hQ
theorem g_r_laysDoubled_20 {nb db : Nat} {by_ rs : RX} {c : Nat} {mi mi' : MI} {ml ml' : ML} {rv : Option AV} {l1 : Int32} {l2 : Int32}
    (h : ((mi 48 5) ≤ l2 → (Fin none mi ml rv mi' ml')) ∧ (¬ (mi 48 5) ≤ l2 → (vp_in l2 31 ∧ (Go m_r_laysDoubled 37 [some (vR 19 0 48), some (vI l1), some (vI l2), some (vI (nI 0))] [] rv c (MRc nb db by_ rs) (u2 mi 49 l2.toNatClampNeg (nI 0)) ml mi' ml')))) :
    Go m_r_laysDoubled 20 [some (vR 19 0 48), some (vI l1), some (vI l2), none] [] rv c (MRc nb db by_ rs) mi ml mi' ml' := by
  intro Q hQ
  refine at_wq inlT 400 rfl ?_
  refine ⟨fun g => ?_, fun g => ?_⟩
  · have h := h.1 (g)
    exact h.use hQ
  · have h := h.2 (g)
    refine ⟨h.1, ?_⟩
    have h := h.2
    exact h Q hQ
theorem g_r_laysDoubled_37 {nb db : Nat} {by_ rs : RX} {c : Nat} {mi mi' : MI} {ml ml' : ML} {rv : Option AV} {l1 : Int32} {l2 : Int32} {l3 : Int32}
    (h : ((mi 48 5) ≤ l3 → (Go m_r_laysDoubled 20 [some (vR 19 0 48), some (vI l1), some (vI (l2 + nI 1)), none] [] rv c (MRc nb db by_ rs) mi ml mi' ml')) ∧ (¬ (mi 48 5) ≤ l3 → (∃ (r1 : Int32), Ret m_r_signAt [(vI l1), (vI (l2 + (nI 1))), (vI (l3 + (nI 1)))] (some (vI r1)) c (MRc nb db by_ rs) mi ml mi ml ∧ ((0 ≤ r1 → (Go m_r_laysDoubled 37 [some (vR 19 0 48), some (vI l1), some (vI l2), some (vI (l3 + nI 1))] [] rv c (MRc nb db by_ rs) mi ml mi' ml')) ∧ (¬ 0 ≤ r1 → (vp_in l2 31 ∧ (vp_in l2 31 ∧ (Go m_r_laysDoubled 37 [some (vR 19 0 48), some (vI l1), some (vI l2), some (vI (l3 + nI 1))] [] rv c (MRc nb db by_ rs) (u2 mi 49 l2.toNatClampNeg ((mi 49 l2.toNatClampNeg) ||| ((nI 1) <<< (l3 &&& 31)))) ml mi' ml')))))))) :
    Go m_r_laysDoubled 37 [some (vR 19 0 48), some (vI l1), some (vI l2), some (vI l3)] [] rv c (MRc nb db by_ rs) mi ml mi' ml' := by
  intro Q hQ
  refine at_wq inlT 400 rfl ?_
  refine ⟨fun g => ?_, fun g => ?_⟩
  · have h := h.1 (g)
    exact At.wk (h Q hQ) ⟨rfl, rfl, rfl, trivial⟩
  · have h := h.2 (g)
    obtain ⟨r1, hR, h⟩ := h
    refine ⟨0, 0, Nat.zero_le _, Nat.zero_le _, hR _ ?_⟩
    refine ⟨fun g => ?_, fun g => ?_⟩
    · have h := h.1 (g)
      exact h Q hQ
    · have h := h.2 (g)
      refine ⟨h.1, ?_⟩
      have h := h.2
      refine ⟨h.1, ?_⟩
      have h := h.2
      exact h Q hQ
theorem g_r_laysSquares_0 {nb db : Nat} {by_ rs : RX} {c : Nat} {mi mi' : MI} {ml ml' : ML} {rv : Option AV} 
    (h : Go m_r_laysSquares 4 [some (vR 19 0 48), some (vI (nI 1)), some (vI (nI 1)), none] [] rv c (MRc nb db by_ rs) mi ml mi' ml') :
    Ret m_r_laysSquares [(vR 19 0 48)] rv c (MRc nb db by_ rs) mi ml mi' ml' := by
  intro Q hQ
  refine ok_wq inlT 400 rfl rfl ?_
  exact h Q hQ
theorem g_r_laysSquares_4 {nb db : Nat} {by_ rs : RX} {c : Nat} {mi mi' : MI} {ml ml' : ML} {rv : Option AV} {l1 : Int32} {l2 : Int32}
    (h : ((mi 48 5) ≤ l2 → (Go m_r_laysSquares 33 [some (vR 19 0 48), some (vI l1), some (vI (nI 0)), none] [] rv c (MRc nb db by_ rs) mi ml mi' ml')) ∧ (¬ (mi 48 5) ≤ l2 → (¬ (mi 48 5) = 0 ∧ (Go m_r_laysSquares 4 [some (vR 19 0 48), some (vI (l1 ||| ((nI 1) <<< ((rmI (l2 * l2) (mi 48 5)) &&& 31)))), some (vI (l2 + nI 1)), none] [] rv c (MRc nb db by_ rs) mi ml mi' ml')))) :
    Go m_r_laysSquares 4 [some (vR 19 0 48), some (vI l1), some (vI l2), none] [] rv c (MRc nb db by_ rs) mi ml mi' ml' := by
  intro Q hQ
  refine at_wq inlT 400 rfl ?_
  refine ⟨fun g => ?_, fun g => ?_⟩
  · have h := h.1 (g)
    exact h Q hQ
  · have h := h.2 (g)
    refine ⟨h.1, ?_⟩
    have h := h.2
    exact h Q hQ
theorem g_r_laysSquares_33 {nb db : Nat} {by_ rs : RX} {c : Nat} {mi mi' : MI} {ml ml' : ML} {rv : Option AV} {l1 : Int32} {l2 : Int32}
    (h : ((mi 48 5) ≤ l2 → (Fin none mi ml rv mi' ml')) ∧ (¬ (mi 48 5) ≤ l2 → (vp_in l2 31 ∧ (Go m_r_laysSquares 33 [some (vR 19 0 48), some (vI ((l1 >>> ((nI 1) &&& 31)) ||| ((l1 &&& (nI 1)) <<< (((mi 48 5) - (nI 1)) &&& 31)))), some (vI (l2 + nI 1)), none] [] rv c (MRc nb db by_ rs) (u2 mi 49 l2.toNatClampNeg l1) ml mi' ml')))) :
    Go m_r_laysSquares 33 [some (vR 19 0 48), some (vI l1), some (vI l2), none] [] rv c (MRc nb db by_ rs) mi ml mi' ml' := by
  intro Q hQ
  refine at_wq inlT 400 rfl ?_
  refine ⟨fun g => ?_, fun g => ?_⟩
  · have h := h.1 (g)
    exact h.use hQ
  · have h := h.2 (g)
    refine ⟨h.1, ?_⟩
    have h := h.2
    exact At.wk (h Q hQ) ⟨rfl, rfl, rfl, trivial⟩
theorem g_r_fault_0 {nb db : Nat} {by_ rs : RX} {c : Nat} {mi mi' : MI} {ml ml' : ML} {rv : Option AV} 
    (h : Fin (some (vI (mi 48 38))) (u2 mi 48 0 (nI 0)) ml rv mi' ml') :
    Ret m_r_fault [(vR 19 0 48)] rv c (MRc nb db by_ rs) mi ml mi' ml' := by
  intro Q hQ
  refine ok_wq inlT 400 rfl rfl ?_
  exact h.use hQ
theorem g_r_where_0 {nb db : Nat} {by_ rs : RX} {c : Nat} {mi mi' : MI} {ml ml' : ML} {rv : Option AV} 
    (h : Fin (some (vI (mi 48 2))) (u2 mi 48 0 (nI 0)) ml rv mi' ml') :
    Ret m_r_where [(vR 19 0 48)] rv c (MRc nb db by_ rs) mi ml mi' ml' := by
  intro Q hQ
  refine ok_wq inlT 400 rfl rfl ?_
  exact h.use hQ
theorem g_r_monitor_0 {nb db : Nat} {by_ rs : RX} {c : Nat} {mi mi' : MI} {ml ml' : ML} {rv : Option AV} 
    (h : Go m_r_monitor 4 [some (vR 19 0 48), some (vI (nI 0)), some (vI (nI 0))] [] rv c (MRc nb db by_ rs) mi ml mi' ml') :
    Ret m_r_monitor [(vR 19 0 48)] rv c (MRc nb db by_ rs) mi ml mi' ml' := by
  intro Q hQ
  refine ok_wq inlT 400 rfl rfl ?_
  exact h Q hQ
theorem g_r_monitor_4 {nb db : Nat} {by_ rs : RX} {c : Nat} {mi mi' : MI} {ml ml' : ML} {rv : Option AV} {l1 : Int32} {l2 : Int32}
    (h : ((mi 48 5) ≤ l2 → (Fin (some (vI l1)) mi ml rv mi' ml')) ∧ (¬ (mi 48 5) ≤ l2 → (vp_in l2 63 ∧ (Go m_r_monitor 4 [some (vR 19 0 48), some (vI (l1 + (mi 54 l2.toNatClampNeg))), some (vI (l2 + nI 1))] [] rv c (MRc nb db by_ rs) mi ml mi' ml')))) :
    Go m_r_monitor 4 [some (vR 19 0 48), some (vI l1), some (vI l2)] [] rv c (MRc nb db by_ rs) mi ml mi' ml' := by
  intro Q hQ
  refine at_wq inlT 400 rfl ?_
  refine ⟨fun g => ?_, fun g => ?_⟩
  · have h := h.1 (g)
    exact h.use hQ
  · have h := h.2 (g)
    refine ⟨h.1, ?_⟩
    have h := h.2
    exact h Q hQ
theorem g_r_about_0 {nb db : Nat} {by_ rs : RX} {c : Nat} {mi mi' : MI} {ml ml' : ML} {rv : Option AV} {a0 : Int32}
    (h : (¬ (mi 48 26) = 0 → (Go m_r_about 19 [some (vR 19 0 48), some (vI a0)] [(vI a0)] rv c (MRc nb db by_ rs) (u2 mi 48 0 (nI 0)) ml mi' ml')) ∧ ((mi 48 26) = 0 → (Fin (some (vI (-(nI 1)))) (u2 (u2 (u2 mi 48 0 (nI 0)) 48 1 (nI 1)) 48 2 (-(nI 1))) ml rv mi' ml'))) :
    Ret m_r_about [(vR 19 0 48), (vI a0)] rv c (MRc nb db by_ rs) mi ml mi' ml' := by
  intro Q hQ
  refine ok_wq inlT 400 rfl rfl ?_
  refine ⟨fun g => ?_, fun g => ?_⟩
  · have h := h.1 (g)
    exact h Q hQ
  · have h := h.2 (g)
    exact h.use hQ
theorem g_r_about_68 {nb db : Nat} {by_ rs : RX} {c : Nat} {mi mi' : MI} {ml ml' : ML} {rv : Option AV} {a0 : Int32}
    (h : Fin (some (vI (mi 48 5))) (u2 (u2 mi 48 1 (nI 0)) 48 2 (-(nI 1))) ml rv mi' ml') :
    Go m_r_about 68 [some (vR 19 0 48), some (vI a0)] [] rv c (MRc nb db by_ rs) mi ml mi' ml' := by
  intro Q hQ
  refine at_wq inlT 400 rfl ?_
  exact h.use hQ
theorem g_r_about_77 {nb db : Nat} {by_ rs : RX} {c : Nat} {mi mi' : MI} {ml ml' : ML} {rv : Option AV} {a0 : Int32}
    (h : Fin (some (vI (mi 48 6))) (u2 (u2 mi 48 1 (nI 0)) 48 2 (-(nI 1))) ml rv mi' ml') :
    Go m_r_about 77 [some (vR 19 0 48), some (vI a0)] [] rv c (MRc nb db by_ rs) mi ml mi' ml' := by
  intro Q hQ
  refine at_wq inlT 400 rfl ?_
  exact h.use hQ
theorem g_r_about_86 {nb db : Nat} {by_ rs : RX} {c : Nat} {mi mi' : MI} {ml ml' : ML} {rv : Option AV} {a0 : Int32}
    (h : Fin (some (vI (mi 48 7))) (u2 (u2 mi 48 1 (nI 0)) 48 2 (-(nI 1))) ml rv mi' ml') :
    Go m_r_about 86 [some (vR 19 0 48), some (vI a0)] [] rv c (MRc nb db by_ rs) mi ml mi' ml' := by
  intro Q hQ
  refine at_wq inlT 400 rfl ?_
  exact h.use hQ
theorem g_r_about_95 {nb db : Nat} {by_ rs : RX} {c : Nat} {mi mi' : MI} {ml ml' : ML} {rv : Option AV} {a0 : Int32}
    (h : Fin (some (vI (mi 48 8))) (u2 (u2 mi 48 1 (nI 0)) 48 2 (-(nI 1))) ml rv mi' ml') :
    Go m_r_about 95 [some (vR 19 0 48), some (vI a0)] [] rv c (MRc nb db by_ rs) mi ml mi' ml' := by
  intro Q hQ
  refine at_wq inlT 400 rfl ?_
  exact h.use hQ
theorem g_r_about_104 {nb db : Nat} {by_ rs : RX} {c : Nat} {mi mi' : MI} {ml ml' : ML} {rv : Option AV} {a0 : Int32}
    (h : ∃ (r1 : Int32), Ret m_r_monitor [(vR 19 0 48)] (some (vI r1)) c (MRc nb db by_ rs) mi ml mi ml ∧ (Fin (some (vI r1)) (u2 (u2 mi 48 1 (nI 0)) 48 2 (-(nI 1))) ml rv mi' ml')) :
    Go m_r_about 104 [some (vR 19 0 48), some (vI a0)] [] rv c (MRc nb db by_ rs) mi ml mi' ml' := by
  intro Q hQ
  refine at_wq inlT 400 rfl ?_
  obtain ⟨r1, hR, h⟩ := h
  refine ⟨0, 0, Nat.zero_le _, Nat.zero_le _, hR _ ?_⟩
  exact h.use hQ
theorem g_r_about_113 {nb db : Nat} {by_ rs : RX} {c : Nat} {mi mi' : MI} {ml ml' : ML} {rv : Option AV} {a0 : Int32}
    (h : ∃ (r1 : Int32), Ret m_r_many [(vI (mi 49 0))] (some (vI r1)) c (MRc nb db by_ rs) mi ml mi ml ∧ (Fin (some (vI r1)) (u2 (u2 mi 48 1 (nI 0)) 48 2 (-(nI 1))) ml rv mi' ml')) :
    Go m_r_about 113 [some (vR 19 0 48), some (vI a0)] [] rv c (MRc nb db by_ rs) mi ml mi' ml' := by
  intro Q hQ
  refine at_wq inlT 400 rfl ?_
  refine ⟨vp_in_nI (by decide) (by decide), ?_⟩
  obtain ⟨r1, hR, h⟩ := h
  refine ⟨0, 0, Nat.zero_le _, Nat.zero_le _, hR _ ?_⟩
  exact h.use hQ
theorem g_r_about_127 {nb db : Nat} {by_ rs : RX} {c : Nat} {mi mi' : MI} {ml ml' : ML} {rv : Option AV} {a0 : Int32}
    (h : Fin (some (vI (mi 48 44))) (u2 (u2 mi 48 1 (nI 0)) 48 2 (-(nI 1))) ml rv mi' ml') :
    Go m_r_about 127 [some (vR 19 0 48), some (vI a0)] [] rv c (MRc nb db by_ rs) mi ml mi' ml' := by
  intro Q hQ
  refine at_wq inlT 400 rfl ?_
  exact h.use hQ
theorem g_r_about_136 {nb db : Nat} {by_ rs : RX} {c : Nat} {mi mi' : MI} {ml ml' : ML} {rv : Option AV} {a0 : Int32}
    (h : Fin (some (vI (nI 0))) (u2 (u2 mi 48 1 (nI 0)) 48 2 (-(nI 1))) ml rv mi' ml') :
    Go m_r_about 136 [some (vR 19 0 48), some (vI a0)] [] rv c (MRc nb db by_ rs) mi ml mi' ml' := by
  intro Q hQ
  refine at_wq inlT 400 rfl ?_
  exact h.use hQ
theorem g_r_about_142 {nb db : Nat} {by_ rs : RX} {c : Nat} {mi mi' : MI} {ml ml' : ML} {rv : Option AV} {a0 : Int32}
    (h : Fin (some (vI (mi 48 45))) (u2 (u2 mi 48 1 (nI 0)) 48 2 (-(nI 1))) ml rv mi' ml') :
    Go m_r_about 142 [some (vR 19 0 48), some (vI a0)] [] rv c (MRc nb db by_ rs) mi ml mi' ml' := by
  intro Q hQ
  refine at_wq inlT 400 rfl ?_
  exact h.use hQ
theorem g_r_about_151 {nb db : Nat} {by_ rs : RX} {c : Nat} {mi mi' : MI} {ml ml' : ML} {rv : Option AV} {a0 : Int32}
    (h : Fin (some (vI (-(nI 1)))) (u2 (u2 mi 48 1 (nI 1)) 48 2 (-(nI 1))) ml rv mi' ml') :
    Go m_r_about 151 [some (vR 19 0 48), some (vI a0)] [] rv c (MRc nb db by_ rs) mi ml mi' ml' := by
  intro Q hQ
  refine at_wq inlT 400 rfl ?_
  exact h.use hQ
theorem g_r_isOne_0 {nb db : Nat} {by_ rs : RX} {c : Nat} {mi mi' : MI} {ml ml' : ML} {rv : Option AV} {a0 : Int32}
    (h : ((mi 48 26) = 0 → (Fin (some (vI (nI 0))) mi ml rv mi' ml')) ∧ (¬ (mi 48 26) = 0 → ((a0 < 0 → (Fin (some (vI (nI 0))) mi ml rv mi' ml')) ∧ (¬ a0 < 0 → (((mi 48 5) ≤ a0 → (Fin (some (vI (nI 0))) mi ml rv mi' ml')) ∧ (¬ (mi 48 5) ≤ a0 → (Fin (some (vI (nI 1))) mi ml rv mi' ml'))))))) :
    Ret m_r_isOne [(vR 19 0 48), (vI a0)] rv c (MRc nb db by_ rs) mi ml mi' ml' := by
  intro Q hQ
  refine ok_wq inlT 400 rfl rfl ?_
  refine ⟨fun g => ?_, fun g => ?_⟩
  · have h := h.1 (g)
    refine ⟨Or.inl rfl, ?_⟩
    exact h.use hQ
  · have h := h.2 (g)
    refine ⟨fun g => ?_, fun g => ?_⟩
    · have h := h.1 (g)
      refine ⟨Or.inl rfl, ?_⟩
      exact h.use hQ
    · have h := h.2 (g)
      refine ⟨fun g => ?_, fun g => ?_⟩
      · have h := h.1 (g)
        refine ⟨Or.inl rfl, ?_⟩
        exact h.use hQ
      · have h := h.2 (g)
        refine ⟨Or.inr rfl, ?_⟩
        exact h.use hQ
theorem g_r_isSet_0 {nb db : Nat} {by_ rs : RX} {c : Nat} {mi mi' : MI} {ml ml' : ML} {rv : Option AV} {a0 : Int32}
    (h : (a0 < 0 → (Fin (some (vI (nI 0))) mi ml rv mi' ml')) ∧ (¬ a0 < 0 → (((mi 48 5) = (nI 31) → (Fin (some (vI (nI 1))) mi ml rv mi' ml')) ∧ (¬ (mi 48 5) = (nI 31) → ((((nI 1) <<< ((mi 48 5) &&& 31)) ≤ a0 → (Fin (some (vI (nI 0))) mi ml rv mi' ml')) ∧ (¬ ((nI 1) <<< ((mi 48 5) &&& 31)) ≤ a0 → (Fin (some (vI (nI 1))) mi ml rv mi' ml'))))))) :
    Ret m_r_isSet [(vR 19 0 48), (vI a0)] rv c (MRc nb db by_ rs) mi ml mi' ml' := by
  intro Q hQ
  refine ok_wq inlT 400 rfl rfl ?_
  refine ⟨fun g => ?_, fun g => ?_⟩
  · have h := h.1 (g)
    refine ⟨Or.inl rfl, ?_⟩
    exact h.use hQ
  · have h := h.2 (g)
    refine ⟨fun g => ?_, fun g => ?_⟩
    · have h := h.1 (g)
      refine ⟨Or.inr rfl, ?_⟩
      exact h.use hQ
    · have h := h.2 (g)
      refine ⟨fun g => ?_, fun g => ?_⟩
      · have h := h.1 (g)
        refine ⟨Or.inl rfl, ?_⟩
        exact h.use hQ
      · have h := h.2 (g)
        refine ⟨Or.inr rfl, ?_⟩
        exact h.use hQ
theorem g_r_plate_0 {nb db : Nat} {by_ rs : RX} {c : Nat} {mi mi' : MI} {ml ml' : ML} {rv : Option AV} {a0 : Int32}
    (h : ∃ (r1 : Int32), Ret m_r_isOne [(vR 19 0 48), (vI a0)] (some (vI r1)) c (MRc nb db by_ rs) (u2 mi 48 0 (nI 0)) ml (u2 mi 48 0 (nI 0)) ml ∧ ((r1 = 0 → (Fin (some (vI (-(nI 1)))) (u2 (u2 (u2 mi 48 0 (nI 0)) 48 1 (nI 1)) 48 2 (-(nI 1))) ml rv mi' ml')) ∧ (¬ r1 = 0 → (vp_in a0 31 ∧ (Fin (some (vI (mi 49 a0.toNatClampNeg))) (u2 (u2 (u2 mi 48 0 (nI 0)) 48 1 (nI 0)) 48 2 (-(nI 1))) ml rv mi' ml'))))) :
    Ret m_r_plate [(vR 19 0 48), (vI a0)] rv c (MRc nb db by_ rs) mi ml mi' ml' := by
  intro Q hQ
  refine ok_wq inlT 400 rfl rfl ?_
  obtain ⟨r1, hR, h⟩ := h
  refine ⟨0, 0, Nat.zero_le _, Nat.zero_le _, hR _ ?_⟩
  refine ⟨fun g => ?_, fun g => ?_⟩
  · have h := h.1 (g)
    exact h.use hQ
  · have h := h.2 (g)
    refine ⟨h.1, ?_⟩
    have h := h.2
    exact h.use hQ
theorem g_r_common_0 {nb db : Nat} {by_ rs : RX} {c : Nat} {mi mi' : MI} {ml ml' : ML} {rv : Option AV} {a0 : Int32} {a1 : Int32}
    (h : ∃ (r1 : Int32), Ret m_r_isOne [(vR 19 0 48), (vI a0)] (some (vI r1)) c (MRc nb db by_ rs) (u2 mi 48 0 (nI 0)) ml (u2 mi 48 0 (nI 0)) ml ∧ ((r1 = 0 → (Fin (some (vI (-(nI 1)))) (u2 (u2 (u2 mi 48 0 (nI 0)) 48 1 (nI 1)) 48 2 (-(nI 1))) ml rv mi' ml')) ∧ (¬ r1 = 0 → (∃ (r2 : Int32), Ret m_r_isOne [(vR 19 0 48), (vI a1)] (some (vI r2)) c (MRc nb db by_ rs) (u2 mi 48 0 (nI 0)) ml (u2 mi 48 0 (nI 0)) ml ∧ ((r2 = 0 → (Fin (some (vI (-(nI 1)))) (u2 (u2 (u2 mi 48 0 (nI 0)) 48 1 (nI 1)) 48 2 (-(nI 1))) ml rv mi' ml')) ∧ (¬ r2 = 0 → (vp_in a0 31 ∧ (vp_in a1 31 ∧ (∃ (r3 : Int32), Ret m_r_many [(vI ((mi 49 a0.toNatClampNeg) &&& (mi 49 a1.toNatClampNeg)))] (some (vI r3)) c (MRc nb db by_ rs) (u2 mi 48 0 (nI 0)) ml (u2 mi 48 0 (nI 0)) ml ∧ (Fin (some (vI r3)) (u2 (u2 (u2 mi 48 0 (nI 0)) 48 1 (nI 0)) 48 2 (-(nI 1))) ml rv mi' ml')))))))))) :
    Ret m_r_common [(vR 19 0 48), (vI a0), (vI a1)] rv c (MRc nb db by_ rs) mi ml mi' ml' := by
  intro Q hQ
  refine ok_wq inlT 400 rfl rfl ?_
  obtain ⟨r1, hR, h⟩ := h
  refine ⟨0, 0, Nat.zero_le _, Nat.zero_le _, hR _ ?_⟩
  refine ⟨fun g => ?_, fun g => ?_⟩
  · have h := h.1 (g)
    exact h.use hQ
  · have h := h.2 (g)
    obtain ⟨r2, hR, h⟩ := h
    refine ⟨0, 0, Nat.zero_le _, Nat.zero_le _, hR _ ?_⟩
    refine ⟨fun g => ?_, fun g => ?_⟩
    · have h := h.1 (g)
      exact h.use hQ
    · have h := h.2 (g)
      refine ⟨h.1, ?_⟩
      have h := h.2
      refine ⟨h.1, ?_⟩
      have h := h.2
      obtain ⟨r3, hR, h⟩ := h
      refine ⟨0, 0, Nat.zero_le _, Nat.zero_le _, hR _ ?_⟩
      exact h.use hQ
theorem g_r_which_0 {nb db : Nat} {by_ rs : RX} {c : Nat} {mi mi' : MI} {ml ml' : ML} {rv : Option AV} {a0 : Int32}
    (h : (¬ (mi 48 26) = 0 → (∃ (r1 : Int32), Ret m_r_isSet [(vR 19 0 48), (vI a0)] (some (vI r1)) c (MRc nb db by_ rs) (u2 mi 48 0 (nI 0)) ml (u2 mi 48 0 (nI 0)) ml ∧ ((¬ r1 = 0 → (Go m_r_which 34 [some (vR 19 0 48), some (vI a0), some (vI (nI 0))] [] rv c (MRc nb db by_ rs) (u2 mi 48 0 (nI 0)) ml mi' ml')) ∧ (r1 = 0 → (Fin (some (vI (-(nI 1)))) (u2 (u2 (u2 mi 48 0 (nI 0)) 48 1 (nI 2)) 48 2 (-(nI 1))) ml rv mi' ml'))))) ∧ ((mi 48 26) = 0 → (Fin (some (vI (-(nI 1)))) (u2 (u2 (u2 mi 48 0 (nI 0)) 48 1 (nI 1)) 48 2 (-(nI 1))) ml rv mi' ml'))) :
    Ret m_r_which [(vR 19 0 48), (vI a0)] rv c (MRc nb db by_ rs) mi ml mi' ml' := by
  intro Q hQ
  refine ok_wq inlT 400 rfl rfl ?_
  refine ⟨fun g => ?_, fun g => ?_⟩
  · have h := h.1 (g)
    obtain ⟨r1, hR, h⟩ := h
    refine ⟨0, 0, Nat.zero_le _, Nat.zero_le _, hR _ ?_⟩
    refine ⟨fun g => ?_, fun g => ?_⟩
    · have h := h.1 (g)
      exact h Q hQ
    · have h := h.2 (g)
      exact h.use hQ
  · have h := h.2 (g)
    exact h.use hQ
theorem g_r_which_34 {nb db : Nat} {by_ rs : RX} {c : Nat} {mi mi' : MI} {ml ml' : ML} {rv : Option AV} {l1 : Int32} {l2 : Int32}
    (h : ((mi 48 5) ≤ l2 → (Fin (some (vI (-(nI 2)))) (u2 (u2 mi 48 1 (nI 0)) 48 2 (-(nI 1))) ml rv mi' ml')) ∧ (¬ (mi 48 5) ≤ l2 → (vp_in l2 31 ∧ ((¬ (mi 49 l2.toNatClampNeg) = l1 → (Go m_r_which 34 [some (vR 19 0 48), some (vI l1), some (vI (l2 + nI 1))] [] rv c (MRc nb db by_ rs) mi ml mi' ml')) ∧ ((mi 49 l2.toNatClampNeg) = l1 → (Fin (some (vI l2)) (u2 (u2 mi 48 1 (nI 0)) 48 2 (-(nI 1))) ml rv mi' ml')))))) :
    Go m_r_which 34 [some (vR 19 0 48), some (vI l1), some (vI l2)] [] rv c (MRc nb db by_ rs) mi ml mi' ml' := by
  intro Q hQ
  refine at_wq inlT 400 rfl ?_
  refine ⟨fun g => ?_, fun g => ?_⟩
  · have h := h.1 (g)
    exact h.use hQ
  · have h := h.2 (g)
    refine ⟨h.1, ?_⟩
    have h := h.2
    refine ⟨fun g => ?_, fun g => ?_⟩
    · have h := h.1 (g)
      exact h Q hQ
    · have h := h.2 (g)
      exact h.use hQ
theorem g_r_apart_0 {nb db : Nat} {by_ rs : RX} {c : Nat} {mi mi' : MI} {ml ml' : ML} {rv : Option AV} {a0 : Int32}
    (h : ∃ (r1 : Int32), Ret m_r_isOne [(vR 19 0 48), (vI a0)] (some (vI r1)) c (MRc nb db by_ rs) (u2 mi 48 0 (nI 0)) ml (u2 mi 48 0 (nI 0)) ml ∧ ((¬ r1 = 0 → (Go m_r_apart 28 [some (vR 19 0 48), some (vI a0), some (vI ((mi 48 5) + (nI 1))), some (vI (nI 0)), none] [] rv c (MRc nb db by_ rs) (u2 mi 48 0 (nI 0)) ml mi' ml')) ∧ (r1 = 0 → (Fin (some (vI (-(nI 1)))) (u2 (u2 (u2 mi 48 0 (nI 0)) 48 1 (nI 1)) 48 2 (-(nI 1))) ml rv mi' ml')))) :
    Ret m_r_apart [(vR 19 0 48), (vI a0)] rv c (MRc nb db by_ rs) mi ml mi' ml' := by
  intro Q hQ
  refine ok_wq inlT 400 rfl rfl ?_
  obtain ⟨r1, hR, h⟩ := h
  refine ⟨0, 0, Nat.zero_le _, Nat.zero_le _, hR _ ?_⟩
  refine ⟨fun g => ?_, fun g => ?_⟩
  · have h := h.1 (g)
    exact h Q hQ
  · have h := h.2 (g)
    exact h.use hQ
theorem g_r_apart_28 {nb db : Nat} {by_ rs : RX} {c : Nat} {mi mi' : MI} {ml ml' : ML} {rv : Option AV} {l1 : Int32} {l2 : Int32} {l3 : Int32}
    (h : ((mi 48 5) ≤ l3 → (Fin (some (vI l2)) (u2 (u2 mi 48 1 (nI 0)) 48 2 (-(nI 1))) ml rv mi' ml')) ∧ (¬ (mi 48 5) ≤ l3 → (vp_in l1 31 ∧ (vp_in l3 31 ∧ (∃ (r1 : Int32), Ret m_r_many [(vI ((mi 49 l1.toNatClampNeg) ^^^ (mi 49 l3.toNatClampNeg)))] (some (vI r1)) c (MRc nb db by_ rs) mi ml mi ml ∧ ((l3 = l1 → (Go m_r_apart 28 [some (vR 19 0 48), some (vI l1), some (vI l2), some (vI (l3 + nI 1)), none] [] rv c (MRc nb db by_ rs) mi ml mi' ml')) ∧ (¬ l3 = l1 → ((l2 ≤ r1 → (Go m_r_apart 28 [some (vR 19 0 48), some (vI l1), some (vI l2), some (vI (l3 + nI 1)), none] [] rv c (MRc nb db by_ rs) mi ml mi' ml')) ∧ (¬ l2 ≤ r1 → (Go m_r_apart 28 [some (vR 19 0 48), some (vI l1), some (vI r1), some (vI (l3 + nI 1)), none] [] rv c (MRc nb db by_ rs) mi ml mi' ml')))))))))) :
    Go m_r_apart 28 [some (vR 19 0 48), some (vI l1), some (vI l2), some (vI l3), none] [] rv c (MRc nb db by_ rs) mi ml mi' ml' := by
  intro Q hQ
  refine at_wq inlT 400 rfl ?_
  refine ⟨fun g => ?_, fun g => ?_⟩
  · have h := h.1 (g)
    exact h.use hQ
  · have h := h.2 (g)
    refine ⟨h.1, ?_⟩
    have h := h.2
    refine ⟨h.1, ?_⟩
    have h := h.2
    obtain ⟨r1, hR, h⟩ := h
    refine ⟨0, 0, Nat.zero_le _, Nat.zero_le _, hR _ ?_⟩
    refine ⟨fun g => ?_, fun g => ?_⟩
    · have h := h.1 (g)
      exact At.wk (h Q hQ) ⟨rfl, rfl, rfl, rfl, trivial⟩
    · have h := h.2 (g)
      refine ⟨fun g => ?_, fun g => ?_⟩
      · have h := h.1 (g)
        exact At.wk (h Q hQ) ⟨rfl, rfl, rfl, rfl, trivial⟩
      · have h := h.2 (g)
        exact At.wk (h Q hQ) ⟨rfl, rfl, rfl, rfl, trivial⟩
theorem g_r_odd_0 {nb db : Nat} {by_ rs : RX} {c : Nat} {mi mi' : MI} {ml ml' : ML} {rv : Option AV} {a0 : Int32}
    (h : (¬ (mi 48 26) = 0 → (∃ (r1 : Int32), Ret m_r_isSet [(vR 19 0 48), (vI a0)] (some (vI r1)) c (MRc nb db by_ rs) (u2 mi 48 0 (nI 0)) ml (u2 mi 48 0 (nI 0)) ml ∧ ((¬ r1 = 0 → (Go m_r_odd 36 [some (vR 19 0 48), some (vI a0), some (vI (nI 0)), some (vI (nI 0))] [] rv c (MRc nb db by_ rs) (u2 mi 48 0 (nI 0)) ml mi' ml')) ∧ (r1 = 0 → (Fin (some (vI (-(nI 1)))) (u2 (u2 (u2 mi 48 0 (nI 0)) 48 1 (nI 2)) 48 2 (-(nI 1))) ml rv mi' ml'))))) ∧ ((mi 48 26) = 0 → (Fin (some (vI (-(nI 1)))) (u2 (u2 (u2 mi 48 0 (nI 0)) 48 1 (nI 1)) 48 2 (-(nI 1))) ml rv mi' ml'))) :
    Ret m_r_odd [(vR 19 0 48), (vI a0)] rv c (MRc nb db by_ rs) mi ml mi' ml' := by
  intro Q hQ
  refine ok_wq inlT 400 rfl rfl ?_
  refine ⟨fun g => ?_, fun g => ?_⟩
  · have h := h.1 (g)
    obtain ⟨r1, hR, h⟩ := h
    refine ⟨0, 0, Nat.zero_le _, Nat.zero_le _, hR _ ?_⟩
    refine ⟨fun g => ?_, fun g => ?_⟩
    · have h := h.1 (g)
      exact h Q hQ
    · have h := h.2 (g)
      exact h.use hQ
  · have h := h.2 (g)
    exact h.use hQ
theorem g_r_odd_36 {nb db : Nat} {by_ rs : RX} {c : Nat} {mi mi' : MI} {ml ml' : ML} {rv : Option AV} {l1 : Int32} {l2 : Int32} {l3 : Int32}
    (h : ((mi 48 5) ≤ l3 → (Fin (some (vI l2)) (u2 (u2 mi 48 1 (nI 0)) 48 2 (-(nI 1))) ml rv mi' ml')) ∧ (¬ (mi 48 5) ≤ l3 → (∃ (r1 : Int32), Ret m_r_has [(vI l1), (vI l3)] (some (vI r1)) c (MRc nb db by_ rs) mi ml mi ml ∧ ((r1 = 0 → (Go m_r_odd 36 [some (vR 19 0 48), some (vI l1), some (vI l2), some (vI (l3 + nI 1))] [] rv c (MRc nb db by_ rs) mi ml mi' ml')) ∧ (¬ r1 = 0 → (vp_in l3 31 ∧ (Go m_r_odd 36 [some (vR 19 0 48), some (vI l1), some (vI (l2 ^^^ (mi 49 l3.toNatClampNeg))), some (vI (l3 + nI 1))] [] rv c (MRc nb db by_ rs) mi ml mi' ml'))))))) :
    Go m_r_odd 36 [some (vR 19 0 48), some (vI l1), some (vI l2), some (vI l3)] [] rv c (MRc nb db by_ rs) mi ml mi' ml' := by
  intro Q hQ
  refine at_wq inlT 400 rfl ?_
  refine ⟨fun g => ?_, fun g => ?_⟩
  · have h := h.1 (g)
    exact h.use hQ
  · have h := h.2 (g)
    obtain ⟨r1, hR, h⟩ := h
    refine ⟨0, 0, Nat.zero_le _, Nat.zero_le _, hR _ ?_⟩
    refine ⟨fun g => ?_, fun g => ?_⟩
    · have h := h.1 (g)
      exact h Q hQ
    · have h := h.2 (g)
      refine ⟨h.1, ?_⟩
      have h := h.2
      exact h Q hQ
theorem g_r_light_0 {nb db : Nat} {by_ rs : RX} {c : Nat} {mi mi' : MI} {ml ml' : ML} {rv : Option AV} {a0 : Int32}
    (h : ∃ (r1 : Int32), Ret m_r_isOne [(vR 19 0 48), (vI a0)] (some (vI r1)) c (MRc nb db by_ rs) (u2 mi 48 0 (nI 0)) ml (u2 mi 48 0 (nI 0)) ml ∧ ((r1 = 0 → (Fin (some (vI (-(nI 1)))) (u2 (u2 (u2 mi 48 0 (nI 0)) 48 1 (nI 1)) 48 2 (-(nI 1))) ml rv mi' ml')) ∧ (¬ r1 = 0 → (vp_in a0 63 ∧ (Fin (some (vI (mi 54 a0.toNatClampNeg))) (u2 (u2 (u2 mi 48 0 (nI 0)) 48 1 (nI 0)) 48 2 (-(nI 1))) ml rv mi' ml'))))) :
    Ret m_r_light [(vR 19 0 48), (vI a0)] rv c (MRc nb db by_ rs) mi ml mi' ml' := by
  intro Q hQ
  refine ok_wq inlT 400 rfl rfl ?_
  obtain ⟨r1, hR, h⟩ := h
  refine ⟨0, 0, Nat.zero_le _, Nat.zero_le _, hR _ ?_⟩
  refine ⟨fun g => ?_, fun g => ?_⟩
  · have h := h.1 (g)
    exact h.use hQ
  · have h := h.2 (g)
    refine ⟨h.1, ?_⟩
    have h := h.2
    exact h.use hQ
theorem g_r_shutter_0 {nb db : Nat} {by_ rs : RX} {c : Nat} {mi mi' : MI} {ml ml' : ML} {rv : Option AV} {a0 : Int32}
    (h : ∃ (r1 : Int32), Ret m_r_isOne [(vR 19 0 48), (vI a0)] (some (vI r1)) c (MRc nb db by_ rs) (u2 mi 48 0 (nI 0)) ml (u2 mi 48 0 (nI 0)) ml ∧ ((r1 = 0 → (Fin (some (vI (-(nI 1)))) (u2 (u2 (u2 mi 48 0 (nI 0)) 48 1 (nI 1)) 48 2 (-(nI 1))) ml rv mi' ml')) ∧ (¬ r1 = 0 → (vp_in ((nI 31) + a0) 63 ∧ (Fin (some (vI (mi 54 ((nI 31) + a0).toNatClampNeg))) (u2 (u2 (u2 mi 48 0 (nI 0)) 48 1 (nI 0)) 48 2 (-(nI 1))) ml rv mi' ml'))))) :
    Ret m_r_shutter [(vR 19 0 48), (vI a0)] rv c (MRc nb db by_ rs) mi ml mi' ml' := by
  intro Q hQ
  refine ok_wq inlT 400 rfl rfl ?_
  obtain ⟨r1, hR, h⟩ := h
  refine ⟨0, 0, Nat.zero_le _, Nat.zero_le _, hR _ ?_⟩
  refine ⟨fun g => ?_, fun g => ?_⟩
  · have h := h.1 (g)
    exact h.use hQ
  · have h := h.2 (g)
    refine ⟨h.1, ?_⟩
    have h := h.2
    exact h.use hQ
theorem g_r_noise_0 {nb db : Nat} {by_ rs : RX} {c : Nat} {mi mi' : MI} {ml ml' : ML} {rv : Option AV} {a0 : Int32}
    (h : ∃ (r1 : Int32), Ret m_r_isOne [(vR 19 0 48), (vI a0)] (some (vI r1)) c (MRc nb db by_ rs) (u2 mi 48 0 (nI 0)) ml (u2 mi 48 0 (nI 0)) ml ∧ ((r1 = 0 → (Fin (some (vI (-(nI 2147483648)))) (u2 (u2 (u2 mi 48 0 (nI 0)) 48 1 (nI 1)) 48 2 (-(nI 1))) ml rv mi' ml')) ∧ (¬ r1 = 0 → (vp_in a0 31 ∧ (Fin (some (vI (mi 50 a0.toNatClampNeg))) (u2 (u2 (u2 mi 48 0 (nI 0)) 48 1 (nI 0)) 48 2 (-(nI 1))) ml rv mi' ml'))))) :
    Ret m_r_noise [(vR 19 0 48), (vI a0)] rv c (MRc nb db by_ rs) mi ml mi' ml' := by
  intro Q hQ
  refine ok_wq inlT 400 rfl rfl ?_
  obtain ⟨r1, hR, h⟩ := h
  refine ⟨0, 0, Nat.zero_le _, Nat.zero_le _, hR _ ?_⟩
  refine ⟨fun g => ?_, fun g => ?_⟩
  · have h := h.1 (g)
    exact h.use hQ
  · have h := h.2 (g)
    refine ⟨h.1, ?_⟩
    have h := h.2
    exact h.use hQ
theorem g_r_lost_0 {nb db : Nat} {by_ rs : RX} {c : Nat} {mi mi' : MI} {ml ml' : ML} {rv : Option AV} {a0 : Int32}
    (h : ∃ (r1 : Int32), Ret m_r_isOne [(vR 19 0 48), (vI a0)] (some (vI r1)) c (MRc nb db by_ rs) (u2 mi 48 0 (nI 0)) ml (u2 mi 48 0 (nI 0)) ml ∧ ((r1 = 0 → (Fin (some (vI (-(nI 1)))) (u2 (u2 (u2 mi 48 0 (nI 0)) 48 1 (nI 1)) 48 2 (-(nI 1))) ml rv mi' ml')) ∧ (¬ r1 = 0 → (∃ (r2 : Int32), Ret m_r_has [(vI (mi 54 62)), (vI a0)] (some (vI r2)) c (MRc nb db by_ rs) (u2 mi 48 0 (nI 0)) ml (u2 mi 48 0 (nI 0)) ml ∧ ((r2 = 0 → (Fin (some (vI (nI 0))) (u2 (u2 (u2 mi 48 0 (nI 0)) 48 1 (nI 0)) 48 2 (-(nI 1))) ml rv mi' ml')) ∧ (¬ r2 = 0 → (Fin (some (vI (nI 1))) (u2 (u2 (u2 mi 48 0 (nI 0)) 48 1 (nI 0)) 48 2 (-(nI 1))) ml rv mi' ml'))))))) :
    Ret m_r_lost [(vR 19 0 48), (vI a0)] rv c (MRc nb db by_ rs) mi ml mi' ml' := by
  intro Q hQ
  refine ok_wq inlT 400 rfl rfl ?_
  obtain ⟨r1, hR, h⟩ := h
  refine ⟨0, 0, Nat.zero_le _, Nat.zero_le _, hR _ ?_⟩
  refine ⟨fun g => ?_, fun g => ?_⟩
  · have h := h.1 (g)
    exact h.use hQ
  · have h := h.2 (g)
    refine ⟨vp_in_nI (by decide) (by decide), ?_⟩
    obtain ⟨r2, hR, h⟩ := h
    refine ⟨0, 0, Nat.zero_le _, Nat.zero_le _, hR _ ?_⟩
    refine ⟨fun g => ?_, fun g => ?_⟩
    · have h := h.1 (g)
      exact h.use hQ
    · have h := h.2 (g)
      exact h.use hQ
theorem g_r_through_0 {nb db : Nat} {by_ rs : RX} {c : Nat} {mi mi' : MI} {ml ml' : ML} {rv : Option AV} {a0 : Int32}
    (h : Go m_r_through 4 [some (vR 19 0 48), some (vI a0), some (vI (nI 0)), some (vI (nI 0)), none] [] rv c (MRc nb db by_ rs) mi ml mi' ml') :
    Ret m_r_through [(vR 19 0 48), (vI a0)] rv c (MRc nb db by_ rs) mi ml mi' ml' := by
  intro Q hQ
  refine ok_wq inlT 400 rfl rfl ?_
  exact h Q hQ
theorem g_r_through_4 {nb db : Nat} {by_ rs : RX} {c : Nat} {mi mi' : MI} {ml ml' : ML} {rv : Option AV} {l1 : Int32} {l2 : Int32} {l3 : Int32}
    (h : ((mi 48 5) ≤ l3 → (Fin (some (vI l2)) mi ml rv mi' ml')) ∧ (¬ (mi 48 5) ≤ l3 → (vp_in ((nI 31) + l3) 63 ∧ (((mi 54 ((nI 31) + l3).toNatClampNeg) = (nI 1) → (vp_in l3 63 ∧ (Go m_r_through 4 [some (vR 19 0 48), some (vI l1), some (vI (l2 + (mi 54 l3.toNatClampNeg))), some (vI (l3 + nI 1)), none] [] rv c (MRc nb db by_ rs) mi ml mi' ml'))) ∧ (¬ (mi 54 ((nI 31) + l3).toNatClampNeg) = (nI 1) → (∃ (r1 : Int32), Ret m_r_has [(vI l1), (vI l3)] (some (vI r1)) c (MRc nb db by_ rs) mi ml mi ml ∧ ((r1 = 0 → (Go m_r_through 4 [some (vR 19 0 48), some (vI l1), some (vI l2), some (vI (l3 + nI 1)), none] [] rv c (MRc nb db by_ rs) mi ml mi' ml')) ∧ (¬ r1 = 0 → (((mi 54 ((nI 31) + l3).toNatClampNeg) = (nI 2) → (Go m_r_through 4 [some (vR 19 0 48), some (vI l1), some (vI l2), some (vI (l3 + nI 1)), none] [] rv c (MRc nb db by_ rs) mi ml mi' ml')) ∧ (¬ (mi 54 ((nI 31) + l3).toNatClampNeg) = (nI 2) → (vp_in l3 63 ∧ (Go m_r_through 4 [some (vR 19 0 48), some (vI l1), some (vI (l2 + (mi 54 l3.toNatClampNeg))), some (vI (l3 + nI 1)), none] [] rv c (MRc nb db by_ rs) mi ml mi' ml')))))))))))) :
    Go m_r_through 4 [some (vR 19 0 48), some (vI l1), some (vI l2), some (vI l3), none] [] rv c (MRc nb db by_ rs) mi ml mi' ml' := by
  intro Q hQ
  refine at_wq inlT 400 rfl ?_
  refine ⟨fun g => ?_, fun g => ?_⟩
  · have h := h.1 (g)
    exact h.use hQ
  · have h := h.2 (g)
    refine ⟨h.1, ?_⟩
    have h := h.2
    refine ⟨fun g => ?_, fun g => ?_⟩
    · have h := h.1 (g)
      refine ⟨h.1, ?_⟩
      have h := h.2
      exact At.wk (h Q hQ) ⟨rfl, rfl, rfl, rfl, trivial⟩
    · have h := h.2 (g)
      obtain ⟨r1, hR, h⟩ := h
      refine ⟨0, 0, Nat.zero_le _, Nat.zero_le _, hR _ ?_⟩
      refine ⟨fun g => ?_, fun g => ?_⟩
      · have h := h.1 (g)
        exact At.wk (h Q hQ) ⟨rfl, rfl, rfl, rfl, trivial⟩
      · have h := h.2 (g)
        refine ⟨fun g => ?_, fun g => ?_⟩
        · have h := h.1 (g)
          exact At.wk (h Q hQ) ⟨rfl, rfl, rfl, rfl, trivial⟩
        · have h := h.2 (g)
          refine ⟨h.1, ?_⟩
          have h := h.2
          exact At.wk (h Q hQ) ⟨rfl, rfl, rfl, rfl, trivial⟩
theorem g_r_looks_0 {nb db : Nat} {by_ rs : RX} {c : Nat} {mi mi' : MI} {ml ml' : ML} {rv : Option AV} {a0 : Int32}
    (h : ∃ (r1 : Int32), Ret m_r_through [(vR 19 0 48), (vI a0)] (some (vI r1)) c (MRc nb db by_ rs) (u2 mi 48 44 ((mi 48 44) + (nI 1))) ml (u2 mi 48 44 ((mi 48 44) + (nI 1))) ml ∧ (((mi 48 8) < ((mi 48 7) + r1) → (Fin (some (vI (-(nI 1)))) (u2 (u2 mi 48 44 ((mi 48 44) + (nI 1))) 48 45 ((mi 48 45) + (nI 1))) ml rv mi' ml')) ∧ (¬ (mi 48 8) < ((mi 48 7) + r1) → (Fin (some (vI ((mi 48 7) + r1))) (u2 mi 48 44 ((mi 48 44) + (nI 1))) ml rv mi' ml')))) :
    Ret m_r_looks [(vR 19 0 48), (vI a0)] rv c (MRc nb db by_ rs) mi ml mi' ml' := by
  intro Q hQ
  refine ok_wq inlT 400 rfl rfl ?_
  obtain ⟨r1, hR, h⟩ := h
  refine ⟨0, 0, Nat.zero_le _, Nat.zero_le _, hR _ ?_⟩
  refine ⟨fun g => ?_, fun g => ?_⟩
  · have h := h.1 (g)
    exact h.use hQ
  · have h := h.2 (g)
    exact h.use hQ
theorem g_r_look_0 {nb db : Nat} {by_ rs : RX} {c : Nat} {mi mi' : MI} {ml ml' : ML} {rv : Option AV} {a0 : Int32}
    (h : (¬ (mi 48 26) = 0 → (∃ (r1 : Int32), Ret m_r_isSet [(vR 19 0 48), (vI a0)] (some (vI r1)) c (MRc nb db by_ rs) (u2 mi 48 0 (nI 0)) ml (u2 mi 48 0 (nI 0)) ml ∧ ((¬ r1 = 0 → (∃ (r2 : Int32) (mi2 : MI) (ml2 : ML), Ret m_r_looks [(vR 19 0 48), (vI a0)] (some (vI r2)) c (MRc nb db by_ rs) (u2 mi 48 0 (nI 0)) ml mi2 ml2 ∧ ((¬ r2 = (-(nI 1)) → ((¬ (mi2 48 43) = (nI 20) → (vp_in (mi2 48 43) 20 ∧ (vp_in (mi2 48 43) 20 ∧ (Fin (some (vI r2)) (u2 (u2 (u2 (u2 (u2 mi2 58 (mi2 48 43).toNatClampNeg a0) 59 (mi2 48 43).toNatClampNeg r2) 48 43 ((mi2 48 43) + (nI 1))) 48 1 (nI 0)) 48 2 (-(nI 1))) ml2 rv mi' ml')))) ∧ ((mi2 48 43) = (nI 20) → (Go m_r_look 60 [some (vR 19 0 48), some (vI a0), some (vI r2), some (vI (nI 1))] [] rv c (MRc nb db by_ rs) mi2 ml2 mi' ml')))) ∧ (r2 = (-(nI 1)) → (Fin (some (vI (-(nI 1)))) (u2 (u2 mi2 48 1 (nI 5)) 48 2 (-(nI 1))) ml2 rv mi' ml'))))) ∧ (r1 = 0 → (Fin (some (vI (-(nI 1)))) (u2 (u2 (u2 mi 48 0 (nI 0)) 48 1 (nI 2)) 48 2 (-(nI 1))) ml rv mi' ml'))))) ∧ ((mi 48 26) = 0 → (Fin (some (vI (-(nI 1)))) (u2 (u2 (u2 mi 48 0 (nI 0)) 48 1 (nI 1)) 48 2 (-(nI 1))) ml rv mi' ml'))) :
    Ret m_r_look [(vR 19 0 48), (vI a0)] rv c (MRc nb db by_ rs) mi ml mi' ml' := by
  intro Q hQ
  refine ok_wq inlT 400 rfl rfl ?_
  refine ⟨fun g => ?_, fun g => ?_⟩
  · have h := h.1 (g)
    obtain ⟨r1, hR, h⟩ := h
    refine ⟨0, 0, Nat.zero_le _, Nat.zero_le _, hR _ ?_⟩
    refine ⟨fun g => ?_, fun g => ?_⟩
    · have h := h.1 (g)
      obtain ⟨r2, mi2, ml2, hR, h⟩ := h
      refine ⟨0, 0, Nat.zero_le _, Nat.zero_le _, hR _ ?_⟩
      refine ⟨fun g => ?_, fun g => ?_⟩
      · have h := h.1 (g)
        refine ⟨fun g => ?_, fun g => ?_⟩
        · have h := h.1 (g)
          refine ⟨h.1, ?_⟩
          have h := h.2
          refine ⟨h.1, ?_⟩
          have h := h.2
          exact h.use hQ
        · have h := h.2 (g)
          exact h Q hQ
      · have h := h.2 (g)
        exact h.use hQ
    · have h := h.2 (g)
      exact h.use hQ
  · have h := h.2 (g)
    exact h.use hQ
theorem g_r_look_60 {nb db : Nat} {by_ rs : RX} {c : Nat} {mi mi' : MI} {ml ml' : ML} {rv : Option AV} {l1 : Int32} {l2 : Int32} {l3 : Int32}
    (h : ((nI 20) ≤ l3 → (vp_in ((mi 48 43) - (nI 1)) 20 ∧ (vp_in ((mi 48 43) - (nI 1)) 20 ∧ (Fin (some (vI l2)) (u2 (u2 (u2 (u2 (u2 (u2 mi 48 43 ((mi 48 43) - (nI 1))) 58 ((mi 48 43) - (nI 1)).toNatClampNeg l1) 59 ((mi 48 43) - (nI 1)).toNatClampNeg l2) 48 43 (((mi 48 43) - (nI 1)) + (nI 1))) 48 1 (nI 0)) 48 2 (-(nI 1))) ml rv mi' ml')))) ∧ (¬ (nI 20) ≤ l3 → (vp_in l3 20 ∧ (vp_in (l3 - (nI 1)) 20 ∧ (vp_in l3 20 ∧ (vp_in (l3 - (nI 1)) 20 ∧ (Go m_r_look 60 [some (vR 19 0 48), some (vI l1), some (vI l2), some (vI (l3 + nI 1))] [] rv c (MRc nb db by_ rs) (u2 (u2 mi 58 (l3 - (nI 1)).toNatClampNeg (mi 58 l3.toNatClampNeg)) 59 (l3 - (nI 1)).toNatClampNeg (mi 59 l3.toNatClampNeg)) ml mi' ml'))))))) :
    Go m_r_look 60 [some (vR 19 0 48), some (vI l1), some (vI l2), some (vI l3)] [] rv c (MRc nb db by_ rs) mi ml mi' ml' := by
  intro Q hQ
  refine at_wq inlT 400 rfl ?_
  refine ⟨fun g => ?_, fun g => ?_⟩
  · have h := h.1 (g)
    refine ⟨h.1, ?_⟩
    have h := h.2
    refine ⟨h.1, ?_⟩
    have h := h.2
    exact h.use hQ
  · have h := h.2 (g)
    refine ⟨h.1, ?_⟩
    have h := h.2
    refine ⟨h.1, ?_⟩
    have h := h.2
    refine ⟨h.1, ?_⟩
    have h := h.2
    refine ⟨h.1, ?_⟩
    have h := h.2
    exact h Q hQ
theorem g_r_logged_0 {nb db : Nat} {by_ rs : RX} {c : Nat} {mi mi' : MI} {ml ml' : ML} {rv : Option AV} {a0 : Int32} {a1 : Int32}
    (h : ((mi 48 26) = 0 → (Fin (some (vI (-(nI 1)))) (u2 (u2 (u2 mi 48 0 (nI 0)) 48 1 (nI 1)) 48 2 (-(nI 1))) ml rv mi' ml')) ∧ (¬ (mi 48 26) = 0 → ((a0 < 0 → (Fin (some (vI (-(nI 1)))) (u2 (u2 (u2 mi 48 0 (nI 0)) 48 1 (nI 1)) 48 2 (-(nI 1))) ml rv mi' ml')) ∧ (¬ a0 < 0 → (((mi 48 43) ≤ a0 → (Fin (some (vI (-(nI 1)))) (u2 (u2 (u2 mi 48 0 (nI 0)) 48 1 (nI 1)) 48 2 (-(nI 1))) ml rv mi' ml')) ∧ (¬ (mi 48 43) ≤ a0 → ((a1 < (nI 0) → (Fin (some (vI (-(nI 1)))) (u2 (u2 (u2 mi 48 0 (nI 0)) 48 1 (nI 1)) 48 2 (-(nI 1))) ml rv mi' ml')) ∧ (¬ a1 < (nI 0) → (((nI 1) < a1 → (Fin (some (vI (-(nI 1)))) (u2 (u2 (u2 mi 48 0 (nI 0)) 48 1 (nI 1)) 48 2 (-(nI 1))) ml rv mi' ml')) ∧ (¬ (nI 1) < a1 → ((¬ a1 = 0 → (vp_in (((mi 48 43) - (nI 1)) - a0) 20 ∧ (Fin (some (vI (mi 59 (((mi 48 43) - (nI 1)) - a0).toNatClampNeg))) (u2 (u2 (u2 mi 48 0 (nI 0)) 48 1 (nI 0)) 48 2 (-(nI 1))) ml rv mi' ml'))) ∧ (a1 = 0 → (vp_in (((mi 48 43) - (nI 1)) - a0) 20 ∧ (Fin (some (vI (mi 58 (((mi 48 43) - (nI 1)) - a0).toNatClampNeg))) (u2 (u2 (u2 mi 48 0 (nI 0)) 48 1 (nI 0)) 48 2 (-(nI 1))) ml rv mi' ml')))))))))))))) :
    Ret m_r_logged [(vR 19 0 48), (vI a0), (vI a1)] rv c (MRc nb db by_ rs) mi ml mi' ml' := by
  intro Q hQ
  refine ok_wq inlT 400 rfl rfl ?_
  refine ⟨fun g => ?_, fun g => ?_⟩
  · have h := h.1 (g)
    exact h.use hQ
  · have h := h.2 (g)
    refine ⟨fun g => ?_, fun g => ?_⟩
    · have h := h.1 (g)
      exact h.use hQ
    · have h := h.2 (g)
      refine ⟨fun g => ?_, fun g => ?_⟩
      · have h := h.1 (g)
        exact h.use hQ
      · have h := h.2 (g)
        refine ⟨fun g => ?_, fun g => ?_⟩
        · have h := h.1 (g)
          refine ⟨Or.inl rfl, ?_⟩
          refine ⟨fun g => absurd (show ¬ (nI 0) = 0 from g) (by decide), fun _ => ?_⟩
          exact h.use hQ
        · have h := h.2 (g)
          refine ⟨fun g => ?_, fun g => ?_⟩
          · have h := h.1 (g)
            refine ⟨Or.inl rfl, ?_⟩
            refine ⟨fun g => absurd (show ¬ (nI 0) = 0 from g) (by decide), fun _ => ?_⟩
            exact h.use hQ
          · have h := h.2 (g)
            refine ⟨Or.inr rfl, ?_⟩
            refine ⟨fun _ => ?_, fun g => absurd (show (nI 1) = 0 from g) (by decide)⟩
            refine ⟨fun g => ?_, fun g => ?_⟩
            · have h := h.1 (g)
              refine ⟨h.1, ?_⟩
              have h := h.2
              exact h.use hQ
            · have h := h.2 (g)
              refine ⟨h.1, ?_⟩
              have h := h.2
              exact h.use hQ
theorem g_r_scan_0 {nb db : Nat} {by_ rs : RX} {c : Nat} {mi mi' : MI} {ml ml' : ML} {rv : Option AV} 
    (h : (¬ (mi 48 26) = 0 → (Go m_r_scan 27 [some (vR 19 0 48), some (vI (nI 0)), some (vI (nI 0)), none] [] rv c (MRc nb db by_ rs) (u2 (u2 mi 48 0 (nI 0)) 48 46 (nI 0)) ml mi' ml')) ∧ ((mi 48 26) = 0 → (Fin (some (vI (-(nI 1)))) (u2 (u2 (u2 mi 48 0 (nI 0)) 48 1 (nI 1)) 48 2 (-(nI 1))) ml rv mi' ml'))) :
    Ret m_r_scan [(vR 19 0 48)] rv c (MRc nb db by_ rs) mi ml mi' ml' := by
  intro Q hQ
  refine ok_wq inlT 400 rfl rfl ?_
  refine ⟨fun g => ?_, fun g => ?_⟩
  · have h := h.1 (g)
    refine ⟨Or.inl rfl, ?_⟩
    exact h Q hQ
  · have h := h.2 (g)
    exact h.use hQ
theorem g_r_scan_27 {nb db : Nat} {by_ rs : RX} {c : Nat} {mi mi' : MI} {ml ml' : ML} {rv : Option AV} {l1 : Int32} {l2 : Int32}
    (h : ((mi 48 5) ≤ l2 → (Fin (some (vI l1)) (u2 (u2 (u2 mi 48 46 (nI 1)) 48 1 (nI 0)) 48 2 (-(nI 1))) ml rv mi' ml')) ∧ (¬ (mi 48 5) ≤ l2 → (∃ (r1 : Int32), Ret m_r_has [(vI (mi 54 62)), (vI l2)] (some (vI r1)) c (MRc nb db by_ rs) mi ml mi ml ∧ ((r1 = 0 → (vp_in l2 31 ∧ (∃ (r2 : Int32) (mi2 : MI) (ml2 : ML), Ret m_r_looks [(vR 19 0 48), (vI (mi 49 l2.toNatClampNeg))] (some (vI r2)) c (MRc nb db by_ rs) mi ml mi2 ml2 ∧ ((¬ r2 = (-(nI 1)) → (vp_in l2 31 ∧ (vp_in l2 31 ∧ (Go m_r_scan 27 [some (vR 19 0 48), some (vI (l1 + nI 1)), some (vI (l2 + nI 1)), none] [] rv c (MRc nb db by_ rs) (u2 mi2 60 l2.toNatClampNeg (r2 + (mi2 50 l2.toNatClampNeg))) ml2 mi' ml')))) ∧ (r2 = (-(nI 1)) → (Fin (some (vI (-(nI 1)))) (u2 (u2 mi2 48 1 (nI 5)) 48 2 (-(nI 1))) ml2 rv mi' ml')))))) ∧ (¬ r1 = 0 → (Go m_r_scan 27 [some (vR 19 0 48), some (vI l1), some (vI (l2 + nI 1)), none] [] rv c (MRc nb db by_ rs) mi ml mi' ml')))))) :
    Go m_r_scan 27 [some (vR 19 0 48), some (vI l1), some (vI l2), none] [] rv c (MRc nb db by_ rs) mi ml mi' ml' := by
  intro Q hQ
  refine at_wq inlT 400 rfl ?_
  refine ⟨fun g => ?_, fun g => ?_⟩
  · have h := h.1 (g)
    refine ⟨Or.inr rfl, ?_⟩
    exact h.use hQ
  · have h := h.2 (g)
    refine ⟨vp_in_nI (by decide) (by decide), ?_⟩
    obtain ⟨r1, hR, h⟩ := h
    refine ⟨0, 0, Nat.zero_le _, Nat.zero_le _, hR _ ?_⟩
    refine ⟨fun g => ?_, fun g => ?_⟩
    · have h := h.1 (g)
      refine ⟨h.1, ?_⟩
      have h := h.2
      obtain ⟨r2, mi2, ml2, hR, h⟩ := h
      refine ⟨0, 0, Nat.zero_le _, Nat.zero_le _, hR _ ?_⟩
      refine ⟨fun g => ?_, fun g => ?_⟩
      · have h := h.1 (g)
        refine ⟨h.1, ?_⟩
        have h := h.2
        refine ⟨h.1, ?_⟩
        have h := h.2
        exact At.wk (h Q hQ) ⟨rfl, rfl, rfl, trivial⟩
      · have h := h.2 (g)
        exact h.use hQ
    · have h := h.2 (g)
      exact h Q hQ
theorem g_r_blinds_0 {nb db : Nat} {by_ rs : RX} {c : Nat} {mi mi' : MI} {ml ml' : ML} {rv : Option AV} 
    (h : (¬ (mi 48 26) = 0 → (Go m_r_blinds 22 [some (vR 19 0 48), some (vI (nI 0)), some (vI (nI 0))] [] rv c (MRc nb db by_ rs) (u2 mi 48 0 (nI 0)) ml mi' ml')) ∧ ((mi 48 26) = 0 → (Fin (some (vI (-(nI 1)))) (u2 (u2 (u2 mi 48 0 (nI 0)) 48 1 (nI 1)) 48 2 (-(nI 1))) ml rv mi' ml'))) :
    Ret m_r_blinds [(vR 19 0 48)] rv c (MRc nb db by_ rs) mi ml mi' ml' := by
  intro Q hQ
  refine ok_wq inlT 400 rfl rfl ?_
  refine ⟨fun g => ?_, fun g => ?_⟩
  · have h := h.1 (g)
    exact h Q hQ
  · have h := h.2 (g)
    exact h.use hQ
theorem g_r_blinds_22 {nb db : Nat} {by_ rs : RX} {c : Nat} {mi mi' : MI} {ml ml' : ML} {rv : Option AV} {l1 : Int32} {l2 : Int32}
    (h : ((mi 48 5) ≤ l2 → (Fin (some (vI (-(nI 2)))) (u2 (u2 mi 48 1 (nI 0)) 48 2 (-(nI 1))) ml rv mi' ml')) ∧ (¬ (mi 48 5) ≤ l2 → (∃ (r1 : Int32), Ret m_r_has [(vI (mi 54 62)), (vI l2)] (some (vI r1)) c (MRc nb db by_ rs) mi ml mi ml ∧ ((r1 = 0 → (vp_in l2 31 ∧ (∃ (r2 : Int32), Ret m_r_through [(vR 19 0 48), (vI (mi 49 l2.toNatClampNeg))] (some (vI r2)) c (MRc nb db by_ rs) mi ml mi ml ∧ ((((mi 48 7) + r2) ≤ (mi 48 8) → (Go m_r_blinds 22 [some (vR 19 0 48), some (vI (l1 + nI 1)), some (vI (l2 + nI 1))] [] rv c (MRc nb db by_ rs) mi ml mi' ml')) ∧ (¬ ((mi 48 7) + r2) ≤ (mi 48 8) → (Fin (some (vI l1)) (u2 (u2 mi 48 1 (nI 0)) 48 2 (-(nI 1))) ml rv mi' ml')))))) ∧ (¬ r1 = 0 → (Go m_r_blinds 22 [some (vR 19 0 48), some (vI l1), some (vI (l2 + nI 1))] [] rv c (MRc nb db by_ rs) mi ml mi' ml')))))) :
    Go m_r_blinds 22 [some (vR 19 0 48), some (vI l1), some (vI l2)] [] rv c (MRc nb db by_ rs) mi ml mi' ml' := by
  intro Q hQ
  refine at_wq inlT 400 rfl ?_
  refine ⟨fun g => ?_, fun g => ?_⟩
  · have h := h.1 (g)
    exact h.use hQ
  · have h := h.2 (g)
    refine ⟨vp_in_nI (by decide) (by decide), ?_⟩
    obtain ⟨r1, hR, h⟩ := h
    refine ⟨0, 0, Nat.zero_le _, Nat.zero_le _, hR _ ?_⟩
    refine ⟨fun g => ?_, fun g => ?_⟩
    · have h := h.1 (g)
      refine ⟨h.1, ?_⟩
      have h := h.2
      obtain ⟨r2, hR, h⟩ := h
      refine ⟨0, 0, Nat.zero_le _, Nat.zero_le _, hR _ ?_⟩
      refine ⟨fun g => ?_, fun g => ?_⟩
      · have h := h.1 (g)
        exact h Q hQ
      · have h := h.2 (g)
        exact h.use hQ
    · have h := h.2 (g)
      exact h Q hQ
theorem g_r_reading_0 {nb db : Nat} {by_ rs : RX} {c : Nat} {mi mi' : MI} {ml ml' : ML} {rv : Option AV} {a0 : Int32}
    (h : ∃ (r1 : Int32), Ret m_r_isOne [(vR 19 0 48), (vI a0)] (some (vI r1)) c (MRc nb db by_ rs) (u2 mi 48 0 (nI 0)) ml (u2 mi 48 0 (nI 0)) ml ∧ ((¬ r1 = 0 → (((mi 48 46) = 0 → (Fin (some (vI (-(nI 2147483648)))) (u2 (u2 (u2 mi 48 0 (nI 0)) 48 1 (nI 5)) 48 2 (-(nI 1))) ml rv mi' ml')) ∧ (¬ (mi 48 46) = 0 → (∃ (r2 : Int32), Ret m_r_has [(vI (mi 54 62)), (vI a0)] (some (vI r2)) c (MRc nb db by_ rs) (u2 mi 48 0 (nI 0)) ml (u2 mi 48 0 (nI 0)) ml ∧ ((¬ r2 = 0 → (Fin (some (vI (-(nI 2147483648)))) (u2 (u2 (u2 mi 48 0 (nI 0)) 48 1 (nI 5)) 48 2 (-(nI 1))) ml rv mi' ml')) ∧ (r2 = 0 → (vp_in a0 31 ∧ (Fin (some (vI (mi 60 a0.toNatClampNeg))) (u2 (u2 (u2 mi 48 0 (nI 0)) 48 1 (nI 0)) 48 2 (-(nI 1))) ml rv mi' ml')))))))) ∧ (r1 = 0 → (Fin (some (vI (-(nI 2147483648)))) (u2 (u2 (u2 mi 48 0 (nI 0)) 48 1 (nI 1)) 48 2 (-(nI 1))) ml rv mi' ml')))) :
    Ret m_r_reading [(vR 19 0 48), (vI a0)] rv c (MRc nb db by_ rs) mi ml mi' ml' := by
  intro Q hQ
  refine ok_wq inlT 400 rfl rfl ?_
  obtain ⟨r1, hR, h⟩ := h
  refine ⟨0, 0, Nat.zero_le _, Nat.zero_le _, hR _ ?_⟩
  refine ⟨fun g => ?_, fun g => ?_⟩
  · have h := h.1 (g)
    refine ⟨fun g => ?_, fun g => ?_⟩
    · have h := h.1 (g)
      exact h.use hQ
    · have h := h.2 (g)
      refine ⟨vp_in_nI (by decide) (by decide), ?_⟩
      obtain ⟨r2, hR, h⟩ := h
      refine ⟨0, 0, Nat.zero_le _, Nat.zero_le _, hR _ ?_⟩
      refine ⟨fun g => ?_, fun g => ?_⟩
      · have h := h.1 (g)
        exact h.use hQ
      · have h := h.2 (g)
        refine ⟨h.1, ?_⟩
        have h := h.2
        exact h.use hQ
  · have h := h.2 (g)
    exact h.use hQ
theorem g_r_losses_0 {nb db : Nat} {by_ rs : RX} {c : Nat} {mi mi' : MI} {ml ml' : ML} {rv : Option AV} 
    (h : ∃ (r1 : Int32), Ret m_r_many [(vI (mi 54 62))] (some (vI r1)) c (MRc nb db by_ rs) mi ml mi ml ∧ (Fin (some (vI r1)) mi ml rv mi' ml')) :
    Ret m_r_losses [(vR 19 0 48)] rv c (MRc nb db by_ rs) mi ml mi' ml' := by
  intro Q hQ
  refine ok_wq inlT 400 rfl rfl ?_
  refine ⟨vp_in_nI (by decide) (by decide), ?_⟩
  obtain ⟨r1, hR, h⟩ := h
  refine ⟨0, 0, Nat.zero_le _, Nat.zero_le _, hR _ ?_⟩
  exact h.use hQ
theorem g_r_netSum_0 {nb db : Nat} {by_ rs : RX} {c : Nat} {mi mi' : MI} {ml ml' : ML} {rv : Option AV} 
    (h : Go m_r_netSum 4 [some (vR 19 0 48), some (vI (nI 0)), some (vI (nI 0))] [] rv c (MRc nb db by_ rs) mi ml mi' ml') :
    Ret m_r_netSum [(vR 19 0 48)] rv c (MRc nb db by_ rs) mi ml mi' ml' := by
  intro Q hQ
  refine ok_wq inlT 400 rfl rfl ?_
  exact h Q hQ
theorem g_r_netSum_4 {nb db : Nat} {by_ rs : RX} {c : Nat} {mi mi' : MI} {ml ml' : ML} {rv : Option AV} {l1 : Int32} {l2 : Int32}
    (h : ((mi 48 5) ≤ l2 → (Fin (some (vI l1)) mi ml rv mi' ml')) ∧ (¬ (mi 48 5) ≤ l2 → (∃ (r1 : Int32), Ret m_r_has [(vI (mi 54 62)), (vI l2)] (some (vI r1)) c (MRc nb db by_ rs) mi ml mi ml ∧ ((¬ r1 = 0 → (Go m_r_netSum 4 [some (vR 19 0 48), some (vI l1), some (vI (l2 + nI 1))] [] rv c (MRc nb db by_ rs) mi ml mi' ml')) ∧ (r1 = 0 → (vp_in l2 31 ∧ (Go m_r_netSum 4 [some (vR 19 0 48), some (vI (l1 + ((mi 60 l2.toNatClampNeg) - (mi 48 7)))), some (vI (l2 + nI 1))] [] rv c (MRc nb db by_ rs) mi ml mi' ml'))))))) :
    Go m_r_netSum 4 [some (vR 19 0 48), some (vI l1), some (vI l2)] [] rv c (MRc nb db by_ rs) mi ml mi' ml' := by
  intro Q hQ
  refine at_wq inlT 400 rfl ?_
  refine ⟨fun g => ?_, fun g => ?_⟩
  · have h := h.1 (g)
    exact h.use hQ
  · have h := h.2 (g)
    refine ⟨vp_in_nI (by decide) (by decide), ?_⟩
    obtain ⟨r1, hR, h⟩ := h
    refine ⟨0, 0, Nat.zero_le _, Nat.zero_le _, hR _ ?_⟩
    refine ⟨fun g => ?_, fun g => ?_⟩
    · have h := h.1 (g)
      exact h Q hQ
    · have h := h.2 (g)
      refine ⟨h.1, ?_⟩
      have h := h.2
      exact h Q hQ
theorem g_r_netOf_0 {nb db : Nat} {by_ rs : RX} {c : Nat} {mi mi' : MI} {ml ml' : ML} {rv : Option AV} {a0 : Int32}
    (h : ∃ (r1 : Int32), Ret m_r_has [(vI (mi 54 62)), (vI a0)] (some (vI r1)) c (MRc nb db by_ rs) mi ml mi ml ∧ ((r1 = 0 → (vp_in a0 31 ∧ (Fin (some (vI ((mi 60 a0.toNatClampNeg) - (mi 48 7)))) mi ml rv mi' ml'))) ∧ (¬ r1 = 0 → (∃ (r2 : Int32), Ret m_r_monitor [(vR 19 0 48)] (some (vI r2)) c (MRc nb db by_ rs) mi ml mi ml ∧ (∃ (r3 : Int32), Ret m_r_netSum [(vR 19 0 48)] (some (vI r3)) c (MRc nb db by_ rs) mi ml mi ml ∧ (Fin (some (vI (((((mi 48 5) + (nI 1)) / (nI 2)) * r2) - r3))) mi ml rv mi' ml')))))) :
    Ret m_r_netOf [(vR 19 0 48), (vI a0)] rv c (MRc nb db by_ rs) mi ml mi' ml' := by
  intro Q hQ
  refine ok_wq inlT 400 rfl rfl ?_
  refine ⟨vp_in_nI (by decide) (by decide), ?_⟩
  obtain ⟨r1, hR, h⟩ := h
  refine ⟨0, 0, Nat.zero_le _, Nat.zero_le _, hR _ ?_⟩
  refine ⟨fun g => ?_, fun g => ?_⟩
  · have h := h.1 (g)
    refine ⟨h.1, ?_⟩
    have h := h.2
    exact h.use hQ
  · have h := h.2 (g)
    refine ⟨by decide, ?_⟩
    obtain ⟨r2, hR, h⟩ := h
    refine ⟨0, 0, Nat.zero_le _, Nat.zero_le _, hR _ ?_⟩
    obtain ⟨r3, hR, h⟩ := h
    refine ⟨0, 0, Nat.zero_le _, Nat.zero_le _, hR _ ?_⟩
    exact h.use hQ
theorem g_r_net_0 {nb db : Nat} {by_ rs : RX} {c : Nat} {mi mi' : MI} {ml ml' : ML} {rv : Option AV} {a0 : Int32}
    (h : ∃ (r1 : Int32), Ret m_r_isOne [(vR 19 0 48), (vI a0)] (some (vI r1)) c (MRc nb db by_ rs) (u2 mi 48 0 (nI 0)) ml (u2 mi 48 0 (nI 0)) ml ∧ ((¬ r1 = 0 → (((mi 48 46) = 0 → (Fin (some (vI (-(nI 2147483648)))) (u2 (u2 (u2 mi 48 0 (nI 0)) 48 1 (nI 5)) 48 2 (-(nI 1))) ml rv mi' ml')) ∧ (¬ (mi 48 46) = 0 → (∃ (r2 : Int32), Ret m_r_has [(vI (mi 54 62)), (vI a0)] (some (vI r2)) c (MRc nb db by_ rs) (u2 mi 48 0 (nI 0)) ml (u2 mi 48 0 (nI 0)) ml ∧ ((r2 = 0 → (∃ (r3 : Int32), Ret m_r_netOf [(vR 19 0 48), (vI a0)] (some (vI r3)) c (MRc nb db by_ rs) (u2 mi 48 0 (nI 0)) ml (u2 mi 48 0 (nI 0)) ml ∧ (Fin (some (vI r3)) (u2 (u2 (u2 mi 48 0 (nI 0)) 48 1 (nI 0)) 48 2 (-(nI 1))) ml rv mi' ml'))) ∧ (¬ r2 = 0 → (∃ (r4 : Int32), Ret m_r_losses [(vR 19 0 48)] (some (vI r4)) c (MRc nb db by_ rs) (u2 mi 48 0 (nI 0)) ml (u2 mi 48 0 (nI 0)) ml ∧ ((r4 ≤ (nI 1) → (∃ (r5 : Int32), Ret m_r_netOf [(vR 19 0 48), (vI a0)] (some (vI r5)) c (MRc nb db by_ rs) (u2 mi 48 0 (nI 0)) ml (u2 mi 48 0 (nI 0)) ml ∧ (Fin (some (vI r5)) (u2 (u2 (u2 mi 48 0 (nI 0)) 48 1 (nI 0)) 48 2 (-(nI 1))) ml rv mi' ml'))) ∧ (¬ r4 ≤ (nI 1) → (Fin (some (vI (-(nI 2147483648)))) (u2 (u2 (u2 mi 48 0 (nI 0)) 48 1 (nI 5)) 48 2 (-(nI 1))) ml rv mi' ml')))))))))) ∧ (r1 = 0 → (Fin (some (vI (-(nI 2147483648)))) (u2 (u2 (u2 mi 48 0 (nI 0)) 48 1 (nI 1)) 48 2 (-(nI 1))) ml rv mi' ml')))) :
    Ret m_r_net [(vR 19 0 48), (vI a0)] rv c (MRc nb db by_ rs) mi ml mi' ml' := by
  intro Q hQ
  refine ok_wq inlT 400 rfl rfl ?_
  obtain ⟨r1, hR, h⟩ := h
  refine ⟨0, 0, Nat.zero_le _, Nat.zero_le _, hR _ ?_⟩
  refine ⟨fun g => ?_, fun g => ?_⟩
  · have h := h.1 (g)
    refine ⟨fun g => ?_, fun g => ?_⟩
    · have h := h.1 (g)
      exact h.use hQ
    · have h := h.2 (g)
      refine ⟨vp_in_nI (by decide) (by decide), ?_⟩
      obtain ⟨r2, hR, h⟩ := h
      refine ⟨0, 0, Nat.zero_le _, Nat.zero_le _, hR _ ?_⟩
      refine ⟨fun g => ?_, fun g => ?_⟩
      · have h := h.1 (g)
        obtain ⟨r3, hR, h⟩ := h
        refine ⟨0, 0, Nat.zero_le _, Nat.zero_le _, hR _ ?_⟩
        exact h.use hQ
      · have h := h.2 (g)
        obtain ⟨r4, hR, h⟩ := h
        refine ⟨0, 0, Nat.zero_le _, Nat.zero_le _, hR _ ?_⟩
        refine ⟨fun g => ?_, fun g => ?_⟩
        · have h := h.1 (g)
          obtain ⟨r5, hR, h⟩ := h
          refine ⟨0, 0, Nat.zero_le _, Nat.zero_le _, hR _ ?_⟩
          exact h.use hQ
        · have h := h.2 (g)
          exact h.use hQ
  · have h := h.2 (g)
    exact h.use hQ
theorem g_r_refuses_0 {nb db : Nat} {by_ rs : RX} {c : Nat} {mi mi' : MI} {ml ml' : ML} {rv : Option AV} {a0 : Int32}
    (h : (¬ a0 = 0 → (((mi 48 46) = 0 → (Fin (some (vI (nI 5))) mi ml rv mi' ml')) ∧ (¬ (mi 48 46) = 0 → (∃ (r1 : Int32), Ret m_r_losses [(vR 19 0 48)] (some (vI r1)) c (MRc nb db by_ rs) mi ml mi ml ∧ (((nI 2) ≤ r1 → (Fin (some (vI (nI 5))) mi ml rv mi' ml')) ∧ (¬ (nI 2) ≤ r1 → (Fin (some (vI (nI 0))) mi ml rv mi' ml'))))))) ∧ (a0 = 0 → (Fin (some (vI (nI 1))) mi ml rv mi' ml'))) :
    Ret m_r_refuses [(vR 19 0 48), (vI a0)] rv c (MRc nb db by_ rs) mi ml mi' ml' := by
  intro Q hQ
  refine ok_wq inlT 400 rfl rfl ?_
  refine ⟨fun g => ?_, fun g => ?_⟩
  · have h := h.1 (g)
    refine ⟨fun g => ?_, fun g => ?_⟩
    · have h := h.1 (g)
      exact h.use hQ
    · have h := h.2 (g)
      obtain ⟨r1, hR, h⟩ := h
      refine ⟨0, 0, Nat.zero_le _, Nat.zero_le _, hR _ ?_⟩
      refine ⟨fun g => ?_, fun g => ?_⟩
      · have h := h.1 (g)
        exact h.use hQ
      · have h := h.2 (g)
        exact h.use hQ
  · have h := h.2 (g)
    exact h.use hQ
theorem g_r_netAll_0 {nb db : Nat} {by_ rs : RX} {c : Nat} {mi mi' : MI} {ml ml' : ML} {rv : Option AV} 
    (h : ∃ (r1 : Int32), Ret m_r_losses [(vR 19 0 48)] (some (vI r1)) c (MRc nb db by_ rs) mi ml mi ml ∧ ((¬ r1 = (nI 1) → (∃ (r2 : Int32), Ret m_r_netSum [(vR 19 0 48)] (some (vI r2)) c (MRc nb db by_ rs) mi ml mi ml ∧ (Fin (some (vI r2)) mi ml rv mi' ml'))) ∧ (r1 = (nI 1) → (∃ (r3 : Int32), Ret m_r_monitor [(vR 19 0 48)] (some (vI r3)) c (MRc nb db by_ rs) mi ml mi ml ∧ (Fin (some (vI ((((mi 48 5) + (nI 1)) / (nI 2)) * r3))) mi ml rv mi' ml'))))) :
    Ret m_r_netAll [(vR 19 0 48)] rv c (MRc nb db by_ rs) mi ml mi' ml' := by
  intro Q hQ
  refine ok_wq inlT 400 rfl rfl ?_
  obtain ⟨r1, hR, h⟩ := h
  refine ⟨0, 0, Nat.zero_le _, Nat.zero_le _, hR _ ?_⟩
  refine ⟨fun g => ?_, fun g => ?_⟩
  · have h := h.1 (g)
    obtain ⟨r2, hR, h⟩ := h
    refine ⟨0, 0, Nat.zero_le _, Nat.zero_le _, hR _ ?_⟩
    exact h.use hQ
  · have h := h.2 (g)
    refine ⟨by decide, ?_⟩
    obtain ⟨r3, hR, h⟩ := h
    refine ⟨0, 0, Nat.zero_le _, Nat.zero_le _, hR _ ?_⟩
    exact h.use hQ
theorem g_r_partsOf_0 {nb db : Nat} {by_ rs : RX} {c : Nat} {mi mi' : MI} {ml ml' : ML} {rv : Option AV} {a0 : Int32}
    (h : Go m_r_partsOf 5 [some (vR 19 0 48), some (vI a0), some (vL (lN 0)), none, some (vI (nI 0))] [] rv c (MRc nb db by_ rs) mi ml mi' ml') :
    Ret m_r_partsOf [(vR 19 0 48), (vI a0)] rv c (MRc nb db by_ rs) mi ml mi' ml' := by
  intro Q hQ
  refine ok_wq inlT 400 rfl rfl ?_
  exact h Q hQ
theorem g_r_partsOf_5 {nb db : Nat} {by_ rs : RX} {c : Nat} {mi mi' : MI} {ml ml' : ML} {rv : Option AV} {l1 : Int32} {l2 : Int64} {l4 : Int32}
    (h : ((mi 48 5) ≤ l4 → (∃ (r1 : Int32), Ret m_r_netAll [(vR 19 0 48)] (some (vI r1)) c (MRc nb db by_ rs) mi ml mi ml ∧ (Fin (some (vL (((lN 4) * l2) - ((lN 2) * r1.toInt64)))) mi ml rv mi' ml'))) ∧ (¬ (mi 48 5) ≤ l4 → (vp_in l4 31 ∧ (∃ (r2 : Int32), Ret m_r_has [(vI (mi 49 l4.toNatClampNeg)), (vI l1)] (some (vI r2)) c (MRc nb db by_ rs) mi ml mi ml ∧ ((r2 = 0 → (Go m_r_partsOf 5 [some (vR 19 0 48), some (vI l1), some (vL l2), none, some (vI (l4 + nI 1))] [] rv c (MRc nb db by_ rs) mi ml mi' ml')) ∧ (¬ r2 = 0 → (∃ (r3 : Int32), Ret m_r_netOf [(vR 19 0 48), (vI l4)] (some (vI r3)) c (MRc nb db by_ rs) mi ml mi ml ∧ (Go m_r_partsOf 5 [some (vR 19 0 48), some (vI l1), some (vL (l2 + r3.toInt64)), none, some (vI (l4 + nI 1))] [] rv c (MRc nb db by_ rs) mi ml mi' ml')))))))) :
    Go m_r_partsOf 5 [some (vR 19 0 48), some (vI l1), some (vL l2), none, some (vI l4)] [] rv c (MRc nb db by_ rs) mi ml mi' ml' := by
  intro Q hQ
  refine at_wq inlT 400 rfl ?_
  refine ⟨fun g => ?_, fun g => ?_⟩
  · have h := h.1 (g)
    obtain ⟨r1, hR, h⟩ := h
    refine ⟨0, 0, Nat.zero_le _, Nat.zero_le _, hR _ ?_⟩
    exact h.use hQ
  · have h := h.2 (g)
    refine ⟨h.1, ?_⟩
    have h := h.2
    obtain ⟨r2, hR, h⟩ := h
    refine ⟨0, 0, Nat.zero_le _, Nat.zero_le _, hR _ ?_⟩
    refine ⟨fun g => ?_, fun g => ?_⟩
    · have h := h.1 (g)
      exact h Q hQ
    · have h := h.2 (g)
      obtain ⟨r3, hR, h⟩ := h
      refine ⟨0, 0, Nat.zero_le _, Nat.zero_le _, hR _ ?_⟩
      exact h Q hQ
theorem g_r_errorParts_0 {nb db : Nat} {by_ rs : RX} {c : Nat} {mi mi' : MI} {ml ml' : ML} {rv : Option AV} {a0 : Int32}
    (h : ∃ (r1 : Int64), Ret m_r_partsOf [(vR 19 0 48), (vI a0)] (some (vL r1)) c (MRc nb db by_ rs) mi ml mi ml ∧ (vp_in a0 63 ∧ (Fin (some (vL (r1 - ((((mi 48 5).toInt64) + (lN 1)) * ((mi 54 a0.toNatClampNeg).toInt64))))) mi ml rv mi' ml'))) :
    Ret m_r_errorParts [(vR 19 0 48), (vI a0)] rv c (MRc nb db by_ rs) mi ml mi' ml' := by
  intro Q hQ
  refine ok_wq inlT 400 rfl rfl ?_
  obtain ⟨r1, hR, h⟩ := h
  refine ⟨0, 0, Nat.zero_le _, Nat.zero_le _, hR _ ?_⟩
  refine ⟨h.1, ?_⟩
  have h := h.2
  exact h.use hQ
theorem g_r_back_0 {nb db : Nat} {by_ rs : RX} {c : Nat} {mi mi' : MI} {ml ml' : ML} {rv : Option AV} {a0 : Int32} {a1 : Int32}
    (h : ∃ (r1 : Int32), Ret m_r_isOne [(vR 19 0 48), (vI a0)] (some (vI r1)) c (MRc nb db by_ rs) (u2 mi 48 0 (nI 0)) ml (u2 mi 48 0 (nI 0)) ml ∧ (∃ (r2 : Int32), Ret m_r_refuses [(vR 19 0 48), (vI r1)] (some (vI r2)) c (MRc nb db by_ rs) (u2 mi 48 0 (nI 0)) ml (u2 mi 48 0 (nI 0)) ml ∧ ((r2 ≤ 0 → (∃ (r3 : Int64), Ret m_r_partsOf [(vR 19 0 48), (vI a0)] (some (vL r3)) c (MRc nb db by_ rs) (u2 mi 48 0 (nI 0)) ml (u2 mi 48 0 (nI 0)) ml ∧ (∃ (mi4 : MI) (ml4 : ML), Ret m_r_sets [(vR 19 0 48), (vL r3), (vL (((mi 48 5).toInt64) + (lN 1)))] none c (MRc nb db by_ rs) (u2 mi 48 0 (nI 0)) ml mi4 ml4 ∧ ((a1 = 0 → (Fin (some (vL (ml4 48 3))) (u2 (u2 mi4 48 1 (nI 0)) 48 2 (-(nI 1))) ml4 rv mi' ml')) ∧ (¬ a1 = 0 → (Fin (some (vL (ml4 48 4))) (u2 (u2 mi4 48 1 (nI 0)) 48 2 (-(nI 1))) ml4 rv mi' ml')))))) ∧ (¬ r2 ≤ 0 → (Fin (some (vL (-(lN 9223372036854775808)))) (u2 (u2 (u2 mi 48 0 (nI 0)) 48 1 r2) 48 2 (-(nI 1))) ml rv mi' ml'))))) :
    Ret m_r_back [(vR 19 0 48), (vI a0), (vI a1)] rv c (MRc nb db by_ rs) mi ml mi' ml' := by
  intro Q hQ
  refine ok_wq inlT 400 rfl rfl ?_
  obtain ⟨r1, hR, h⟩ := h
  refine ⟨0, 0, Nat.zero_le _, Nat.zero_le _, hR _ ?_⟩
  obtain ⟨r2, hR, h⟩ := h
  refine ⟨0, 0, Nat.zero_le _, Nat.zero_le _, hR _ ?_⟩
  refine ⟨fun g => ?_, fun g => ?_⟩
  · have h := h.1 (g)
    obtain ⟨r3, hR, h⟩ := h
    refine ⟨0, 0, Nat.zero_le _, Nat.zero_le _, hR _ ?_⟩
    obtain ⟨mi4, ml4, hR, h⟩ := h
    refine ⟨0, 0, Nat.zero_le _, Nat.zero_le _, hR _ ?_⟩
    refine ⟨fun g => ?_, fun g => ?_⟩
    · have h := h.1 (g)
      exact h.use hQ
    · have h := h.2 (g)
      exact h.use hQ
  · have h := h.2 (g)
    exact h.use hQ
theorem g_r_odds_0 {nb db : Nat} {by_ rs : RX} {c : Nat} {mi mi' : MI} {ml ml' : ML} {rv : Option AV} 
    (h : ∃ (r1 : Int32), Ret m_r_refuses [(vR 19 0 48), (vI (mi 48 26))] (some (vI r1)) c (MRc nb db by_ rs) (u2 mi 48 0 (nI 0)) ml (u2 mi 48 0 (nI 0)) ml ∧ ((r1 ≤ 0 → (Go m_r_odds 28 [some (vR 19 0 48), some (vI r1), some (vI (nI 0)), some (vI (nI 0))] [] rv c (MRc nb db by_ rs) (u2 mi 48 0 (nI 0)) ml mi' ml')) ∧ (¬ r1 ≤ 0 → (Fin (some (vI (-(nI 1)))) (u2 (u2 (u2 mi 48 0 (nI 0)) 48 1 r1) 48 2 (-(nI 1))) ml rv mi' ml')))) :
    Ret m_r_odds [(vR 19 0 48)] rv c (MRc nb db by_ rs) mi ml mi' ml' := by
  intro Q hQ
  refine ok_wq inlT 400 rfl rfl ?_
  obtain ⟨r1, hR, h⟩ := h
  refine ⟨0, 0, Nat.zero_le _, Nat.zero_le _, hR _ ?_⟩
  refine ⟨fun g => ?_, fun g => ?_⟩
  · have h := h.1 (g)
    exact h Q hQ
  · have h := h.2 (g)
    exact h.use hQ
theorem g_r_odds_28 {nb db : Nat} {by_ rs : RX} {c : Nat} {mi mi' : MI} {ml ml' : ML} {rv : Option AV} {l1 : Int32} {l2 : Int32} {l3 : Int32}
    (h : ((mi 48 5) ≤ l3 → (Fin (some (vI l2)) (u2 (u2 mi 48 1 (nI 0)) 48 2 (-(nI 1))) ml rv mi' ml')) ∧ (¬ (mi 48 5) ≤ l3 → (∃ (r1 : Int64), Ret m_r_partsOf [(vR 19 0 48), (vI l3)] (some (vL r1)) c (MRc nb db by_ rs) mi ml mi ml ∧ ((r1 < (lN 0) → (Go m_r_odds 28 [some (vR 19 0 48), some (vI l1), some (vI (l2 ||| ((nI 1) <<< (l3 &&& 31)))), some (vI (l3 + nI 1))] [] rv c (MRc nb db by_ rs) mi ml mi' ml')) ∧ (¬ r1 < (lN 0) → (∃ (r2 : Int64), Ret m_r_partsOf [(vR 19 0 48), (vI l3)] (some (vL r2)) c (MRc nb db by_ rs) mi ml mi ml ∧ (¬ (((mi 48 5) + (nI 1)).toInt64) = 0 ∧ (((rmL r2 (((mi 48 5) + (nI 1)).toInt64)) = (lN 0) → (Go m_r_odds 28 [some (vR 19 0 48), some (vI l1), some (vI l2), some (vI (l3 + nI 1))] [] rv c (MRc nb db by_ rs) mi ml mi' ml')) ∧ (¬ (rmL r2 (((mi 48 5) + (nI 1)).toInt64)) = (lN 0) → (Go m_r_odds 28 [some (vR 19 0 48), some (vI l1), some (vI (l2 ||| ((nI 1) <<< (l3 &&& 31)))), some (vI (l3 + nI 1))] [] rv c (MRc nb db by_ rs) mi ml mi' ml')))))))))) :
    Go m_r_odds 28 [some (vR 19 0 48), some (vI l1), some (vI l2), some (vI l3)] [] rv c (MRc nb db by_ rs) mi ml mi' ml' := by
  intro Q hQ
  refine at_wq inlT 400 rfl ?_
  refine ⟨fun g => ?_, fun g => ?_⟩
  · have h := h.1 (g)
    exact h.use hQ
  · have h := h.2 (g)
    obtain ⟨r1, hR, h⟩ := h
    refine ⟨0, 0, Nat.zero_le _, Nat.zero_le _, hR _ ?_⟩
    refine ⟨fun g => ?_, fun g => ?_⟩
    · have h := h.1 ((lgc_lt _ _).mp g)
      exact h Q hQ
    · have h := h.2 (fun z => g ((lgc_lt _ _).mpr z))
      obtain ⟨r2, hR, h⟩ := h
      refine ⟨0, 0, Nat.zero_le _, Nat.zero_le _, hR _ ?_⟩
      refine ⟨h.1, ?_⟩
      have h := h.2
      refine ⟨fun g => ?_, fun g => ?_⟩
      · have h := h.1 ((lgc_eq _ _).mp g)
        exact h Q hQ
      · have h := h.2 (fun z => g ((lgc_eq _ _).mpr z))
        exact h Q hQ
theorem g_r_more_0 {nb db : Nat} {by_ rs : RX} {c : Nat} {mi mi' : MI} {ml ml' : ML} {rv : Option AV} {a0 : Int32}
    (h : ∃ (r1 : Int32), Ret m_r_refuses [(vR 19 0 48), (vI (mi 48 26))] (some (vI r1)) c (MRc nb db by_ rs) (u2 mi 48 0 (nI 0)) ml (u2 mi 48 0 (nI 0)) ml ∧ ((r1 ≤ 0 → (Go m_r_more 29 [some (vR 19 0 48), some (vI a0), some (vI r1), some (vL (lN 0)), none, some (vI (nI 0))] [] rv c (MRc nb db by_ rs) (u2 mi 48 0 (nI 0)) ml mi' ml')) ∧ (¬ r1 ≤ 0 → (Fin (some (vL (-(lN 9223372036854775808)))) (u2 (u2 (u2 mi 48 0 (nI 0)) 48 1 r1) 48 2 (-(nI 1))) ml rv mi' ml')))) :
    Ret m_r_more [(vR 19 0 48), (vI a0)] rv c (MRc nb db by_ rs) mi ml mi' ml' := by
  intro Q hQ
  refine ok_wq inlT 400 rfl rfl ?_
  obtain ⟨r1, hR, h⟩ := h
  refine ⟨0, 0, Nat.zero_le _, Nat.zero_le _, hR _ ?_⟩
  refine ⟨fun g => ?_, fun g => ?_⟩
  · have h := h.1 (g)
    exact h Q hQ
  · have h := h.2 (g)
    exact h.use hQ
theorem g_r_more_29 {nb db : Nat} {by_ rs : RX} {c : Nat} {mi mi' : MI} {ml ml' : ML} {rv : Option AV} {l1 : Int32} {l2 : Int32} {l3 : Int64} {l5 : Int32}
    (h : ((mi 48 5) ≤ l5 → (∃ (mi1 : MI) (ml1 : ML), Ret m_r_sets [(vR 19 0 48), (vL l3), (vL (((mi 48 5).toInt64) + (lN 1)))] none c (MRc nb db by_ rs) mi ml mi1 ml1 ∧ ((l1 = 0 → (Fin (some (vL (ml1 48 3))) (u2 (u2 mi1 48 1 (nI 0)) 48 2 (-(nI 1))) ml1 rv mi' ml')) ∧ (¬ l1 = 0 → (Fin (some (vL (ml1 48 4))) (u2 (u2 mi1 48 1 (nI 0)) 48 2 (-(nI 1))) ml1 rv mi' ml'))))) ∧ (¬ (mi 48 5) ≤ l5 → (∃ (r2 : Int64), Ret m_r_errorParts [(vR 19 0 48), (vI l5)] (some (vL r2)) c (MRc nb db by_ rs) mi ml mi ml ∧ (Go m_r_more 29 [some (vR 19 0 48), some (vI l1), some (vI l2), some (vL (l3 + r2)), none, some (vI (l5 + nI 1))] [] rv c (MRc nb db by_ rs) mi ml mi' ml')))) :
    Go m_r_more 29 [some (vR 19 0 48), some (vI l1), some (vI l2), some (vL l3), none, some (vI l5)] [] rv c (MRc nb db by_ rs) mi ml mi' ml' := by
  intro Q hQ
  refine at_wq inlT 400 rfl ?_
  refine ⟨fun g => ?_, fun g => ?_⟩
  · have h := h.1 (g)
    obtain ⟨mi1, ml1, hR, h⟩ := h
    refine ⟨0, 0, Nat.zero_le _, Nat.zero_le _, hR _ ?_⟩
    refine ⟨fun g => ?_, fun g => ?_⟩
    · have h := h.1 (g)
      exact h.use hQ
    · have h := h.2 (g)
      exact h.use hQ
  · have h := h.2 (g)
    obtain ⟨r2, hR, h⟩ := h
    refine ⟨0, 0, Nat.zero_le _, Nat.zero_le _, hR _ ?_⟩
    exact h Q hQ
theorem g_r_error_0 {nb db : Nat} {by_ rs : RX} {c : Nat} {mi mi' : MI} {ml ml' : ML} {rv : Option AV} {a0 : Int32} {a1 : Int32}
    (h : ∃ (r1 : Int32), Ret m_r_isOne [(vR 19 0 48), (vI a0)] (some (vI r1)) c (MRc nb db by_ rs) (u2 mi 48 0 (nI 0)) ml (u2 mi 48 0 (nI 0)) ml ∧ (∃ (r2 : Int32), Ret m_r_refuses [(vR 19 0 48), (vI r1)] (some (vI r2)) c (MRc nb db by_ rs) (u2 mi 48 0 (nI 0)) ml (u2 mi 48 0 (nI 0)) ml ∧ ((r2 ≤ 0 → (∃ (r3 : Int64), Ret m_r_errorParts [(vR 19 0 48), (vI a0)] (some (vL r3)) c (MRc nb db by_ rs) (u2 mi 48 0 (nI 0)) ml (u2 mi 48 0 (nI 0)) ml ∧ (∃ (mi4 : MI) (ml4 : ML), Ret m_r_sets [(vR 19 0 48), (vL r3), (vL (((mi 48 5).toInt64) + (lN 1)))] none c (MRc nb db by_ rs) (u2 mi 48 0 (nI 0)) ml mi4 ml4 ∧ ((a1 = 0 → (Fin (some (vL (ml4 48 3))) (u2 (u2 mi4 48 1 (nI 0)) 48 2 (-(nI 1))) ml4 rv mi' ml')) ∧ (¬ a1 = 0 → (Fin (some (vL (ml4 48 4))) (u2 (u2 mi4 48 1 (nI 0)) 48 2 (-(nI 1))) ml4 rv mi' ml')))))) ∧ (¬ r2 ≤ 0 → (Fin (some (vL (-(lN 9223372036854775808)))) (u2 (u2 (u2 mi 48 0 (nI 0)) 48 1 r2) 48 2 (-(nI 1))) ml rv mi' ml'))))) :
    Ret m_r_error [(vR 19 0 48), (vI a0), (vI a1)] rv c (MRc nb db by_ rs) mi ml mi' ml' := by
  intro Q hQ
  refine ok_wq inlT 400 rfl rfl ?_
  obtain ⟨r1, hR, h⟩ := h
  refine ⟨0, 0, Nat.zero_le _, Nat.zero_le _, hR _ ?_⟩
  obtain ⟨r2, hR, h⟩ := h
  refine ⟨0, 0, Nat.zero_le _, Nat.zero_le _, hR _ ?_⟩
  refine ⟨fun g => ?_, fun g => ?_⟩
  · have h := h.1 (g)
    obtain ⟨r3, hR, h⟩ := h
    refine ⟨0, 0, Nat.zero_le _, Nat.zero_le _, hR _ ?_⟩
    obtain ⟨mi4, ml4, hR, h⟩ := h
    refine ⟨0, 0, Nat.zero_le _, Nat.zero_le _, hR _ ?_⟩
    refine ⟨fun g => ?_, fun g => ?_⟩
    · have h := h.1 (g)
      exact h.use hQ
    · have h := h.2 (g)
      exact h.use hQ
  · have h := h.2 (g)
    exact h.use hQ
theorem g_r_errors_0 {nb db : Nat} {by_ rs : RX} {c : Nat} {mi mi' : MI} {ml ml' : ML} {rv : Option AV} {a0 : Int32}
    (h : ∃ (r1 : Int32), Ret m_r_refuses [(vR 19 0 48), (vI (mi 48 26))] (some (vI r1)) c (MRc nb db by_ rs) (u2 mi 48 0 (nI 0)) ml (u2 mi 48 0 (nI 0)) ml ∧ ((r1 ≤ 0 → (Go m_r_errors 29 [some (vR 19 0 48), some (vI a0), some (vI r1), some (vL (lN 0)), none, some (vI (nI 0))] [] rv c (MRc nb db by_ rs) (u2 mi 48 0 (nI 0)) ml mi' ml')) ∧ (¬ r1 ≤ 0 → (Fin (some (vL (-(lN 9223372036854775808)))) (u2 (u2 (u2 mi 48 0 (nI 0)) 48 1 r1) 48 2 (-(nI 1))) ml rv mi' ml')))) :
    Ret m_r_errors [(vR 19 0 48), (vI a0)] rv c (MRc nb db by_ rs) mi ml mi' ml' := by
  intro Q hQ
  refine ok_wq inlT 400 rfl rfl ?_
  obtain ⟨r1, hR, h⟩ := h
  refine ⟨0, 0, Nat.zero_le _, Nat.zero_le _, hR _ ?_⟩
  refine ⟨fun g => ?_, fun g => ?_⟩
  · have h := h.1 (g)
    exact h Q hQ
  · have h := h.2 (g)
    exact h.use hQ
theorem g_r_errors_29 {nb db : Nat} {by_ rs : RX} {c : Nat} {mi mi' : MI} {ml ml' : ML} {rv : Option AV} {l1 : Int32} {l2 : Int32} {l3 : Int64} {l5 : Int32}
    (h : ((mi 48 5) ≤ l5 → (∃ (mi1 : MI) (ml1 : ML), Ret m_r_sets [(vR 19 0 48), (vL l3), (vL ((((mi 48 5).toInt64) + (lN 1)) * (((mi 48 5).toInt64) + (lN 1))))] none c (MRc nb db by_ rs) mi ml mi1 ml1 ∧ ((l1 = 0 → (Fin (some (vL (ml1 48 3))) (u2 (u2 mi1 48 1 (nI 0)) 48 2 (-(nI 1))) ml1 rv mi' ml')) ∧ (¬ l1 = 0 → (Fin (some (vL (ml1 48 4))) (u2 (u2 mi1 48 1 (nI 0)) 48 2 (-(nI 1))) ml1 rv mi' ml'))))) ∧ (¬ (mi 48 5) ≤ l5 → (∃ (r2 : Int64), Ret m_r_errorParts [(vR 19 0 48), (vI l5)] (some (vL r2)) c (MRc nb db by_ rs) mi ml mi ml ∧ (∃ (r3 : Int64), Ret m_r_errorParts [(vR 19 0 48), (vI l5)] (some (vL r3)) c (MRc nb db by_ rs) mi ml mi ml ∧ (Go m_r_errors 29 [some (vR 19 0 48), some (vI l1), some (vI l2), some (vL (l3 + (r2 * r3))), none, some (vI (l5 + nI 1))] [] rv c (MRc nb db by_ rs) mi ml mi' ml'))))) :
    Go m_r_errors 29 [some (vR 19 0 48), some (vI l1), some (vI l2), some (vL l3), none, some (vI l5)] [] rv c (MRc nb db by_ rs) mi ml mi' ml' := by
  intro Q hQ
  refine at_wq inlT 400 rfl ?_
  refine ⟨fun g => ?_, fun g => ?_⟩
  · have h := h.1 (g)
    obtain ⟨mi1, ml1, hR, h⟩ := h
    refine ⟨0, 0, Nat.zero_le _, Nat.zero_le _, hR _ ?_⟩
    refine ⟨fun g => ?_, fun g => ?_⟩
    · have h := h.1 (g)
      exact h.use hQ
    · have h := h.2 (g)
      exact h.use hQ
  · have h := h.2 (g)
    obtain ⟨r2, hR, h⟩ := h
    refine ⟨0, 0, Nat.zero_le _, Nat.zero_le _, hR _ ?_⟩
    obtain ⟨r3, hR, h⟩ := h
    refine ⟨0, 0, Nat.zero_le _, Nat.zero_le _, hR _ ?_⟩
    exact h Q hQ
theorem g_r_worst_0 {nb db : Nat} {by_ rs : RX} {c : Nat} {mi mi' : MI} {ml ml' : ML} {rv : Option AV} 
    (h : ∃ (r1 : Int32), Ret m_r_refuses [(vR 19 0 48), (vI (mi 48 26))] (some (vI r1)) c (MRc nb db by_ rs) (u2 mi 48 0 (nI 0)) ml (u2 mi 48 0 (nI 0)) ml ∧ ((r1 ≤ 0 → (Go m_r_worst 28 [some (vR 19 0 48), some (vI r1), some (vI (nI 0)), some (vI (nI 1))] [] rv c (MRc nb db by_ rs) (u2 mi 48 0 (nI 0)) ml mi' ml')) ∧ (¬ r1 ≤ 0 → (Fin (some (vI (-(nI 1)))) (u2 (u2 (u2 mi 48 0 (nI 0)) 48 1 r1) 48 2 (-(nI 1))) ml rv mi' ml')))) :
    Ret m_r_worst [(vR 19 0 48)] rv c (MRc nb db by_ rs) mi ml mi' ml' := by
  intro Q hQ
  refine ok_wq inlT 400 rfl rfl ?_
  obtain ⟨r1, hR, h⟩ := h
  refine ⟨0, 0, Nat.zero_le _, Nat.zero_le _, hR _ ?_⟩
  refine ⟨fun g => ?_, fun g => ?_⟩
  · have h := h.1 (g)
    exact h Q hQ
  · have h := h.2 (g)
    exact h.use hQ
theorem g_r_worst_28 {nb db : Nat} {by_ rs : RX} {c : Nat} {mi mi' : MI} {ml ml' : ML} {rv : Option AV} {l1 : Int32} {l2 : Int32} {l3 : Int32}
    (h : ((mi 48 5) ≤ l3 → (Fin (some (vI l2)) (u2 (u2 mi 48 1 (nI 0)) 48 2 (-(nI 1))) ml rv mi' ml')) ∧ (¬ (mi 48 5) ≤ l3 → (∃ (r1 : Int64), Ret m_r_errorParts [(vR 19 0 48), (vI l3)] (some (vL r1)) c (MRc nb db by_ rs) mi ml mi ml ∧ (((lN 0) ≤ r1 → (∃ (r2 : Int64), Ret m_r_errorParts [(vR 19 0 48), (vI l2)] (some (vL r2)) c (MRc nb db by_ rs) mi ml mi ml ∧ (((lN 0) ≤ r2 → ((r1 ≤ r2 → (Go m_r_worst 28 [some (vR 19 0 48), some (vI l1), some (vI l2), some (vI (l3 + nI 1))] [] rv c (MRc nb db by_ rs) mi ml mi' ml')) ∧ (¬ r1 ≤ r2 → (Go m_r_worst 28 [some (vR 19 0 48), some (vI l1), some (vI l3), some (vI (l3 + nI 1))] [] rv c (MRc nb db by_ rs) mi ml mi' ml')))) ∧ (¬ (lN 0) ≤ r2 → ((r1 ≤ (-r2) → (Go m_r_worst 28 [some (vR 19 0 48), some (vI l1), some (vI l2), some (vI (l3 + nI 1))] [] rv c (MRc nb db by_ rs) mi ml mi' ml')) ∧ (¬ r1 ≤ (-r2) → (Go m_r_worst 28 [some (vR 19 0 48), some (vI l1), some (vI l3), some (vI (l3 + nI 1))] [] rv c (MRc nb db by_ rs) mi ml mi' ml'))))))) ∧ (¬ (lN 0) ≤ r1 → (∃ (r3 : Int64), Ret m_r_errorParts [(vR 19 0 48), (vI l2)] (some (vL r3)) c (MRc nb db by_ rs) mi ml mi ml ∧ (((lN 0) ≤ r3 → (((-r1) ≤ r3 → (Go m_r_worst 28 [some (vR 19 0 48), some (vI l1), some (vI l2), some (vI (l3 + nI 1))] [] rv c (MRc nb db by_ rs) mi ml mi' ml')) ∧ (¬ (-r1) ≤ r3 → (Go m_r_worst 28 [some (vR 19 0 48), some (vI l1), some (vI l3), some (vI (l3 + nI 1))] [] rv c (MRc nb db by_ rs) mi ml mi' ml')))) ∧ (¬ (lN 0) ≤ r3 → (((-r1) ≤ (-r3) → (Go m_r_worst 28 [some (vR 19 0 48), some (vI l1), some (vI l2), some (vI (l3 + nI 1))] [] rv c (MRc nb db by_ rs) mi ml mi' ml')) ∧ (¬ (-r1) ≤ (-r3) → (Go m_r_worst 28 [some (vR 19 0 48), some (vI l1), some (vI l3), some (vI (l3 + nI 1))] [] rv c (MRc nb db by_ rs) mi ml mi' ml'))))))))))) :
    Go m_r_worst 28 [some (vR 19 0 48), some (vI l1), some (vI l2), some (vI l3)] [] rv c (MRc nb db by_ rs) mi ml mi' ml' := by
  intro Q hQ
  refine at_wq inlT 400 rfl ?_
  refine ⟨fun g => ?_, fun g => ?_⟩
  · have h := h.1 (g)
    exact h.use hQ
  · have h := h.2 (g)
    obtain ⟨r1, hR, h⟩ := h
    refine ⟨0, 0, Nat.zero_le _, Nat.zero_le _, hR _ ?_⟩
    refine ⟨fun g => ?_, fun g => ?_⟩
    · have h := h.1 ((lgc_ge _ _).mp g)
      obtain ⟨r2, hR, h⟩ := h
      refine ⟨0, 0, Nat.zero_le _, Nat.zero_le _, hR _ ?_⟩
      refine ⟨fun g => ?_, fun g => ?_⟩
      · have h := h.1 ((lgc_ge _ _).mp g)
        refine ⟨fun g => ?_, fun g => ?_⟩
        · have h := h.1 ((lgc_le _ _).mp g)
          exact h Q hQ
        · have h := h.2 (fun z => g ((lgc_le _ _).mpr z))
          exact h Q hQ
      · have h := h.2 (fun z => g ((lgc_ge _ _).mpr z))
        refine ⟨fun g => ?_, fun g => ?_⟩
        · have h := h.1 ((lgc_le _ _).mp g)
          exact h Q hQ
        · have h := h.2 (fun z => g ((lgc_le _ _).mpr z))
          exact h Q hQ
    · have h := h.2 (fun z => g ((lgc_ge _ _).mpr z))
      obtain ⟨r3, hR, h⟩ := h
      refine ⟨0, 0, Nat.zero_le _, Nat.zero_le _, hR _ ?_⟩
      refine ⟨fun g => ?_, fun g => ?_⟩
      · have h := h.1 ((lgc_ge _ _).mp g)
        refine ⟨fun g => ?_, fun g => ?_⟩
        · have h := h.1 ((lgc_le _ _).mp g)
          exact h Q hQ
        · have h := h.2 (fun z => g ((lgc_le _ _).mpr z))
          exact h Q hQ
      · have h := h.2 (fun z => g ((lgc_ge _ _).mpr z))
        refine ⟨fun g => ?_, fun g => ?_⟩
        · have h := h.1 ((lgc_le _ _).mp g)
          exact h Q hQ
        · have h := h.2 (fun z => g ((lgc_le _ _).mpr z))
          exact h Q hQ
theorem g_r_share_0 {nb db : Nat} {by_ rs : RX} {c : Nat} {mi mi' : MI} {ml ml' : ML} {rv : Option AV} {a0 : Int32}
    (h : (¬ (mi 48 26) = 0 → (∃ (mi1 : MI) (ml1 : ML), Ret m_r_sets [(vR 19 0 48), (vL ((lN 4) * ((mi 48 5).toInt64))), (vL ((((mi 48 5).toInt64) + (lN 1)) * (((mi 48 5).toInt64) + (lN 1))))] none c (MRc nb db by_ rs) (u2 mi 48 0 (nI 0)) ml mi1 ml1 ∧ ((a0 = 0 → (Fin (some (vL (ml1 48 3))) (u2 (u2 mi1 48 1 (nI 0)) 48 2 (-(nI 1))) ml1 rv mi' ml')) ∧ (¬ a0 = 0 → (Fin (some (vL (ml1 48 4))) (u2 (u2 mi1 48 1 (nI 0)) 48 2 (-(nI 1))) ml1 rv mi' ml'))))) ∧ ((mi 48 26) = 0 → (Fin (some (vL ((-(nI 1)).toInt64))) (u2 (u2 (u2 mi 48 0 (nI 0)) 48 1 (nI 1)) 48 2 (-(nI 1))) ml rv mi' ml'))) :
    Ret m_r_share [(vR 19 0 48), (vI a0)] rv c (MRc nb db by_ rs) mi ml mi' ml' := by
  intro Q hQ
  refine ok_wq inlT 400 rfl rfl ?_
  refine ⟨fun g => ?_, fun g => ?_⟩
  · have h := h.1 (g)
    obtain ⟨mi1, ml1, hR, h⟩ := h
    refine ⟨0, 0, Nat.zero_le _, Nat.zero_le _, hR _ ?_⟩
    refine ⟨fun g => ?_, fun g => ?_⟩
    · have h := h.1 (g)
      exact h.use hQ
    · have h := h.2 (g)
      exact h.use hQ
  · have h := h.2 (g)
    exact h.use hQ
theorem g_r_grains_0 {nb db : Nat} {by_ rs : RX} {c : Nat} {mi mi' : MI} {ml ml' : ML} {rv : Option AV} {a0 : Int32}
    (h : ∃ (r1 : Int32), Ret m_r_refuses [(vR 19 0 48), (vI (mi 48 26))] (some (vI r1)) c (MRc nb db by_ rs) (u2 mi 48 0 (nI 0)) ml (u2 mi 48 0 (nI 0)) ml ∧ ((r1 ≤ 0 → (∃ (r2 : Int32), Ret m_r_netAll [(vR 19 0 48)] (some (vI r2)) c (MRc nb db by_ rs) (u2 mi 48 0 (nI 0)) ml (u2 mi 48 0 (nI 0)) ml ∧ (∃ (mi3 : MI) (ml3 : ML), Ret m_r_sets [(vR 19 0 48), (vL ((lN 4) * r2.toInt64)), (vL ((((mi 48 5).toInt64) + (lN 1)) * (((mi 48 5).toInt64) + (lN 1))))] none c (MRc nb db by_ rs) (u2 mi 48 0 (nI 0)) ml mi3 ml3 ∧ ((a0 = 0 → (Fin (some (vL (ml3 48 3))) (u2 (u2 mi3 48 1 (nI 0)) 48 2 (-(nI 1))) ml3 rv mi' ml')) ∧ (¬ a0 = 0 → (Fin (some (vL (ml3 48 4))) (u2 (u2 mi3 48 1 (nI 0)) 48 2 (-(nI 1))) ml3 rv mi' ml')))))) ∧ (¬ r1 ≤ 0 → (Fin (some (vL (-(lN 9223372036854775808)))) (u2 (u2 (u2 mi 48 0 (nI 0)) 48 1 r1) 48 2 (-(nI 1))) ml rv mi' ml')))) :
    Ret m_r_grains [(vR 19 0 48), (vI a0)] rv c (MRc nb db by_ rs) mi ml mi' ml' := by
  intro Q hQ
  refine ok_wq inlT 400 rfl rfl ?_
  obtain ⟨r1, hR, h⟩ := h
  refine ⟨0, 0, Nat.zero_le _, Nat.zero_le _, hR _ ?_⟩
  refine ⟨fun g => ?_, fun g => ?_⟩
  · have h := h.1 (g)
    obtain ⟨r2, hR, h⟩ := h
    refine ⟨0, 0, Nat.zero_le _, Nat.zero_le _, hR _ ?_⟩
    obtain ⟨mi3, ml3, hR, h⟩ := h
    refine ⟨0, 0, Nat.zero_le _, Nat.zero_le _, hR _ ?_⟩
    refine ⟨fun g => ?_, fun g => ?_⟩
    · have h := h.1 (g)
      exact h.use hQ
    · have h := h.2 (g)
      exact h.use hQ
  · have h := h.2 (g)
    exact h.use hQ
theorem g_r_better_0 {nb db : Nat} {by_ rs : RX} {c : Nat} {mi mi' : MI} {ml ml' : ML} {rv : Option AV} 
    (h : ∃ (r1 : Int32), Ret m_r_refuses [(vR 19 0 48), (vI (mi 48 26))] (some (vI r1)) c (MRc nb db by_ rs) (u2 mi 48 0 (nI 0)) ml (u2 mi 48 0 (nI 0)) ml ∧ ((r1 ≤ 0 → (Go m_r_better 28 [some (vR 19 0 48), some (vI r1), some (vI (nI 0)), some (vI (nI 0))] [] rv c (MRc nb db by_ rs) (u2 mi 48 0 (nI 0)) ml mi' ml')) ∧ (¬ r1 ≤ 0 → (Fin (some (vI (-(nI 1)))) (u2 (u2 (u2 mi 48 0 (nI 0)) 48 1 r1) 48 2 (-(nI 1))) ml rv mi' ml')))) :
    Ret m_r_better [(vR 19 0 48)] rv c (MRc nb db by_ rs) mi ml mi' ml' := by
  intro Q hQ
  refine ok_wq inlT 400 rfl rfl ?_
  obtain ⟨r1, hR, h⟩ := h
  refine ⟨0, 0, Nat.zero_le _, Nat.zero_le _, hR _ ?_⟩
  refine ⟨fun g => ?_, fun g => ?_⟩
  · have h := h.1 (g)
    exact h Q hQ
  · have h := h.2 (g)
    exact h.use hQ
theorem g_r_better_28 {nb db : Nat} {by_ rs : RX} {c : Nat} {mi mi' : MI} {ml ml' : ML} {rv : Option AV} {l1 : Int32} {l2 : Int32} {l3 : Int32}
    (h : ((mi 48 5) ≤ l3 → (Fin (some (vI l2)) (u2 (u2 mi 48 1 (nI 0)) 48 2 (-(nI 1))) ml rv mi' ml')) ∧ (¬ (mi 48 5) ≤ l3 → (∃ (r1 : Int32), Ret m_r_netAll [(vR 19 0 48)] (some (vI r1)) c (MRc nb db by_ rs) mi ml mi ml ∧ (∃ (r2 : Int64), Ret m_r_partsOf [(vR 19 0 48), (vI l3)] (some (vL r2)) c (MRc nb db by_ rs) mi ml mi ml ∧ (((r2 * (((mi 48 5).toInt64) + (lN 1))) ≤ ((lN 4) * r1.toInt64) → (Go m_r_better 28 [some (vR 19 0 48), some (vI l1), some (vI l2), some (vI (l3 + nI 1))] [] rv c (MRc nb db by_ rs) mi ml mi' ml')) ∧ (¬ (r2 * (((mi 48 5).toInt64) + (lN 1))) ≤ ((lN 4) * r1.toInt64) → (Go m_r_better 28 [some (vR 19 0 48), some (vI l1), some (vI (l2 ||| ((nI 1) <<< (l3 &&& 31)))), some (vI (l3 + nI 1))] [] rv c (MRc nb db by_ rs) mi ml mi' ml'))))))) :
    Go m_r_better 28 [some (vR 19 0 48), some (vI l1), some (vI l2), some (vI l3)] [] rv c (MRc nb db by_ rs) mi ml mi' ml' := by
  intro Q hQ
  refine at_wq inlT 400 rfl ?_
  refine ⟨fun g => ?_, fun g => ?_⟩
  · have h := h.1 (g)
    exact h.use hQ
  · have h := h.2 (g)
    obtain ⟨r1, hR, h⟩ := h
    refine ⟨0, 0, Nat.zero_le _, Nat.zero_le _, hR _ ?_⟩
    obtain ⟨r2, hR, h⟩ := h
    refine ⟨0, 0, Nat.zero_le _, Nat.zero_le _, hR _ ?_⟩
    refine ⟨fun g => ?_, fun g => ?_⟩
    · have h := h.1 ((lgc_ge _ _).mp g)
      exact h Q hQ
    · have h := h.2 (fun z => g ((lgc_ge _ _).mpr z))
      exact h Q hQ
theorem g_r_aloneOf_0 {nb db : Nat} {by_ rs : RX} {c : Nat} {mi mi' : MI} {ml ml' : ML} {rv : Option AV} {a0 : Int32}
    (h : ∃ (r1 : Int32), Ret m_r_through [(vR 19 0 48), (vI ((nI 1) <<< (a0 &&& 31)))] (some (vI r1)) c (MRc nb db by_ rs) mi ml mi ml ∧ (vp_in a0 31 ∧ (Fin (some (vI (r1 + (mi 50 a0.toNatClampNeg)))) mi ml rv mi' ml'))) :
    Ret m_r_aloneOf [(vR 19 0 48), (vI a0)] rv c (MRc nb db by_ rs) mi ml mi' ml' := by
  intro Q hQ
  refine ok_wq inlT 400 rfl rfl ?_
  obtain ⟨r1, hR, h⟩ := h
  refine ⟨0, 0, Nat.zero_le _, Nat.zero_le _, hR _ ?_⟩
  refine ⟨h.1, ?_⟩
  have h := h.2
  exact h.use hQ
theorem g_r_offAlone_0 {nb db : Nat} {by_ rs : RX} {c : Nat} {mi mi' : MI} {ml ml' : ML} {rv : Option AV} {a0 : Int32}
    (h : ∃ (r1 : Int32), Ret m_r_aloneOf [(vR 19 0 48), (vI a0)] (some (vI r1)) c (MRc nb db by_ rs) mi ml mi ml ∧ (vp_in a0 63 ∧ (((lN 0) ≤ ((r1 - (mi 54 a0.toNatClampNeg)).toInt64) → (Fin (some (vL ((r1 - (mi 54 a0.toNatClampNeg)).toInt64))) mi ml rv mi' ml')) ∧ (¬ (lN 0) ≤ ((r1 - (mi 54 a0.toNatClampNeg)).toInt64) → (Fin (some (vL (-((r1 - (mi 54 a0.toNatClampNeg)).toInt64)))) mi ml rv mi' ml'))))) :
    Ret m_r_offAlone [(vR 19 0 48), (vI a0)] rv c (MRc nb db by_ rs) mi ml mi' ml' := by
  intro Q hQ
  refine ok_wq inlT 400 rfl rfl ?_
  obtain ⟨r1, hR, h⟩ := h
  refine ⟨0, 0, Nat.zero_le _, Nat.zero_le _, hR _ ?_⟩
  refine ⟨h.1, ?_⟩
  have h := h.2
  refine ⟨fun g => ?_, fun g => ?_⟩
  · have h := h.1 ((lgc_ge _ _).mp g)
    exact h.use hQ
  · have h := h.2 (fun z => g ((lgc_ge _ _).mpr z))
    exact h.use hQ
theorem g_r_alone_0 {nb db : Nat} {by_ rs : RX} {c : Nat} {mi mi' : MI} {ml ml' : ML} {rv : Option AV} {a0 : Int32}
    (h : ∃ (r1 : Int32), Ret m_r_isOne [(vR 19 0 48), (vI a0)] (some (vI r1)) c (MRc nb db by_ rs) (u2 mi 48 0 (nI 0)) ml (u2 mi 48 0 (nI 0)) ml ∧ ((r1 = 0 → (Fin (some (vI (-(nI 2147483648)))) (u2 (u2 (u2 mi 48 0 (nI 0)) 48 1 (nI 1)) 48 2 (-(nI 1))) ml rv mi' ml')) ∧ (¬ r1 = 0 → (∃ (r2 : Int32), Ret m_r_aloneOf [(vR 19 0 48), (vI a0)] (some (vI r2)) c (MRc nb db by_ rs) (u2 mi 48 0 (nI 0)) ml (u2 mi 48 0 (nI 0)) ml ∧ (Fin (some (vI r2)) (u2 (u2 (u2 mi 48 0 (nI 0)) 48 1 (nI 0)) 48 2 (-(nI 1))) ml rv mi' ml'))))) :
    Ret m_r_alone [(vR 19 0 48), (vI a0)] rv c (MRc nb db by_ rs) mi ml mi' ml' := by
  intro Q hQ
  refine ok_wq inlT 400 rfl rfl ?_
  obtain ⟨r1, hR, h⟩ := h
  refine ⟨0, 0, Nat.zero_le _, Nat.zero_le _, hR _ ?_⟩
  refine ⟨fun g => ?_, fun g => ?_⟩
  · have h := h.1 (g)
    exact h.use hQ
  · have h := h.2 (g)
    obtain ⟨r2, hR, h⟩ := h
    refine ⟨0, 0, Nat.zero_le _, Nat.zero_le _, hR _ ?_⟩
    exact h.use hQ
theorem g_r_alones_0 {nb db : Nat} {by_ rs : RX} {c : Nat} {mi mi' : MI} {ml ml' : ML} {rv : Option AV} 
    (h : (¬ (mi 48 26) = 0 → (Go m_r_alones 23 [some (vR 19 0 48), some (vL (lN 0)), none, some (vI (nI 0))] [] rv c (MRc nb db by_ rs) (u2 mi 48 0 (nI 0)) ml mi' ml')) ∧ ((mi 48 26) = 0 → (Fin (some (vL ((-(nI 1)).toInt64))) (u2 (u2 (u2 mi 48 0 (nI 0)) 48 1 (nI 1)) 48 2 (-(nI 1))) ml rv mi' ml'))) :
    Ret m_r_alones [(vR 19 0 48)] rv c (MRc nb db by_ rs) mi ml mi' ml' := by
  intro Q hQ
  refine ok_wq inlT 400 rfl rfl ?_
  refine ⟨fun g => ?_, fun g => ?_⟩
  · have h := h.1 (g)
    exact h Q hQ
  · have h := h.2 (g)
    exact h.use hQ
theorem g_r_alones_23 {nb db : Nat} {by_ rs : RX} {c : Nat} {mi mi' : MI} {ml ml' : ML} {rv : Option AV} {l1 : Int64} {l3 : Int32}
    (h : ((mi 48 5) ≤ l3 → (Fin (some (vL l1)) (u2 (u2 mi 48 1 (nI 0)) 48 2 (-(nI 1))) ml rv mi' ml')) ∧ (¬ (mi 48 5) ≤ l3 → (∃ (r1 : Int64), Ret m_r_offAlone [(vR 19 0 48), (vI l3)] (some (vL r1)) c (MRc nb db by_ rs) mi ml mi ml ∧ (∃ (r2 : Int64), Ret m_r_offAlone [(vR 19 0 48), (vI l3)] (some (vL r2)) c (MRc nb db by_ rs) mi ml mi ml ∧ (Go m_r_alones 23 [some (vR 19 0 48), some (vL (l1 + (r1 * r2))), none, some (vI (l3 + nI 1))] [] rv c (MRc nb db by_ rs) mi ml mi' ml'))))) :
    Go m_r_alones 23 [some (vR 19 0 48), some (vL l1), none, some (vI l3)] [] rv c (MRc nb db by_ rs) mi ml mi' ml' := by
  intro Q hQ
  refine at_wq inlT 400 rfl ?_
  refine ⟨fun g => ?_, fun g => ?_⟩
  · have h := h.1 (g)
    exact h.use hQ
  · have h := h.2 (g)
    obtain ⟨r1, hR, h⟩ := h
    refine ⟨0, 0, Nat.zero_le _, Nat.zero_le _, hR _ ?_⟩
    obtain ⟨r2, hR, h⟩ := h
    refine ⟨0, 0, Nat.zero_le _, Nat.zero_le _, hR _ ?_⟩
    exact h Q hQ
theorem g_r_closer_0 {nb db : Nat} {by_ rs : RX} {c : Nat} {mi mi' : MI} {ml ml' : ML} {rv : Option AV} 
    (h : ∃ (r1 : Int32), Ret m_r_refuses [(vR 19 0 48), (vI (mi 48 26))] (some (vI r1)) c (MRc nb db by_ rs) (u2 mi 48 0 (nI 0)) ml (u2 mi 48 0 (nI 0)) ml ∧ ((r1 ≤ 0 → (Go m_r_closer 28 [some (vR 19 0 48), some (vI r1), some (vI (nI 0)), some (vI (nI 0))] [] rv c (MRc nb db by_ rs) (u2 mi 48 0 (nI 0)) ml mi' ml')) ∧ (¬ r1 ≤ 0 → (Fin (some (vI (-(nI 1)))) (u2 (u2 (u2 mi 48 0 (nI 0)) 48 1 r1) 48 2 (-(nI 1))) ml rv mi' ml')))) :
    Ret m_r_closer [(vR 19 0 48)] rv c (MRc nb db by_ rs) mi ml mi' ml' := by
  intro Q hQ
  refine ok_wq inlT 400 rfl rfl ?_
  obtain ⟨r1, hR, h⟩ := h
  refine ⟨0, 0, Nat.zero_le _, Nat.zero_le _, hR _ ?_⟩
  refine ⟨fun g => ?_, fun g => ?_⟩
  · have h := h.1 (g)
    exact h Q hQ
  · have h := h.2 (g)
    exact h.use hQ
theorem g_r_closer_28 {nb db : Nat} {by_ rs : RX} {c : Nat} {mi mi' : MI} {ml ml' : ML} {rv : Option AV} {l1 : Int32} {l2 : Int32} {l3 : Int32}
    (h : ((mi 48 5) ≤ l3 → (Fin (some (vI l2)) (u2 (u2 mi 48 1 (nI 0)) 48 2 (-(nI 1))) ml rv mi' ml')) ∧ (¬ (mi 48 5) ≤ l3 → (∃ (r1 : Int64), Ret m_r_errorParts [(vR 19 0 48), (vI l3)] (some (vL r1)) c (MRc nb db by_ rs) mi ml mi ml ∧ (((lN 0) ≤ r1 → (∃ (r2 : Int64), Ret m_r_offAlone [(vR 19 0 48), (vI l3)] (some (vL r2)) c (MRc nb db by_ rs) mi ml mi ml ∧ (((r2 * (((mi 48 5).toInt64) + (lN 1))) ≤ r1 → (Go m_r_closer 28 [some (vR 19 0 48), some (vI l1), some (vI l2), some (vI (l3 + nI 1))] [] rv c (MRc nb db by_ rs) mi ml mi' ml')) ∧ (¬ (r2 * (((mi 48 5).toInt64) + (lN 1))) ≤ r1 → (Go m_r_closer 28 [some (vR 19 0 48), some (vI l1), some (vI (l2 ||| ((nI 1) <<< (l3 &&& 31)))), some (vI (l3 + nI 1))] [] rv c (MRc nb db by_ rs) mi ml mi' ml'))))) ∧ (¬ (lN 0) ≤ r1 → (∃ (r3 : Int64), Ret m_r_offAlone [(vR 19 0 48), (vI l3)] (some (vL r3)) c (MRc nb db by_ rs) mi ml mi ml ∧ (((r3 * (((mi 48 5).toInt64) + (lN 1))) ≤ (-r1) → (Go m_r_closer 28 [some (vR 19 0 48), some (vI l1), some (vI l2), some (vI (l3 + nI 1))] [] rv c (MRc nb db by_ rs) mi ml mi' ml')) ∧ (¬ (r3 * (((mi 48 5).toInt64) + (lN 1))) ≤ (-r1) → (Go m_r_closer 28 [some (vR 19 0 48), some (vI l1), some (vI (l2 ||| ((nI 1) <<< (l3 &&& 31)))), some (vI (l3 + nI 1))] [] rv c (MRc nb db by_ rs) mi ml mi' ml'))))))))) :
    Go m_r_closer 28 [some (vR 19 0 48), some (vI l1), some (vI l2), some (vI l3)] [] rv c (MRc nb db by_ rs) mi ml mi' ml' := by
  intro Q hQ
  refine at_wq inlT 400 rfl ?_
  refine ⟨fun g => ?_, fun g => ?_⟩
  · have h := h.1 (g)
    exact h.use hQ
  · have h := h.2 (g)
    obtain ⟨r1, hR, h⟩ := h
    refine ⟨0, 0, Nat.zero_le _, Nat.zero_le _, hR _ ?_⟩
    refine ⟨fun g => ?_, fun g => ?_⟩
    · have h := h.1 ((lgc_ge _ _).mp g)
      obtain ⟨r2, hR, h⟩ := h
      refine ⟨0, 0, Nat.zero_le _, Nat.zero_le _, hR _ ?_⟩
      refine ⟨fun g => ?_, fun g => ?_⟩
      · have h := h.1 ((lgc_ge _ _).mp g)
        exact h Q hQ
      · have h := h.2 (fun z => g ((lgc_ge _ _).mpr z))
        exact h Q hQ
    · have h := h.2 (fun z => g ((lgc_ge _ _).mpr z))
      obtain ⟨r3, hR, h⟩ := h
      refine ⟨0, 0, Nat.zero_le _, Nat.zero_le _, hR _ ?_⟩
      refine ⟨fun g => ?_, fun g => ?_⟩
      · have h := h.1 ((lgc_ge _ _).mp g)
        exact h Q hQ
      · have h := h.2 (fun z => g ((lgc_ge _ _).mpr z))
        exact h Q hQ
theorem g_r_isSuspect_0 {nb db : Nat} {by_ rs : RX} {c : Nat} {mi mi' : MI} {ml ml' : ML} {rv : Option AV} {a0 : Int32}
    (h : (¬ a0 = 0 → ((¬ (rmI a0 (nI 2)) = (nI 1) → (∃ (r1 : Int32) (mi1 : MI) (ml1 : ML), Ret m_r_supposesShut [(vR 19 0 48), (vI ((a0 - (nI 1)) / (nI 2)))] (some (vI r1)) c (MRc nb db by_ rs) mi ml mi1 ml1 ∧ ((r1 = 0 → (Fin (some (vI (nI 0))) mi1 ml1 rv mi' ml')) ∧ (¬ r1 = 0 → (∃ (r2 : Int32), Ret m_r_areLights [(vR 19 0 48)] (some (vI r2)) c (MRc nb db by_ rs) mi1 ml1 mi1 ml1 ∧ ((r2 = 0 → (Fin (some (vI (nI 0))) mi1 ml1 rv mi' ml')) ∧ (¬ r2 = 0 → (∃ (r3 : Int32), Ret m_r_areSeen [(vR 19 0 48), (vI (nI 0)), (vI ((nI 1) <<< (((a0 - (nI 1)) / (nI 2)) &&& 31)))] (some (vI r3)) c (MRc nb db by_ rs) mi1 ml1 mi1 ml1 ∧ ((r3 = 0 → (Fin (some (vI (nI 0))) mi1 ml1 rv mi' ml')) ∧ (¬ r3 = 0 → (Fin (some (vI (nI 1))) mi1 ml1 rv mi' ml'))))))))))) ∧ ((rmI a0 (nI 2)) = (nI 1) → (∃ (r4 : Int32) (mi4 : MI) (ml4 : ML), Ret m_r_supposesOpen [(vR 19 0 48), (vI ((a0 - (nI 1)) / (nI 2)))] (some (vI r4)) c (MRc nb db by_ rs) mi ml mi4 ml4 ∧ ((r4 = 0 → (Fin (some (vI (nI 0))) mi4 ml4 rv mi' ml')) ∧ (¬ r4 = 0 → (∃ (r5 : Int32), Ret m_r_areLights [(vR 19 0 48)] (some (vI r5)) c (MRc nb db by_ rs) mi4 ml4 mi4 ml4 ∧ ((r5 = 0 → (Fin (some (vI (nI 0))) mi4 ml4 rv mi' ml')) ∧ (¬ r5 = 0 → (∃ (r6 : Int32), Ret m_r_areSeen [(vR 19 0 48), (vI ((nI 1) <<< (((a0 - (nI 1)) / (nI 2)) &&& 31))), (vI (nI 0))] (some (vI r6)) c (MRc nb db by_ rs) mi4 ml4 mi4 ml4 ∧ ((r6 = 0 → (Fin (some (vI (nI 0))) mi4 ml4 rv mi' ml')) ∧ (¬ r6 = 0 → (Fin (some (vI (nI 1))) mi4 ml4 rv mi' ml'))))))))))))) ∧ (a0 = 0 → (∃ (r7 : Int32) (mi7 : MI) (ml7 : ML), Ret m_r_supposesFine [(vR 19 0 48)] (some (vI r7)) c (MRc nb db by_ rs) mi ml mi7 ml7 ∧ ((r7 = 0 → (Fin (some (vI (nI 0))) mi7 ml7 rv mi' ml')) ∧ (¬ r7 = 0 → (∃ (r8 : Int32), Ret m_r_areLights [(vR 19 0 48)] (some (vI r8)) c (MRc nb db by_ rs) mi7 ml7 mi7 ml7 ∧ ((r8 = 0 → (Fin (some (vI (nI 0))) mi7 ml7 rv mi' ml')) ∧ (¬ r8 = 0 → (∃ (r9 : Int32), Ret m_r_areSeen [(vR 19 0 48), (vI (nI 0)), (vI (nI 0))] (some (vI r9)) c (MRc nb db by_ rs) mi7 ml7 mi7 ml7 ∧ ((r9 = 0 → (Fin (some (vI (nI 0))) mi7 ml7 rv mi' ml')) ∧ (¬ r9 = 0 → (Fin (some (vI (nI 1))) mi7 ml7 rv mi' ml')))))))))))) :
    Ret m_r_isSuspect [(vR 19 0 48), (vI a0)] rv c (MRc nb db by_ rs) mi ml mi' ml' := by
  intro Q hQ
  refine ok_wq inlT 400 rfl rfl ?_
  refine ⟨fun g => ?_, fun g => ?_⟩
  · have h := h.1 (g)
    refine ⟨by decide, ?_⟩
    refine ⟨by decide, ?_⟩
    refine ⟨fun g => ?_, fun g => ?_⟩
    · have h := h.1 (g)
      obtain ⟨r1, mi1, ml1, hR, h⟩ := h
      refine ⟨0, 0, Nat.zero_le _, Nat.zero_le _, hR _ ?_⟩
      refine ⟨fun g => ?_, fun g => ?_⟩
      · have h := h.1 (g)
        refine ⟨Or.inl rfl, ?_⟩
        exact h.use hQ
      · have h := h.2 (g)
        obtain ⟨r2, hR, h⟩ := h
        refine ⟨0, 0, Nat.zero_le _, Nat.zero_le _, hR _ ?_⟩
        refine ⟨fun g => ?_, fun g => ?_⟩
        · have h := h.1 (g)
          refine ⟨Or.inl rfl, ?_⟩
          exact h.use hQ
        · have h := h.2 (g)
          obtain ⟨r3, hR, h⟩ := h
          refine ⟨0, 0, Nat.zero_le _, Nat.zero_le _, hR _ ?_⟩
          refine ⟨fun g => ?_, fun g => ?_⟩
          · have h := h.1 (g)
            refine ⟨Or.inl rfl, ?_⟩
            exact h.use hQ
          · have h := h.2 (g)
            refine ⟨Or.inr rfl, ?_⟩
            exact h.use hQ
    · have h := h.2 (g)
      obtain ⟨r4, mi4, ml4, hR, h⟩ := h
      refine ⟨0, 0, Nat.zero_le _, Nat.zero_le _, hR _ ?_⟩
      refine ⟨fun g => ?_, fun g => ?_⟩
      · have h := h.1 (g)
        refine ⟨Or.inl rfl, ?_⟩
        exact h.use hQ
      · have h := h.2 (g)
        obtain ⟨r5, hR, h⟩ := h
        refine ⟨0, 0, Nat.zero_le _, Nat.zero_le _, hR _ ?_⟩
        refine ⟨fun g => ?_, fun g => ?_⟩
        · have h := h.1 (g)
          refine ⟨Or.inl rfl, ?_⟩
          exact h.use hQ
        · have h := h.2 (g)
          obtain ⟨r6, hR, h⟩ := h
          refine ⟨0, 0, Nat.zero_le _, Nat.zero_le _, hR _ ?_⟩
          refine ⟨fun g => ?_, fun g => ?_⟩
          · have h := h.1 (g)
            refine ⟨Or.inl rfl, ?_⟩
            exact h.use hQ
          · have h := h.2 (g)
            refine ⟨Or.inr rfl, ?_⟩
            exact h.use hQ
  · have h := h.2 (g)
    obtain ⟨r7, mi7, ml7, hR, h⟩ := h
    refine ⟨0, 0, Nat.zero_le _, Nat.zero_le _, hR _ ?_⟩
    refine ⟨fun g => ?_, fun g => ?_⟩
    · have h := h.1 (g)
      refine ⟨Or.inl rfl, ?_⟩
      exact h.use hQ
    · have h := h.2 (g)
      obtain ⟨r8, hR, h⟩ := h
      refine ⟨0, 0, Nat.zero_le _, Nat.zero_le _, hR _ ?_⟩
      refine ⟨fun g => ?_, fun g => ?_⟩
      · have h := h.1 (g)
        refine ⟨Or.inl rfl, ?_⟩
        exact h.use hQ
      · have h := h.2 (g)
        obtain ⟨r9, hR, h⟩ := h
        refine ⟨0, 0, Nat.zero_le _, Nat.zero_le _, hR _ ?_⟩
        refine ⟨fun g => ?_, fun g => ?_⟩
        · have h := h.1 (g)
          refine ⟨Or.inl rfl, ?_⟩
          exact h.use hQ
        · have h := h.2 (g)
          refine ⟨Or.inr rfl, ?_⟩
          exact h.use hQ
theorem g_r_supposes_0 {nb db : Nat} {by_ rs : RX} {c : Nat} {mi mi' : MI} {ml ml' : ML} {rv : Option AV} {a0 : Int32} {a1 : Int64}
    (h : ¬ (((mi 48 5).toInt64) + (lN 1)) = 0 ∧ (vp_in a0 31 ∧ (¬ (((mi 48 5).toInt64) + (lN 1)) = 0 ∧ ((¬ (rmL a1 (((mi 48 5).toInt64) + (lN 1))) = (lN 0) → (Fin (some (vI (nI 0))) mi (u2 ml 61 a0.toNatClampNeg (a1 / (((mi 48 5).toInt64) + (lN 1)))) rv mi' ml')) ∧ ((rmL a1 (((mi 48 5).toInt64) + (lN 1))) = (lN 0) → (Fin (some (vI (nI 1))) mi (u2 ml 61 a0.toNatClampNeg (a1 / (((mi 48 5).toInt64) + (lN 1)))) rv mi' ml')))))) :
    Ret m_r_supposes [(vR 19 0 48), (vI a0), (vL a1)] rv c (MRc nb db by_ rs) mi ml mi' ml' := by
  intro Q hQ
  refine ok_wq inlT 400 rfl rfl ?_
  refine ⟨h.1, ?_⟩
  have h := h.2
  refine ⟨h.1, ?_⟩
  have h := h.2
  refine ⟨h.1, ?_⟩
  have h := h.2
  refine ⟨fun g => ?_, fun g => ?_⟩
  · have h := h.1 (fun z => g ((lgc_eq _ _).mpr z))
    refine ⟨Or.inl rfl, ?_⟩
    exact h.use hQ
  · have h := h.2 ((lgc_eq _ _).mp g)
    refine ⟨Or.inr rfl, ?_⟩
    exact h.use hQ
theorem g_r_supposesFine_0 {nb db : Nat} {by_ rs : RX} {c : Nat} {mi mi' : MI} {ml ml' : ML} {rv : Option AV} 
    (h : Go m_r_supposesFine 4 [some (vR 19 0 48), some (vI (nI 1)), some (vI (nI 0))] [] rv c (MRc nb db by_ rs) mi ml mi' ml') :
    Ret m_r_supposesFine [(vR 19 0 48)] rv c (MRc nb db by_ rs) mi ml mi' ml' := by
  intro Q hQ
  refine ok_wq inlT 400 rfl rfl ?_
  exact h Q hQ
theorem g_r_supposesFine_4 {nb db : Nat} {by_ rs : RX} {c : Nat} {mi mi' : MI} {ml ml' : ML} {rv : Option AV} {l1 : Int32} {l2 : Int32}
    (h : ((mi 48 5) ≤ l2 → ((l1 = 0 ∨ l1 = 1) ∧ (Fin (some (vI l1)) mi ml rv mi' ml'))) ∧ (¬ (mi 48 5) ≤ l2 → (∃ (r1 : Int64), Ret m_r_partsOf [(vR 19 0 48), (vI l2)] (some (vL r1)) c (MRc nb db by_ rs) mi ml mi ml ∧ (∃ (r2 : Int32) (mi2 : MI) (ml2 : ML), Ret m_r_supposes [(vR 19 0 48), (vI l2), (vL r1)] (some (vI r2)) c (MRc nb db by_ rs) mi ml mi2 ml2 ∧ ((r2 = 0 → (Go m_r_supposesFine 4 [some (vR 19 0 48), some (vI (nI 0)), some (vI (l2 + nI 1))] [] rv c (MRc nb db by_ rs) mi2 ml2 mi' ml')) ∧ (¬ r2 = 0 → ((l1 = 0 → (Go m_r_supposesFine 4 [some (vR 19 0 48), some (vI (nI 0)), some (vI (l2 + nI 1))] [] rv c (MRc nb db by_ rs) mi2 ml2 mi' ml')) ∧ (¬ l1 = 0 → (Go m_r_supposesFine 4 [some (vR 19 0 48), some (vI (nI 1)), some (vI (l2 + nI 1))] [] rv c (MRc nb db by_ rs) mi2 ml2 mi' ml'))))))))) :
    Go m_r_supposesFine 4 [some (vR 19 0 48), some (vI l1), some (vI l2)] [] rv c (MRc nb db by_ rs) mi ml mi' ml' := by
  intro Q hQ
  refine at_wq inlT 400 rfl ?_
  refine ⟨fun g => ?_, fun g => ?_⟩
  · have h := h.1 (g)
    refine ⟨h.1, ?_⟩
    have h := h.2
    exact h.use hQ
  · have h := h.2 (g)
    obtain ⟨r1, hR, h⟩ := h
    refine ⟨0, 0, Nat.zero_le _, Nat.zero_le _, hR _ ?_⟩
    obtain ⟨r2, mi2, ml2, hR, h⟩ := h
    refine ⟨0, 0, Nat.zero_le _, Nat.zero_le _, hR _ ?_⟩
    refine ⟨fun g => ?_, fun g => ?_⟩
    · have h := h.1 (g)
      exact h Q hQ
    · have h := h.2 (g)
      refine ⟨fun g => ?_, fun g => ?_⟩
      · have h := h.1 (g)
        exact h Q hQ
      · have h := h.2 (g)
        exact h Q hQ
theorem g_r_supposesOpen_0 {nb db : Nat} {by_ rs : RX} {c : Nat} {mi mi' : MI} {ml ml' : ML} {rv : Option AV} {a0 : Int32}
    (h : Go m_r_supposesOpen 4 [some (vR 19 0 48), some (vI a0), some (vI (nI 1)), some (vI (nI 0)), none, none] [] rv c (MRc nb db by_ rs) mi ml mi' ml') :
    Ret m_r_supposesOpen [(vR 19 0 48), (vI a0)] rv c (MRc nb db by_ rs) mi ml mi' ml' := by
  intro Q hQ
  refine ok_wq inlT 400 rfl rfl ?_
  exact h Q hQ
theorem g_r_supposesOpen_4 {nb db : Nat} {by_ rs : RX} {c : Nat} {mi mi' : MI} {ml ml' : ML} {rv : Option AV} {l1 : Int32} {l2 : Int32} {l3 : Int32}
    (h : ((mi 48 5) ≤ l3 → ((l2 = 0 ∨ l2 = 1) ∧ (Fin (some (vI l2)) mi ml rv mi' ml'))) ∧ (¬ (mi 48 5) ≤ l3 → ((¬ l3 = l1 → (∃ (r1 : Int64), Ret m_r_partsOf [(vR 19 0 48), (vI l3)] (some (vL r1)) c (MRc nb db by_ rs) mi ml mi ml ∧ (∃ (r2 : Int64), Ret m_r_partsOf [(vR 19 0 48), (vI l1)] (some (vL r2)) c (MRc nb db by_ rs) mi ml mi ml ∧ (∃ (r3 : Int32) (mi3 : MI) (ml3 : ML), Ret m_r_supposes [(vR 19 0 48), (vI l3), (vL (r1 - r2))] (some (vI r3)) c (MRc nb db by_ rs) mi ml mi3 ml3 ∧ ((r3 = 0 → (Go m_r_supposesOpen 4 [some (vR 19 0 48), some (vI l1), some (vI (nI 0)), some (vI (l3 + nI 1)), none, none] [] rv c (MRc nb db by_ rs) mi3 ml3 mi' ml')) ∧ (¬ r3 = 0 → ((l2 = 0 → (Go m_r_supposesOpen 4 [some (vR 19 0 48), some (vI l1), some (vI (nI 0)), some (vI (l3 + nI 1)), none, none] [] rv c (MRc nb db by_ rs) mi3 ml3 mi' ml')) ∧ (¬ l2 = 0 → (Go m_r_supposesOpen 4 [some (vR 19 0 48), some (vI l1), some (vI (nI 1)), some (vI (l3 + nI 1)), none, none] [] rv c (MRc nb db by_ rs) mi3 ml3 mi' ml'))))))))) ∧ (l3 = l1 → (∃ (r4 : Int64), Ret m_r_partsOf [(vR 19 0 48), (vI l1)] (some (vL r4)) c (MRc nb db by_ rs) mi ml mi ml ∧ (∃ (r5 : Int32) (mi5 : MI) (ml5 : ML), Ret m_r_supposes [(vR 19 0 48), (vI l3), (vL (r4 * ((((mi 48 5).toInt64) + (lN 1)) / (lN 2))))] (some (vI r5)) c (MRc nb db by_ rs) mi ml mi5 ml5 ∧ ((r5 = 0 → (Go m_r_supposesOpen 4 [some (vR 19 0 48), some (vI l1), some (vI (nI 0)), some (vI (l3 + nI 1)), none, none] [] rv c (MRc nb db by_ rs) mi5 ml5 mi' ml')) ∧ (¬ r5 = 0 → ((l2 = 0 → (Go m_r_supposesOpen 4 [some (vR 19 0 48), some (vI l1), some (vI (nI 0)), some (vI (l3 + nI 1)), none, none] [] rv c (MRc nb db by_ rs) mi5 ml5 mi' ml')) ∧ (¬ l2 = 0 → (Go m_r_supposesOpen 4 [some (vR 19 0 48), some (vI l1), some (vI (nI 1)), some (vI (l3 + nI 1)), none, none] [] rv c (MRc nb db by_ rs) mi5 ml5 mi' ml'))))))))))) :
    Go m_r_supposesOpen 4 [some (vR 19 0 48), some (vI l1), some (vI l2), some (vI l3), none, none] [] rv c (MRc nb db by_ rs) mi ml mi' ml' := by
  intro Q hQ
  refine at_wq inlT 400 rfl ?_
  refine ⟨fun g => ?_, fun g => ?_⟩
  · have h := h.1 (g)
    refine ⟨h.1, ?_⟩
    have h := h.2
    exact h.use hQ
  · have h := h.2 (g)
    refine ⟨fun g => ?_, fun g => ?_⟩
    · have h := h.1 (g)
      obtain ⟨r1, hR, h⟩ := h
      refine ⟨0, 0, Nat.zero_le _, Nat.zero_le _, hR _ ?_⟩
      obtain ⟨r2, hR, h⟩ := h
      refine ⟨0, 0, Nat.zero_le _, Nat.zero_le _, hR _ ?_⟩
      obtain ⟨r3, mi3, ml3, hR, h⟩ := h
      refine ⟨0, 0, Nat.zero_le _, Nat.zero_le _, hR _ ?_⟩
      refine ⟨fun g => ?_, fun g => ?_⟩
      · have h := h.1 (g)
        exact At.wk (h Q hQ) ⟨rfl, rfl, rfl, rfl, trivial⟩
      · have h := h.2 (g)
        refine ⟨fun g => ?_, fun g => ?_⟩
        · have h := h.1 (g)
          exact At.wk (h Q hQ) ⟨rfl, rfl, rfl, rfl, trivial⟩
        · have h := h.2 (g)
          exact At.wk (h Q hQ) ⟨rfl, rfl, rfl, rfl, trivial⟩
    · have h := h.2 (g)
      obtain ⟨r4, hR, h⟩ := h
      refine ⟨0, 0, Nat.zero_le _, Nat.zero_le _, hR _ ?_⟩
      refine ⟨by decide, ?_⟩
      obtain ⟨r5, mi5, ml5, hR, h⟩ := h
      refine ⟨0, 0, Nat.zero_le _, Nat.zero_le _, hR _ ?_⟩
      refine ⟨fun g => ?_, fun g => ?_⟩
      · have h := h.1 (g)
        exact At.wk (h Q hQ) ⟨rfl, rfl, rfl, rfl, trivial⟩
      · have h := h.2 (g)
        refine ⟨fun g => ?_, fun g => ?_⟩
        · have h := h.1 (g)
          exact At.wk (h Q hQ) ⟨rfl, rfl, rfl, rfl, trivial⟩
        · have h := h.2 (g)
          exact At.wk (h Q hQ) ⟨rfl, rfl, rfl, rfl, trivial⟩
theorem g_r_supposesShut_0 {nb db : Nat} {by_ rs : RX} {c : Nat} {mi mi' : MI} {ml ml' : ML} {rv : Option AV} {a0 : Int32}
    (h : ∃ (r1 : Int32) (mi1 : MI) (ml1 : ML), Ret m_r_supposesFine [(vR 19 0 48)] (some (vI r1)) c (MRc nb db by_ rs) mi ml mi1 ml1 ∧ (Go m_r_supposesShut 10 [some (vR 19 0 48), some (vI a0), some (vI r1), some (vL (lN 0)), none, some (vI (nI 0))] [] rv c (MRc nb db by_ rs) mi1 ml1 mi' ml')) :
    Ret m_r_supposesShut [(vR 19 0 48), (vI a0)] rv c (MRc nb db by_ rs) mi ml mi' ml' := by
  intro Q hQ
  refine ok_wq inlT 400 rfl rfl ?_
  obtain ⟨r1, mi1, ml1, hR, h⟩ := h
  refine ⟨0, 0, Nat.zero_le _, Nat.zero_le _, hR _ ?_⟩
  exact h Q hQ
theorem g_r_supposesShut_10 {nb db : Nat} {by_ rs : RX} {c : Nat} {mi mi' : MI} {ml ml' : ML} {rv : Option AV} {l1 : Int32} {l2 : Int32} {l3 : Int64} {l5 : Int32}
    (h : ((mi 48 5) ≤ l5 → (vp_in l1 31 ∧ (∃ (r1 : Int32), Ret m_r_monitor [(vR 19 0 48)] (some (vI r1)) c (MRc nb db by_ rs) mi ml mi ml ∧ (vp_in l1 31 ∧ ((l2 = 0 ∨ l2 = 1) ∧ (Fin (some (vI l2)) mi (u2 ml 61 l1.toNatClampNeg ((ml 61 l1.toNatClampNeg) + (r1.toInt64 - l3))) rv mi' ml')))))) ∧ (¬ (mi 48 5) ≤ l5 → (vp_in l5 31 ∧ (Go m_r_supposesShut 10 [some (vR 19 0 48), some (vI l1), some (vI l2), some (vL (l3 + (ml 61 l5.toNatClampNeg))), none, some (vI (l5 + nI 1))] [] rv c (MRc nb db by_ rs) mi ml mi' ml')))) :
    Go m_r_supposesShut 10 [some (vR 19 0 48), some (vI l1), some (vI l2), some (vL l3), none, some (vI l5)] [] rv c (MRc nb db by_ rs) mi ml mi' ml' := by
  intro Q hQ
  refine at_wq inlT 400 rfl ?_
  refine ⟨fun g => ?_, fun g => ?_⟩
  · have h := h.1 (g)
    refine ⟨h.1, ?_⟩
    have h := h.2
    obtain ⟨r1, hR, h⟩ := h
    refine ⟨0, 0, Nat.zero_le _, Nat.zero_le _, hR _ ?_⟩
    refine ⟨h.1, ?_⟩
    have h := h.2
    refine ⟨h.1, ?_⟩
    have h := h.2
    exact h.use hQ
  · have h := h.2 (g)
    refine ⟨h.1, ?_⟩
    have h := h.2
    exact h Q hQ
theorem g_r_areLights_0 {nb db : Nat} {by_ rs : RX} {c : Nat} {mi mi' : MI} {ml ml' : ML} {rv : Option AV} 
    (h : Go m_r_areLights 4 [some (vR 19 0 48), some (vL (lN 0)), none, some (vI (nI 0))] [] rv c (MRc nb db by_ rs) mi ml mi' ml') :
    Ret m_r_areLights [(vR 19 0 48)] rv c (MRc nb db by_ rs) mi ml mi' ml' := by
  intro Q hQ
  refine ok_wq inlT 400 rfl rfl ?_
  exact h Q hQ
theorem g_r_areLights_4 {nb db : Nat} {by_ rs : RX} {c : Nat} {mi mi' : MI} {ml ml' : ML} {rv : Option AV} {l1 : Int64} {l3 : Int32}
    (h : ((mi 48 5) ≤ l3 → (∃ (r1 : Int32), Ret m_r_monitor [(vR 19 0 48)] (some (vI r1)) c (MRc nb db by_ rs) mi ml mi ml ∧ ((¬ l1 = r1.toInt64 → (Fin (some (vI (nI 0))) mi ml rv mi' ml')) ∧ (l1 = r1.toInt64 → (Fin (some (vI (nI 1))) mi ml rv mi' ml'))))) ∧ (¬ (mi 48 5) ≤ l3 → (vp_in l3 31 ∧ (((ml 61 l3.toNatClampNeg) < (lN 0) → (Fin (some (vI (nI 0))) mi ml rv mi' ml')) ∧ (¬ (ml 61 l3.toNatClampNeg) < (lN 0) → (vp_in l3 31 ∧ (((ml 61 l3.toNatClampNeg) ≤ (lN 9999) → (vp_in l3 31 ∧ (Go m_r_areLights 4 [some (vR 19 0 48), some (vL (l1 + (ml 61 l3.toNatClampNeg))), none, some (vI (l3 + nI 1))] [] rv c (MRc nb db by_ rs) mi ml mi' ml'))) ∧ (¬ (ml 61 l3.toNatClampNeg) ≤ (lN 9999) → (Fin (some (vI (nI 0))) mi ml rv mi' ml'))))))))) :
    Go m_r_areLights 4 [some (vR 19 0 48), some (vL l1), none, some (vI l3)] [] rv c (MRc nb db by_ rs) mi ml mi' ml' := by
  intro Q hQ
  refine at_wq inlT 400 rfl ?_
  refine ⟨fun g => ?_, fun g => ?_⟩
  · have h := h.1 (g)
    obtain ⟨r1, hR, h⟩ := h
    refine ⟨0, 0, Nat.zero_le _, Nat.zero_le _, hR _ ?_⟩
    refine ⟨fun g => ?_, fun g => ?_⟩
    · have h := h.1 (fun z => g ((lgc_eq _ _).mpr z))
      refine ⟨Or.inl rfl, ?_⟩
      exact h.use hQ
    · have h := h.2 ((lgc_eq _ _).mp g)
      refine ⟨Or.inr rfl, ?_⟩
      exact h.use hQ
  · have h := h.2 (g)
    refine ⟨h.1, ?_⟩
    have h := h.2
    refine ⟨fun g => ?_, fun g => ?_⟩
    · have h := h.1 ((lgc_lt _ _).mp g)
      refine ⟨Or.inl rfl, ?_⟩
      exact h.use hQ
    · have h := h.2 (fun z => g ((lgc_lt _ _).mpr z))
      refine ⟨h.1, ?_⟩
      have h := h.2
      refine ⟨fun g => ?_, fun g => ?_⟩
      · have h := h.1 ((lgc_le _ _).mp g)
        refine ⟨h.1, ?_⟩
        have h := h.2
        exact h Q hQ
      · have h := h.2 (fun z => g ((lgc_le _ _).mpr z))
        refine ⟨Or.inl rfl, ?_⟩
        exact h.use hQ
theorem g_r_areSeen_0 {nb db : Nat} {by_ rs : RX} {c : Nat} {mi mi' : MI} {ml ml' : ML} {rv : Option AV} {a0 : Int32} {a1 : Int32}
    (h : Go m_r_areSeen 2 [some (vR 19 0 48), some (vI a0), some (vI a1), some (vI (nI 0))] [] rv c (MRc nb db by_ rs) mi ml mi' ml') :
    Ret m_r_areSeen [(vR 19 0 48), (vI a0), (vI a1)] rv c (MRc nb db by_ rs) mi ml mi' ml' := by
  intro Q hQ
  refine ok_wq inlT 400 rfl rfl ?_
  exact h Q hQ
theorem g_r_areSeen_2 {nb db : Nat} {by_ rs : RX} {c : Nat} {mi mi' : MI} {ml ml' : ML} {rv : Option AV} {l1 : Int32} {l2 : Int32} {l3 : Int32}
    (h : ((mi 48 5) ≤ l3 → (Go m_r_areSeen 43 [some (vR 19 0 48), some (vI l1), some (vI l2), some (vI (nI 0))] [] rv c (MRc nb db by_ rs) mi ml mi' ml')) ∧ (¬ (mi 48 5) ≤ l3 → (vp_in l3 31 ∧ (∃ (r1 : Int64), Ret m_r_supposedRead [(vR 19 0 48), (vI (mi 49 l3.toNatClampNeg)), (vI l1), (vI l2)] (some (vL r1)) c (MRc nb db by_ rs) mi ml mi ml ∧ (vp_in l3 31 ∧ ((r1 = ((mi 60 l3.toNatClampNeg).toInt64) → (Go m_r_areSeen 2 [some (vR 19 0 48), some (vI l1), some (vI l2), some (vI (l3 + nI 1))] [] rv c (MRc nb db by_ rs) mi ml mi' ml')) ∧ (¬ r1 = ((mi 60 l3.toNatClampNeg).toInt64) → (Fin (some (vI (nI 0))) mi ml rv mi' ml')))))))) :
    Go m_r_areSeen 2 [some (vR 19 0 48), some (vI l1), some (vI l2), some (vI l3)] [] rv c (MRc nb db by_ rs) mi ml mi' ml' := by
  intro Q hQ
  refine at_wq inlT 400 rfl ?_
  refine ⟨fun g => ?_, fun g => ?_⟩
  · have h := h.1 (g)
    exact h Q hQ
  · have h := h.2 (g)
    refine ⟨h.1, ?_⟩
    have h := h.2
    obtain ⟨r1, hR, h⟩ := h
    refine ⟨0, 0, Nat.zero_le _, Nat.zero_le _, hR _ ?_⟩
    refine ⟨h.1, ?_⟩
    have h := h.2
    refine ⟨fun g => ?_, fun g => ?_⟩
    · have h := h.1 ((lgc_eq _ _).mp g)
      exact h Q hQ
    · have h := h.2 (fun z => g ((lgc_eq _ _).mpr z))
      refine ⟨Or.inl rfl, ?_⟩
      exact h.use hQ
theorem g_r_areSeen_43 {nb db : Nat} {by_ rs : RX} {c : Nat} {mi mi' : MI} {ml ml' : ML} {rv : Option AV} {l1 : Int32} {l2 : Int32} {l3 : Int32}
    (h : ((mi 48 43) ≤ l3 → (Fin (some (vI (nI 1))) mi ml rv mi' ml')) ∧ (¬ (mi 48 43) ≤ l3 → (vp_in l3 20 ∧ (∃ (r1 : Int64), Ret m_r_supposedRead [(vR 19 0 48), (vI (mi 58 l3.toNatClampNeg)), (vI l1), (vI l2)] (some (vL r1)) c (MRc nb db by_ rs) mi ml mi ml ∧ (vp_in l3 20 ∧ ((r1 = ((mi 59 l3.toNatClampNeg).toInt64) → (Go m_r_areSeen 43 [some (vR 19 0 48), some (vI l1), some (vI l2), some (vI (l3 + nI 1))] [] rv c (MRc nb db by_ rs) mi ml mi' ml')) ∧ (¬ r1 = ((mi 59 l3.toNatClampNeg).toInt64) → (Fin (some (vI (nI 0))) mi ml rv mi' ml')))))))) :
    Go m_r_areSeen 43 [some (vR 19 0 48), some (vI l1), some (vI l2), some (vI l3)] [] rv c (MRc nb db by_ rs) mi ml mi' ml' := by
  intro Q hQ
  refine at_wq inlT 400 rfl ?_
  refine ⟨fun g => ?_, fun g => ?_⟩
  · have h := h.1 (g)
    refine ⟨Or.inr rfl, ?_⟩
    exact h.use hQ
  · have h := h.2 (g)
    refine ⟨h.1, ?_⟩
    have h := h.2
    obtain ⟨r1, hR, h⟩ := h
    refine ⟨0, 0, Nat.zero_le _, Nat.zero_le _, hR _ ?_⟩
    refine ⟨h.1, ?_⟩
    have h := h.2
    refine ⟨fun g => ?_, fun g => ?_⟩
    · have h := h.1 ((lgc_eq _ _).mp g)
      exact h Q hQ
    · have h := h.2 (fun z => g ((lgc_eq _ _).mpr z))
      refine ⟨Or.inl rfl, ?_⟩
      exact h.use hQ
theorem g_r_supposedRead_0 {nb db : Nat} {by_ rs : RX} {c : Nat} {mi mi' : MI} {ml ml' : ML} {rv : Option AV} {a0 : Int32} {a1 : Int32} {a2 : Int32}
    (h : Go m_r_supposedRead 19 [some (vR 19 0 48), some (vI a0), some (vI a1), some (vI a2), some (vI ((a0 ||| a1) &&& (a2 ^^^ (-(nI 1))))), some (vL ((mi 48 7).toInt64)), none, some (vI (nI 0))] [] rv c (MRc nb db by_ rs) mi ml mi' ml') :
    Ret m_r_supposedRead [(vR 19 0 48), (vI a0), (vI a1), (vI a2)] rv c (MRc nb db by_ rs) mi ml mi' ml' := by
  intro Q hQ
  refine ok_wq inlT 400 rfl rfl ?_
  exact h Q hQ
theorem g_r_supposedRead_19 {nb db : Nat} {by_ rs : RX} {c : Nat} {mi mi' : MI} {ml ml' : ML} {rv : Option AV} {l1 : Int32} {l2 : Int32} {l3 : Int32} {l4 : Int32} {l5 : Int64} {l7 : Int32}
    (h : ((mi 48 5) ≤ l7 → (Fin (some (vL l5)) mi ml rv mi' ml')) ∧ (¬ (mi 48 5) ≤ l7 → (∃ (r1 : Int32), Ret m_r_has [(vI l4), (vI l7)] (some (vI r1)) c (MRc nb db by_ rs) mi ml mi ml ∧ ((r1 = 0 → (Go m_r_supposedRead 19 [some (vR 19 0 48), some (vI l1), some (vI l2), some (vI l3), some (vI l4), some (vL l5), none, some (vI (l7 + nI 1))] [] rv c (MRc nb db by_ rs) mi ml mi' ml')) ∧ (¬ r1 = 0 → (vp_in l7 31 ∧ (Go m_r_supposedRead 19 [some (vR 19 0 48), some (vI l1), some (vI l2), some (vI l3), some (vI l4), some (vL (l5 + (ml 61 l7.toNatClampNeg))), none, some (vI (l7 + nI 1))] [] rv c (MRc nb db by_ rs) mi ml mi' ml'))))))) :
    Go m_r_supposedRead 19 [some (vR 19 0 48), some (vI l1), some (vI l2), some (vI l3), some (vI l4), some (vL l5), none, some (vI l7)] [] rv c (MRc nb db by_ rs) mi ml mi' ml' := by
  intro Q hQ
  refine at_wq inlT 400 rfl ?_
  refine ⟨fun g => ?_, fun g => ?_⟩
  · have h := h.1 (g)
    exact h.use hQ
  · have h := h.2 (g)
    obtain ⟨r1, hR, h⟩ := h
    refine ⟨0, 0, Nat.zero_le _, Nat.zero_le _, hR _ ?_⟩
    refine ⟨fun g => ?_, fun g => ?_⟩
    · have h := h.1 (g)
      exact h Q hQ
    · have h := h.2 (g)
      refine ⟨h.1, ?_⟩
      have h := h.2
      exact h Q hQ
theorem g_r_refusesSuspects_0 {nb db : Nat} {by_ rs : RX} {c : Nat} {mi mi' : MI} {ml ml' : ML} {rv : Option AV} {a0 : Int32}
    (h : (¬ a0 = 0 → (((mi 48 46) = 0 → (Fin (some (vI (nI 5))) mi ml rv mi' ml')) ∧ (¬ (mi 48 46) = 0 → ((¬ (mi 54 62) = 0 → (Fin (some (vI (nI 5))) mi ml rv mi' ml')) ∧ ((mi 54 62) = 0 → (Fin (some (vI (nI 0))) mi ml rv mi' ml')))))) ∧ (a0 = 0 → (Fin (some (vI (nI 1))) mi ml rv mi' ml'))) :
    Ret m_r_refusesSuspects [(vR 19 0 48), (vI a0)] rv c (MRc nb db by_ rs) mi ml mi' ml' := by
  intro Q hQ
  refine ok_wq inlT 400 rfl rfl ?_
  refine ⟨fun g => ?_, fun g => ?_⟩
  · have h := h.1 (g)
    refine ⟨fun g => ?_, fun g => ?_⟩
    · have h := h.1 (g)
      exact h.use hQ
    · have h := h.2 (g)
      refine ⟨vp_in_nI (by decide) (by decide), ?_⟩
      refine ⟨fun g => ?_, fun g => ?_⟩
      · have h := h.1 (g)
        exact h.use hQ
      · have h := h.2 (g)
        exact h.use hQ
  · have h := h.2 (g)
    exact h.use hQ
theorem g_r_suspectNumber_0 {nb db : Nat} {by_ rs : RX} {c : Nat} {mi mi' : MI} {ml ml' : ML} {rv : Option AV} {a0 : Int32}
    (h : Go m_r_suspectNumber 4 [some (vR 19 0 48), some (vI a0), some (vI (nI 0)), some (vI (nI 0))] [] rv c (MRc nb db by_ rs) mi ml mi' ml') :
    Ret m_r_suspectNumber [(vR 19 0 48), (vI a0)] rv c (MRc nb db by_ rs) mi ml mi' ml' := by
  intro Q hQ
  refine ok_wq inlT 400 rfl rfl ?_
  exact h Q hQ
theorem g_r_suspectNumber_4 {nb db : Nat} {by_ rs : RX} {c : Nat} {mi mi' : MI} {ml ml' : ML} {rv : Option AV} {l1 : Int32} {l2 : Int32} {l3 : Int32}
    (h : (((nI 2) * (mi 48 5)) < l3 → (Fin (some (vI (-(nI 1)))) mi ml rv mi' ml')) ∧ (¬ ((nI 2) * (mi 48 5)) < l3 → (∃ (r1 : Int32) (mi1 : MI) (ml1 : ML), Ret m_r_isSuspect [(vR 19 0 48), (vI l3)] (some (vI r1)) c (MRc nb db by_ rs) mi ml mi1 ml1 ∧ ((¬ r1 = 0 → ((¬ l2 = l1 → (Go m_r_suspectNumber 4 [some (vR 19 0 48), some (vI l1), some (vI (l2 + nI 1)), some (vI (l3 + nI 1))] [] rv c (MRc nb db by_ rs) mi1 ml1 mi' ml')) ∧ (l2 = l1 → (Fin (some (vI l3)) mi1 ml1 rv mi' ml')))) ∧ (r1 = 0 → (Go m_r_suspectNumber 4 [some (vR 19 0 48), some (vI l1), some (vI l2), some (vI (l3 + nI 1))] [] rv c (MRc nb db by_ rs) mi1 ml1 mi' ml')))))) :
    Go m_r_suspectNumber 4 [some (vR 19 0 48), some (vI l1), some (vI l2), some (vI l3)] [] rv c (MRc nb db by_ rs) mi ml mi' ml' := by
  intro Q hQ
  refine at_wq inlT 400 rfl ?_
  refine ⟨fun g => ?_, fun g => ?_⟩
  · have h := h.1 (g)
    exact h.use hQ
  · have h := h.2 (g)
    obtain ⟨r1, mi1, ml1, hR, h⟩ := h
    refine ⟨0, 0, Nat.zero_le _, Nat.zero_le _, hR _ ?_⟩
    refine ⟨fun g => ?_, fun g => ?_⟩
    · have h := h.1 (g)
      refine ⟨fun g => ?_, fun g => ?_⟩
      · have h := h.1 (g)
        exact h Q hQ
      · have h := h.2 (g)
        exact h.use hQ
    · have h := h.2 (g)
      exact h Q hQ
theorem g_r_suspects_0 {nb db : Nat} {by_ rs : RX} {c : Nat} {mi mi' : MI} {ml ml' : ML} {rv : Option AV} 
    (h : ∃ (r1 : Int32), Ret m_r_refusesSuspects [(vR 19 0 48), (vI (mi 48 26))] (some (vI r1)) c (MRc nb db by_ rs) (u2 mi 48 0 (nI 0)) ml (u2 mi 48 0 (nI 0)) ml ∧ ((r1 ≤ 0 → (Go m_r_suspects 28 [some (vR 19 0 48), some (vI r1), some (vI (nI 0)), some (vI (nI 0))] [] rv c (MRc nb db by_ rs) (u2 mi 48 0 (nI 0)) ml mi' ml')) ∧ (¬ r1 ≤ 0 → (Fin (some (vI (-(nI 1)))) (u2 (u2 (u2 mi 48 0 (nI 0)) 48 1 r1) 48 2 (-(nI 1))) ml rv mi' ml')))) :
    Ret m_r_suspects [(vR 19 0 48)] rv c (MRc nb db by_ rs) mi ml mi' ml' := by
  intro Q hQ
  refine ok_wq inlT 400 rfl rfl ?_
  obtain ⟨r1, hR, h⟩ := h
  refine ⟨0, 0, Nat.zero_le _, Nat.zero_le _, hR _ ?_⟩
  refine ⟨fun g => ?_, fun g => ?_⟩
  · have h := h.1 (g)
    exact h Q hQ
  · have h := h.2 (g)
    exact h.use hQ
theorem g_r_suspects_28 {nb db : Nat} {by_ rs : RX} {c : Nat} {mi mi' : MI} {ml ml' : ML} {rv : Option AV} {l1 : Int32} {l2 : Int32} {l3 : Int32}
    (h : (((nI 2) * (mi 48 5)) < l3 → (Fin (some (vI l2)) (u2 (u2 mi 48 1 (nI 0)) 48 2 (-(nI 1))) ml rv mi' ml')) ∧ (¬ ((nI 2) * (mi 48 5)) < l3 → (∃ (r1 : Int32) (mi1 : MI) (ml1 : ML), Ret m_r_isSuspect [(vR 19 0 48), (vI l3)] (some (vI r1)) c (MRc nb db by_ rs) mi ml mi1 ml1 ∧ ((r1 = 0 → (Go m_r_suspects 28 [some (vR 19 0 48), some (vI l1), some (vI (l2 + (nI 0))), some (vI (l3 + nI 1))] [] rv c (MRc nb db by_ rs) mi1 ml1 mi' ml')) ∧ (¬ r1 = 0 → (Go m_r_suspects 28 [some (vR 19 0 48), some (vI l1), some (vI (l2 + (nI 1))), some (vI (l3 + nI 1))] [] rv c (MRc nb db by_ rs) mi1 ml1 mi' ml')))))) :
    Go m_r_suspects 28 [some (vR 19 0 48), some (vI l1), some (vI l2), some (vI l3)] [] rv c (MRc nb db by_ rs) mi ml mi' ml' := by
  intro Q hQ
  refine at_wq inlT 400 rfl ?_
  refine ⟨fun g => ?_, fun g => ?_⟩
  · have h := h.1 (g)
    exact h.use hQ
  · have h := h.2 (g)
    obtain ⟨r1, mi1, ml1, hR, h⟩ := h
    refine ⟨0, 0, Nat.zero_le _, Nat.zero_le _, hR _ ?_⟩
    refine ⟨fun g => ?_, fun g => ?_⟩
    · have h := h.1 (g)
      exact h Q hQ
    · have h := h.2 (g)
      exact h Q hQ
theorem g_r_suspect_0 {nb db : Nat} {by_ rs : RX} {c : Nat} {mi mi' : MI} {ml ml' : ML} {rv : Option AV} {a0 : Int32}
    (h : ∃ (r1 : Int32), Ret m_r_refusesSuspects [(vR 19 0 48), (vI (mi 48 26))] (some (vI r1)) c (MRc nb db by_ rs) (u2 mi 48 0 (nI 0)) ml (u2 mi 48 0 (nI 0)) ml ∧ ((r1 ≤ 0 → ((0 ≤ a0 → (∃ (r2 : Int32) (mi2 : MI) (ml2 : ML), Ret m_r_suspectNumber [(vR 19 0 48), (vI a0)] (some (vI r2)) c (MRc nb db by_ rs) (u2 mi 48 0 (nI 0)) ml mi2 ml2 ∧ ((¬ r2 = (-(nI 1)) → (Fin (some (vI r2)) (u2 (u2 mi2 48 1 (nI 0)) 48 2 (-(nI 1))) ml2 rv mi' ml')) ∧ (r2 = (-(nI 1)) → (Fin (some (vI (-(nI 1)))) (u2 (u2 mi2 48 1 (nI 1)) 48 2 (-(nI 1))) ml2 rv mi' ml'))))) ∧ (¬ 0 ≤ a0 → (Fin (some (vI (-(nI 1)))) (u2 (u2 (u2 mi 48 0 (nI 0)) 48 1 (nI 1)) 48 2 (-(nI 1))) ml rv mi' ml')))) ∧ (¬ r1 ≤ 0 → (Fin (some (vI (-(nI 1)))) (u2 (u2 (u2 mi 48 0 (nI 0)) 48 1 r1) 48 2 (-(nI 1))) ml rv mi' ml')))) :
    Ret m_r_suspect [(vR 19 0 48), (vI a0)] rv c (MRc nb db by_ rs) mi ml mi' ml' := by
  intro Q hQ
  refine ok_wq inlT 400 rfl rfl ?_
  obtain ⟨r1, hR, h⟩ := h
  refine ⟨0, 0, Nat.zero_le _, Nat.zero_le _, hR _ ?_⟩
  refine ⟨fun g => ?_, fun g => ?_⟩
  · have h := h.1 (g)
    refine ⟨fun g => ?_, fun g => ?_⟩
    · have h := h.1 (g)
      obtain ⟨r2, mi2, ml2, hR, h⟩ := h
      refine ⟨0, 0, Nat.zero_le _, Nat.zero_le _, hR _ ?_⟩
      refine ⟨fun g => ?_, fun g => ?_⟩
      · have h := h.1 (g)
        exact h.use hQ
      · have h := h.2 (g)
        exact h.use hQ
    · have h := h.2 (g)
      refine ⟨fun g => absurd (show ¬ (-(nI 1)) = (-(nI 1)) from g) (by decide), fun _ => ?_⟩
      exact h.use hQ
  · have h := h.2 (g)
    exact h.use hQ
theorem g_r_supposed_0 {nb db : Nat} {by_ rs : RX} {c : Nat} {mi mi' : MI} {ml ml' : ML} {rv : Option AV} {a0 : Int32} {a1 : Int32}
    (h : ∃ (r1 : Int32), Ret m_r_isOne [(vR 19 0 48), (vI a1)] (some (vI r1)) c (MRc nb db by_ rs) (u2 mi 48 0 (nI 0)) ml (u2 mi 48 0 (nI 0)) ml ∧ (∃ (r2 : Int32), Ret m_r_refusesSuspects [(vR 19 0 48), (vI r1)] (some (vI r2)) c (MRc nb db by_ rs) (u2 mi 48 0 (nI 0)) ml (u2 mi 48 0 (nI 0)) ml ∧ ((r2 ≤ 0 → ((a0 < 0 → (Fin (some (vI (-(nI 1)))) (u2 (u2 (u2 mi 48 0 (nI 0)) 48 1 (nI 1)) 48 2 (-(nI 1))) ml rv mi' ml')) ∧ (¬ a0 < 0 → (∃ (r3 : Int32) (mi3 : MI) (ml3 : ML), Ret m_r_suspectNumber [(vR 19 0 48), (vI a0)] (some (vI r3)) c (MRc nb db by_ rs) (u2 mi 48 0 (nI 0)) ml mi3 ml3 ∧ ((¬ r3 = (-(nI 1)) → (vp_in a1 31 ∧ (Fin (some (vI ((ml3 61 a1.toNatClampNeg).toInt32))) (u2 (u2 mi3 48 1 (nI 0)) 48 2 (-(nI 1))) ml3 rv mi' ml'))) ∧ (r3 = (-(nI 1)) → (Fin (some (vI (-(nI 1)))) (u2 (u2 mi3 48 1 (nI 1)) 48 2 (-(nI 1))) ml3 rv mi' ml'))))))) ∧ (¬ r2 ≤ 0 → (Fin (some (vI (-(nI 1)))) (u2 (u2 (u2 mi 48 0 (nI 0)) 48 1 r2) 48 2 (-(nI 1))) ml rv mi' ml'))))) :
    Ret m_r_supposed [(vR 19 0 48), (vI a0), (vI a1)] rv c (MRc nb db by_ rs) mi ml mi' ml' := by
  intro Q hQ
  refine ok_wq inlT 400 rfl rfl ?_
  obtain ⟨r1, hR, h⟩ := h
  refine ⟨0, 0, Nat.zero_le _, Nat.zero_le _, hR _ ?_⟩
  obtain ⟨r2, hR, h⟩ := h
  refine ⟨0, 0, Nat.zero_le _, Nat.zero_le _, hR _ ?_⟩
  refine ⟨fun g => ?_, fun g => ?_⟩
  · have h := h.1 (g)
    refine ⟨fun g => ?_, fun g => ?_⟩
    · have h := h.1 (g)
      exact h.use hQ
    · have h := h.2 (g)
      obtain ⟨r3, mi3, ml3, hR, h⟩ := h
      refine ⟨0, 0, Nat.zero_le _, Nat.zero_le _, hR _ ?_⟩
      refine ⟨fun g => ?_, fun g => ?_⟩
      · have h := h.1 (g)
        refine ⟨h.1, ?_⟩
        have h := h.2
        exact h.use hQ
      · have h := h.2 (g)
        exact h.use hQ
  · have h := h.2 (g)
    exact h.use hQ
theorem g_r_puts_0 {nb db : Nat} {by_ rs : RX} {c : Nat} {mi mi' : MI} {ml ml' : ML} {rv : Option AV} {a0 : Int32} {a1 : Int32} {a2 : Int64} {a3 : Int64}
    (h : ∃ (mi1 : MI) (ml1 : ML), Ret m_r_sets [(vR 19 0 48), (vL a2), (vL a3)] none c (MRc nb db by_ rs) mi ml mi1 ml1 ∧ (vp_in (((nI 44) * a0) + a1) 528 ∧ (vp_in (((nI 44) * a0) + a1) 528 ∧ (Fin none mi1 (u2 (u2 ml1 62 (((nI 44) * a0) + a1).toNatClampNeg (ml1 48 3)) 63 (((nI 44) * a0) + a1).toNatClampNeg (ml1 48 4)) rv mi' ml')))) :
    Ret m_r_puts [(vR 19 0 48), (vI a0), (vI a1), (vL a2), (vL a3)] rv c (MRc nb db by_ rs) mi ml mi' ml' := by
  intro Q hQ
  refine ok_wq inlT 400 rfl rfl ?_
  obtain ⟨mi1, ml1, hR, h⟩ := h
  refine ⟨0, 0, Nat.zero_le _, Nat.zero_le _, hR _ ?_⟩
  refine ⟨h.1, ?_⟩
  have h := h.2
  refine ⟨h.1, ?_⟩
  have h := h.2
  exact h.use hQ
theorem g_r_clears_0 {nb db : Nat} {by_ rs : RX} {c : Nat} {mi mi' : MI} {ml ml' : ML} {rv : Option AV} {a0 : Int32} {a1 : Int32} {a2 : Int32}
    (h : vp_in (((nI 44) * a0) + a2) 528 ∧ (vp_in (((nI 44) * a0) + a2) 528 ∧ ((¬ (ml 62 (((nI 44) * a0) + a2).toNatClampNeg) = (lN 0) → (Go m_r_clears 37 [some (vR 19 0 48), some (vI a0), some (vI a1), some (vI a2), some (vL (ml 62 (((nI 44) * a0) + a2).toNatClampNeg)), none, some (vL (ml 63 (((nI 44) * a0) + a2).toNatClampNeg)), none, some (vI (nI 0)), none, none, none, none, none, none, none, none, none, none] [] rv c (MRc nb db by_ rs) mi ml mi' ml')) ∧ ((ml 62 (((nI 44) * a0) + a2).toNatClampNeg) = (lN 0) → (Fin none mi ml rv mi' ml'))))) :
    Ret m_r_clears [(vR 19 0 48), (vI a0), (vI a1), (vI a2)] rv c (MRc nb db by_ rs) mi ml mi' ml' := by
  intro Q hQ
  refine ok_wq inlT 400 rfl rfl ?_
  refine ⟨h.1, ?_⟩
  have h := h.2
  refine ⟨h.1, ?_⟩
  have h := h.2
  refine ⟨fun g => ?_, fun g => ?_⟩
  · have h := h.1 (fun z => g ((lgc_eq _ _).mpr z))
    exact h Q hQ
  · have h := h.2 ((lgc_eq _ _).mp g)
    exact h.use hQ
theorem g_r_clears_37 {nb db : Nat} {by_ rs : RX} {c : Nat} {mi mi' : MI} {ml ml' : ML} {rv : Option AV} {l1 : Int32} {l2 : Int32} {l3 : Int32} {l4 : Int64} {l6 : Int64} {l8 : Int32}
    (h : ((nI 44) ≤ l8 → (Fin none mi ml rv mi' ml')) ∧ (¬ (nI 44) ≤ l8 → (vp_in (((nI 44) * l2) + l8) 528 ∧ ((¬ (ml 62 (((nI 44) * l2) + l8).toNatClampNeg) = (lN 0) → (vp_in (((nI 44) * l2) + l8) 528 ∧ (vp_in (((nI 44) * l2) + l8) 528 ∧ (∃ (r1 : Int64), Ret m_r_divisor [(vL ((ml 62 (((nI 44) * l2) + l8).toNatClampNeg) * l4)), (vL ((ml 63 (((nI 44) * l2) + l8).toNatClampNeg) * l6))] (some (vL r1)) c (MRc nb db by_ rs) mi ml mi ml ∧ (¬ r1 = 0 ∧ (vp_in (((nI 44) * l2) + l8) 528 ∧ (∃ (r2 : Int64), Ret m_r_divisor [(vL ((ml 62 (((nI 44) * l2) + l8).toNatClampNeg) * l4)), (vL ((ml 63 (((nI 44) * l2) + l8).toNatClampNeg) * l6))] (some (vL r2)) c (MRc nb db by_ rs) mi ml mi ml ∧ (¬ r2 = 0 ∧ (vp_in (((nI 44) * l1) + l8) 528 ∧ (∃ (r3 : Int64), Ret m_r_divisor [(vL (ml 63 (((nI 44) * l1) + l8).toNatClampNeg)), (vL (((ml 63 (((nI 44) * l2) + l8).toNatClampNeg) * l6) / r1))] (some (vL r3)) c (MRc nb db by_ rs) mi ml mi ml ∧ (¬ r3 = 0 ∧ (vp_in (((nI 44) * l1) + l8) 528 ∧ (¬ (ml 63 (((nI 44) * l1) + l8).toNatClampNeg) = 0 ∧ (¬ (((ml 63 (((nI 44) * l2) + l8).toNatClampNeg) * l6) / r1) = 0 ∧ (∃ (mi4 : MI) (ml4 : ML), Ret m_r_puts [(vR 19 0 48), (vI l1), (vI l8), (vL (((ml 62 (((nI 44) * l1) + l8).toNatClampNeg) * ((((ml 63 (((nI 44) * l1) + l8).toNatClampNeg) / r3) * (((ml 63 (((nI 44) * l2) + l8).toNatClampNeg) * l6) / r1)) / (ml 63 (((nI 44) * l1) + l8).toNatClampNeg))) - ((((ml 62 (((nI 44) * l2) + l8).toNatClampNeg) * l4) / r2) * ((((ml 63 (((nI 44) * l1) + l8).toNatClampNeg) / r3) * (((ml 63 (((nI 44) * l2) + l8).toNatClampNeg) * l6) / r1)) / (((ml 63 (((nI 44) * l2) + l8).toNatClampNeg) * l6) / r1))))), (vL (((ml 63 (((nI 44) * l1) + l8).toNatClampNeg) / r3) * (((ml 63 (((nI 44) * l2) + l8).toNatClampNeg) * l6) / r1)))] none c (MRc nb db by_ rs) mi ml mi4 ml4 ∧ (Go m_r_clears 37 [some (vR 19 0 48), some (vI l1), some (vI l2), some (vI l3), some (vL l4), none, some (vL l6), none, some (vI (l8 + nI 1)), none, none, none, none, none, none, none, none, none, none] [] rv c (MRc nb db by_ rs) mi4 ml4 mi' ml')))))))))))))))) ∧ ((ml 62 (((nI 44) * l2) + l8).toNatClampNeg) = (lN 0) → (Go m_r_clears 37 [some (vR 19 0 48), some (vI l1), some (vI l2), some (vI l3), some (vL l4), none, some (vL l6), none, some (vI (l8 + nI 1)), none, none, none, none, none, none, none, none, none, none] [] rv c (MRc nb db by_ rs) mi ml mi' ml')))))) :
    Go m_r_clears 37 [some (vR 19 0 48), some (vI l1), some (vI l2), some (vI l3), some (vL l4), none, some (vL l6), none, some (vI l8), none, none, none, none, none, none, none, none, none, none] [] rv c (MRc nb db by_ rs) mi ml mi' ml' := by
  intro Q hQ
  refine at_wq inlT 400 rfl ?_
  refine ⟨fun g => ?_, fun g => ?_⟩
  · have h := h.1 (g)
    exact h.use hQ
  · have h := h.2 (g)
    refine ⟨h.1, ?_⟩
    have h := h.2
    refine ⟨fun g => ?_, fun g => ?_⟩
    · have h := h.1 (fun z => g ((lgc_eq _ _).mpr z))
      refine ⟨h.1, ?_⟩
      have h := h.2
      refine ⟨h.1, ?_⟩
      have h := h.2
      obtain ⟨r1, hR, h⟩ := h
      refine ⟨0, 0, Nat.zero_le _, Nat.zero_le _, hR _ ?_⟩
      refine ⟨h.1, ?_⟩
      have h := h.2
      refine ⟨h.1, ?_⟩
      have h := h.2
      obtain ⟨r2, hR, h⟩ := h
      refine ⟨0, 0, Nat.zero_le _, Nat.zero_le _, hR _ ?_⟩
      refine ⟨h.1, ?_⟩
      have h := h.2
      refine ⟨h.1, ?_⟩
      have h := h.2
      obtain ⟨r3, hR, h⟩ := h
      refine ⟨0, 0, Nat.zero_le _, Nat.zero_le _, hR _ ?_⟩
      refine ⟨h.1, ?_⟩
      have h := h.2
      refine ⟨h.1, ?_⟩
      have h := h.2
      refine ⟨h.1, ?_⟩
      have h := h.2
      refine ⟨h.1, ?_⟩
      have h := h.2
      obtain ⟨mi4, ml4, hR, h⟩ := h
      refine ⟨0, 0, Nat.zero_le _, Nat.zero_le _, hR _ ?_⟩
      exact At.wk (h Q hQ) ⟨rfl, rfl, rfl, rfl, rfl, rfl, rfl, trivial⟩
    · have h := h.2 ((lgc_eq _ _).mp g)
      exact At.wk (h Q hQ) ⟨rfl, rfl, rfl, rfl, rfl, rfl, rfl, trivial⟩
theorem g_r_laysRows_0 {nb db : Nat} {by_ rs : RX} {c : Nat} {mi mi' : MI} {ml ml' : ML} {rv : Option AV} 
    (h : Go m_r_laysRows 12 [some (vR 19 0 48), some (vI (nI 0)), none] [] rv c (MRc nb db by_ rs) (u2 (u2 mi 48 51 (nI 0)) 48 52 (nI 1)) ml mi' ml') :
    Ret m_r_laysRows [(vR 19 0 48)] rv c (MRc nb db by_ rs) mi ml mi' ml' := by
  intro Q hQ
  refine ok_wq inlT 400 rfl rfl ?_
  refine ⟨Or.inr rfl, ?_⟩
  exact h Q hQ
theorem g_r_laysRows_12 {nb db : Nat} {by_ rs : RX} {c : Nat} {mi mi' : MI} {ml ml' : ML} {rv : Option AV} {l1 : Int32}
    (h : ((mi 48 9) ≤ l1 → (Fin none mi ml rv mi' ml')) ∧ (¬ (mi 48 9) ≤ l1 → (Go m_r_laysRows 22 [some (vR 19 0 48), some (vI l1), some (vI (nI 0))] [] rv c (MRc nb db by_ rs) mi ml mi' ml'))) :
    Go m_r_laysRows 12 [some (vR 19 0 48), some (vI l1), none] [] rv c (MRc nb db by_ rs) mi ml mi' ml' := by
  intro Q hQ
  refine at_wq inlT 400 rfl ?_
  refine ⟨fun g => ?_, fun g => ?_⟩
  · have h := h.1 (g)
    exact h.use hQ
  · have h := h.2 (g)
    exact h Q hQ
theorem g_r_laysRows_22 {nb db : Nat} {by_ rs : RX} {c : Nat} {mi mi' : MI} {ml ml' : ML} {rv : Option AV} {l1 : Int32} {l2 : Int32}
    (h : ((nI 44) ≤ l2 → (Go m_r_laysRows 101 [some (vR 19 0 48), some (vI l1), some (vI (nI 0))] [] rv c (MRc nb db by_ rs) mi ml mi' ml')) ∧ (¬ (nI 44) ≤ l2 → ((¬ l2 = (nI 31) → (((nI 31) ≤ l2 → ((¬ l2 = ((nI 32) + l1) → (∃ (mi1 : MI) (ml1 : ML), Ret m_r_puts [(vR 19 0 48), (vI (mi 48 51)), (vI l2), (vL (lN 0)), (vL (lN 1))] none c (MRc nb db by_ rs) mi ml mi1 ml1 ∧ (Go m_r_laysRows 22 [some (vR 19 0 48), some (vI l1), some (vI (l2 + nI 1))] [] rv c (MRc nb db by_ rs) mi1 ml1 mi' ml'))) ∧ (l2 = ((nI 32) + l1) → (∃ (mi2 : MI) (ml2 : ML), Ret m_r_puts [(vR 19 0 48), (vI (mi 48 51)), (vI l2), (vL (lN 1)), (vL (lN 1))] none c (MRc nb db by_ rs) mi ml mi2 ml2 ∧ (Go m_r_laysRows 22 [some (vR 19 0 48), some (vI l1), some (vI (l2 + nI 1))] [] rv c (MRc nb db by_ rs) mi2 ml2 mi' ml'))))) ∧ (¬ (nI 31) ≤ l2 → (vp_in l1 12 ∧ (∃ (r3 : Int32), Ret m_r_has [(vI (mi 51 l1.toNatClampNeg)), (vI l2)] (some (vI r3)) c (MRc nb db by_ rs) mi ml mi ml ∧ ((r3 = 0 → (∃ (mi4 : MI) (ml4 : ML), Ret m_r_puts [(vR 19 0 48), (vI (mi 48 51)), (vI l2), (vL (lN 0)), (vL (lN 1))] none c (MRc nb db by_ rs) mi ml mi4 ml4 ∧ (Go m_r_laysRows 22 [some (vR 19 0 48), some (vI l1), some (vI (l2 + nI 1))] [] rv c (MRc nb db by_ rs) mi4 ml4 mi' ml'))) ∧ (¬ r3 = 0 → (∃ (mi5 : MI) (ml5 : ML), Ret m_r_puts [(vR 19 0 48), (vI (mi 48 51)), (vI l2), (vL (lN 1)), (vL (lN 1))] none c (MRc nb db by_ rs) mi ml mi5 ml5 ∧ (Go m_r_laysRows 22 [some (vR 19 0 48), some (vI l1), some (vI (l2 + nI 1))] [] rv c (MRc nb db by_ rs) mi5 ml5 mi' ml'))))))))) ∧ (l2 = (nI 31) → (vp_in l1 12 ∧ (∃ (r6 : Int32), Ret m_r_through [(vR 19 0 48), (vI (mi 51 l1.toNatClampNeg))] (some (vI r6)) c (MRc nb db by_ rs) mi ml mi ml ∧ (∃ (mi7 : MI) (ml7 : ML), Ret m_r_puts [(vR 19 0 48), (vI (mi 48 51)), (vI l2), (vL r6.toInt64), (vL (lN 1))] none c (MRc nb db by_ rs) mi ml mi7 ml7 ∧ (Go m_r_laysRows 22 [some (vR 19 0 48), some (vI l1), some (vI (l2 + nI 1))] [] rv c (MRc nb db by_ rs) mi7 ml7 mi' ml')))))))) :
    Go m_r_laysRows 22 [some (vR 19 0 48), some (vI l1), some (vI l2)] [] rv c (MRc nb db by_ rs) mi ml mi' ml' := by
  intro Q hQ
  refine at_wq inlT 400 rfl ?_
  refine ⟨fun g => ?_, fun g => ?_⟩
  · have h := h.1 (g)
    exact h Q hQ
  · have h := h.2 (g)
    refine ⟨fun g => ?_, fun g => ?_⟩
    · have h := h.1 (g)
      refine ⟨fun g => ?_, fun g => ?_⟩
      · have h := h.1 (g)
        refine ⟨fun g => ?_, fun g => ?_⟩
        · have h := h.1 (g)
          obtain ⟨mi1, ml1, hR, h⟩ := h
          refine ⟨0, 0, Nat.zero_le _, Nat.zero_le _, hR _ ?_⟩
          exact h Q hQ
        · have h := h.2 (g)
          obtain ⟨mi2, ml2, hR, h⟩ := h
          refine ⟨0, 0, Nat.zero_le _, Nat.zero_le _, hR _ ?_⟩
          exact h Q hQ
      · have h := h.2 (g)
        refine ⟨h.1, ?_⟩
        have h := h.2
        obtain ⟨r3, hR, h⟩ := h
        refine ⟨0, 0, Nat.zero_le _, Nat.zero_le _, hR _ ?_⟩
        refine ⟨fun g => ?_, fun g => ?_⟩
        · have h := h.1 (g)
          obtain ⟨mi4, ml4, hR, h⟩ := h
          refine ⟨0, 0, Nat.zero_le _, Nat.zero_le _, hR _ ?_⟩
          exact h Q hQ
        · have h := h.2 (g)
          obtain ⟨mi5, ml5, hR, h⟩ := h
          refine ⟨0, 0, Nat.zero_le _, Nat.zero_le _, hR _ ?_⟩
          exact h Q hQ
    · have h := h.2 (g)
      refine ⟨h.1, ?_⟩
      have h := h.2
      obtain ⟨r6, hR, h⟩ := h
      refine ⟨0, 0, Nat.zero_le _, Nat.zero_le _, hR _ ?_⟩
      obtain ⟨mi7, ml7, hR, h⟩ := h
      refine ⟨0, 0, Nat.zero_le _, Nat.zero_le _, hR _ ?_⟩
      exact h Q hQ
theorem g_r_laysRows_101 {nb db : Nat} {by_ rs : RX} {c : Nat} {mi mi' : MI} {ml ml' : ML} {rv : Option AV} {l1 : Int32} {l2 : Int32}
    (h : ((mi 48 51) ≤ l2 → (Go m_r_laysRows 132 [some (vR 19 0 48), some (vI l1), some (vI (nI 0))] [] rv c (MRc nb db by_ rs) mi ml mi' ml')) ∧ (¬ (mi 48 51) ≤ l2 → (vp_in l2 12 ∧ (∃ (mi1 : MI) (ml1 : ML), Ret m_r_clears [(vR 19 0 48), (vI (mi 48 51)), (vI l2), (vI (mi 64 l2.toNatClampNeg))] none c (MRc nb db by_ rs) mi ml mi1 ml1 ∧ (Go m_r_laysRows 101 [some (vR 19 0 48), some (vI l1), some (vI (l2 + nI 1))] [] rv c (MRc nb db by_ rs) mi1 ml1 mi' ml'))))) :
    Go m_r_laysRows 101 [some (vR 19 0 48), some (vI l1), some (vI l2)] [] rv c (MRc nb db by_ rs) mi ml mi' ml' := by
  intro Q hQ
  refine at_wq inlT 400 rfl ?_
  refine ⟨fun g => ?_, fun g => ?_⟩
  · have h := h.1 (g)
    exact h Q hQ
  · have h := h.2 (g)
    refine ⟨h.1, ?_⟩
    have h := h.2
    obtain ⟨mi1, ml1, hR, h⟩ := h
    refine ⟨0, 0, Nat.zero_le _, Nat.zero_le _, hR _ ?_⟩
    exact h Q hQ
theorem g_r_laysRows_132 {nb db : Nat} {by_ rs : RX} {c : Nat} {mi mi' : MI} {ml ml' : ML} {rv : Option AV} {l1 : Int32} {l2 : Int32}
    (h : ((nI 31) ≤ l2 → ((¬ l2 = (nI 31) → (∃ (mi1 : MI) (ml1 : ML), Ret m_r_laysRow [(vR 19 0 48), (vI l2)] none c (MRc nb db by_ rs) mi ml mi1 ml1 ∧ (Go m_r_laysRows 12 [some (vR 19 0 48), some (vI (l1 + nI 1)), none] [] rv c (MRc nb db by_ rs) mi1 ml1 mi' ml'))) ∧ (l2 = (nI 31) → (((mi 48 52) = 0 → (Go m_r_laysRows 12 [some (vR 19 0 48), some (vI (l1 + nI 1)), none] [] rv c (MRc nb db by_ rs) (u2 mi 48 52 (nI 0)) ml mi' ml')) ∧ (¬ (mi 48 52) = 0 → (vp_in (((nI 44) * (mi 48 51)) + (nI 31)) 528 ∧ ((¬ (ml 62 (((nI 44) * (mi 48 51)) + (nI 31)).toNatClampNeg) = (lN 0) → (Go m_r_laysRows 12 [some (vR 19 0 48), some (vI (l1 + nI 1)), none] [] rv c (MRc nb db by_ rs) (u2 mi 48 52 (nI 0)) ml mi' ml')) ∧ ((ml 62 (((nI 44) * (mi 48 51)) + (nI 31)).toNatClampNeg) = (lN 0) → (Go m_r_laysRows 12 [some (vR 19 0 48), some (vI (l1 + nI 1)), none] [] rv c (MRc nb db by_ rs) (u2 mi 48 52 (nI 1)) ml mi' ml'))))))))) ∧ (¬ (nI 31) ≤ l2 → (vp_in (((nI 44) * (mi 48 51)) + l2) 528 ∧ ((¬ (ml 62 (((nI 44) * (mi 48 51)) + l2).toNatClampNeg) = (lN 0) → ((¬ l2 = (nI 31) → (∃ (mi2 : MI) (ml2 : ML), Ret m_r_laysRow [(vR 19 0 48), (vI l2)] none c (MRc nb db by_ rs) mi ml mi2 ml2 ∧ (Go m_r_laysRows 12 [some (vR 19 0 48), some (vI (l1 + nI 1)), none] [] rv c (MRc nb db by_ rs) mi2 ml2 mi' ml'))) ∧ (l2 = (nI 31) → (((mi 48 52) = 0 → (Go m_r_laysRows 12 [some (vR 19 0 48), some (vI (l1 + nI 1)), none] [] rv c (MRc nb db by_ rs) (u2 mi 48 52 (nI 0)) ml mi' ml')) ∧ (¬ (mi 48 52) = 0 → (vp_in (((nI 44) * (mi 48 51)) + (nI 31)) 528 ∧ ((¬ (ml 62 (((nI 44) * (mi 48 51)) + (nI 31)).toNatClampNeg) = (lN 0) → (Go m_r_laysRows 12 [some (vR 19 0 48), some (vI (l1 + nI 1)), none] [] rv c (MRc nb db by_ rs) (u2 mi 48 52 (nI 0)) ml mi' ml')) ∧ ((ml 62 (((nI 44) * (mi 48 51)) + (nI 31)).toNatClampNeg) = (lN 0) → (Go m_r_laysRows 12 [some (vR 19 0 48), some (vI (l1 + nI 1)), none] [] rv c (MRc nb db by_ rs) (u2 mi 48 52 (nI 1)) ml mi' ml'))))))))) ∧ ((ml 62 (((nI 44) * (mi 48 51)) + l2).toNatClampNeg) = (lN 0) → (Go m_r_laysRows 132 [some (vR 19 0 48), some (vI l1), some (vI (l2 + nI 1))] [] rv c (MRc nb db by_ rs) mi ml mi' ml')))))) :
    Go m_r_laysRows 132 [some (vR 19 0 48), some (vI l1), some (vI l2)] [] rv c (MRc nb db by_ rs) mi ml mi' ml' := by
  intro Q hQ
  refine at_wq inlT 400 rfl ?_
  refine ⟨fun g => ?_, fun g => ?_⟩
  · have h := h.1 (g)
    refine ⟨fun g => ?_, fun g => ?_⟩
    · have h := h.1 (g)
      obtain ⟨mi1, ml1, hR, h⟩ := h
      refine ⟨0, 0, Nat.zero_le _, Nat.zero_le _, hR _ ?_⟩
      exact At.wk (h Q hQ) ⟨rfl, rfl, trivial⟩
    · have h := h.2 (g)
      refine ⟨fun g => ?_, fun g => ?_⟩
      · have h := h.1 (g)
        refine ⟨Or.inl rfl, ?_⟩
        exact At.wk (h Q hQ) ⟨rfl, rfl, trivial⟩
      · have h := h.2 (g)
        refine ⟨h.1, ?_⟩
        have h := h.2
        refine ⟨fun g => ?_, fun g => ?_⟩
        · have h := h.1 (fun z => g ((lgc_eq _ _).mpr z))
          refine ⟨Or.inl rfl, ?_⟩
          exact At.wk (h Q hQ) ⟨rfl, rfl, trivial⟩
        · have h := h.2 ((lgc_eq _ _).mp g)
          refine ⟨Or.inr rfl, ?_⟩
          exact At.wk (h Q hQ) ⟨rfl, rfl, trivial⟩
  · have h := h.2 (g)
    refine ⟨h.1, ?_⟩
    have h := h.2
    refine ⟨fun g => ?_, fun g => ?_⟩
    · have h := h.1 (fun z => g ((lgc_eq _ _).mpr z))
      refine ⟨fun g => ?_, fun g => ?_⟩
      · have h := h.1 (g)
        obtain ⟨mi2, ml2, hR, h⟩ := h
        refine ⟨0, 0, Nat.zero_le _, Nat.zero_le _, hR _ ?_⟩
        exact At.wk (h Q hQ) ⟨rfl, rfl, trivial⟩
      · have h := h.2 (g)
        refine ⟨fun g => ?_, fun g => ?_⟩
        · have h := h.1 (g)
          refine ⟨Or.inl rfl, ?_⟩
          exact At.wk (h Q hQ) ⟨rfl, rfl, trivial⟩
        · have h := h.2 (g)
          refine ⟨h.1, ?_⟩
          have h := h.2
          refine ⟨fun g => ?_, fun g => ?_⟩
          · have h := h.1 (fun z => g ((lgc_eq _ _).mpr z))
            refine ⟨Or.inl rfl, ?_⟩
            exact At.wk (h Q hQ) ⟨rfl, rfl, trivial⟩
          · have h := h.2 ((lgc_eq _ _).mp g)
            refine ⟨Or.inr rfl, ?_⟩
            exact At.wk (h Q hQ) ⟨rfl, rfl, trivial⟩
    · have h := h.2 ((lgc_eq _ _).mp g)
      exact h Q hQ
theorem g_r_laysRow_0 {nb db : Nat} {by_ rs : RX} {c : Nat} {mi mi' : MI} {ml ml' : ML} {rv : Option AV} {a0 : Int32}
    (h : vp_in (((nI 44) * (mi 48 51)) + a0) 528 ∧ (vp_in (((nI 44) * (mi 48 51)) + a0) 528 ∧ (((lN 0) ≤ (ml 62 (((nI 44) * (mi 48 51)) + a0).toNatClampNeg) → (Go m_r_laysRow 49 [some (vR 19 0 48), some (vI a0), some (vL (ml 62 (((nI 44) * (mi 48 51)) + a0).toNatClampNeg)), none, some (vL (ml 63 (((nI 44) * (mi 48 51)) + a0).toNatClampNeg)), none, some (vL (lN 1)), none, some (vI (nI 0))] [] rv c (MRc nb db by_ rs) mi ml mi' ml')) ∧ (¬ (lN 0) ≤ (ml 62 (((nI 44) * (mi 48 51)) + a0).toNatClampNeg) → (Go m_r_laysRow 49 [some (vR 19 0 48), some (vI a0), some (vL (ml 62 (((nI 44) * (mi 48 51)) + a0).toNatClampNeg)), none, some (vL (ml 63 (((nI 44) * (mi 48 51)) + a0).toNatClampNeg)), none, some (vL (-(lN 1))), none, some (vI (nI 0))] [] rv c (MRc nb db by_ rs) mi ml mi' ml'))))) :
    Ret m_r_laysRow [(vR 19 0 48), (vI a0)] rv c (MRc nb db by_ rs) mi ml mi' ml' := by
  intro Q hQ
  refine ok_wq inlT 400 rfl rfl ?_
  refine ⟨h.1, ?_⟩
  have h := h.2
  refine ⟨h.1, ?_⟩
  have h := h.2
  refine ⟨fun g => ?_, fun g => ?_⟩
  · have h := h.1 ((lgc_ge _ _).mp g)
    exact h Q hQ
  · have h := h.2 (fun z => g ((lgc_ge _ _).mpr z))
    exact h Q hQ
theorem g_r_laysRow_49 {nb db : Nat} {by_ rs : RX} {c : Nat} {mi mi' : MI} {ml ml' : ML} {rv : Option AV} {l1 : Int32} {l2 : Int64} {l4 : Int64} {l6 : Int64} {l8 : Int32}
    (h : ((nI 44) ≤ l8 → (vp_in (mi 48 51) 12 ∧ (Go m_r_laysRow 126 [some (vR 19 0 48), some (vI l1), some (vL l2), none, some (vL l4), none, some (vL l6), none, some (vI (nI 0))] [] rv c (MRc nb db by_ rs) (u2 mi 64 (mi 48 51).toNatClampNeg l1) ml mi' ml'))) ∧ (¬ (nI 44) ≤ l8 → (vp_in (((nI 44) * (mi 48 51)) + l8) 528 ∧ (vp_in (((nI 44) * (mi 48 51)) + l8) 528 ∧ (∃ (mi1 : MI) (ml1 : ML), Ret m_r_puts [(vR 19 0 48), (vI (mi 48 51)), (vI l8), (vL (((ml 62 (((nI 44) * (mi 48 51)) + l8).toNatClampNeg) * l4) * l6)), (vL (((ml 63 (((nI 44) * (mi 48 51)) + l8).toNatClampNeg) * l2) * l6))] none c (MRc nb db by_ rs) mi ml mi1 ml1 ∧ (Go m_r_laysRow 49 [some (vR 19 0 48), some (vI l1), some (vL l2), none, some (vL l4), none, some (vL l6), none, some (vI (l8 + nI 1))] [] rv c (MRc nb db by_ rs) mi1 ml1 mi' ml')))))) :
    Go m_r_laysRow 49 [some (vR 19 0 48), some (vI l1), some (vL l2), none, some (vL l4), none, some (vL l6), none, some (vI l8)] [] rv c (MRc nb db by_ rs) mi ml mi' ml' := by
  intro Q hQ
  refine at_wq inlT 400 rfl ?_
  refine ⟨fun g => ?_, fun g => ?_⟩
  · have h := h.1 (g)
    refine ⟨h.1, ?_⟩
    have h := h.2
    exact h Q hQ
  · have h := h.2 (g)
    refine ⟨h.1, ?_⟩
    have h := h.2
    refine ⟨h.1, ?_⟩
    have h := h.2
    obtain ⟨mi1, ml1, hR, h⟩ := h
    refine ⟨0, 0, Nat.zero_le _, Nat.zero_le _, hR _ ?_⟩
    exact h Q hQ
theorem g_r_laysRow_126 {nb db : Nat} {by_ rs : RX} {c : Nat} {mi mi' : MI} {ml ml' : ML} {rv : Option AV} {l1 : Int32} {l2 : Int64} {l4 : Int64} {l6 : Int64} {l8 : Int32}
    (h : ((mi 48 51) ≤ l8 → (Fin none (u2 mi 48 51 ((mi 48 51) + (nI 1))) ml rv mi' ml')) ∧ (¬ (mi 48 51) ≤ l8 → (∃ (mi1 : MI) (ml1 : ML), Ret m_r_clears [(vR 19 0 48), (vI l8), (vI (mi 48 51)), (vI l1)] none c (MRc nb db by_ rs) mi ml mi1 ml1 ∧ (Go m_r_laysRow 126 [some (vR 19 0 48), some (vI l1), some (vL l2), none, some (vL l4), none, some (vL l6), none, some (vI (l8 + nI 1))] [] rv c (MRc nb db by_ rs) mi1 ml1 mi' ml')))) :
    Go m_r_laysRow 126 [some (vR 19 0 48), some (vI l1), some (vL l2), none, some (vL l4), none, some (vL l6), none, some (vI l8)] [] rv c (MRc nb db by_ rs) mi ml mi' ml' := by
  intro Q hQ
  refine at_wq inlT 400 rfl ?_
  refine ⟨fun g => ?_, fun g => ?_⟩
  · have h := h.1 (g)
    exact h.use hQ
  · have h := h.2 (g)
    obtain ⟨mi1, ml1, hR, h⟩ := h
    refine ⟨0, 0, Nat.zero_le _, Nat.zero_le _, hR _ ?_⟩
    exact h Q hQ
theorem g_r_rowOf_0 {nb db : Nat} {by_ rs : RX} {c : Nat} {mi mi' : MI} {ml ml' : ML} {rv : Option AV} {a0 : Int32}
    (h : Go m_r_rowOf 2 [some (vR 19 0 48), some (vI a0), some (vI (nI 0)), none, none] [] rv c (MRc nb db by_ rs) mi ml mi' ml') :
    Ret m_r_rowOf [(vR 19 0 48), (vI a0)] rv c (MRc nb db by_ rs) mi ml mi' ml' := by
  intro Q hQ
  refine ok_wq inlT 400 rfl rfl ?_
  exact h Q hQ
theorem g_r_rowOf_2 {nb db : Nat} {by_ rs : RX} {c : Nat} {mi mi' : MI} {ml ml' : ML} {rv : Option AV} {l1 : Int32} {l2 : Int32}
    (h : ((mi 48 51) ≤ l2 → (Fin (some (vI (-(nI 1)))) mi ml rv mi' ml')) ∧ (¬ (mi 48 51) ≤ l2 → (vp_in l2 12 ∧ (((mi 64 l2.toNatClampNeg) = l1 → (Go m_r_rowOf 28 [some (vR 19 0 48), some (vI l1), some (vI l2), some (vI (nI 1)), some (vI (nI 0))] [] rv c (MRc nb db by_ rs) mi ml mi' ml')) ∧ (¬ (mi 64 l2.toNatClampNeg) = l1 → (Go m_r_rowOf 2 [some (vR 19 0 48), some (vI l1), some (vI (l2 + nI 1)), none, none] [] rv c (MRc nb db by_ rs) mi ml mi' ml')))))) :
    Go m_r_rowOf 2 [some (vR 19 0 48), some (vI l1), some (vI l2), none, none] [] rv c (MRc nb db by_ rs) mi ml mi' ml' := by
  intro Q hQ
  refine at_wq inlT 400 rfl ?_
  refine ⟨fun g => ?_, fun g => ?_⟩
  · have h := h.1 (g)
    exact h.use hQ
  · have h := h.2 (g)
    refine ⟨h.1, ?_⟩
    have h := h.2
    refine ⟨fun g => ?_, fun g => ?_⟩
    · have h := h.1 (g)
      exact h Q hQ
    · have h := h.2 (g)
      exact h Q hQ
theorem g_r_rowOf_28 {nb db : Nat} {by_ rs : RX} {c : Nat} {mi mi' : MI} {ml ml' : ML} {rv : Option AV} {l1 : Int32} {l2 : Int32} {l3 : Int32} {l4 : Int32}
    (h : ((nI 31) ≤ l4 → ((l3 = 0 → (Fin (some (vI (-(nI 1)))) mi ml rv mi' ml')) ∧ (¬ l3 = 0 → (Fin (some (vI l2)) mi ml rv mi' ml')))) ∧ (¬ (nI 31) ≤ l4 → ((l3 = 0 → (Go m_r_rowOf 28 [some (vR 19 0 48), some (vI l1), some (vI l2), some (vI (nI 0)), some (vI (l4 + nI 1))] [] rv c (MRc nb db by_ rs) mi ml mi' ml')) ∧ (¬ l3 = 0 → ((l4 = l1 → (Go m_r_rowOf 28 [some (vR 19 0 48), some (vI l1), some (vI l2), some (vI (nI 1)), some (vI (l4 + nI 1))] [] rv c (MRc nb db by_ rs) mi ml mi' ml')) ∧ (¬ l4 = l1 → (vp_in (((nI 44) * l2) + l4) 528 ∧ ((¬ (ml 62 (((nI 44) * l2) + l4).toNatClampNeg) = (lN 0) → (Go m_r_rowOf 28 [some (vR 19 0 48), some (vI l1), some (vI l2), some (vI (nI 0)), some (vI (l4 + nI 1))] [] rv c (MRc nb db by_ rs) mi ml mi' ml')) ∧ ((ml 62 (((nI 44) * l2) + l4).toNatClampNeg) = (lN 0) → (Go m_r_rowOf 28 [some (vR 19 0 48), some (vI l1), some (vI l2), some (vI (nI 1)), some (vI (l4 + nI 1))] [] rv c (MRc nb db by_ rs) mi ml mi' ml')))))))))) :
    Go m_r_rowOf 28 [some (vR 19 0 48), some (vI l1), some (vI l2), some (vI l3), some (vI l4)] [] rv c (MRc nb db by_ rs) mi ml mi' ml' := by
  intro Q hQ
  refine at_wq inlT 400 rfl ?_
  refine ⟨fun g => ?_, fun g => ?_⟩
  · have h := h.1 (g)
    refine ⟨fun g => ?_, fun g => ?_⟩
    · have h := h.1 (g)
      exact h.use hQ
    · have h := h.2 (g)
      exact h.use hQ
  · have h := h.2 (g)
    refine ⟨fun g => ?_, fun g => ?_⟩
    · have h := h.1 (g)
      exact h Q hQ
    · have h := h.2 (g)
      refine ⟨fun g => ?_, fun g => ?_⟩
      · have h := h.1 (g)
        exact h Q hQ
      · have h := h.2 (g)
        refine ⟨h.1, ?_⟩
        have h := h.2
        refine ⟨fun g => ?_, fun g => ?_⟩
        · have h := h.1 (fun z => g ((lgc_eq _ _).mpr z))
          exact h Q hQ
        · have h := h.2 ((lgc_eq _ _).mp g)
          exact h Q hQ
theorem g_r_mask_0 {nb db : Nat} {by_ rs : RX} {c : Nat} {mi mi' : MI} {ml ml' : ML} {rv : Option AV} {a0 : Int32}
    (h : ((mi 48 26) = 0 → (Fin (some (vI (-(nI 1)))) (u2 (u2 (u2 mi 48 0 (nI 0)) 48 1 (nI 1)) 48 2 (-(nI 1))) ml rv mi' ml')) ∧ (¬ (mi 48 26) = 0 → ((a0 < 0 → (Fin (some (vI (-(nI 1)))) (u2 (u2 (u2 mi 48 0 (nI 0)) 48 1 (nI 1)) 48 2 (-(nI 1))) ml rv mi' ml')) ∧ (¬ a0 < 0 → (((mi 48 9) ≤ a0 → (Fin (some (vI (-(nI 1)))) (u2 (u2 (u2 mi 48 0 (nI 0)) 48 1 (nI 1)) 48 2 (-(nI 1))) ml rv mi' ml')) ∧ (¬ (mi 48 9) ≤ a0 → (vp_in a0 12 ∧ (Fin (some (vI (mi 51 a0.toNatClampNeg))) (u2 (u2 (u2 mi 48 0 (nI 0)) 48 1 (nI 0)) 48 2 (-(nI 1))) ml rv mi' ml')))))))) :
    Ret m_r_mask [(vR 19 0 48), (vI a0)] rv c (MRc nb db by_ rs) mi ml mi' ml' := by
  intro Q hQ
  refine ok_wq inlT 400 rfl rfl ?_
  refine ⟨fun g => ?_, fun g => ?_⟩
  · have h := h.1 (g)
    exact h.use hQ
  · have h := h.2 (g)
    refine ⟨fun g => ?_, fun g => ?_⟩
    · have h := h.1 (g)
      exact h.use hQ
    · have h := h.2 (g)
      refine ⟨fun g => ?_, fun g => ?_⟩
      · have h := h.1 (g)
        exact h.use hQ
      · have h := h.2 (g)
        refine ⟨h.1, ?_⟩
        have h := h.2
        exact h.use hQ
theorem g_r_rank_0 {nb db : Nat} {by_ rs : RX} {c : Nat} {mi mi' : MI} {ml ml' : ML} {rv : Option AV} 
    (h : (¬ (mi 48 26) = 0 → (∃ (mi1 : MI) (ml1 : ML), Ret m_r_laysRows [(vR 19 0 48)] none c (MRc nb db by_ rs) (u2 mi 48 0 (nI 0)) ml mi1 ml1 ∧ (Fin (some (vI (mi1 48 51))) (u2 (u2 mi1 48 1 (nI 0)) 48 2 (-(nI 1))) ml1 rv mi' ml'))) ∧ ((mi 48 26) = 0 → (Fin (some (vI (-(nI 1)))) (u2 (u2 (u2 mi 48 0 (nI 0)) 48 1 (nI 1)) 48 2 (-(nI 1))) ml rv mi' ml'))) :
    Ret m_r_rank [(vR 19 0 48)] rv c (MRc nb db by_ rs) mi ml mi' ml' := by
  intro Q hQ
  refine ok_wq inlT 400 rfl rfl ?_
  refine ⟨fun g => ?_, fun g => ?_⟩
  · have h := h.1 (g)
    obtain ⟨mi1, ml1, hR, h⟩ := h
    refine ⟨0, 0, Nat.zero_le _, Nat.zero_le _, hR _ ?_⟩
    exact h.use hQ
  · have h := h.2 (g)
    exact h.use hQ
theorem g_r_told_0 {nb db : Nat} {by_ rs : RX} {c : Nat} {mi mi' : MI} {ml ml' : ML} {rv : Option AV} 
    (h : (¬ (mi 48 26) = 0 → (∃ (mi1 : MI) (ml1 : ML), Ret m_r_laysRows [(vR 19 0 48)] none c (MRc nb db by_ rs) (u2 mi 48 0 (nI 0)) ml mi1 ml1 ∧ (Go m_r_told 26 [some (vR 19 0 48), some (vI (nI 0)), some (vI (nI 0))] [] rv c (MRc nb db by_ rs) mi1 ml1 mi' ml'))) ∧ ((mi 48 26) = 0 → (Fin (some (vI (-(nI 1)))) (u2 (u2 (u2 mi 48 0 (nI 0)) 48 1 (nI 1)) 48 2 (-(nI 1))) ml rv mi' ml'))) :
    Ret m_r_told [(vR 19 0 48)] rv c (MRc nb db by_ rs) mi ml mi' ml' := by
  intro Q hQ
  refine ok_wq inlT 400 rfl rfl ?_
  refine ⟨fun g => ?_, fun g => ?_⟩
  · have h := h.1 (g)
    obtain ⟨mi1, ml1, hR, h⟩ := h
    refine ⟨0, 0, Nat.zero_le _, Nat.zero_le _, hR _ ?_⟩
    exact h Q hQ
  · have h := h.2 (g)
    exact h.use hQ
theorem g_r_told_26 {nb db : Nat} {by_ rs : RX} {c : Nat} {mi mi' : MI} {ml ml' : ML} {rv : Option AV} {l1 : Int32} {l2 : Int32}
    (h : ((mi 48 5) ≤ l2 → (Fin (some (vI l1)) (u2 (u2 mi 48 1 (nI 0)) 48 2 (-(nI 1))) ml rv mi' ml')) ∧ (¬ (mi 48 5) ≤ l2 → (∃ (r1 : Int32), Ret m_r_rowOf [(vR 19 0 48), (vI l2)] (some (vI r1)) c (MRc nb db by_ rs) mi ml mi ml ∧ ((r1 = (-(nI 1)) → (Go m_r_told 26 [some (vR 19 0 48), some (vI l1), some (vI (l2 + nI 1))] [] rv c (MRc nb db by_ rs) mi ml mi' ml')) ∧ (¬ r1 = (-(nI 1)) → (Go m_r_told 26 [some (vR 19 0 48), some (vI (l1 ||| ((nI 1) <<< (l2 &&& 31)))), some (vI (l2 + nI 1))] [] rv c (MRc nb db by_ rs) mi ml mi' ml')))))) :
    Go m_r_told 26 [some (vR 19 0 48), some (vI l1), some (vI l2)] [] rv c (MRc nb db by_ rs) mi ml mi' ml' := by
  intro Q hQ
  refine at_wq inlT 400 rfl ?_
  refine ⟨fun g => ?_, fun g => ?_⟩
  · have h := h.1 (g)
    exact h.use hQ
  · have h := h.2 (g)
    obtain ⟨r1, hR, h⟩ := h
    refine ⟨0, 0, Nat.zero_le _, Nat.zero_le _, hR _ ?_⟩
    refine ⟨fun g => ?_, fun g => ?_⟩
    · have h := h.1 (g)
      exact h Q hQ
    · have h := h.2 (g)
      exact h Q hQ
theorem g_r_solved_0 {nb db : Nat} {by_ rs : RX} {c : Nat} {mi mi' : MI} {ml ml' : ML} {rv : Option AV} {a0 : Int32} {a1 : Int32}
    (h : ∃ (r1 : Int32), Ret m_r_isOne [(vR 19 0 48), (vI a0)] (some (vI r1)) c (MRc nb db by_ rs) (u2 mi 48 0 (nI 0)) ml (u2 mi 48 0 (nI 0)) ml ∧ ((¬ r1 = 0 → (∃ (mi2 : MI) (ml2 : ML), Ret m_r_laysRows [(vR 19 0 48)] none c (MRc nb db by_ rs) (u2 mi 48 0 (nI 0)) ml mi2 ml2 ∧ (∃ (r3 : Int32), Ret m_r_rowOf [(vR 19 0 48), (vI a0)] (some (vI r3)) c (MRc nb db by_ rs) mi2 ml2 mi2 ml2 ∧ ((¬ r3 = (-(nI 1)) → (vp_in (((nI 44) * r3) + (nI 31)) 528 ∧ (vp_in (((nI 44) * r3) + (nI 31)) 528 ∧ (∃ (mi4 : MI) (ml4 : ML), Ret m_r_sets [(vR 19 0 48), (vL (ml2 62 (((nI 44) * r3) + (nI 31)).toNatClampNeg)), (vL (ml2 63 (((nI 44) * r3) + (nI 31)).toNatClampNeg))] none c (MRc nb db by_ rs) mi2 ml2 mi4 ml4 ∧ ((a1 = 0 → (Fin (some (vL (ml4 48 3))) (u2 (u2 mi4 48 1 (nI 0)) 48 2 (-(nI 1))) ml4 rv mi' ml')) ∧ (¬ a1 = 0 → (Fin (some (vL (ml4 48 4))) (u2 (u2 mi4 48 1 (nI 0)) 48 2 (-(nI 1))) ml4 rv mi' ml'))))))) ∧ (r3 = (-(nI 1)) → (Fin (some (vL (-(lN 9223372036854775808)))) (u2 (u2 mi2 48 1 (nI 5)) 48 2 (-(nI 1))) ml2 rv mi' ml')))))) ∧ (r1 = 0 → (Fin (some (vL (-(lN 9223372036854775808)))) (u2 (u2 (u2 mi 48 0 (nI 0)) 48 1 (nI 1)) 48 2 (-(nI 1))) ml rv mi' ml')))) :
    Ret m_r_solved [(vR 19 0 48), (vI a0), (vI a1)] rv c (MRc nb db by_ rs) mi ml mi' ml' := by
  intro Q hQ
  refine ok_wq inlT 400 rfl rfl ?_
  obtain ⟨r1, hR, h⟩ := h
  refine ⟨0, 0, Nat.zero_le _, Nat.zero_le _, hR _ ?_⟩
  refine ⟨fun g => ?_, fun g => ?_⟩
  · have h := h.1 (g)
    obtain ⟨mi2, ml2, hR, h⟩ := h
    refine ⟨0, 0, Nat.zero_le _, Nat.zero_le _, hR _ ?_⟩
    obtain ⟨r3, hR, h⟩ := h
    refine ⟨0, 0, Nat.zero_le _, Nat.zero_le _, hR _ ?_⟩
    refine ⟨fun g => ?_, fun g => ?_⟩
    · have h := h.1 (g)
      refine ⟨h.1, ?_⟩
      have h := h.2
      refine ⟨h.1, ?_⟩
      have h := h.2
      obtain ⟨mi4, ml4, hR, h⟩ := h
      refine ⟨0, 0, Nat.zero_le _, Nat.zero_le _, hR _ ?_⟩
      refine ⟨fun g => ?_, fun g => ?_⟩
      · have h := h.1 (g)
        exact h.use hQ
      · have h := h.2 (g)
        exact h.use hQ
    · have h := h.2 (g)
      exact h.use hQ
  · have h := h.2 (g)
    exact h.use hQ
theorem g_r_factor_0 {nb db : Nat} {by_ rs : RX} {c : Nat} {mi mi' : MI} {ml ml' : ML} {rv : Option AV} {a0 : Int32} {a1 : Int32} {a2 : Int32}
    (h : ∃ (r1 : Int32), Ret m_r_isOne [(vR 19 0 48), (vI a0)] (some (vI r1)) c (MRc nb db by_ rs) (u2 mi 48 0 (nI 0)) ml (u2 mi 48 0 (nI 0)) ml ∧ ((r1 = 0 → (Fin (some (vL (-(lN 9223372036854775808)))) (u2 (u2 (u2 mi 48 0 (nI 0)) 48 1 (nI 1)) 48 2 (-(nI 1))) ml rv mi' ml')) ∧ (¬ r1 = 0 → ((a1 < 0 → (Fin (some (vL (-(lN 9223372036854775808)))) (u2 (u2 (u2 mi 48 0 (nI 0)) 48 1 (nI 1)) 48 2 (-(nI 1))) ml rv mi' ml')) ∧ (¬ a1 < 0 → ((a1 < (mi 48 9) → (∃ (mi2 : MI) (ml2 : ML), Ret m_r_laysRows [(vR 19 0 48)] none c (MRc nb db by_ rs) (u2 mi 48 0 (nI 0)) ml mi2 ml2 ∧ (∃ (r3 : Int32), Ret m_r_rowOf [(vR 19 0 48), (vI a0)] (some (vI r3)) c (MRc nb db by_ rs) mi2 ml2 mi2 ml2 ∧ ((¬ r3 = (-(nI 1)) → (vp_in ((((nI 44) * r3) + (nI 32)) + a1) 528 ∧ (vp_in ((((nI 44) * r3) + (nI 32)) + a1) 528 ∧ (∃ (mi4 : MI) (ml4 : ML), Ret m_r_sets [(vR 19 0 48), (vL (ml2 62 ((((nI 44) * r3) + (nI 32)) + a1).toNatClampNeg)), (vL (ml2 63 ((((nI 44) * r3) + (nI 32)) + a1).toNatClampNeg))] none c (MRc nb db by_ rs) mi2 ml2 mi4 ml4 ∧ ((a2 = 0 → (Fin (some (vL (ml4 48 3))) (u2 (u2 mi4 48 1 (nI 0)) 48 2 (-(nI 1))) ml4 rv mi' ml')) ∧ (¬ a2 = 0 → (Fin (some (vL (ml4 48 4))) (u2 (u2 mi4 48 1 (nI 0)) 48 2 (-(nI 1))) ml4 rv mi' ml'))))))) ∧ (r3 = (-(nI 1)) → (Fin (some (vL (-(lN 9223372036854775808)))) (u2 (u2 mi2 48 1 (nI 5)) 48 2 (-(nI 1))) ml2 rv mi' ml')))))) ∧ (¬ a1 < (mi 48 9) → (Fin (some (vL (-(lN 9223372036854775808)))) (u2 (u2 (u2 mi 48 0 (nI 0)) 48 1 (nI 1)) 48 2 (-(nI 1))) ml rv mi' ml')))))))) :
    Ret m_r_factor [(vR 19 0 48), (vI a0), (vI a1), (vI a2)] rv c (MRc nb db by_ rs) mi ml mi' ml' := by
  intro Q hQ
  refine ok_wq inlT 400 rfl rfl ?_
  obtain ⟨r1, hR, h⟩ := h
  refine ⟨0, 0, Nat.zero_le _, Nat.zero_le _, hR _ ?_⟩
  refine ⟨fun g => ?_, fun g => ?_⟩
  · have h := h.1 (g)
    exact h.use hQ
  · have h := h.2 (g)
    refine ⟨fun g => ?_, fun g => ?_⟩
    · have h := h.1 (g)
      exact h.use hQ
    · have h := h.2 (g)
      refine ⟨fun g => ?_, fun g => ?_⟩
      · have h := h.1 (g)
        obtain ⟨mi2, ml2, hR, h⟩ := h
        refine ⟨0, 0, Nat.zero_le _, Nat.zero_le _, hR _ ?_⟩
        obtain ⟨r3, hR, h⟩ := h
        refine ⟨0, 0, Nat.zero_le _, Nat.zero_le _, hR _ ?_⟩
        refine ⟨fun g => ?_, fun g => ?_⟩
        · have h := h.1 (g)
          refine ⟨h.1, ?_⟩
          have h := h.2
          refine ⟨h.1, ?_⟩
          have h := h.2
          obtain ⟨mi4, ml4, hR, h⟩ := h
          refine ⟨0, 0, Nat.zero_le _, Nat.zero_le _, hR _ ?_⟩
          refine ⟨fun g => ?_, fun g => ?_⟩
          · have h := h.1 (g)
            exact h.use hQ
          · have h := h.2 (g)
            exact h.use hQ
        · have h := h.2 (g)
          exact h.use hQ
      · have h := h.2 (g)
        exact h.use hQ
theorem g_r_squaresOf_0 {nb db : Nat} {by_ rs : RX} {c : Nat} {mi mi' : MI} {ml ml' : ML} {rv : Option AV} {a0 : Int32}
    (h : ∃ (mi1 : MI) (ml1 : ML), Ret m_r_sets [(vR 19 0 48), (vL (lN 0)), (vL (lN 1))] none c (MRc nb db by_ rs) mi ml mi1 ml1 ∧ (Go m_r_squaresOf 8 [some (vR 19 0 48), some (vI a0), some (vI (nI 0)), none, none, none, none, none, none] [] rv c (MRc nb db by_ rs) mi1 ml1 mi' ml')) :
    Ret m_r_squaresOf [(vR 19 0 48), (vI a0)] rv c (MRc nb db by_ rs) mi ml mi' ml' := by
  intro Q hQ
  refine ok_wq inlT 400 rfl rfl ?_
  obtain ⟨mi1, ml1, hR, h⟩ := h
  refine ⟨0, 0, Nat.zero_le _, Nat.zero_le _, hR _ ?_⟩
  exact h Q hQ
theorem g_r_squaresOf_8 {nb db : Nat} {by_ rs : RX} {c : Nat} {mi mi' : MI} {ml ml' : ML} {rv : Option AV} {l1 : Int32} {l2 : Int32}
    (h : ((mi 48 9) ≤ l2 → (Fin none mi ml rv mi' ml')) ∧ (¬ (mi 48 9) ≤ l2 → (vp_in ((((nI 44) * l1) + (nI 32)) + l2) 528 ∧ (vp_in ((((nI 44) * l1) + (nI 32)) + l2) 528 ∧ (vp_in ((((nI 44) * l1) + (nI 32)) + l2) 528 ∧ (vp_in ((((nI 44) * l1) + (nI 32)) + l2) 528 ∧ (∃ (r1 : Int64), Ret m_r_divisor [(vL (ml 48 4)), (vL ((ml 63 ((((nI 44) * l1) + (nI 32)) + l2).toNatClampNeg) * (ml 63 ((((nI 44) * l1) + (nI 32)) + l2).toNatClampNeg)))] (some (vL r1)) c (MRc nb db by_ rs) mi ml mi ml ∧ (¬ r1 = 0 ∧ (¬ (ml 48 4) = 0 ∧ (¬ ((ml 63 ((((nI 44) * l1) + (nI 32)) + l2).toNatClampNeg) * (ml 63 ((((nI 44) * l1) + (nI 32)) + l2).toNatClampNeg)) = 0 ∧ (∃ (mi2 : MI) (ml2 : ML), Ret m_r_sets [(vR 19 0 48), (vL (((ml 48 3) * ((((ml 48 4) / r1) * ((ml 63 ((((nI 44) * l1) + (nI 32)) + l2).toNatClampNeg) * (ml 63 ((((nI 44) * l1) + (nI 32)) + l2).toNatClampNeg))) / (ml 48 4))) + (((ml 62 ((((nI 44) * l1) + (nI 32)) + l2).toNatClampNeg) * (ml 62 ((((nI 44) * l1) + (nI 32)) + l2).toNatClampNeg)) * ((((ml 48 4) / r1) * ((ml 63 ((((nI 44) * l1) + (nI 32)) + l2).toNatClampNeg) * (ml 63 ((((nI 44) * l1) + (nI 32)) + l2).toNatClampNeg))) / ((ml 63 ((((nI 44) * l1) + (nI 32)) + l2).toNatClampNeg) * (ml 63 ((((nI 44) * l1) + (nI 32)) + l2).toNatClampNeg)))))), (vL (((ml 48 4) / r1) * ((ml 63 ((((nI 44) * l1) + (nI 32)) + l2).toNatClampNeg) * (ml 63 ((((nI 44) * l1) + (nI 32)) + l2).toNatClampNeg))))] none c (MRc nb db by_ rs) mi ml mi2 ml2 ∧ (Go m_r_squaresOf 8 [some (vR 19 0 48), some (vI l1), some (vI (l2 + nI 1)), none, none, none, none, none, none] [] rv c (MRc nb db by_ rs) mi2 ml2 mi' ml')))))))))))) :
    Go m_r_squaresOf 8 [some (vR 19 0 48), some (vI l1), some (vI l2), none, none, none, none, none, none] [] rv c (MRc nb db by_ rs) mi ml mi' ml' := by
  intro Q hQ
  refine at_wq inlT 400 rfl ?_
  refine ⟨fun g => ?_, fun g => ?_⟩
  · have h := h.1 (g)
    exact h.use hQ
  · have h := h.2 (g)
    refine ⟨h.1, ?_⟩
    have h := h.2
    refine ⟨h.1, ?_⟩
    have h := h.2
    refine ⟨h.1, ?_⟩
    have h := h.2
    refine ⟨h.1, ?_⟩
    have h := h.2
    obtain ⟨r1, hR, h⟩ := h
    refine ⟨0, 0, Nat.zero_le _, Nat.zero_le _, hR _ ?_⟩
    refine ⟨h.1, ?_⟩
    have h := h.2
    refine ⟨h.1, ?_⟩
    have h := h.2
    refine ⟨h.1, ?_⟩
    have h := h.2
    obtain ⟨mi2, ml2, hR, h⟩ := h
    refine ⟨0, 0, Nat.zero_le _, Nat.zero_le _, hR _ ?_⟩
    exact At.wk (h Q hQ) ⟨rfl, rfl, rfl, trivial⟩
theorem g_r_shareBy_0 {nb db : Nat} {by_ rs : RX} {c : Nat} {mi mi' : MI} {ml ml' : ML} {rv : Option AV} {a0 : Int32} {a1 : Int32}
    (h : ∃ (r1 : Int32), Ret m_r_isOne [(vR 19 0 48), (vI a0)] (some (vI r1)) c (MRc nb db by_ rs) (u2 mi 48 0 (nI 0)) ml (u2 mi 48 0 (nI 0)) ml ∧ ((¬ r1 = 0 → (∃ (mi2 : MI) (ml2 : ML), Ret m_r_laysRows [(vR 19 0 48)] none c (MRc nb db by_ rs) (u2 mi 48 0 (nI 0)) ml mi2 ml2 ∧ (∃ (r3 : Int32), Ret m_r_rowOf [(vR 19 0 48), (vI a0)] (some (vI r3)) c (MRc nb db by_ rs) mi2 ml2 mi2 ml2 ∧ ((¬ r3 = (-(nI 1)) → (∃ (mi4 : MI) (ml4 : ML), Ret m_r_squaresOf [(vR 19 0 48), (vI r3)] none c (MRc nb db by_ rs) mi2 ml2 mi4 ml4 ∧ ((a1 = 0 → (Fin (some (vL (ml4 48 3))) (u2 (u2 mi4 48 1 (nI 0)) 48 2 (-(nI 1))) ml4 rv mi' ml')) ∧ (¬ a1 = 0 → (Fin (some (vL (ml4 48 4))) (u2 (u2 mi4 48 1 (nI 0)) 48 2 (-(nI 1))) ml4 rv mi' ml'))))) ∧ (r3 = (-(nI 1)) → (Fin (some (vL ((-(nI 1)).toInt64))) (u2 (u2 mi2 48 1 (nI 5)) 48 2 (-(nI 1))) ml2 rv mi' ml')))))) ∧ (r1 = 0 → (Fin (some (vL ((-(nI 1)).toInt64))) (u2 (u2 (u2 mi 48 0 (nI 0)) 48 1 (nI 1)) 48 2 (-(nI 1))) ml rv mi' ml')))) :
    Ret m_r_shareBy [(vR 19 0 48), (vI a0), (vI a1)] rv c (MRc nb db by_ rs) mi ml mi' ml' := by
  intro Q hQ
  refine ok_wq inlT 400 rfl rfl ?_
  obtain ⟨r1, hR, h⟩ := h
  refine ⟨0, 0, Nat.zero_le _, Nat.zero_le _, hR _ ?_⟩
  refine ⟨fun g => ?_, fun g => ?_⟩
  · have h := h.1 (g)
    obtain ⟨mi2, ml2, hR, h⟩ := h
    refine ⟨0, 0, Nat.zero_le _, Nat.zero_le _, hR _ ?_⟩
    obtain ⟨r3, hR, h⟩ := h
    refine ⟨0, 0, Nat.zero_le _, Nat.zero_le _, hR _ ?_⟩
    refine ⟨fun g => ?_, fun g => ?_⟩
    · have h := h.1 (g)
      obtain ⟨mi4, ml4, hR, h⟩ := h
      refine ⟨0, 0, Nat.zero_le _, Nat.zero_le _, hR _ ?_⟩
      refine ⟨fun g => ?_, fun g => ?_⟩
      · have h := h.1 (g)
        exact h.use hQ
      · have h := h.2 (g)
        exact h.use hQ
    · have h := h.2 (g)
      exact h.use hQ
  · have h := h.2 (g)
    exact h.use hQ
theorem g_r_fewer_0 {nb db : Nat} {by_ rs : RX} {c : Nat} {mi mi' : MI} {ml ml' : ML} {rv : Option AV} 
    (h : (¬ (mi 48 26) = 0 → (∃ (mi1 : MI) (ml1 : ML), Ret m_r_laysRows [(vR 19 0 48)] none c (MRc nb db by_ rs) (u2 mi 48 0 (nI 0)) ml mi1 ml1 ∧ (Go m_r_fewer 26 [some (vR 19 0 48), some (vI (nI 0)), some (vI (nI 0)), none] [] rv c (MRc nb db by_ rs) mi1 ml1 mi' ml'))) ∧ ((mi 48 26) = 0 → (Fin (some (vI (-(nI 1)))) (u2 (u2 (u2 mi 48 0 (nI 0)) 48 1 (nI 1)) 48 2 (-(nI 1))) ml rv mi' ml'))) :
    Ret m_r_fewer [(vR 19 0 48)] rv c (MRc nb db by_ rs) mi ml mi' ml' := by
  intro Q hQ
  refine ok_wq inlT 400 rfl rfl ?_
  refine ⟨fun g => ?_, fun g => ?_⟩
  · have h := h.1 (g)
    obtain ⟨mi1, ml1, hR, h⟩ := h
    refine ⟨0, 0, Nat.zero_le _, Nat.zero_le _, hR _ ?_⟩
    exact h Q hQ
  · have h := h.2 (g)
    exact h.use hQ
theorem g_r_fewer_26 {nb db : Nat} {by_ rs : RX} {c : Nat} {mi mi' : MI} {ml ml' : ML} {rv : Option AV} {l1 : Int32} {l2 : Int32}
    (h : ((mi 48 5) ≤ l2 → (Fin (some (vI l1)) (u2 (u2 mi 48 1 (nI 0)) 48 2 (-(nI 1))) ml rv mi' ml')) ∧ (¬ (mi 48 5) ≤ l2 → (∃ (r1 : Int32), Ret m_r_rowOf [(vR 19 0 48), (vI l2)] (some (vI r1)) c (MRc nb db by_ rs) mi ml mi ml ∧ ((¬ r1 = (-(nI 1)) → (∃ (mi2 : MI) (ml2 : ML), Ret m_r_squaresOf [(vR 19 0 48), (vI r1)] none c (MRc nb db by_ rs) mi ml mi2 ml2 ∧ (((((lN 4) * ((mi2 48 5).toInt64)) * (ml2 48 4)) ≤ ((ml2 48 3) * ((((mi2 48 5).toInt64) + (lN 1)) * (((mi2 48 5).toInt64) + (lN 1)))) → (Go m_r_fewer 26 [some (vR 19 0 48), some (vI l1), some (vI (l2 + nI 1)), none] [] rv c (MRc nb db by_ rs) mi2 ml2 mi' ml')) ∧ (¬ (((lN 4) * ((mi2 48 5).toInt64)) * (ml2 48 4)) ≤ ((ml2 48 3) * ((((mi2 48 5).toInt64) + (lN 1)) * (((mi2 48 5).toInt64) + (lN 1)))) → (Go m_r_fewer 26 [some (vR 19 0 48), some (vI (l1 ||| ((nI 1) <<< (l2 &&& 31)))), some (vI (l2 + nI 1)), none] [] rv c (MRc nb db by_ rs) mi2 ml2 mi' ml'))))) ∧ (r1 = (-(nI 1)) → (Go m_r_fewer 26 [some (vR 19 0 48), some (vI l1), some (vI (l2 + nI 1)), none] [] rv c (MRc nb db by_ rs) mi ml mi' ml')))))) :
    Go m_r_fewer 26 [some (vR 19 0 48), some (vI l1), some (vI l2), none] [] rv c (MRc nb db by_ rs) mi ml mi' ml' := by
  intro Q hQ
  refine at_wq inlT 400 rfl ?_
  refine ⟨fun g => ?_, fun g => ?_⟩
  · have h := h.1 (g)
    exact h.use hQ
  · have h := h.2 (g)
    obtain ⟨r1, hR, h⟩ := h
    refine ⟨0, 0, Nat.zero_le _, Nat.zero_le _, hR _ ?_⟩
    refine ⟨fun g => ?_, fun g => ?_⟩
    · have h := h.1 (g)
      obtain ⟨mi2, ml2, hR, h⟩ := h
      refine ⟨0, 0, Nat.zero_le _, Nat.zero_le _, hR _ ?_⟩
      refine ⟨fun g => ?_, fun g => ?_⟩
      · have h := h.1 ((lgc_ge _ _).mp g)
        exact At.wk (h Q hQ) ⟨rfl, rfl, rfl, trivial⟩
      · have h := h.2 (fun z => g ((lgc_ge _ _).mpr z))
        exact At.wk (h Q hQ) ⟨rfl, rfl, rfl, trivial⟩
    · have h := h.2 (g)
      exact At.wk (h Q hQ) ⟨rfl, rfl, rfl, trivial⟩
theorem g_r_agree_0 {nb db : Nat} {by_ rs : RX} {c : Nat} {mi mi' : MI} {ml ml' : ML} {rv : Option AV} 
    (h : (¬ (mi 48 26) = 0 → (∃ (mi1 : MI) (ml1 : ML), Ret m_r_laysRows [(vR 19 0 48)] none c (MRc nb db by_ rs) (u2 mi 48 0 (nI 0)) ml mi1 ml1 ∧ (((mi1 48 52) = 0 → (Fin (some (vI (nI 0))) (u2 (u2 mi1 48 1 (nI 0)) 48 2 (-(nI 1))) ml1 rv mi' ml')) ∧ (¬ (mi1 48 52) = 0 → (Fin (some (vI (nI 1))) (u2 (u2 mi1 48 1 (nI 0)) 48 2 (-(nI 1))) ml1 rv mi' ml'))))) ∧ ((mi 48 26) = 0 → (Fin (some (vI (-(nI 1)))) (u2 (u2 (u2 mi 48 0 (nI 0)) 48 1 (nI 1)) 48 2 (-(nI 1))) ml rv mi' ml'))) :
    Ret m_r_agree [(vR 19 0 48)] rv c (MRc nb db by_ rs) mi ml mi' ml' := by
  intro Q hQ
  refine ok_wq inlT 400 rfl rfl ?_
  refine ⟨fun g => ?_, fun g => ?_⟩
  · have h := h.1 (g)
    obtain ⟨mi1, ml1, hR, h⟩ := h
    refine ⟨0, 0, Nat.zero_le _, Nat.zero_le _, hR _ ?_⟩
    refine ⟨fun g => ?_, fun g => ?_⟩
    · have h := h.1 (g)
      exact h.use hQ
    · have h := h.2 (g)
      exact h.use hQ
  · have h := h.2 (g)
    exact h.use hQ
theorem g_r_movesTo_0 {nb db : Nat} {by_ rs : RX} {c : Nat} {mi mi' : MI} {ml ml' : ML} {rv : Option AV} {a0 : Int32} {a1 : Int32}
    (h : (¬ a0 = (-(nI 1)) → (vp_in a0 12 ∧ (vp_in a1 12 ∧ (∃ (r1 : Int32), Ret m_r_many [(vI ((mi 51 a0.toNatClampNeg) ^^^ (mi 51 a1.toNatClampNeg)))] (some (vI r1)) c (MRc nb db by_ rs) mi ml mi ml ∧ (Fin (some (vI r1)) mi ml rv mi' ml'))))) ∧ (a0 = (-(nI 1)) → (vp_in a1 12 ∧ (∃ (r2 : Int32), Ret m_r_many [(vI ((nI 0) ^^^ (mi 51 a1.toNatClampNeg)))] (some (vI r2)) c (MRc nb db by_ rs) mi ml mi ml ∧ (Fin (some (vI r2)) mi ml rv mi' ml'))))) :
    Ret m_r_movesTo [(vR 19 0 48), (vI a0), (vI a1)] rv c (MRc nb db by_ rs) mi ml mi' ml' := by
  intro Q hQ
  refine ok_wq inlT 400 rfl rfl ?_
  refine ⟨fun g => ?_, fun g => ?_⟩
  · have h := h.1 (g)
    refine ⟨h.1, ?_⟩
    have h := h.2
    refine ⟨h.1, ?_⟩
    have h := h.2
    obtain ⟨r1, hR, h⟩ := h
    refine ⟨0, 0, Nat.zero_le _, Nat.zero_le _, hR _ ?_⟩
    exact h.use hQ
  · have h := h.2 (g)
    refine ⟨h.1, ?_⟩
    have h := h.2
    obtain ⟨r2, hR, h⟩ := h
    refine ⟨0, 0, Nat.zero_le _, Nat.zero_le _, hR _ ?_⟩
    exact h.use hQ
theorem g_r_goes_0 {nb db : Nat} {by_ rs : RX} {c : Nat} {mi mi' : MI} {ml ml' : ML} {rv : Option AV} {a0 : Int32} {a1 : Int32}
    (h : (¬ a1 = 0 → (Go m_r_goes 15 [some (vR 19 0 48), some (vI a0), some (vI a1), some (vI (nI 2147483647)), some (vI (nI 0)), none] [] rv c (MRc nb db by_ rs) mi ml mi' ml')) ∧ (a1 = 0 → (Go m_r_goes 15 [some (vR 19 0 48), some (vI a0), some (vI a1), some (vI (nI 0)), some (vI (nI 0)), none] [] rv c (MRc nb db by_ rs) mi ml mi' ml'))) :
    Ret m_r_goes [(vR 19 0 48), (vI a0), (vI a1)] rv c (MRc nb db by_ rs) mi ml mi' ml' := by
  intro Q hQ
  refine ok_wq inlT 400 rfl rfl ?_
  refine ⟨fun g => ?_, fun g => ?_⟩
  · have h := h.1 (g)
    exact h Q hQ
  · have h := h.2 (g)
    exact h Q hQ
theorem g_r_goes_15 {nb db : Nat} {by_ rs : RX} {c : Nat} {mi mi' : MI} {ml ml' : ML} {rv : Option AV} {l1 : Int32} {l2 : Int32} {l3 : Int32} {l4 : Int32}
    (h : ((mi 48 9) ≤ l4 → (Fin (some (vI l3)) mi ml rv mi' ml')) ∧ (¬ (mi 48 9) ≤ l4 → (∃ (r1 : Int32), Ret m_r_has [(vI l2), (vI l4)] (some (vI r1)) c (MRc nb db by_ rs) mi ml mi ml ∧ ((¬ r1 = 0 → (∃ (r2 : Int32), Ret m_r_movesTo [(vR 19 0 48), (vI l1), (vI l4)] (some (vI r2)) c (MRc nb db by_ rs) mi ml mi ml ∧ (vp_in (((nI 12) * (l2 ^^^ ((nI 1) <<< (l4 &&& 31)))) + l4) 49152 ∧ ((l3 ≤ (r2 + (mi 65 (((nI 12) * (l2 ^^^ ((nI 1) <<< (l4 &&& 31)))) + l4).toNatClampNeg)) → (Go m_r_goes 15 [some (vR 19 0 48), some (vI l1), some (vI l2), some (vI l3), some (vI (l4 + nI 1)), none] [] rv c (MRc nb db by_ rs) mi ml mi' ml')) ∧ (¬ l3 ≤ (r2 + (mi 65 (((nI 12) * (l2 ^^^ ((nI 1) <<< (l4 &&& 31)))) + l4).toNatClampNeg)) → (Go m_r_goes 15 [some (vR 19 0 48), some (vI l1), some (vI l2), some (vI (r2 + (mi 65 (((nI 12) * (l2 ^^^ ((nI 1) <<< (l4 &&& 31)))) + l4).toNatClampNeg))), some (vI (l4 + nI 1)), none] [] rv c (MRc nb db by_ rs) mi ml mi' ml')))))) ∧ (r1 = 0 → (Go m_r_goes 15 [some (vR 19 0 48), some (vI l1), some (vI l2), some (vI l3), some (vI (l4 + nI 1)), none] [] rv c (MRc nb db by_ rs) mi ml mi' ml')))))) :
    Go m_r_goes 15 [some (vR 19 0 48), some (vI l1), some (vI l2), some (vI l3), some (vI l4), none] [] rv c (MRc nb db by_ rs) mi ml mi' ml' := by
  intro Q hQ
  refine at_wq inlT 400 rfl ?_
  refine ⟨fun g => ?_, fun g => ?_⟩
  · have h := h.1 (g)
    exact h.use hQ
  · have h := h.2 (g)
    obtain ⟨r1, hR, h⟩ := h
    refine ⟨0, 0, Nat.zero_le _, Nat.zero_le _, hR _ ?_⟩
    refine ⟨fun g => ?_, fun g => ?_⟩
    · have h := h.1 (g)
      obtain ⟨r2, hR, h⟩ := h
      refine ⟨0, 0, Nat.zero_le _, Nat.zero_le _, hR _ ?_⟩
      refine ⟨h.1, ?_⟩
      have h := h.2
      refine ⟨fun g => ?_, fun g => ?_⟩
      · have h := h.1 (g)
        exact At.wk (h Q hQ) ⟨rfl, rfl, rfl, rfl, rfl, trivial⟩
      · have h := h.2 (g)
        exact At.wk (h Q hQ) ⟨rfl, rfl, rfl, rfl, rfl, trivial⟩
    · have h := h.2 (g)
      exact h Q hQ
theorem g_r_laysTours_0 {nb db : Nat} {by_ rs : RX} {c : Nat} {mi mi' : MI} {ml ml' : ML} {rv : Option AV} 
    (h : Go m_r_laysTours 2 [some (vR 19 0 48), some (vI (nI 0)), none] [] rv c (MRc nb db by_ rs) mi ml mi' ml') :
    Ret m_r_laysTours [(vR 19 0 48)] rv c (MRc nb db by_ rs) mi ml mi' ml' := by
  intro Q hQ
  refine ok_wq inlT 400 rfl rfl ?_
  exact h Q hQ
theorem g_r_laysTours_2 {nb db : Nat} {by_ rs : RX} {c : Nat} {mi mi' : MI} {ml ml' : ML} {rv : Option AV} {l1 : Int32}
    (h : (((nI 1) <<< ((mi 48 9) &&& 31)) ≤ l1 → (Fin none mi ml rv mi' ml')) ∧ (¬ ((nI 1) <<< ((mi 48 9) &&& 31)) ≤ l1 → (Go m_r_laysTours 14 [some (vR 19 0 48), some (vI l1), some (vI (nI 0))] [] rv c (MRc nb db by_ rs) mi ml mi' ml'))) :
    Go m_r_laysTours 2 [some (vR 19 0 48), some (vI l1), none] [] rv c (MRc nb db by_ rs) mi ml mi' ml' := by
  intro Q hQ
  refine at_wq inlT 400 rfl ?_
  refine ⟨fun g => ?_, fun g => ?_⟩
  · have h := h.1 (g)
    exact h.use hQ
  · have h := h.2 (g)
    exact h Q hQ
theorem g_r_laysTours_14 {nb db : Nat} {by_ rs : RX} {c : Nat} {mi mi' : MI} {ml ml' : ML} {rv : Option AV} {l1 : Int32} {l2 : Int32}
    (h : ((mi 48 9) ≤ l2 → (Go m_r_laysTours 2 [some (vR 19 0 48), some (vI (l1 + nI 1)), none] [] rv c (MRc nb db by_ rs) mi ml mi' ml')) ∧ (¬ (mi 48 9) ≤ l2 → (∃ (r1 : Int32), Ret m_r_has [(vI l1), (vI l2)] (some (vI r1)) c (MRc nb db by_ rs) mi ml mi ml ∧ ((¬ r1 = 0 → (Go m_r_laysTours 14 [some (vR 19 0 48), some (vI l1), some (vI (l2 + nI 1))] [] rv c (MRc nb db by_ rs) mi ml mi' ml')) ∧ (r1 = 0 → (∃ (r2 : Int32), Ret m_r_goes [(vR 19 0 48), (vI l2), (vI l1)] (some (vI r2)) c (MRc nb db by_ rs) mi ml mi ml ∧ (vp_in (((nI 12) * l1) + l2) 49152 ∧ (Go m_r_laysTours 14 [some (vR 19 0 48), some (vI l1), some (vI (l2 + nI 1))] [] rv c (MRc nb db by_ rs) (u2 mi 65 (((nI 12) * l1) + l2).toNatClampNeg r2) ml mi' ml')))))))) :
    Go m_r_laysTours 14 [some (vR 19 0 48), some (vI l1), some (vI l2)] [] rv c (MRc nb db by_ rs) mi ml mi' ml' := by
  intro Q hQ
  refine at_wq inlT 400 rfl ?_
  refine ⟨fun g => ?_, fun g => ?_⟩
  · have h := h.1 (g)
    exact At.wk (h Q hQ) ⟨rfl, rfl, trivial⟩
  · have h := h.2 (g)
    obtain ⟨r1, hR, h⟩ := h
    refine ⟨0, 0, Nat.zero_le _, Nat.zero_le _, hR _ ?_⟩
    refine ⟨fun g => ?_, fun g => ?_⟩
    · have h := h.1 (g)
      exact h Q hQ
    · have h := h.2 (g)
      obtain ⟨r2, hR, h⟩ := h
      refine ⟨0, 0, Nat.zero_le _, Nat.zero_le _, hR _ ?_⟩
      refine ⟨h.1, ?_⟩
      have h := h.2
      exact h Q hQ
theorem g_r_tour_0 {nb db : Nat} {by_ rs : RX} {c : Nat} {mi mi' : MI} {ml ml' : ML} {rv : Option AV} 
    (h : (¬ (mi 48 26) = 0 → (∃ (mi1 : MI) (ml1 : ML), Ret m_r_laysTours [(vR 19 0 48)] none c (MRc nb db by_ rs) (u2 mi 48 0 (nI 0)) ml mi1 ml1 ∧ (∃ (r2 : Int32), Ret m_r_goes [(vR 19 0 48), (vI (-(nI 1))), (vI (((nI 1) <<< ((mi1 48 9) &&& 31)) - (nI 1)))] (some (vI r2)) c (MRc nb db by_ rs) mi1 ml1 mi1 ml1 ∧ (Fin (some (vI r2)) (u2 (u2 mi1 48 1 (nI 0)) 48 2 (-(nI 1))) ml1 rv mi' ml')))) ∧ ((mi 48 26) = 0 → (Fin (some (vI (-(nI 1)))) (u2 (u2 (u2 mi 48 0 (nI 0)) 48 1 (nI 1)) 48 2 (-(nI 1))) ml rv mi' ml'))) :
    Ret m_r_tour [(vR 19 0 48)] rv c (MRc nb db by_ rs) mi ml mi' ml' := by
  intro Q hQ
  refine ok_wq inlT 400 rfl rfl ?_
  refine ⟨fun g => ?_, fun g => ?_⟩
  · have h := h.1 (g)
    obtain ⟨mi1, ml1, hR, h⟩ := h
    refine ⟨0, 0, Nat.zero_le _, Nat.zero_le _, hR _ ?_⟩
    obtain ⟨r2, hR, h⟩ := h
    refine ⟨0, 0, Nat.zero_le _, Nat.zero_le _, hR _ ?_⟩
    exact h.use hQ
  · have h := h.2 (g)
    exact h.use hQ
theorem g_r_tourAt_0 {nb db : Nat} {by_ rs : RX} {c : Nat} {mi mi' : MI} {ml ml' : ML} {rv : Option AV} {a0 : Int32}
    (h : ((mi 48 26) = 0 → (Fin (some (vI (-(nI 1)))) (u2 (u2 (u2 mi 48 0 (nI 0)) 48 1 (nI 1)) 48 2 (-(nI 1))) ml rv mi' ml')) ∧ (¬ (mi 48 26) = 0 → ((a0 < 0 → (Fin (some (vI (-(nI 1)))) (u2 (u2 (u2 mi 48 0 (nI 0)) 48 1 (nI 1)) 48 2 (-(nI 1))) ml rv mi' ml')) ∧ (¬ a0 < 0 → ((a0 < (mi 48 9) → (∃ (mi1 : MI) (ml1 : ML), Ret m_r_laysTours [(vR 19 0 48)] none c (MRc nb db by_ rs) (u2 mi 48 0 (nI 0)) ml mi1 ml1 ∧ (Go m_r_tourAt 48 [some (vR 19 0 48), some (vI a0), some (vI (-(nI 1))), some (vI (((nI 1) <<< ((mi1 48 9) &&& 31)) - (nI 1))), some (vI (nI 0)), none, none] [] rv c (MRc nb db by_ rs) mi1 ml1 mi' ml'))) ∧ (¬ a0 < (mi 48 9) → (Fin (some (vI (-(nI 1)))) (u2 (u2 (u2 mi 48 0 (nI 0)) 48 1 (nI 1)) 48 2 (-(nI 1))) ml rv mi' ml'))))))) :
    Ret m_r_tourAt [(vR 19 0 48), (vI a0)] rv c (MRc nb db by_ rs) mi ml mi' ml' := by
  intro Q hQ
  refine ok_wq inlT 400 rfl rfl ?_
  refine ⟨fun g => ?_, fun g => ?_⟩
  · have h := h.1 (g)
    exact h.use hQ
  · have h := h.2 (g)
    refine ⟨fun g => ?_, fun g => ?_⟩
    · have h := h.1 (g)
      exact h.use hQ
    · have h := h.2 (g)
      refine ⟨fun g => ?_, fun g => ?_⟩
      · have h := h.1 (g)
        obtain ⟨mi1, ml1, hR, h⟩ := h
        refine ⟨0, 0, Nat.zero_le _, Nat.zero_le _, hR _ ?_⟩
        exact h Q hQ
      · have h := h.2 (g)
        exact h.use hQ
theorem g_r_tourAt_48 {nb db : Nat} {by_ rs : RX} {c : Nat} {mi mi' : MI} {ml ml' : ML} {rv : Option AV} {l1 : Int32} {l2 : Int32} {l3 : Int32} {l4 : Int32}
    (h : (l1 < l4 → (Fin (some (vI l2)) (u2 (u2 mi 48 1 (nI 0)) 48 2 (-(nI 1))) ml rv mi' ml')) ∧ (¬ l1 < l4 → (∃ (r1 : Int32), Ret m_r_goes [(vR 19 0 48), (vI l2), (vI l3)] (some (vI r1)) c (MRc nb db by_ rs) mi ml mi ml ∧ (Go m_r_tourAt 65 [some (vR 19 0 48), some (vI l1), some (vI l2), some (vI l3), some (vI l4), some (vI r1), some (vI (nI 0))] [] rv c (MRc nb db by_ rs) mi ml mi' ml')))) :
    Go m_r_tourAt 48 [some (vR 19 0 48), some (vI l1), some (vI l2), some (vI l3), some (vI l4), none, none] [] rv c (MRc nb db by_ rs) mi ml mi' ml' := by
  intro Q hQ
  refine at_wq inlT 400 rfl ?_
  refine ⟨fun g => ?_, fun g => ?_⟩
  · have h := h.1 (g)
    exact h.use hQ
  · have h := h.2 (g)
    obtain ⟨r1, hR, h⟩ := h
    refine ⟨0, 0, Nat.zero_le _, Nat.zero_le _, hR _ ?_⟩
    exact h Q hQ
theorem g_r_tourAt_65 {nb db : Nat} {by_ rs : RX} {c : Nat} {mi mi' : MI} {ml ml' : ML} {rv : Option AV} {l1 : Int32} {l2 : Int32} {l3 : Int32} {l4 : Int32} {l5 : Int32} {l6 : Int32}
    (h : ∃ (r1 : Int32), Ret m_r_has [(vI l3), (vI l6)] (some (vI r1)) c (MRc nb db by_ rs) mi ml mi ml ∧ ((r1 = 0 → (Go m_r_tourAt 65 [some (vR 19 0 48), some (vI l1), some (vI l2), some (vI l3), some (vI l4), some (vI l5), some (vI (l6 + nI 1))] [] rv c (MRc nb db by_ rs) mi ml mi' ml')) ∧ (¬ r1 = 0 → (∃ (r2 : Int32), Ret m_r_movesTo [(vR 19 0 48), (vI l2), (vI l6)] (some (vI r2)) c (MRc nb db by_ rs) mi ml mi ml ∧ (vp_in (((nI 12) * (l3 ^^^ ((nI 1) <<< (l6 &&& 31)))) + l6) 49152 ∧ (((r2 + (mi 65 (((nI 12) * (l3 ^^^ ((nI 1) <<< (l6 &&& 31)))) + l6).toNatClampNeg)) ≤ l5 → (Go m_r_tourAt 48 [some (vR 19 0 48), some (vI l1), some (vI l6), some (vI (l3 ^^^ ((nI 1) <<< (l6 &&& 31)))), some (vI (l4 + nI 1)), none, none] [] rv c (MRc nb db by_ rs) mi ml mi' ml')) ∧ (¬ (r2 + (mi 65 (((nI 12) * (l3 ^^^ ((nI 1) <<< (l6 &&& 31)))) + l6).toNatClampNeg)) ≤ l5 → (Go m_r_tourAt 65 [some (vR 19 0 48), some (vI l1), some (vI l2), some (vI l3), some (vI l4), some (vI l5), some (vI (l6 + nI 1))] [] rv c (MRc nb db by_ rs) mi ml mi' ml')))))))) :
    Go m_r_tourAt 65 [some (vR 19 0 48), some (vI l1), some (vI l2), some (vI l3), some (vI l4), some (vI l5), some (vI l6)] [] rv c (MRc nb db by_ rs) mi ml mi' ml' := by
  intro Q hQ
  refine at_wq inlT 400 rfl ?_
  obtain ⟨r1, hR, h⟩ := h
  refine ⟨0, 0, Nat.zero_le _, Nat.zero_le _, hR _ ?_⟩
  refine ⟨fun g => ?_, fun g => ?_⟩
  · have h := h.1 (g)
    exact h Q hQ
  · have h := h.2 (g)
    obtain ⟨r2, hR, h⟩ := h
    refine ⟨0, 0, Nat.zero_le _, Nat.zero_le _, hR _ ?_⟩
    refine ⟨h.1, ?_⟩
    have h := h.2
    refine ⟨fun g => ?_, fun g => ?_⟩
    · have h := h.1 (g)
      exact At.wk (h Q hQ) ⟨rfl, rfl, rfl, rfl, rfl, trivial⟩
    · have h := h.2 (g)
      exact h Q hQ
theorem g_r_sign_0 {nb db : Nat} {by_ rs : RX} {c : Nat} {mi mi' : MI} {ml ml' : ML} {rv : Option AV} {a0 : Int32} {a1 : Int32} {a2 : Int32}
    (h : (a0 < (nI 0) → (Fin (some (vI (nI 0))) (u2 (u2 (u2 mi 48 0 (nI 0)) 48 1 (nI 2)) 48 2 (-(nI 1))) ml rv mi' ml')) ∧ (¬ a0 < (nI 0) → (((nI 9) < a0 → (Fin (some (vI (nI 0))) (u2 (u2 (u2 mi 48 0 (nI 0)) 48 1 (nI 2)) 48 2 (-(nI 1))) ml rv mi' ml')) ∧ (¬ (nI 9) < a0 → ((a1 < (nI 0) → (Fin (some (vI (nI 0))) (u2 (u2 (u2 mi 48 0 (nI 0)) 48 1 (nI 2)) 48 2 (-(nI 1))) ml rv mi' ml')) ∧ (¬ a1 < (nI 0) → (((((nI 1) <<< (a0 &&& 31)) - (nI 1)) < a1 → (Fin (some (vI (nI 0))) (u2 (u2 (u2 mi 48 0 (nI 0)) 48 1 (nI 2)) 48 2 (-(nI 1))) ml rv mi' ml')) ∧ (¬ (((nI 1) <<< (a0 &&& 31)) - (nI 1)) < a1 → ((a2 < (nI 0) → (Fin (some (vI (nI 0))) (u2 (u2 (u2 mi 48 0 (nI 0)) 48 1 (nI 2)) 48 2 (-(nI 1))) ml rv mi' ml')) ∧ (¬ a2 < (nI 0) → (((((nI 1) <<< (a0 &&& 31)) - (nI 1)) < a2 → (Fin (some (vI (nI 0))) (u2 (u2 (u2 mi 48 0 (nI 0)) 48 1 (nI 2)) 48 2 (-(nI 1))) ml rv mi' ml')) ∧ (¬ (((nI 1) <<< (a0 &&& 31)) - (nI 1)) < a2 → (∃ (r1 : Int32), Ret m_r_signAt [(vI a0), (vI a1), (vI a2)] (some (vI r1)) c (MRc nb db by_ rs) (u2 mi 48 0 (nI 0)) ml (u2 mi 48 0 (nI 0)) ml ∧ (Fin (some (vI r1)) (u2 (u2 (u2 mi 48 0 (nI 0)) 48 1 (nI 0)) 48 2 (-(nI 1))) ml rv mi' ml')))))))))))))) :
    Ret m_r_sign [(vR 19 0 48), (vI a0), (vI a1), (vI a2)] rv c (MRc nb db by_ rs) mi ml mi' ml' := by
  intro Q hQ
  refine ok_wq inlT 400 rfl rfl ?_
  refine ⟨fun g => ?_, fun g => ?_⟩
  · have h := h.1 (g)
    refine ⟨Or.inl rfl, ?_⟩
    refine ⟨fun _ => ?_, fun g => absurd (show ¬ (nI 0) = 0 from g) (by decide)⟩
    exact h.use hQ
  · have h := h.2 (g)
    refine ⟨fun g => ?_, fun g => ?_⟩
    · have h := h.1 (g)
      refine ⟨Or.inl rfl, ?_⟩
      refine ⟨fun _ => ?_, fun g => absurd (show ¬ (nI 0) = 0 from g) (by decide)⟩
      exact h.use hQ
    · have h := h.2 (g)
      refine ⟨Or.inr rfl, ?_⟩
      refine ⟨fun g => absurd (show (nI 1) = 0 from g) (by decide), fun _ => ?_⟩
      refine ⟨fun g => ?_, fun g => ?_⟩
      · have h := h.1 (g)
        refine ⟨Or.inl rfl, ?_⟩
        refine ⟨fun _ => ?_, fun g => absurd (show ¬ (nI 0) = 0 from g) (by decide)⟩
        exact h.use hQ
      · have h := h.2 (g)
        refine ⟨fun g => ?_, fun g => ?_⟩
        · have h := h.1 (g)
          refine ⟨Or.inl rfl, ?_⟩
          refine ⟨fun _ => ?_, fun g => absurd (show ¬ (nI 0) = 0 from g) (by decide)⟩
          exact h.use hQ
        · have h := h.2 (g)
          refine ⟨Or.inr rfl, ?_⟩
          refine ⟨fun g => absurd (show (nI 1) = 0 from g) (by decide), fun _ => ?_⟩
          refine ⟨fun g => ?_, fun g => ?_⟩
          · have h := h.1 (g)
            refine ⟨Or.inl rfl, ?_⟩
            refine ⟨fun g => absurd (show ¬ (nI 0) = 0 from g) (by decide), fun _ => ?_⟩
            exact h.use hQ
          · have h := h.2 (g)
            refine ⟨fun g => ?_, fun g => ?_⟩
            · have h := h.1 (g)
              refine ⟨Or.inl rfl, ?_⟩
              refine ⟨fun g => absurd (show ¬ (nI 0) = 0 from g) (by decide), fun _ => ?_⟩
              exact h.use hQ
            · have h := h.2 (g)
              refine ⟨Or.inr rfl, ?_⟩
              refine ⟨fun _ => ?_, fun g => absurd (show (nI 1) = 0 from g) (by decide)⟩
              obtain ⟨r1, hR, h⟩ := h
              refine ⟨0, 0, Nat.zero_le _, Nat.zero_le _, hR _ ?_⟩
              exact h.use hQ
theorem g_r_signAt_0 {nb db : Nat} {by_ rs : RX} {c : Nat} {mi mi' : MI} {ml ml' : ML} {rv : Option AV} {a0 : Int32} {a1 : Int32} {a2 : Int32}
    (h : Go m_r_signAt 15 [some (vI a0), some (vI a1), some (vI a2), some (vI (nI 1)), some (vI a1), some (vI a2), some (vI (((nI 1) <<< (a0 &&& 31)) >>> ((nI 1) &&& 31)))] [] rv c (MRc nb db by_ rs) mi ml mi' ml') :
    Ret m_r_signAt [(vI a0), (vI a1), (vI a2)] rv c (MRc nb db by_ rs) mi ml mi' ml' := by
  intro Q hQ
  refine ok_wq inlT 400 rfl rfl ?_
  exact h Q hQ
theorem g_r_signAt_15 {nb db : Nat} {by_ rs : RX} {c : Nat} {mi mi' : MI} {ml ml' : ML} {rv : Option AV} {l0 : Int32} {l1 : Int32} {l2 : Int32} {l3 : Int32} {l4 : Int32} {l5 : Int32} {l6 : Int32}
    (h : (l6 ≤ 0 → (Fin (some (vI l3)) mi ml rv mi' ml')) ∧ (¬ l6 ≤ 0 → ((l4 < l6 → (¬ l6 = 0 ∧ (¬ l6 = 0 ∧ (Go m_r_signAt 15 [some (vI l0), some (vI l1), some (vI l2), some (vI l3), some (vI (rmI l4 l6)), some (vI (rmI l5 l6)), some (vI (l6 >>> ((nI 1) &&& 31)))] [] rv c (MRc nb db by_ rs) mi ml mi' ml')))) ∧ (¬ l4 < l6 → ((l5 < l6 → (¬ l6 = 0 ∧ (¬ l6 = 0 ∧ (Go m_r_signAt 15 [some (vI l0), some (vI l1), some (vI l2), some (vI l3), some (vI (rmI l4 l6)), some (vI (rmI l5 l6)), some (vI (l6 >>> ((nI 1) &&& 31)))] [] rv c (MRc nb db by_ rs) mi ml mi' ml')))) ∧ (¬ l5 < l6 → (¬ l6 = 0 ∧ (¬ l6 = 0 ∧ (Go m_r_signAt 15 [some (vI l0), some (vI l1), some (vI l2), some (vI (-l3)), some (vI (rmI l4 l6)), some (vI (rmI l5 l6)), some (vI (l6 >>> ((nI 1) &&& 31)))] [] rv c (MRc nb db by_ rs) mi ml mi' ml'))))))))) :
    Go m_r_signAt 15 [some (vI l0), some (vI l1), some (vI l2), some (vI l3), some (vI l4), some (vI l5), some (vI l6)] [] rv c (MRc nb db by_ rs) mi ml mi' ml' := by
  intro Q hQ
  refine at_wq inlT 400 rfl ?_
  refine ⟨fun g => ?_, fun g => ?_⟩
  · have h := h.1 (g)
    exact h.use hQ
  · have h := h.2 (g)
    refine ⟨fun g => ?_, fun g => ?_⟩
    · have h := h.1 (g)
      refine ⟨h.1, ?_⟩
      have h := h.2
      refine ⟨h.1, ?_⟩
      have h := h.2
      exact h Q hQ
    · have h := h.2 (g)
      refine ⟨fun g => ?_, fun g => ?_⟩
      · have h := h.1 (g)
        refine ⟨h.1, ?_⟩
        have h := h.2
        refine ⟨h.1, ?_⟩
        have h := h.2
        exact h Q hQ
      · have h := h.2 (g)
        refine ⟨h.1, ?_⟩
        have h := h.2
        refine ⟨h.1, ?_⟩
        have h := h.2
        exact h Q hQ
theorem g_r_remembers_0 {nb db : Nat} {by_ rs : RX} {c : Nat} {mi mi' : MI} {ml ml' : ML} {rv : Option AV} 
    (h : (¬ (mi 48 30) = (nI 10) → (Go m_r_remembers 51 [some (vR 19 0 48), some (vI (nI 0))] [] rv c (MRc nb db by_ rs) mi ml mi' ml')) ∧ ((mi 48 30) = (nI 10) → (Go m_r_remembers 11 [some (vR 19 0 48), some (vI (nI 0))] [] rv c (MRc nb db by_ rs) mi ml mi' ml'))) :
    Ret m_r_remembers [(vR 19 0 48)] rv c (MRc nb db by_ rs) mi ml mi' ml' := by
  intro Q hQ
  refine ok_wq inlT 400 rfl rfl ?_
  refine ⟨fun g => ?_, fun g => ?_⟩
  · have h := h.1 (g)
    exact h Q hQ
  · have h := h.2 (g)
    exact h Q hQ
theorem g_r_remembers_11 {nb db : Nat} {by_ rs : RX} {c : Nat} {mi mi' : MI} {ml ml' : ML} {rv : Option AV} {l1 : Int32}
    (h : ((nI 567) ≤ l1 → (Go m_r_remembers 51 [some (vR 19 0 48), some (vI (nI 0))] [] rv c (MRc nb db by_ rs) (u2 mi 48 30 ((mi 48 30) - (nI 1))) ml mi' ml')) ∧ (¬ (nI 567) ≤ l1 → (vp_in (l1 + (nI 63)) 630 ∧ (vp_in l1 630 ∧ (Go m_r_remembers 11 [some (vR 19 0 48), some (vI (l1 + nI 1))] [] rv c (MRc nb db by_ rs) (u2 mi 56 l1.toNatClampNeg (mi 56 (l1 + (nI 63)).toNatClampNeg)) ml mi' ml'))))) :
    Go m_r_remembers 11 [some (vR 19 0 48), some (vI l1)] [] rv c (MRc nb db by_ rs) mi ml mi' ml' := by
  intro Q hQ
  refine at_wq inlT 400 rfl ?_
  refine ⟨fun g => ?_, fun g => ?_⟩
  · have h := h.1 (g)
    exact h Q hQ
  · have h := h.2 (g)
    refine ⟨h.1, ?_⟩
    have h := h.2
    refine ⟨h.1, ?_⟩
    have h := h.2
    exact h Q hQ
theorem g_r_remembers_51 {nb db : Nat} {by_ rs : RX} {c : Nat} {mi mi' : MI} {ml ml' : ML} {rv : Option AV} {l1 : Int32}
    (h : ((nI 63) ≤ l1 → (Fin none (u2 (u2 (u2 mi 48 30 ((mi 48 30) + (nI 1))) 48 43 (nI 0)) 48 46 (nI 0)) ml rv mi' ml')) ∧ (¬ (nI 63) ≤ l1 → (vp_in l1 63 ∧ (vp_in (((nI 63) * (mi 48 30)) + l1) 630 ∧ (Go m_r_remembers 51 [some (vR 19 0 48), some (vI (l1 + nI 1))] [] rv c (MRc nb db by_ rs) (u2 mi 56 (((nI 63) * (mi 48 30)) + l1).toNatClampNeg (mi 54 l1.toNatClampNeg)) ml mi' ml'))))) :
    Go m_r_remembers 51 [some (vR 19 0 48), some (vI l1)] [] rv c (MRc nb db by_ rs) mi ml mi' ml' := by
  intro Q hQ
  refine at_wq inlT 400 rfl ?_
  refine ⟨fun g => ?_, fun g => ?_⟩
  · have h := h.1 (g)
    refine ⟨Or.inl rfl, ?_⟩
    exact h.use hQ
  · have h := h.2 (g)
    refine ⟨h.1, ?_⟩
    have h := h.2
    refine ⟨h.1, ?_⟩
    have h := h.2
    exact h Q hQ
theorem g_r_changed_0 {nb db : Nat} {by_ rs : RX} {c : Nat} {mi mi' : MI} {ml ml' : ML} {rv : Option AV} {a0 : Int32} {a1 : Int32}
    (h : ∃ (mi1 : MI) (ml1 : ML), Ret m_r_remembers [(vR 19 0 48)] none c (MRc nb db by_ rs) mi ml mi1 ml1 ∧ (vp_in a0 63 ∧ (vp_in a0 63 ∧ (Fin (some (vI (mi1 54 a0.toNatClampNeg))) (u2 (u2 (u2 mi1 54 a0.toNatClampNeg a1) 48 1 (nI 0)) 48 2 (-(nI 1))) ml1 rv mi' ml')))) :
    Ret m_r_changed [(vR 19 0 48), (vI a0), (vI a1)] rv c (MRc nb db by_ rs) mi ml mi' ml' := by
  intro Q hQ
  refine ok_wq inlT 400 rfl rfl ?_
  obtain ⟨mi1, ml1, hR, h⟩ := h
  refine ⟨0, 0, Nat.zero_le _, Nat.zero_le _, hR _ ?_⟩
  refine ⟨h.1, ?_⟩
  have h := h.2
  refine ⟨h.1, ?_⟩
  have h := h.2
  exact h.use hQ
theorem g_r_shine_0 {nb db : Nat} {by_ rs : RX} {c : Nat} {mi mi' : MI} {ml ml' : ML} {rv : Option AV} {a0 : Int32} {a1 : Int32}
    (h : ∃ (r1 : Int32), Ret m_r_isOne [(vR 19 0 48), (vI a0)] (some (vI r1)) c (MRc nb db by_ rs) (u2 mi 48 0 (nI 0)) ml (u2 mi 48 0 (nI 0)) ml ∧ ((¬ r1 = 0 → ((a1 < (nI 0) → (Fin (some (vI (-(nI 1)))) (u2 (u2 (u2 mi 48 0 (nI 0)) 48 1 (nI 2)) 48 2 (-(nI 1))) ml rv mi' ml')) ∧ (¬ a1 < (nI 0) → (((nI 9999) < a1 → (Fin (some (vI (-(nI 1)))) (u2 (u2 (u2 mi 48 0 (nI 0)) 48 1 (nI 2)) 48 2 (-(nI 1))) ml rv mi' ml')) ∧ (¬ (nI 9999) < a1 → (∃ (r2 : Int32) (mi2 : MI) (ml2 : ML), Ret m_r_changed [(vR 19 0 48), (vI a0), (vI a1)] (some (vI r2)) c (MRc nb db by_ rs) (u2 mi 48 0 (nI 0)) ml mi2 ml2 ∧ (Fin (some (vI r2)) mi2 ml2 rv mi' ml'))))))) ∧ (r1 = 0 → (Fin (some (vI (-(nI 1)))) (u2 (u2 (u2 mi 48 0 (nI 0)) 48 1 (nI 1)) 48 2 (-(nI 1))) ml rv mi' ml')))) :
    Ret m_r_shine [(vR 19 0 48), (vI a0), (vI a1)] rv c (MRc nb db by_ rs) mi ml mi' ml' := by
  intro Q hQ
  refine ok_wq inlT 400 rfl rfl ?_
  obtain ⟨r1, hR, h⟩ := h
  refine ⟨0, 0, Nat.zero_le _, Nat.zero_le _, hR _ ?_⟩
  refine ⟨fun g => ?_, fun g => ?_⟩
  · have h := h.1 (g)
    refine ⟨fun g => ?_, fun g => ?_⟩
    · have h := h.1 (g)
      refine ⟨Or.inl rfl, ?_⟩
      refine ⟨fun _ => ?_, fun g => absurd (show ¬ (nI 0) = 0 from g) (by decide)⟩
      exact h.use hQ
    · have h := h.2 (g)
      refine ⟨fun g => ?_, fun g => ?_⟩
      · have h := h.1 (g)
        refine ⟨Or.inl rfl, ?_⟩
        refine ⟨fun _ => ?_, fun g => absurd (show ¬ (nI 0) = 0 from g) (by decide)⟩
        exact h.use hQ
      · have h := h.2 (g)
        refine ⟨Or.inr rfl, ?_⟩
        refine ⟨fun g => absurd (show (nI 1) = 0 from g) (by decide), fun _ => ?_⟩
        obtain ⟨r2, mi2, ml2, hR, h⟩ := h
        refine ⟨0, 0, Nat.zero_le _, Nat.zero_le _, hR _ ?_⟩
        exact h.use hQ
  · have h := h.2 (g)
    exact h.use hQ
theorem g_r_stick_0 {nb db : Nat} {by_ rs : RX} {c : Nat} {mi mi' : MI} {ml ml' : ML} {rv : Option AV} {a0 : Int32} {a1 : Int32}
    (h : ∃ (r1 : Int32), Ret m_r_isOne [(vR 19 0 48), (vI a0)] (some (vI r1)) c (MRc nb db by_ rs) (u2 mi 48 0 (nI 0)) ml (u2 mi 48 0 (nI 0)) ml ∧ ((¬ r1 = 0 → ((a1 < (nI 0) → (Fin (some (vI (-(nI 1)))) (u2 (u2 (u2 mi 48 0 (nI 0)) 48 1 (nI 2)) 48 2 (-(nI 1))) ml rv mi' ml')) ∧ (¬ a1 < (nI 0) → (((nI 2) < a1 → (Fin (some (vI (-(nI 1)))) (u2 (u2 (u2 mi 48 0 (nI 0)) 48 1 (nI 2)) 48 2 (-(nI 1))) ml rv mi' ml')) ∧ (¬ (nI 2) < a1 → (∃ (r2 : Int32) (mi2 : MI) (ml2 : ML), Ret m_r_changed [(vR 19 0 48), (vI ((nI 31) + a0)), (vI a1)] (some (vI r2)) c (MRc nb db by_ rs) (u2 mi 48 0 (nI 0)) ml mi2 ml2 ∧ (Fin (some (vI r2)) mi2 ml2 rv mi' ml'))))))) ∧ (r1 = 0 → (Fin (some (vI (-(nI 1)))) (u2 (u2 (u2 mi 48 0 (nI 0)) 48 1 (nI 1)) 48 2 (-(nI 1))) ml rv mi' ml')))) :
    Ret m_r_stick [(vR 19 0 48), (vI a0), (vI a1)] rv c (MRc nb db by_ rs) mi ml mi' ml' := by
  intro Q hQ
  refine ok_wq inlT 400 rfl rfl ?_
  obtain ⟨r1, hR, h⟩ := h
  refine ⟨0, 0, Nat.zero_le _, Nat.zero_le _, hR _ ?_⟩
  refine ⟨fun g => ?_, fun g => ?_⟩
  · have h := h.1 (g)
    refine ⟨fun g => ?_, fun g => ?_⟩
    · have h := h.1 (g)
      refine ⟨Or.inl rfl, ?_⟩
      refine ⟨fun _ => ?_, fun g => absurd (show ¬ (nI 0) = 0 from g) (by decide)⟩
      exact h.use hQ
    · have h := h.2 (g)
      refine ⟨fun g => ?_, fun g => ?_⟩
      · have h := h.1 (g)
        refine ⟨Or.inl rfl, ?_⟩
        refine ⟨fun _ => ?_, fun g => absurd (show ¬ (nI 0) = 0 from g) (by decide)⟩
        exact h.use hQ
      · have h := h.2 (g)
        refine ⟨Or.inr rfl, ?_⟩
        refine ⟨fun g => absurd (show (nI 1) = 0 from g) (by decide), fun _ => ?_⟩
        obtain ⟨r2, mi2, ml2, hR, h⟩ := h
        refine ⟨0, 0, Nat.zero_le _, Nat.zero_le _, hR _ ?_⟩
        exact h.use hQ
  · have h := h.2 (g)
    exact h.use hQ
theorem g_r_lose_0 {nb db : Nat} {by_ rs : RX} {c : Nat} {mi mi' : MI} {ml ml' : ML} {rv : Option AV} {a0 : Int32}
    (h : ∃ (r1 : Int32), Ret m_r_isOne [(vR 19 0 48), (vI a0)] (some (vI r1)) c (MRc nb db by_ rs) (u2 mi 48 0 (nI 0)) ml (u2 mi 48 0 (nI 0)) ml ∧ ((¬ r1 = 0 → (∃ (r2 : Int32), Ret m_r_has [(vI (mi 54 62)), (vI a0)] (some (vI r2)) c (MRc nb db by_ rs) (u2 mi 48 0 (nI 0)) ml (u2 mi 48 0 (nI 0)) ml ∧ ((r2 = 0 → (∃ (r3 : Int32) (mi3 : MI) (ml3 : ML), Ret m_r_changed [(vR 19 0 48), (vI (nI 62)), (vI ((mi 54 62) ||| ((nI 1) <<< (a0 &&& 31))))] (some (vI r3)) c (MRc nb db by_ rs) (u2 mi 48 0 (nI 0)) ml mi3 ml3 ∧ (∃ (r4 : Int32), Ret m_r_losses [(vR 19 0 48)] (some (vI r4)) c (MRc nb db by_ rs) mi3 ml3 mi3 ml3 ∧ (Fin (some (vI r4)) (u2 (u2 mi3 48 1 (nI 0)) 48 2 (-(nI 1))) ml3 rv mi' ml')))) ∧ (¬ r2 = 0 → (Fin (some (vI (-(nI 1)))) (u2 (u2 (u2 mi 48 0 (nI 0)) 48 1 (nI 5)) 48 2 (-(nI 1))) ml rv mi' ml'))))) ∧ (r1 = 0 → (Fin (some (vI (-(nI 1)))) (u2 (u2 (u2 mi 48 0 (nI 0)) 48 1 (nI 1)) 48 2 (-(nI 1))) ml rv mi' ml')))) :
    Ret m_r_lose [(vR 19 0 48), (vI a0)] rv c (MRc nb db by_ rs) mi ml mi' ml' := by
  intro Q hQ
  refine ok_wq inlT 400 rfl rfl ?_
  obtain ⟨r1, hR, h⟩ := h
  refine ⟨0, 0, Nat.zero_le _, Nat.zero_le _, hR _ ?_⟩
  refine ⟨fun g => ?_, fun g => ?_⟩
  · have h := h.1 (g)
    refine ⟨vp_in_nI (by decide) (by decide), ?_⟩
    obtain ⟨r2, hR, h⟩ := h
    refine ⟨0, 0, Nat.zero_le _, Nat.zero_le _, hR _ ?_⟩
    refine ⟨fun g => ?_, fun g => ?_⟩
    · have h := h.1 (g)
      refine ⟨vp_in_nI (by decide) (by decide), ?_⟩
      obtain ⟨r3, mi3, ml3, hR, h⟩ := h
      refine ⟨0, 0, Nat.zero_le _, Nat.zero_le _, hR _ ?_⟩
      obtain ⟨r4, hR, h⟩ := h
      refine ⟨0, 0, Nat.zero_le _, Nat.zero_le _, hR _ ?_⟩
      exact h.use hQ
    · have h := h.2 (g)
      exact h.use hQ
  · have h := h.2 (g)
    exact h.use hQ
theorem g_r_undo_0 {nb db : Nat} {by_ rs : RX} {c : Nat} {mi mi' : MI} {ml ml' : ML} {rv : Option AV} 
    (h : ((mi 48 26) = 0 → (Fin (some (vI (nI 0))) (u2 (u2 (u2 mi 48 0 (nI 0)) 48 1 (nI 1)) 48 2 (-(nI 1))) ml rv mi' ml')) ∧ (¬ (mi 48 26) = 0 → ((¬ (mi 48 30) = 0 → (Go m_r_undo 39 [some (vR 19 0 48), some (vI (nI 0))] [] rv c (MRc nb db by_ rs) (u2 (u2 mi 48 0 (nI 0)) 48 30 ((mi 48 30) - (nI 1))) ml mi' ml')) ∧ ((mi 48 30) = 0 → (Fin (some (vI (nI 0))) (u2 (u2 (u2 mi 48 0 (nI 0)) 48 1 (nI 1)) 48 2 (-(nI 1))) ml rv mi' ml'))))) :
    Ret m_r_undo [(vR 19 0 48)] rv c (MRc nb db by_ rs) mi ml mi' ml' := by
  intro Q hQ
  refine ok_wq inlT 400 rfl rfl ?_
  refine ⟨fun g => ?_, fun g => ?_⟩
  · have h := h.1 (g)
    refine ⟨Or.inl rfl, ?_⟩
    exact h.use hQ
  · have h := h.2 (g)
    refine ⟨fun g => ?_, fun g => ?_⟩
    · have h := h.1 (g)
      exact h Q hQ
    · have h := h.2 (g)
      refine ⟨Or.inl rfl, ?_⟩
      exact h.use hQ
theorem g_r_undo_39 {nb db : Nat} {by_ rs : RX} {c : Nat} {mi mi' : MI} {ml ml' : ML} {rv : Option AV} {l1 : Int32}
    (h : ((nI 63) ≤ l1 → (Fin (some (vI (nI 1))) (u2 (u2 (u2 (u2 mi 48 43 (nI 0)) 48 46 (nI 0)) 48 1 (nI 0)) 48 2 (-(nI 1))) ml rv mi' ml')) ∧ (¬ (nI 63) ≤ l1 → (vp_in (((nI 63) * (mi 48 30)) + l1) 630 ∧ (vp_in l1 63 ∧ (Go m_r_undo 39 [some (vR 19 0 48), some (vI (l1 + nI 1))] [] rv c (MRc nb db by_ rs) (u2 mi 54 l1.toNatClampNeg (mi 56 (((nI 63) * (mi 48 30)) + l1).toNatClampNeg)) ml mi' ml'))))) :
    Go m_r_undo 39 [some (vR 19 0 48), some (vI l1)] [] rv c (MRc nb db by_ rs) mi ml mi' ml' := by
  intro Q hQ
  refine at_wq inlT 400 rfl ?_
  refine ⟨fun g => ?_, fun g => ?_⟩
  · have h := h.1 (g)
    refine ⟨Or.inl rfl, ?_⟩
    refine ⟨Or.inr rfl, ?_⟩
    exact h.use hQ
  · have h := h.2 (g)
    refine ⟨h.1, ?_⟩
    have h := h.2
    refine ⟨h.1, ?_⟩
    have h := h.2
    exact h Q hQ
theorem g_r_stuck_0 {nb db : Nat} {by_ rs : RX} {c : Nat} {mi mi' : MI} {ml ml' : ML} {rv : Option AV} {a0 : Int32}
    (h : Go m_r_stuck 9 [some (vR 19 0 48), some (vI a0), some (vI (nI 0)), some (vI (nI 0))] [] rv c (MRc nb db by_ rs) (u2 mi 48 0 (nI 0)) ml mi' ml') :
    Ret m_r_stuck [(vR 19 0 48), (vI a0)] rv c (MRc nb db by_ rs) mi ml mi' ml' := by
  intro Q hQ
  refine ok_wq inlT 400 rfl rfl ?_
  exact h Q hQ
theorem g_r_stuck_9 {nb db : Nat} {by_ rs : RX} {c : Nat} {mi mi' : MI} {ml ml' : ML} {rv : Option AV} {l1 : Int32} {l2 : Int32} {l3 : Int32}
    (h : ((mi 48 5) ≤ l3 → (Fin (some (vI (nI 0))) (u2 mi 48 0 (nI 1)) ml rv mi' ml')) ∧ (¬ (mi 48 5) ≤ l3 → (vp_in ((nI 31) + l3) 63 ∧ ((¬ (mi 54 ((nI 31) + l3).toNatClampNeg) = 0 → ((¬ l2 = l1 → (Go m_r_stuck 9 [some (vR 19 0 48), some (vI l1), some (vI (l2 + nI 1)), some (vI (l3 + nI 1))] [] rv c (MRc nb db by_ rs) mi ml mi' ml')) ∧ (l2 = l1 → (Fin (some (vI l3)) mi ml rv mi' ml')))) ∧ ((mi 54 ((nI 31) + l3).toNatClampNeg) = 0 → (Go m_r_stuck 9 [some (vR 19 0 48), some (vI l1), some (vI l2), some (vI (l3 + nI 1))] [] rv c (MRc nb db by_ rs) mi ml mi' ml')))))) :
    Go m_r_stuck 9 [some (vR 19 0 48), some (vI l1), some (vI l2), some (vI l3)] [] rv c (MRc nb db by_ rs) mi ml mi' ml' := by
  intro Q hQ
  refine at_wq inlT 400 rfl ?_
  refine ⟨fun g => ?_, fun g => ?_⟩
  · have h := h.1 (g)
    exact h.use hQ
  · have h := h.2 (g)
    refine ⟨h.1, ?_⟩
    have h := h.2
    refine ⟨fun g => ?_, fun g => ?_⟩
    · have h := h.1 (g)
      refine ⟨fun g => ?_, fun g => ?_⟩
      · have h := h.1 (g)
        exact h Q hQ
      · have h := h.2 (g)
        exact h.use hQ
    · have h := h.2 (g)
      exact h Q hQ
theorem g_r_size_0 {nb db : Nat} {by_ rs : RX} {c : Nat} {mi mi' : MI} {ml ml' : ML} {rv : Option AV} {a0 : Int32}
    (h : Go m_r_size 6 [some (vR 19 0 48), some (vI a0)] [(vI a0)] rv c (MRc nb db by_ rs) (u2 mi 48 0 (nI 0)) ml mi' ml') :
    Ret m_r_size [(vR 19 0 48), (vI a0)] rv c (MRc nb db by_ rs) mi ml mi' ml' := by
  intro Q hQ
  refine ok_wq inlT 400 rfl rfl ?_
  exact h Q hQ
theorem g_r_size_44 {nb db : Nat} {by_ rs : RX} {c : Nat} {mi mi' : MI} {ml ml' : ML} {rv : Option AV} {a0 : Int32}
    (h : Fin (some (vI (mi 48 9))) mi ml rv mi' ml') :
    Go m_r_size 44 [some (vR 19 0 48), some (vI a0)] [] rv c (MRc nb db by_ rs) mi ml mi' ml' := by
  intro Q hQ
  refine at_wq inlT 400 rfl ?_
  exact h.use hQ
theorem g_r_size_49 {nb db : Nat} {by_ rs : RX} {c : Nat} {mi mi' : MI} {ml ml' : ML} {rv : Option AV} {a0 : Int32}
    (h : ∃ (r1 : Int32), Ret m_r_losses [(vR 19 0 48)] (some (vI r1)) c (MRc nb db by_ rs) mi ml mi ml ∧ (Fin (some (vI r1)) mi ml rv mi' ml')) :
    Go m_r_size 49 [some (vR 19 0 48), some (vI a0)] [] rv c (MRc nb db by_ rs) mi ml mi' ml' := by
  intro Q hQ
  refine at_wq inlT 400 rfl ?_
  obtain ⟨r1, hR, h⟩ := h
  refine ⟨0, 0, Nat.zero_le _, Nat.zero_le _, hR _ ?_⟩
  exact h.use hQ
theorem g_r_size_54 {nb db : Nat} {by_ rs : RX} {c : Nat} {mi mi' : MI} {ml ml' : ML} {rv : Option AV} {a0 : Int32}
    (h : Fin (some (vI (mi 48 43))) mi ml rv mi' ml') :
    Go m_r_size 54 [some (vR 19 0 48), some (vI a0)] [] rv c (MRc nb db by_ rs) mi ml mi' ml' := by
  intro Q hQ
  refine at_wq inlT 400 rfl ?_
  exact h.use hQ
theorem g_r_size_59 {nb db : Nat} {by_ rs : RX} {c : Nat} {mi mi' : MI} {ml ml' : ML} {rv : Option AV} {a0 : Int32}
    (h : ((mi 48 46) = 0 → (Fin (some (vI (nI 0))) mi ml rv mi' ml')) ∧ (¬ (mi 48 46) = 0 → (Fin (some (vI (nI 1))) mi ml rv mi' ml'))) :
    Go m_r_size 59 [some (vR 19 0 48), some (vI a0)] [] rv c (MRc nb db by_ rs) mi ml mi' ml' := by
  intro Q hQ
  refine at_wq inlT 400 rfl ?_
  refine ⟨fun g => ?_, fun g => ?_⟩
  · have h := h.1 (g)
    exact h.use hQ
  · have h := h.2 (g)
    exact h.use hQ
theorem g_r_size_72 {nb db : Nat} {by_ rs : RX} {c : Nat} {mi mi' : MI} {ml ml' : ML} {rv : Option AV} {a0 : Int32}
    (h : Fin (some (vI (mi 48 30))) mi ml rv mi' ml') :
    Go m_r_size 72 [some (vR 19 0 48), some (vI a0)] [] rv c (MRc nb db by_ rs) mi ml mi' ml' := by
  intro Q hQ
  refine at_wq inlT 400 rfl ?_
  exact h.use hQ
theorem g_r_size_77 {nb db : Nat} {by_ rs : RX} {c : Nat} {mi mi' : MI} {ml ml' : ML} {rv : Option AV} {a0 : Int32}
    (h : Fin (some (vI (mi 48 32))) mi ml rv mi' ml') :
    Go m_r_size 77 [some (vR 19 0 48), some (vI a0)] [] rv c (MRc nb db by_ rs) mi ml mi' ml' := by
  intro Q hQ
  refine at_wq inlT 400 rfl ?_
  exact h.use hQ
theorem g_r_size_82 {nb db : Nat} {by_ rs : RX} {c : Nat} {mi mi' : MI} {ml ml' : ML} {rv : Option AV} {a0 : Int32}
    (h : Fin (some (vI (-(nI 1)))) mi ml rv mi' ml') :
    Go m_r_size 82 [some (vR 19 0 48), some (vI a0)] [] rv c (MRc nb db by_ rs) mi ml mi' ml' := by
  intro Q hQ
  refine at_wq inlT 400 rfl ?_
  exact h.use hQ
theorem g_r_trouble_0 {nb db : Nat} {by_ rs : RX} {c : Nat} {mi mi' : MI} {ml ml' : ML} {rv : Option AV} 
    (h : Fin (some (vI (mi 48 1))) (u2 mi 48 0 (nI 0)) ml rv mi' ml') :
    Ret m_r_trouble [(vR 19 0 48)] rv c (MRc nb db by_ rs) mi ml mi' ml' := by
  intro Q hQ
  refine ok_wq inlT 400 rfl rfl ?_
  exact h.use hQ
