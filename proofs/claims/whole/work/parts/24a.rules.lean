/-! ===== rules of the walk, laid by wip/whole/genw.py ===== -/
theorem g_tp_put_0 {nb db : Nat} {by_ rs : RX} {c : Nat} {mi mi' : MI} {ml ml' : ML} {rv : Option AV} {a0 : Int32}
    (h : Go m_tp_put 3 [some (vR 11 0 2), some (vI a0), some (vI (nI 24))] [] rv c (MRc nb db by_ rs) mi ml mi' ml') :
    Ret m_tp_put [(vR 11 0 2), (vI a0)] rv c (MRc nb db by_ rs) mi ml mi' ml' := by
  intro Q hQ
  refine ok_wq inlT 400 rfl rfl ?_
  exact h Q hQ
theorem g_tp_put_3 {nb db : Nat} {by_ rs : RX} {c : Nat} {mi mi' : MI} {ml ml' : ML} {rv : Option AV} {l1 : Int32} {l2 : Int32}
    (h : (l2 < 0 → (Fin none mi ml rv mi' ml')) ∧ (¬ l2 < 0 → (((nI 800) ≤ (mi 2 1) → (Fin none mi ml rv mi' ml')) ∧ (¬ (nI 800) ≤ (mi 2 1) → (vp_in (mi 2 1) 800 ∧ (Go m_tp_put 3 [some (vR 11 0 2), some (vI l1), some (vI (l2 + -(nI 8)))] [] rv c (MRc nb db by_ rs) (u2 (u2 mi 3 (mi 2 1).toNatClampNeg ((usr l1 l2) &&& (nI 255))) 2 1 ((mi 2 1) + (nI 1))) ml mi' ml')))))) :
    Go m_tp_put 3 [some (vR 11 0 2), some (vI l1), some (vI l2)] [] rv c (MRc nb db by_ rs) mi ml mi' ml' := by
  intro Q hQ
  refine at_wq inlT 400 rfl ?_
  refine ⟨fun g => ?_, fun g => ?_⟩
  · have h := h.1 (g)
    exact h.use hQ
  · have h := h.2 (g)
    refine ⟨fun g => ?_, fun g => ?_⟩
    · have h := h.1 (g)
      exact h.use hQ
    · have h := h.2 (g)
      refine ⟨h.1, ?_⟩
      have h := h.2
      exact h Q hQ
theorem g_w_feed_0 {nb db : Nat} {by_ rs : RX} {c : Nat} {mi mi' : MI} {ml ml' : ML} {rv : Option AV} {a0 : Int32} {a1 : Int32} {a2 : Int32} {a3 : Int32} {a4 : Int32}
    (h : ((nI 800) < ((mi 2 1) + (nI 20)) → (Fin (some (vI (-(nI 1)))) mi ml rv mi' ml')) ∧ (¬ (nI 800) < ((mi 2 1) + (nI 20)) → (∃ (mi1 : MI) (ml1 : ML), Ret m_tp_put [(vR 11 0 2), (vI a0)] none c (MRc nb db by_ rs) mi ml mi1 ml1 ∧ (∃ (mi2 : MI) (ml2 : ML), Ret m_tp_put [(vR 11 0 2), (vI a1)] none c (MRc nb db by_ rs) mi1 ml1 mi2 ml2 ∧ (∃ (mi3 : MI) (ml3 : ML), Ret m_tp_put [(vR 11 0 2), (vI a2)] none c (MRc nb db by_ rs) mi2 ml2 mi3 ml3 ∧ (∃ (mi4 : MI) (ml4 : ML), Ret m_tp_put [(vR 11 0 2), (vI a3)] none c (MRc nb db by_ rs) mi3 ml3 mi4 ml4 ∧ (∃ (mi5 : MI) (ml5 : ML), Ret m_tp_put [(vR 11 0 2), (vI a4)] none c (MRc nb db by_ rs) mi4 ml4 mi5 ml5 ∧ (Fin (some (vI (mi5 2 1))) mi5 ml5 rv mi' ml')))))))) :
    Ret m_w_feed [(vR 10 0 1), (vI a0), (vI a1), (vI a2), (vI a3), (vI a4)] rv c (MRc nb db by_ rs) mi ml mi' ml' := by
  intro Q hQ
  refine ok_wq inlT 400 rfl rfl ?_
  refine ⟨fun g => ?_, fun g => ?_⟩
  · have h := h.1 (g)
    refine ⟨Or.inl rfl, ?_⟩
    refine ⟨fun g => absurd g (by decide), fun _ => ?_⟩
    exact h.use hQ
  · have h := h.2 (g)
    refine ⟨Or.inr rfl, ?_⟩
    refine ⟨fun _ => ?_, fun g => absurd g (by decide)⟩
    obtain ⟨mi1, ml1, hR, h⟩ := h
    refine ⟨0, 0, Nat.zero_le _, Nat.zero_le _, hR _ ?_⟩
    obtain ⟨mi2, ml2, hR, h⟩ := h
    refine ⟨0, 0, Nat.zero_le _, Nat.zero_le _, hR _ ?_⟩
    obtain ⟨mi3, ml3, hR, h⟩ := h
    refine ⟨0, 0, Nat.zero_le _, Nat.zero_le _, hR _ ?_⟩
    obtain ⟨mi4, ml4, hR, h⟩ := h
    refine ⟨0, 0, Nat.zero_le _, Nat.zero_le _, hR _ ?_⟩
    obtain ⟨mi5, ml5, hR, h⟩ := h
    refine ⟨0, 0, Nat.zero_le _, Nat.zero_le _, hR _ ?_⟩
    exact h.use hQ
theorem g_w_fault_0 {nb db : Nat} {by_ rs : RX} {c : Nat} {mi mi' : MI} {ml ml' : ML} {rv : Option AV} 
    (h : Fin (some (vI (mi 1 10))) mi ml rv mi' ml') :
    Ret m_w_fault [(vR 10 0 1)] rv c (MRc nb db by_ rs) mi ml mi' ml' := by
  intro Q hQ
  refine ok_wq inlT 400 rfl rfl ?_
  exact h.use hQ
theorem g_w_where_0 {nb db : Nat} {by_ rs : RX} {c : Nat} {mi mi' : MI} {ml ml' : ML} {rv : Option AV} 
    (h : (¬ (mi 1 9) = (nI 4) → (Fin (some (vI (-(nI 1)))) mi ml rv mi' ml')) ∧ ((mi 1 9) = (nI 4) → (Fin (some (vI (mi 1 11))) mi ml rv mi' ml'))) :
    Ret m_w_where [(vR 10 0 1)] rv c (MRc nb db by_ rs) mi ml mi' ml' := by
  intro Q hQ
  refine ok_wq inlT 400 rfl rfl ?_
  refine ⟨fun g => ?_, fun g => ?_⟩
  · have h := h.1 (g)
    exact h.use hQ
  · have h := h.2 (g)
    exact h.use hQ
theorem g_w_about_0 {nb db : Nat} {by_ rs : RX} {c : Nat} {mi mi' : MI} {ml ml' : ML} {rv : Option AV} {a0 : Int32}
    (h : ((mi 1 8) = 0 → (Fin (some (vI (-(nI 1)))) (u2 mi 1 9 (nI 1)) ml rv mi' ml')) ∧ (¬ (mi 1 8) = 0 → ((a0 < 0 → (Fin (some (vI (-(nI 1)))) (u2 mi 1 9 (nI 1)) ml rv mi' ml')) ∧ (¬ a0 < 0 → (((nI 8) < a0 → (Fin (some (vI (-(nI 1)))) (u2 mi 1 9 (nI 1)) ml rv mi' ml')) ∧ (¬ (nI 8) < a0 → (Go m_w_about 32 [some (vR 10 0 1), some (vI a0)] [(vI a0)] rv c (MRc nb db by_ rs) (u2 mi 1 9 (nI 0)) ml mi' ml'))))))) :
    Ret m_w_about [(vR 10 0 1), (vI a0)] rv c (MRc nb db by_ rs) mi ml mi' ml' := by
  intro Q hQ
  refine ok_wq inlT 400 rfl rfl ?_
  refine ⟨fun g => ?_, fun g => ?_⟩
  · have h := h.1 (g)
    refine ⟨fun _ => ?_, fun g => absurd g (by decide)⟩
    refine ⟨Or.inl rfl, ?_⟩
    refine ⟨fun g => absurd g (by decide), fun _ => ?_⟩
    exact h.use hQ
  · have h := h.2 (g)
    refine ⟨fun g => ?_, fun g => ?_⟩
    · have h := h.1 (g)
      refine ⟨fun _ => ?_, fun g => absurd g (by decide)⟩
      refine ⟨Or.inl rfl, ?_⟩
      refine ⟨fun g => absurd g (by decide), fun _ => ?_⟩
      exact h.use hQ
    · have h := h.2 (g)
      refine ⟨fun g => ?_, fun g => ?_⟩
      · have h := h.1 (g)
        refine ⟨fun _ => ?_, fun g => absurd g (by decide)⟩
        refine ⟨Or.inl rfl, ?_⟩
        refine ⟨fun g => absurd g (by decide), fun _ => ?_⟩
        exact h.use hQ
      · have h := h.2 (g)
        refine ⟨fun g => absurd g (by decide), fun _ => ?_⟩
        refine ⟨Or.inr rfl, ?_⟩
        refine ⟨fun _ => ?_, fun g => absurd g (by decide)⟩
        exact h Q hQ
theorem g_w_about_80 {nb db : Nat} {by_ rs : RX} {c : Nat} {mi mi' : MI} {ml ml' : ML} {rv : Option AV} {a0 : Int32} (hb : nb = 43 ∧ db = 5 ∨ nb = 5 ∧ db = 43)
    (h : Fin (some (vI (mi nb 0))) mi ml rv mi' ml') :
    Go m_w_about 80 [some (vR 10 0 1), some (vI a0)] [] rv c (MRc nb db by_ rs) mi ml mi' ml' := by
  rcases hb with ⟨rfl, rfl⟩ | ⟨rfl, rfl⟩
  all_goals
    intro Q hQ
    refine at_wq inlT 400 rfl ?_
    exact h.use hQ
theorem g_w_about_88 {nb db : Nat} {by_ rs : RX} {c : Nat} {mi mi' : MI} {ml ml' : ML} {rv : Option AV} {a0 : Int32} (hb : nb = 43 ∧ db = 5 ∨ nb = 5 ∧ db = 43)
    (h : Fin (some (vI (mi nb 1))) mi ml rv mi' ml') :
    Go m_w_about 88 [some (vR 10 0 1), some (vI a0)] [] rv c (MRc nb db by_ rs) mi ml mi' ml' := by
  rcases hb with ⟨rfl, rfl⟩ | ⟨rfl, rfl⟩
  all_goals
    intro Q hQ
    refine at_wq inlT 400 rfl ?_
    exact h.use hQ
theorem g_w_about_96 {nb db : Nat} {by_ rs : RX} {c : Nat} {mi mi' : MI} {ml ml' : ML} {rv : Option AV} {a0 : Int32} (hb : nb = 43 ∧ db = 5 ∨ nb = 5 ∧ db = 43)
    (h : Fin (some (vI (mi nb 2))) mi ml rv mi' ml') :
    Go m_w_about 96 [some (vR 10 0 1), some (vI a0)] [] rv c (MRc nb db by_ rs) mi ml mi' ml' := by
  rcases hb with ⟨rfl, rfl⟩ | ⟨rfl, rfl⟩
  all_goals
    intro Q hQ
    refine at_wq inlT 400 rfl ?_
    exact h.use hQ
theorem g_w_about_104 {nb db : Nat} {by_ rs : RX} {c : Nat} {mi mi' : MI} {ml ml' : ML} {rv : Option AV} {a0 : Int32} (hb : nb = 43 ∧ db = 5 ∨ nb = 5 ∧ db = 43)
    (h : Fin (some (vI (mi nb 3))) mi ml rv mi' ml') :
    Go m_w_about 104 [some (vR 10 0 1), some (vI a0)] [] rv c (MRc nb db by_ rs) mi ml mi' ml' := by
  rcases hb with ⟨rfl, rfl⟩ | ⟨rfl, rfl⟩
  all_goals
    intro Q hQ
    refine at_wq inlT 400 rfl ?_
    exact h.use hQ
theorem g_w_about_112 {nb db : Nat} {by_ rs : RX} {c : Nat} {mi mi' : MI} {ml ml' : ML} {rv : Option AV} {a0 : Int32} (hb : nb = 43 ∧ db = 5 ∨ nb = 5 ∧ db = 43)
    (h : ∃ (r1 : Int32), Ret m_bn_monitor [(vR 13 0 nb)] (some (vI r1)) c (MRc nb db by_ rs) mi ml mi ml ∧ (Fin (some (vI r1)) mi ml rv mi' ml')) :
    Go m_w_about 112 [some (vR 10 0 1), some (vI a0)] [] rv c (MRc nb db by_ rs) mi ml mi' ml' := by
  rcases hb with ⟨rfl, rfl⟩ | ⟨rfl, rfl⟩
  all_goals
    intro Q hQ
    refine at_wq inlT 400 rfl ?_
    obtain ⟨r1, hR, h⟩ := h
    refine ⟨0, 0, Nat.zero_le _, Nat.zero_le _, hR _ ?_⟩
    exact h.use hQ
theorem g_w_about_120 {nb db : Nat} {by_ rs : RX} {c : Nat} {mi mi' : MI} {ml ml' : ML} {rv : Option AV} {a0 : Int32} (hb : nb = 43 ∧ db = 5 ∨ nb = 5 ∧ db = 43)
    (h : Fin (some (vI (((mi nb 0) + (nI 1)) / (nI 2)))) mi ml rv mi' ml') :
    Go m_w_about 120 [some (vR 10 0 1), some (vI a0)] [] rv c (MRc nb db by_ rs) mi ml mi' ml' := by
  rcases hb with ⟨rfl, rfl⟩ | ⟨rfl, rfl⟩
  all_goals
    intro Q hQ
    refine at_wq inlT 400 rfl ?_
    refine ⟨by decide, ?_⟩
    exact h.use hQ
theorem g_w_about_128 {nb db : Nat} {by_ rs : RX} {c : Nat} {mi mi' : MI} {ml ml' : ML} {rv : Option AV} {a0 : Int32}
    (h : Fin (some (vI (mi 11 0))) mi ml rv mi' ml') :
    Go m_w_about 128 [some (vR 10 0 1), some (vI a0)] [] rv c (MRc nb db by_ rs) mi ml mi' ml' := by
  intro Q hQ
  refine at_wq inlT 400 rfl ?_
  exact h.use hQ
theorem g_w_about_136 {nb db : Nat} {by_ rs : RX} {c : Nat} {mi mi' : MI} {ml ml' : ML} {rv : Option AV} {a0 : Int32}
    (h : Fin (some (vI (nI 0))) mi ml rv mi' ml') :
    Go m_w_about 136 [some (vR 10 0 1), some (vI a0)] [] rv c (MRc nb db by_ rs) mi ml mi' ml' := by
  intro Q hQ
  refine at_wq inlT 400 rfl ?_
  exact h.use hQ
theorem g_w_about_138 {nb db : Nat} {by_ rs : RX} {c : Nat} {mi mi' : MI} {ml ml' : ML} {rv : Option AV} {a0 : Int32}
    (h : Fin (some (vI (mi 11 1))) mi ml rv mi' ml') :
    Go m_w_about 138 [some (vR 10 0 1), some (vI a0)] [] rv c (MRc nb db by_ rs) mi ml mi' ml' := by
  intro Q hQ
  refine at_wq inlT 400 rfl ?_
  exact h.use hQ
theorem g_w_plate_0 {nb db : Nat} {by_ rs : RX} {c : Nat} {mi mi' : MI} {ml ml' : ML} {rv : Option AV} {a0 : Int32} (hb : nb = 43 ∧ db = 5 ∨ nb = 5 ∧ db = 43)
    (h : ∃ (r1 : Int32) (mi1 : MI) (ml1 : ML), Ret m_w_haveOne [(vR 10 0 1), (vI a0)] (some (vI r1)) c (MRc nb db by_ rs) mi ml mi1 ml1 ∧ ((r1 = 0 → (Fin (some (vI (-(nI 1)))) mi1 ml1 rv mi' ml')) ∧ (¬ r1 = 0 → (vp_in a0 31 ∧ (Fin (some (vI (mi1 (nb + 1) a0.toNatClampNeg))) mi1 ml1 rv mi' ml'))))) :
    Ret m_w_plate [(vR 10 0 1), (vI a0)] rv c (MRc nb db by_ rs) mi ml mi' ml' := by
  rcases hb with ⟨rfl, rfl⟩ | ⟨rfl, rfl⟩
  all_goals
    intro Q hQ
    refine ok_wq inlT 400 rfl rfl ?_
    obtain ⟨r1, mi1, ml1, hR, h⟩ := h
    refine ⟨0, 0, Nat.zero_le _, Nat.zero_le _, hR _ ?_⟩
    refine ⟨fun g => ?_, fun g => ?_⟩
    · have h := h.1 (g)
      exact h.use hQ
    · have h := h.2 (g)
      refine ⟨h.1, ?_⟩
      have h := h.2
      exact h.use hQ
theorem g_w_common_0 {nb db : Nat} {by_ rs : RX} {c : Nat} {mi mi' : MI} {ml ml' : ML} {rv : Option AV} {a0 : Int32} {a1 : Int32} (hb : nb = 43 ∧ db = 5 ∨ nb = 5 ∧ db = 43)
    (h : ((mi 1 8) = 0 → (Fin (some (vI (-(nI 1)))) (u2 mi 1 9 (nI 1)) ml rv mi' ml')) ∧ (¬ (mi 1 8) = 0 → ((a0 < 0 → (Fin (some (vI (-(nI 1)))) (u2 mi 1 9 (nI 1)) ml rv mi' ml')) ∧ (¬ a0 < 0 → (((mi nb 0) ≤ a0 → (Fin (some (vI (-(nI 1)))) (u2 mi 1 9 (nI 1)) ml rv mi' ml')) ∧ (¬ (mi nb 0) ≤ a0 → ((a1 < 0 → (Fin (some (vI (-(nI 1)))) (u2 mi 1 9 (nI 1)) ml rv mi' ml')) ∧ (¬ a1 < 0 → (((mi nb 0) ≤ a1 → (Fin (some (vI (-(nI 1)))) (u2 mi 1 9 (nI 1)) ml rv mi' ml')) ∧ (¬ (mi nb 0) ≤ a1 → (vp_in a0 31 ∧ (vp_in a1 31 ∧ (∃ (r1 : Int32), Ret m_ji_bitCount [(vI ((mi (nb + 1) a0.toNatClampNeg) &&& (mi (nb + 1) a1.toNatClampNeg)))] (some (vI r1)) c (MRc nb db by_ rs) (u2 mi 1 9 (nI 0)) ml (u2 mi 1 9 (nI 0)) ml ∧ (Fin (some (vI r1)) (u2 mi 1 9 (nI 0)) ml rv mi' ml')))))))))))))) :
    Ret m_w_common [(vR 10 0 1), (vI a0), (vI a1)] rv c (MRc nb db by_ rs) mi ml mi' ml' := by
  rcases hb with ⟨rfl, rfl⟩ | ⟨rfl, rfl⟩
  all_goals
    intro Q hQ
    refine ok_wq inlT 400 rfl rfl ?_
    refine ⟨fun g => ?_, fun g => ?_⟩
    · have h := h.1 (g)
      refine ⟨fun _ => ?_, fun g => absurd g (by decide)⟩
      refine ⟨Or.inl rfl, ?_⟩
      refine ⟨fun g => absurd g (by decide), fun _ => ?_⟩
      exact h.use hQ
    · have h := h.2 (g)
      refine ⟨fun g => ?_, fun g => ?_⟩
      · have h := h.1 (g)
        refine ⟨Or.inl rfl, ?_⟩
        refine ⟨fun _ => ?_, fun g => absurd g (by decide)⟩
        refine ⟨fun _ => ?_, fun g => absurd g (by decide)⟩
        refine ⟨Or.inl rfl, ?_⟩
        refine ⟨fun g => absurd g (by decide), fun _ => ?_⟩
        exact h.use hQ
      · have h := h.2 (g)
        refine ⟨fun g => ?_, fun g => ?_⟩
        · have h := h.1 (g)
          refine ⟨Or.inl rfl, ?_⟩
          refine ⟨fun _ => ?_, fun g => absurd g (by decide)⟩
          refine ⟨fun _ => ?_, fun g => absurd g (by decide)⟩
          refine ⟨Or.inl rfl, ?_⟩
          refine ⟨fun g => absurd g (by decide), fun _ => ?_⟩
          exact h.use hQ
        · have h := h.2 (g)
          refine ⟨Or.inr rfl, ?_⟩
          refine ⟨fun g => absurd g (by decide), fun _ => ?_⟩
          refine ⟨fun g => ?_, fun g => ?_⟩
          · have h := h.1 (g)
            refine ⟨Or.inl rfl, ?_⟩
            refine ⟨fun _ => ?_, fun g => absurd g (by decide)⟩
            refine ⟨fun _ => ?_, fun g => absurd g (by decide)⟩
            refine ⟨Or.inl rfl, ?_⟩
            refine ⟨fun g => absurd g (by decide), fun _ => ?_⟩
            exact h.use hQ
          · have h := h.2 (g)
            refine ⟨fun g => ?_, fun g => ?_⟩
            · have h := h.1 (g)
              refine ⟨Or.inl rfl, ?_⟩
              refine ⟨fun _ => ?_, fun g => absurd g (by decide)⟩
              refine ⟨fun _ => ?_, fun g => absurd g (by decide)⟩
              refine ⟨Or.inl rfl, ?_⟩
              refine ⟨fun g => absurd g (by decide), fun _ => ?_⟩
              exact h.use hQ
            · have h := h.2 (g)
              refine ⟨Or.inr rfl, ?_⟩
              refine ⟨fun g => absurd g (by decide), fun _ => ?_⟩
              refine ⟨fun g => absurd g (by decide), fun _ => ?_⟩
              refine ⟨Or.inr rfl, ?_⟩
              refine ⟨fun _ => ?_, fun g => absurd g (by decide)⟩
              refine ⟨h.1, ?_⟩
              have h := h.2
              refine ⟨h.1, ?_⟩
              have h := h.2
              obtain ⟨r1, hR, h⟩ := h
              refine ⟨0, 0, Nat.zero_le _, Nat.zero_le _, hR _ ?_⟩
              exact h.use hQ
theorem g_w_which_0 {nb db : Nat} {by_ rs : RX} {c : Nat} {mi mi' : MI} {ml ml' : ML} {rv : Option AV} {a0 : Int32}
    (h : ∃ (r1 : Int32) (mi1 : MI) (ml1 : ML), Ret m_w_haveSet [(vR 10 0 1), (vI a0)] (some (vI r1)) c (MRc nb db by_ rs) mi ml mi1 ml1 ∧ ((¬ r1 = 0 → (Go m_w_which 12 [some (vR 10 0 1), some (vI a0), some (vI (nI 0))] [] rv c (MRc nb db by_ rs) mi1 ml1 mi' ml')) ∧ (r1 = 0 → (Fin (some (vI (-(nI 1)))) mi1 ml1 rv mi' ml')))) :
    Ret m_w_which [(vR 10 0 1), (vI a0)] rv c (MRc nb db by_ rs) mi ml mi' ml' := by
  intro Q hQ
  refine ok_wq inlT 400 rfl rfl ?_
  obtain ⟨r1, mi1, ml1, hR, h⟩ := h
  refine ⟨0, 0, Nat.zero_le _, Nat.zero_le _, hR _ ?_⟩
  refine ⟨fun g => ?_, fun g => ?_⟩
  · have h := h.1 (g)
    exact h Q hQ
  · have h := h.2 (g)
    exact h.use hQ
theorem g_w_which_12 {nb db : Nat} {by_ rs : RX} {c : Nat} {mi mi' : MI} {ml ml' : ML} {rv : Option AV} {l1 : Int32} {l2 : Int32} (hb : nb = 43 ∧ db = 5 ∨ nb = 5 ∧ db = 43)
    (h : ((mi nb 0) ≤ l2 → (Fin (some (vI (-(nI 2)))) mi ml rv mi' ml')) ∧ (¬ (mi nb 0) ≤ l2 → (vp_in l2 31 ∧ ((¬ (mi (nb + 1) l2.toNatClampNeg) = l1 → (Go m_w_which 12 [some (vR 10 0 1), some (vI l1), some (vI (l2 + nI 1))] [] rv c (MRc nb db by_ rs) mi ml mi' ml')) ∧ ((mi (nb + 1) l2.toNatClampNeg) = l1 → (Fin (some (vI l2)) mi ml rv mi' ml')))))) :
    Go m_w_which 12 [some (vR 10 0 1), some (vI l1), some (vI l2)] [] rv c (MRc nb db by_ rs) mi ml mi' ml' := by
  rcases hb with ⟨rfl, rfl⟩ | ⟨rfl, rfl⟩
  all_goals
    intro Q hQ
    refine at_wq inlT 400 rfl ?_
    refine ⟨fun g => ?_, fun g => ?_⟩
    · have h := h.1 (g)
      exact h.use hQ
    · have h := h.2 (g)
      refine ⟨h.1, ?_⟩
      have h := h.2
      refine ⟨fun g => ?_, fun g => ?_⟩
      · have h := h.1 (g)
        exact h Q hQ
      · have h := h.2 (g)
        exact h.use hQ
theorem g_w_apart_0 {nb db : Nat} {by_ rs : RX} {c : Nat} {mi mi' : MI} {ml ml' : ML} {rv : Option AV} {a0 : Int32} (hb : nb = 43 ∧ db = 5 ∨ nb = 5 ∧ db = 43)
    (h : ∃ (r1 : Int32) (mi1 : MI) (ml1 : ML), Ret m_w_haveOne [(vR 10 0 1), (vI a0)] (some (vI r1)) c (MRc nb db by_ rs) mi ml mi1 ml1 ∧ ((¬ r1 = 0 → (Go m_w_apart 20 [some (vR 10 0 1), some (vI a0), some (vI (mi1 nb 0)), some (vI (nI 0))] [] rv c (MRc nb db by_ rs) mi1 ml1 mi' ml')) ∧ (r1 = 0 → (Fin (some (vI (-(nI 1)))) mi1 ml1 rv mi' ml')))) :
    Ret m_w_apart [(vR 10 0 1), (vI a0)] rv c (MRc nb db by_ rs) mi ml mi' ml' := by
  rcases hb with ⟨rfl, rfl⟩ | ⟨rfl, rfl⟩
  all_goals
    intro Q hQ
    refine ok_wq inlT 400 rfl rfl ?_
    obtain ⟨r1, mi1, ml1, hR, h⟩ := h
    refine ⟨0, 0, Nat.zero_le _, Nat.zero_le _, hR _ ?_⟩
    refine ⟨fun g => ?_, fun g => ?_⟩
    · have h := h.1 (g)
      exact h Q hQ
    · have h := h.2 (g)
      exact h.use hQ
theorem g_w_apart_20 {nb db : Nat} {by_ rs : RX} {c : Nat} {mi mi' : MI} {ml ml' : ML} {rv : Option AV} {l1 : Int32} {l2 : Int32} {l3 : Int32} (hb : nb = 43 ∧ db = 5 ∨ nb = 5 ∧ db = 43)
    (h : ((mi nb 0) ≤ l3 → (Fin (some (vI l2)) mi ml rv mi' ml')) ∧ (¬ (mi nb 0) ≤ l3 → ((l3 = l1 → (Go m_w_apart 20 [some (vR 10 0 1), some (vI l1), some (vI l2), some (vI (l3 + nI 1))] [] rv c (MRc nb db by_ rs) mi ml mi' ml')) ∧ (¬ l3 = l1 → (vp_in l1 31 ∧ (vp_in l3 31 ∧ (∃ (r1 : Int32), Ret m_ji_bitCount [(vI ((mi (nb + 1) l1.toNatClampNeg) ^^^ (mi (nb + 1) l3.toNatClampNeg)))] (some (vI r1)) c (MRc nb db by_ rs) mi ml mi ml ∧ (Go m_w_apart 20 [some (vR 10 0 1), some (vI l1), some (vI (if r1 < l2 then r1 else l2)), some (vI (l3 + nI 1))] [] rv c (MRc nb db by_ rs) mi ml mi' ml')))))))) :
    Go m_w_apart 20 [some (vR 10 0 1), some (vI l1), some (vI l2), some (vI l3)] [] rv c (MRc nb db by_ rs) mi ml mi' ml' := by
  rcases hb with ⟨rfl, rfl⟩ | ⟨rfl, rfl⟩
  all_goals
    intro Q hQ
    refine at_wq inlT 400 rfl ?_
    refine ⟨fun g => ?_, fun g => ?_⟩
    · have h := h.1 (g)
      exact h.use hQ
    · have h := h.2 (g)
      refine ⟨fun g => ?_, fun g => ?_⟩
      · have h := h.1 (g)
        exact h Q hQ
      · have h := h.2 (g)
        refine ⟨h.1, ?_⟩
        have h := h.2
        refine ⟨h.1, ?_⟩
        have h := h.2
        obtain ⟨r1, hR, h⟩ := h
        refine ⟨0, 0, Nat.zero_le _, Nat.zero_le _, hR _ ?_⟩
        exact h Q hQ
theorem g_w_odd_0 {nb db : Nat} {by_ rs : RX} {c : Nat} {mi mi' : MI} {ml ml' : ML} {rv : Option AV} {a0 : Int32}
    (h : ∃ (r1 : Int32) (mi1 : MI) (ml1 : ML), Ret m_w_haveSet [(vR 10 0 1), (vI a0)] (some (vI r1)) c (MRc nb db by_ rs) mi ml mi1 ml1 ∧ ((¬ r1 = 0 → (Go m_w_odd 14 [some (vR 10 0 1), some (vI a0), some (vI (nI 0)), some (vI (nI 0))] [] rv c (MRc nb db by_ rs) mi1 ml1 mi' ml')) ∧ (r1 = 0 → (Fin (some (vI (-(nI 1)))) mi1 ml1 rv mi' ml')))) :
    Ret m_w_odd [(vR 10 0 1), (vI a0)] rv c (MRc nb db by_ rs) mi ml mi' ml' := by
  intro Q hQ
  refine ok_wq inlT 400 rfl rfl ?_
  obtain ⟨r1, mi1, ml1, hR, h⟩ := h
  refine ⟨0, 0, Nat.zero_le _, Nat.zero_le _, hR _ ?_⟩
  refine ⟨fun g => ?_, fun g => ?_⟩
  · have h := h.1 (g)
    exact h Q hQ
  · have h := h.2 (g)
    exact h.use hQ
theorem g_w_odd_14 {nb db : Nat} {by_ rs : RX} {c : Nat} {mi mi' : MI} {ml ml' : ML} {rv : Option AV} {l1 : Int32} {l2 : Int32} {l3 : Int32} (hb : nb = 43 ∧ db = 5 ∨ nb = 5 ∧ db = 43)
    (h : ((mi nb 0) ≤ l3 → (Fin (some (vI l2)) mi ml rv mi' ml')) ∧ (¬ (mi nb 0) ≤ l3 → ((¬ ((l1 >>> (l3 &&& 31)) &&& (nI 1)) = (nI 1) → (Go m_w_odd 14 [some (vR 10 0 1), some (vI l1), some (vI l2), some (vI (l3 + nI 1))] [] rv c (MRc nb db by_ rs) mi ml mi' ml')) ∧ (((l1 >>> (l3 &&& 31)) &&& (nI 1)) = (nI 1) → (vp_in l3 31 ∧ (Go m_w_odd 14 [some (vR 10 0 1), some (vI l1), some (vI (l2 ^^^ (mi (nb + 1) l3.toNatClampNeg))), some (vI (l3 + nI 1))] [] rv c (MRc nb db by_ rs) mi ml mi' ml')))))) :
    Go m_w_odd 14 [some (vR 10 0 1), some (vI l1), some (vI l2), some (vI l3)] [] rv c (MRc nb db by_ rs) mi ml mi' ml' := by
  rcases hb with ⟨rfl, rfl⟩ | ⟨rfl, rfl⟩
  all_goals
    intro Q hQ
    refine at_wq inlT 400 rfl ?_
    refine ⟨fun g => ?_, fun g => ?_⟩
    · have h := h.1 (g)
      exact h.use hQ
    · have h := h.2 (g)
      refine ⟨fun g => ?_, fun g => ?_⟩
      · have h := h.1 (g)
        exact h Q hQ
      · have h := h.2 (g)
        refine ⟨h.1, ?_⟩
        have h := h.2
        exact h Q hQ
theorem g_w_light_0 {nb db : Nat} {by_ rs : RX} {c : Nat} {mi mi' : MI} {ml ml' : ML} {rv : Option AV} {a0 : Int32} (hb : nb = 43 ∧ db = 5 ∨ nb = 5 ∧ db = 43)
    (h : ∃ (r1 : Int32) (mi1 : MI) (ml1 : ML), Ret m_w_haveOne [(vR 10 0 1), (vI a0)] (some (vI r1)) c (MRc nb db by_ rs) mi ml mi1 ml1 ∧ ((r1 = 0 → (Fin (some (vI (-(nI 1)))) mi1 ml1 rv mi' ml')) ∧ (¬ r1 = 0 → (vp_in a0 31 ∧ (Fin (some (vI (mi1 (nb + 2) a0.toNatClampNeg))) mi1 ml1 rv mi' ml'))))) :
    Ret m_w_light [(vR 10 0 1), (vI a0)] rv c (MRc nb db by_ rs) mi ml mi' ml' := by
  rcases hb with ⟨rfl, rfl⟩ | ⟨rfl, rfl⟩
  all_goals
    intro Q hQ
    refine ok_wq inlT 400 rfl rfl ?_
    obtain ⟨r1, mi1, ml1, hR, h⟩ := h
    refine ⟨0, 0, Nat.zero_le _, Nat.zero_le _, hR _ ?_⟩
    refine ⟨fun g => ?_, fun g => ?_⟩
    · have h := h.1 (g)
      exact h.use hQ
    · have h := h.2 (g)
      refine ⟨h.1, ?_⟩
      have h := h.2
      exact h.use hQ
theorem g_w_shutter_0 {nb db : Nat} {by_ rs : RX} {c : Nat} {mi mi' : MI} {ml ml' : ML} {rv : Option AV} {a0 : Int32} (hb : nb = 43 ∧ db = 5 ∨ nb = 5 ∧ db = 43)
    (h : ∃ (r1 : Int32) (mi1 : MI) (ml1 : ML), Ret m_w_haveOne [(vR 10 0 1), (vI a0)] (some (vI r1)) c (MRc nb db by_ rs) mi ml mi1 ml1 ∧ ((r1 = 0 → (Fin (some (vI (-(nI 1)))) mi1 ml1 rv mi' ml')) ∧ (¬ r1 = 0 → ((¬ (((mi1 nb 5) >>> (a0 &&& 31)) &&& (nI 1)) = (nI 1) → ((¬ (((mi1 nb 6) >>> (a0 &&& 31)) &&& (nI 1)) = (nI 1) → (Fin (some (vI (nI 0))) mi1 ml1 rv mi' ml')) ∧ ((((mi1 nb 6) >>> (a0 &&& 31)) &&& (nI 1)) = (nI 1) → (Fin (some (vI (nI 2))) mi1 ml1 rv mi' ml')))) ∧ ((((mi1 nb 5) >>> (a0 &&& 31)) &&& (nI 1)) = (nI 1) → (Fin (some (vI (nI 1))) mi1 ml1 rv mi' ml')))))) :
    Ret m_w_shutter [(vR 10 0 1), (vI a0)] rv c (MRc nb db by_ rs) mi ml mi' ml' := by
  rcases hb with ⟨rfl, rfl⟩ | ⟨rfl, rfl⟩
  all_goals
    intro Q hQ
    refine ok_wq inlT 400 rfl rfl ?_
    obtain ⟨r1, mi1, ml1, hR, h⟩ := h
    refine ⟨0, 0, Nat.zero_le _, Nat.zero_le _, hR _ ?_⟩
    refine ⟨fun g => ?_, fun g => ?_⟩
    · have h := h.1 (g)
      exact h.use hQ
    · have h := h.2 (g)
      refine ⟨fun g => ?_, fun g => ?_⟩
      · have h := h.1 (g)
        refine ⟨fun g => ?_, fun g => ?_⟩
        · have h := h.1 (g)
          exact h.use hQ
        · have h := h.2 (g)
          exact h.use hQ
      · have h := h.2 (g)
        exact h.use hQ
theorem g_w_noise_0 {nb db : Nat} {by_ rs : RX} {c : Nat} {mi mi' : MI} {ml ml' : ML} {rv : Option AV} {a0 : Int32} (hb : nb = 43 ∧ db = 5 ∨ nb = 5 ∧ db = 43)
    (h : ∃ (r1 : Int32) (mi1 : MI) (ml1 : ML), Ret m_w_haveOne [(vR 10 0 1), (vI a0)] (some (vI r1)) c (MRc nb db by_ rs) mi ml mi1 ml1 ∧ ((r1 = 0 → (Fin (some (vI (-(nI 2147483648)))) mi1 ml1 rv mi' ml')) ∧ (¬ r1 = 0 → (vp_in a0 31 ∧ (Fin (some (vI (mi1 (nb + 3) a0.toNatClampNeg))) mi1 ml1 rv mi' ml'))))) :
    Ret m_w_noise [(vR 10 0 1), (vI a0)] rv c (MRc nb db by_ rs) mi ml mi' ml' := by
  rcases hb with ⟨rfl, rfl⟩ | ⟨rfl, rfl⟩
  all_goals
    intro Q hQ
    refine ok_wq inlT 400 rfl rfl ?_
    obtain ⟨r1, mi1, ml1, hR, h⟩ := h
    refine ⟨0, 0, Nat.zero_le _, Nat.zero_le _, hR _ ?_⟩
    refine ⟨fun g => ?_, fun g => ?_⟩
    · have h := h.1 (g)
      exact h.use hQ
    · have h := h.2 (g)
      refine ⟨h.1, ?_⟩
      have h := h.2
      exact h.use hQ
theorem g_w_lost_0 {nb db : Nat} {by_ rs : RX} {c : Nat} {mi mi' : MI} {ml ml' : ML} {rv : Option AV} {a0 : Int32} (hb : nb = 43 ∧ db = 5 ∨ nb = 5 ∧ db = 43)
    (h : ∃ (r1 : Int32) (mi1 : MI) (ml1 : ML), Ret m_w_haveOne [(vR 10 0 1), (vI a0)] (some (vI r1)) c (MRc nb db by_ rs) mi ml mi1 ml1 ∧ ((¬ r1 = 0 → ((¬ (((mi1 nb 7) >>> (a0 &&& 31)) &&& (nI 1)) = (nI 1) → (Fin (some (vI (nI 0))) mi1 ml1 rv mi' ml')) ∧ ((((mi1 nb 7) >>> (a0 &&& 31)) &&& (nI 1)) = (nI 1) → (Fin (some (vI (nI 1))) mi1 ml1 rv mi' ml')))) ∧ (r1 = 0 → (Fin (some (vI (-(nI 1)))) mi1 ml1 rv mi' ml')))) :
    Ret m_w_lost [(vR 10 0 1), (vI a0)] rv c (MRc nb db by_ rs) mi ml mi' ml' := by
  rcases hb with ⟨rfl, rfl⟩ | ⟨rfl, rfl⟩
  all_goals
    intro Q hQ
    refine ok_wq inlT 400 rfl rfl ?_
    obtain ⟨r1, mi1, ml1, hR, h⟩ := h
    refine ⟨0, 0, Nat.zero_le _, Nat.zero_le _, hR _ ?_⟩
    refine ⟨fun g => ?_, fun g => ?_⟩
    · have h := h.1 (g)
      refine ⟨fun g => ?_, fun g => ?_⟩
      · have h := h.1 (g)
        refine ⟨Or.inl rfl, ?_⟩
        refine ⟨fun _ => ?_, fun g => absurd g (by decide)⟩
        exact h.use hQ
      · have h := h.2 (g)
        refine ⟨Or.inr rfl, ?_⟩
        refine ⟨fun g => absurd g (by decide), fun _ => ?_⟩
        exact h.use hQ
    · have h := h.2 (g)
      exact h.use hQ
theorem g_w_look_0 {nb db : Nat} {by_ rs : RX} {c : Nat} {mi mi' : MI} {ml ml' : ML} {rv : Option AV} {a0 : Int32} (hb : nb = 43 ∧ db = 5 ∨ nb = 5 ∧ db = 43)
    (h : ∃ (r1 : Int32) (mi1 : MI) (ml1 : ML), Ret m_w_haveSet [(vR 10 0 1), (vI a0)] (some (vI r1)) c (MRc nb db by_ rs) mi ml mi1 ml1 ∧ ((¬ r1 = 0 → (∃ (r2 : Int32) (mi2 : MI) (ml2 : ML), Ret m_sg_lookAt [(vR 14 0 11), (vR 13 0 nb), (vI a0)] (some (vI r2)) c (MRc nb db by_ rs) mi1 ml1 mi2 ml2 ∧ ((r2 < 0 → (Fin (some (vI (-(nI 1)))) (u2 mi2 1 9 (nI 5)) ml2 rv mi' ml')) ∧ (¬ r2 < 0 → (∃ (mi3 : MI) (ml3 : ML), Ret m_sg_keep [(vR 14 0 11), (vI a0), (vI r2)] none c (MRc nb db by_ rs) (u2 mi2 1 9 (nI 0)) ml2 mi3 ml3 ∧ (Fin (some (vI r2)) mi3 ml3 rv mi' ml')))))) ∧ (r1 = 0 → (Fin (some (vI (-(nI 1)))) mi1 ml1 rv mi' ml')))) :
    Ret m_w_look [(vR 10 0 1), (vI a0)] rv c (MRc nb db by_ rs) mi ml mi' ml' := by
  rcases hb with ⟨rfl, rfl⟩ | ⟨rfl, rfl⟩
  all_goals
    intro Q hQ
    refine ok_wq inlT 400 rfl rfl ?_
    obtain ⟨r1, mi1, ml1, hR, h⟩ := h
    refine ⟨0, 0, Nat.zero_le _, Nat.zero_le _, hR _ ?_⟩
    refine ⟨fun g => ?_, fun g => ?_⟩
    · have h := h.1 (g)
      obtain ⟨r2, mi2, ml2, hR, h⟩ := h
      refine ⟨0, 0, Nat.zero_le _, Nat.zero_le _, hR _ ?_⟩
      refine ⟨fun g => ?_, fun g => ?_⟩
      · have h := h.1 (g)
        refine ⟨fun _ => ?_, fun g => absurd g (by decide)⟩
        refine ⟨Or.inl rfl, ?_⟩
        refine ⟨fun g => absurd g (by decide), fun _ => ?_⟩
        exact h.use hQ
      · have h := h.2 (g)
        refine ⟨fun g => absurd g (by decide), fun _ => ?_⟩
        refine ⟨Or.inr rfl, ?_⟩
        refine ⟨fun _ => ?_, fun g => absurd g (by decide)⟩
        obtain ⟨mi3, ml3, hR, h⟩ := h
        refine ⟨0, 0, Nat.zero_le _, Nat.zero_le _, hR _ ?_⟩
        exact h.use hQ
    · have h := h.2 (g)
      exact h.use hQ
theorem g_w_logged_0 {nb db : Nat} {by_ rs : RX} {c : Nat} {mi mi' : MI} {ml ml' : ML} {rv : Option AV} {a0 : Int32} {a1 : Int32}
    (h : ((mi 1 8) = 0 → (Fin (some (vI (-(nI 1)))) (u2 mi 1 9 (nI 1)) ml rv mi' ml')) ∧ (¬ (mi 1 8) = 0 → ((a0 < 0 → (Fin (some (vI (-(nI 1)))) (u2 mi 1 9 (nI 1)) ml rv mi' ml')) ∧ (¬ a0 < 0 → (((mi 11 2) ≤ a0 → (Fin (some (vI (-(nI 1)))) (u2 mi 1 9 (nI 1)) ml rv mi' ml')) ∧ (¬ (mi 11 2) ≤ a0 → ((a1 = 0 → ((¬ a1 = 0 → (vp_in a0 20 ∧ (Fin (some (vI (mi 13 a0.toNatClampNeg))) (u2 mi 1 9 (nI 0)) ml rv mi' ml'))) ∧ (a1 = 0 → (vp_in a0 20 ∧ (Fin (some (vI (mi 12 a0.toNatClampNeg))) (u2 mi 1 9 (nI 0)) ml rv mi' ml'))))) ∧ (¬ a1 = 0 → ((¬ a1 = (nI 1) → (Fin (some (vI (-(nI 1)))) (u2 mi 1 9 (nI 1)) ml rv mi' ml')) ∧ (a1 = (nI 1) → ((¬ a1 = 0 → (vp_in a0 20 ∧ (Fin (some (vI (mi 13 a0.toNatClampNeg))) (u2 mi 1 9 (nI 0)) ml rv mi' ml'))) ∧ (a1 = 0 → (vp_in a0 20 ∧ (Fin (some (vI (mi 12 a0.toNatClampNeg))) (u2 mi 1 9 (nI 0)) ml rv mi' ml')))))))))))))) :
    Ret m_w_logged [(vR 10 0 1), (vI a0), (vI a1)] rv c (MRc nb db by_ rs) mi ml mi' ml' := by
  intro Q hQ
  refine ok_wq inlT 400 rfl rfl ?_
  refine ⟨fun g => ?_, fun g => ?_⟩
  · have h := h.1 (g)
    refine ⟨fun _ => ?_, fun g => absurd g (by decide)⟩
    refine ⟨fun _ => ?_, fun g => absurd g (by decide)⟩
    refine ⟨Or.inl rfl, ?_⟩
    refine ⟨fun g => absurd g (by decide), fun _ => ?_⟩
    exact h.use hQ
  · have h := h.2 (g)
    refine ⟨fun g => ?_, fun g => ?_⟩
    · have h := h.1 (g)
      refine ⟨fun _ => ?_, fun g => absurd g (by decide)⟩
      refine ⟨fun _ => ?_, fun g => absurd g (by decide)⟩
      refine ⟨Or.inl rfl, ?_⟩
      refine ⟨fun g => absurd g (by decide), fun _ => ?_⟩
      exact h.use hQ
    · have h := h.2 (g)
      refine ⟨fun g => ?_, fun g => ?_⟩
      · have h := h.1 (g)
        refine ⟨fun _ => ?_, fun g => absurd g (by decide)⟩
        refine ⟨fun _ => ?_, fun g => absurd g (by decide)⟩
        refine ⟨Or.inl rfl, ?_⟩
        refine ⟨fun g => absurd g (by decide), fun _ => ?_⟩
        exact h.use hQ
      · have h := h.2 (g)
        refine ⟨fun g => ?_, fun g => ?_⟩
        · have h := h.1 (g)
          refine ⟨fun g => absurd g (by decide), fun _ => ?_⟩
          refine ⟨fun g => absurd g (by decide), fun _ => ?_⟩
          refine ⟨Or.inr rfl, ?_⟩
          refine ⟨fun _ => ?_, fun g => absurd g (by decide)⟩
          refine ⟨fun g => ?_, fun g => ?_⟩
          · have h := h.1 (g)
            refine ⟨h.1, ?_⟩
            have h := h.2
            exact h.use hQ
          · have h := h.2 (g)
            refine ⟨h.1, ?_⟩
            have h := h.2
            exact h.use hQ
        · have h := h.2 (g)
          refine ⟨fun g => ?_, fun g => ?_⟩
          · have h := h.1 (g)
            refine ⟨fun _ => ?_, fun g => absurd g (by decide)⟩
            refine ⟨fun _ => ?_, fun g => absurd g (by decide)⟩
            refine ⟨Or.inl rfl, ?_⟩
            refine ⟨fun g => absurd g (by decide), fun _ => ?_⟩
            exact h.use hQ
          · have h := h.2 (g)
            refine ⟨fun g => absurd g (by decide), fun _ => ?_⟩
            refine ⟨fun g => absurd g (by decide), fun _ => ?_⟩
            refine ⟨Or.inr rfl, ?_⟩
            refine ⟨fun _ => ?_, fun g => absurd g (by decide)⟩
            refine ⟨fun g => ?_, fun g => ?_⟩
            · have h := h.1 (g)
              refine ⟨h.1, ?_⟩
              have h := h.2
              exact h.use hQ
            · have h := h.2 (g)
              refine ⟨h.1, ?_⟩
              have h := h.2
              exact h.use hQ
theorem g_w_scan_0 {nb db : Nat} {by_ rs : RX} {c : Nat} {mi mi' : MI} {ml ml' : ML} {rv : Option AV}  (hb : nb = 43 ∧ db = 5 ∨ nb = 5 ∧ db = 43)
    (h : ((mi 1 8) = 0 → (Fin (some (vI (-(nI 1)))) (u2 mi 1 9 (nI 1)) ml rv mi' ml')) ∧ (¬ (mi 1 8) = 0 → (∃ (r1 : Int32) (mi1 : MI) (ml1 : ML), Ret m_sg_scanAll [(vR 14 0 11), (vR 13 0 nb)] (some (vI r1)) c (MRc nb db by_ rs) (u2 mi 1 9 (nI 0)) ml mi1 ml1 ∧ ((r1 < 0 → (Fin (some (vI (-(nI 1)))) (u2 mi1 1 9 (nI 5)) ml1 rv mi' ml')) ∧ (¬ r1 < 0 → (Fin (some (vI r1)) (u2 mi1 1 9 (nI 0)) ml1 rv mi' ml')))))) :
    Ret m_w_scan [(vR 10 0 1)] rv c (MRc nb db by_ rs) mi ml mi' ml' := by
  rcases hb with ⟨rfl, rfl⟩ | ⟨rfl, rfl⟩
  all_goals
    intro Q hQ
    refine ok_wq inlT 400 rfl rfl ?_
    refine ⟨fun g => ?_, fun g => ?_⟩
    · have h := h.1 (g)
      refine ⟨fun _ => ?_, fun g => absurd g (by decide)⟩
      refine ⟨Or.inl rfl, ?_⟩
      refine ⟨Or.inl rfl, ?_⟩
      refine ⟨fun g => absurd g (by decide), fun _ => ?_⟩
      exact h.use hQ
    · have h := h.2 (g)
      refine ⟨fun g => absurd g (by decide), fun _ => ?_⟩
      refine ⟨Or.inr rfl, ?_⟩
      refine ⟨Or.inr rfl, ?_⟩
      refine ⟨fun _ => ?_, fun g => absurd g (by decide)⟩
      obtain ⟨r1, mi1, ml1, hR, h⟩ := h
      refine ⟨0, 0, Nat.zero_le _, Nat.zero_le _, hR _ ?_⟩
      refine ⟨fun g => ?_, fun g => ?_⟩
      · have h := h.1 (g)
        refine ⟨fun _ => ?_, fun g => absurd g (by decide)⟩
        refine ⟨Or.inl rfl, ?_⟩
        refine ⟨fun _ => ?_, fun g => absurd g (by decide)⟩
        exact h.use hQ
      · have h := h.2 (g)
        refine ⟨fun g => absurd g (by decide), fun _ => ?_⟩
        refine ⟨Or.inr rfl, ?_⟩
        refine ⟨fun g => absurd g (by decide), fun _ => ?_⟩
        exact h.use hQ
theorem g_w_blinds_0 {nb db : Nat} {by_ rs : RX} {c : Nat} {mi mi' : MI} {ml ml' : ML} {rv : Option AV} 
    (h : ((mi 1 8) = 0 → (Fin (some (vI (-(nI 1)))) (u2 mi 1 9 (nI 1)) ml rv mi' ml')) ∧ (¬ (mi 1 8) = 0 → (Go m_w_blinds 13 [some (vR 10 0 1), some (vI (nI 0)), some (vI (nI 0))] [] rv c (MRc nb db by_ rs) (u2 mi 1 9 (nI 0)) ml mi' ml'))) :
    Ret m_w_blinds [(vR 10 0 1)] rv c (MRc nb db by_ rs) mi ml mi' ml' := by
  intro Q hQ
  refine ok_wq inlT 400 rfl rfl ?_
  refine ⟨fun g => ?_, fun g => ?_⟩
  · have h := h.1 (g)
    refine ⟨fun _ => ?_, fun g => absurd g (by decide)⟩
    refine ⟨Or.inl rfl, ?_⟩
    refine ⟨Or.inl rfl, ?_⟩
    refine ⟨fun g => absurd g (by decide), fun _ => ?_⟩
    exact h.use hQ
  · have h := h.2 (g)
    refine ⟨fun g => absurd g (by decide), fun _ => ?_⟩
    refine ⟨Or.inr rfl, ?_⟩
    refine ⟨Or.inr rfl, ?_⟩
    refine ⟨fun _ => ?_, fun g => absurd g (by decide)⟩
    exact h Q hQ
theorem g_w_blinds_13 {nb db : Nat} {by_ rs : RX} {c : Nat} {mi mi' : MI} {ml ml' : ML} {rv : Option AV} {l1 : Int32} {l2 : Int32} (hb : nb = 43 ∧ db = 5 ∨ nb = 5 ∧ db = 43)
    (h : ((mi nb 0) ≤ l2 → (Fin (some (vI (-(nI 2)))) mi ml rv mi' ml')) ∧ (¬ (mi nb 0) ≤ l2 → ((¬ (((mi nb 7) >>> (l2 &&& 31)) &&& (nI 1)) = (nI 1) → (vp_in l2 31 ∧ (∃ (r1 : Int32), Ret m_bn_readOf [(vR 13 0 nb), (vI (mi (nb + 1) l2.toNatClampNeg))] (some (vI r1)) c (MRc nb db by_ rs) mi ml mi ml ∧ ((r1 ≤ (mi nb 3) → (Go m_w_blinds 13 [some (vR 10 0 1), some (vI (l1 + nI 1)), some (vI (l2 + nI 1))] [] rv c (MRc nb db by_ rs) mi ml mi' ml')) ∧ (¬ r1 ≤ (mi nb 3) → (Fin (some (vI l1)) mi ml rv mi' ml')))))) ∧ ((((mi nb 7) >>> (l2 &&& 31)) &&& (nI 1)) = (nI 1) → (Go m_w_blinds 13 [some (vR 10 0 1), some (vI l1), some (vI (l2 + nI 1))] [] rv c (MRc nb db by_ rs) mi ml mi' ml'))))) :
    Go m_w_blinds 13 [some (vR 10 0 1), some (vI l1), some (vI l2)] [] rv c (MRc nb db by_ rs) mi ml mi' ml' := by
  rcases hb with ⟨rfl, rfl⟩ | ⟨rfl, rfl⟩
  all_goals
    intro Q hQ
    refine at_wq inlT 400 rfl ?_
    refine ⟨fun g => ?_, fun g => ?_⟩
    · have h := h.1 (g)
      exact h.use hQ
    · have h := h.2 (g)
      refine ⟨fun g => ?_, fun g => ?_⟩
      · have h := h.1 (g)
        refine ⟨Or.inl rfl, ?_⟩
        refine ⟨fun g => absurd g (by decide), fun _ => ?_⟩
        refine ⟨h.1, ?_⟩
        have h := h.2
        obtain ⟨r1, hR, h⟩ := h
        refine ⟨0, 0, Nat.zero_le _, Nat.zero_le _, hR _ ?_⟩
        refine ⟨fun g => ?_, fun g => ?_⟩
        · have h := h.1 (g)
          exact h Q hQ
        · have h := h.2 (g)
          exact h.use hQ
      · have h := h.2 (g)
        refine ⟨Or.inr rfl, ?_⟩
        refine ⟨fun _ => ?_, fun g => absurd g (by decide)⟩
        exact h Q hQ
theorem g_w_reading_0 {nb db : Nat} {by_ rs : RX} {c : Nat} {mi mi' : MI} {ml ml' : ML} {rv : Option AV} {a0 : Int32} (hb : nb = 43 ∧ db = 5 ∨ nb = 5 ∧ db = 43)
    (h : ∃ (r1 : Int32) (mi1 : MI) (ml1 : ML), Ret m_w_haveOne [(vR 10 0 1), (vI a0)] (some (vI r1)) c (MRc nb db by_ rs) mi ml mi1 ml1 ∧ ((r1 = 0 → (Fin (some (vI (-(nI 2147483648)))) mi1 ml1 rv mi' ml')) ∧ (¬ r1 = 0 → (((mi1 11 3) = 0 → (Fin (some (vI (-(nI 2147483648)))) (u2 mi1 1 9 (nI 5)) ml1 rv mi' ml')) ∧ (¬ (mi1 11 3) = 0 → ((¬ (((mi1 nb 7) >>> (a0 &&& 31)) &&& (nI 1)) = (nI 1) → (vp_in a0 31 ∧ (Fin (some (vI (mi1 14 a0.toNatClampNeg))) (u2 mi1 1 9 (nI 0)) ml1 rv mi' ml'))) ∧ ((((mi1 nb 7) >>> (a0 &&& 31)) &&& (nI 1)) = (nI 1) → (Fin (some (vI (-(nI 2147483648)))) (u2 mi1 1 9 (nI 5)) ml1 rv mi' ml')))))))) :
    Ret m_w_reading [(vR 10 0 1), (vI a0)] rv c (MRc nb db by_ rs) mi ml mi' ml' := by
  rcases hb with ⟨rfl, rfl⟩ | ⟨rfl, rfl⟩
  all_goals
    intro Q hQ
    refine ok_wq inlT 400 rfl rfl ?_
    obtain ⟨r1, mi1, ml1, hR, h⟩ := h
    refine ⟨0, 0, Nat.zero_le _, Nat.zero_le _, hR _ ?_⟩
    refine ⟨fun g => ?_, fun g => ?_⟩
    · have h := h.1 (g)
      exact h.use hQ
    · have h := h.2 (g)
      refine ⟨fun g => ?_, fun g => ?_⟩
      · have h := h.1 (g)
        refine ⟨fun _ => ?_, fun g => absurd g (by decide)⟩
        refine ⟨Or.inl rfl, ?_⟩
        refine ⟨fun g => absurd g (by decide), fun _ => ?_⟩
        exact h.use hQ
      · have h := h.2 (g)
        refine ⟨fun g => ?_, fun g => ?_⟩
        · have h := h.1 (g)
          refine ⟨Or.inl rfl, ?_⟩
          refine ⟨fun g => absurd g (by decide), fun _ => ?_⟩
          refine ⟨fun g => absurd g (by decide), fun _ => ?_⟩
          refine ⟨Or.inr rfl, ?_⟩
          refine ⟨fun _ => ?_, fun g => absurd g (by decide)⟩
          refine ⟨h.1, ?_⟩
          have h := h.2
          exact h.use hQ
        · have h := h.2 (g)
          refine ⟨Or.inr rfl, ?_⟩
          refine ⟨fun _ => ?_, fun g => absurd g (by decide)⟩
          refine ⟨fun _ => ?_, fun g => absurd g (by decide)⟩
          refine ⟨Or.inl rfl, ?_⟩
          refine ⟨fun g => absurd g (by decide), fun _ => ?_⟩
          exact h.use hQ
theorem g_w_net_0 {nb db : Nat} {by_ rs : RX} {c : Nat} {mi mi' : MI} {ml ml' : ML} {rv : Option AV} {a0 : Int32} (hb : nb = 43 ∧ db = 5 ∨ nb = 5 ∧ db = 43)
    (h : ∃ (r1 : Int32) (mi1 : MI) (ml1 : ML), Ret m_w_haveOne [(vR 10 0 1), (vI a0)] (some (vI r1)) c (MRc nb db by_ rs) mi ml mi1 ml1 ∧ ((¬ r1 = 0 → (((mi1 11 3) = 0 → (Fin (some (vI (-(nI 2147483648)))) (u2 mi1 1 9 (nI 5)) ml1 rv mi' ml')) ∧ (¬ (mi1 11 3) = 0 → ((¬ (((mi1 nb 7) >>> (a0 &&& 31)) &&& (nI 1)) = (nI 1) → (vp_in a0 31 ∧ (Fin (some (vI (mi1 15 a0.toNatClampNeg))) (u2 mi1 1 9 (nI 0)) ml1 rv mi' ml'))) ∧ ((((mi1 nb 7) >>> (a0 &&& 31)) &&& (nI 1)) = (nI 1) → (∃ (r2 : Int32), Ret m_bn_lostCount [(vR 13 0 nb)] (some (vI r2)) c (MRc nb db by_ rs) mi1 ml1 mi1 ml1 ∧ ((¬ r2 = (nI 1) → (Fin (some (vI (-(nI 2147483648)))) (u2 mi1 1 9 (nI 5)) ml1 rv mi' ml')) ∧ (r2 = (nI 1) → (vp_in a0 31 ∧ (Fin (some (vI (mi1 15 a0.toNatClampNeg))) (u2 mi1 1 9 (nI 0)) ml1 rv mi' ml')))))))))) ∧ (r1 = 0 → (Fin (some (vI (-(nI 2147483648)))) mi1 ml1 rv mi' ml')))) :
    Ret m_w_net [(vR 10 0 1), (vI a0)] rv c (MRc nb db by_ rs) mi ml mi' ml' := by
  rcases hb with ⟨rfl, rfl⟩ | ⟨rfl, rfl⟩
  all_goals
    intro Q hQ
    refine ok_wq inlT 400 rfl rfl ?_
    obtain ⟨r1, mi1, ml1, hR, h⟩ := h
    refine ⟨0, 0, Nat.zero_le _, Nat.zero_le _, hR _ ?_⟩
    refine ⟨fun g => ?_, fun g => ?_⟩
    · have h := h.1 (g)
      refine ⟨fun g => ?_, fun g => ?_⟩
      · have h := h.1 (g)
        refine ⟨fun _ => ?_, fun g => absurd g (by decide)⟩
        refine ⟨fun _ => ?_, fun g => absurd g (by decide)⟩
        refine ⟨Or.inl rfl, ?_⟩
        refine ⟨fun _ => ?_, fun g => absurd g (by decide)⟩
        exact h.use hQ
      · have h := h.2 (g)
        refine ⟨fun g => ?_, fun g => ?_⟩
        · have h := h.1 (g)
          refine ⟨Or.inl rfl, ?_⟩
          refine ⟨fun _ => ?_, fun g => absurd g (by decide)⟩
          refine ⟨fun g => absurd g (by decide), fun _ => ?_⟩
          refine ⟨fun g => absurd g (by decide), fun _ => ?_⟩
          refine ⟨Or.inr rfl, ?_⟩
          refine ⟨fun g => absurd g (by decide), fun _ => ?_⟩
          refine ⟨h.1, ?_⟩
          have h := h.2
          exact h.use hQ
        · have h := h.2 (g)
          refine ⟨Or.inr rfl, ?_⟩
          refine ⟨fun g => absurd g (by decide), fun _ => ?_⟩
          obtain ⟨r2, hR, h⟩ := h
          refine ⟨0, 0, Nat.zero_le _, Nat.zero_le _, hR _ ?_⟩
          refine ⟨fun g => ?_, fun g => ?_⟩
          · have h := h.1 (g)
            refine ⟨fun _ => ?_, fun g => absurd g (by decide)⟩
            refine ⟨fun _ => ?_, fun g => absurd g (by decide)⟩
            refine ⟨Or.inl rfl, ?_⟩
            refine ⟨fun _ => ?_, fun g => absurd g (by decide)⟩
            exact h.use hQ
          · have h := h.2 (g)
            refine ⟨fun g => absurd g (by decide), fun _ => ?_⟩
            refine ⟨fun g => absurd g (by decide), fun _ => ?_⟩
            refine ⟨Or.inr rfl, ?_⟩
            refine ⟨fun g => absurd g (by decide), fun _ => ?_⟩
            refine ⟨h.1, ?_⟩
            have h := h.2
            exact h.use hQ
    · have h := h.2 (g)
      exact h.use hQ
theorem g_w_back_0 {nb db : Nat} {by_ rs : RX} {c : Nat} {mi mi' : MI} {ml ml' : ML} {rv : Option AV} {a0 : Int32} {a1 : Int32} (hb : nb = 43 ∧ db = 5 ∨ nb = 5 ∧ db = 43)
    (h : ∃ (r1 : Int32) (mi1 : MI) (ml1 : ML), Ret m_w_haveBackOf [(vR 10 0 1), (vI a0)] (some (vI r1)) c (MRc nb db by_ rs) mi ml mi1 ml1 ∧ ((¬ r1 = 0 → (vp_in a0 31 ∧ (∃ (r2 : Int64), Ret m_ra_part [(vL (ml1 16 a0.toNatClampNeg)), (vL (((mi1 nb 0) + (nI 1)).toInt64)), (vI a1)] (some (vL r2)) c (MRc nb db by_ rs) mi1 ml1 mi1 ml1 ∧ (Fin (some (vL r2)) mi1 ml1 rv mi' ml')))) ∧ (r1 = 0 → (Fin (some (vL (-(lN 9223372036854775808)))) mi1 ml1 rv mi' ml')))) :
    Ret m_w_back [(vR 10 0 1), (vI a0), (vI a1)] rv c (MRc nb db by_ rs) mi ml mi' ml' := by
  rcases hb with ⟨rfl, rfl⟩ | ⟨rfl, rfl⟩
  all_goals
    intro Q hQ
    refine ok_wq inlT 400 rfl rfl ?_
    obtain ⟨r1, mi1, ml1, hR, h⟩ := h
    refine ⟨0, 0, Nat.zero_le _, Nat.zero_le _, hR _ ?_⟩
    refine ⟨fun g => ?_, fun g => ?_⟩
    · have h := h.1 (g)
      refine ⟨h.1, ?_⟩
      have h := h.2
      obtain ⟨r2, hR, h⟩ := h
      refine ⟨0, 0, Nat.zero_le _, Nat.zero_le _, hR _ ?_⟩
      exact h.use hQ
    · have h := h.2 (g)
      exact h.use hQ
theorem g_w_odds_0 {nb db : Nat} {by_ rs : RX} {c : Nat} {mi mi' : MI} {ml ml' : ML} {rv : Option AV} 
    (h : ∃ (r1 : Int32) (mi1 : MI) (ml1 : ML), Ret m_w_haveBacks [(vR 10 0 1)] (some (vI r1)) c (MRc nb db by_ rs) mi ml mi1 ml1 ∧ ((¬ r1 = 0 → (Go m_w_odds 13 [some (vR 10 0 1), some (vI (nI 0)), some (vI (nI 0))] [] rv c (MRc nb db by_ rs) mi1 ml1 mi' ml')) ∧ (r1 = 0 → (Fin (some (vI (-(nI 1)))) mi1 ml1 rv mi' ml')))) :
    Ret m_w_odds [(vR 10 0 1)] rv c (MRc nb db by_ rs) mi ml mi' ml' := by
  intro Q hQ
  refine ok_wq inlT 400 rfl rfl ?_
  obtain ⟨r1, mi1, ml1, hR, h⟩ := h
  refine ⟨0, 0, Nat.zero_le _, Nat.zero_le _, hR _ ?_⟩
  refine ⟨fun g => ?_, fun g => ?_⟩
  · have h := h.1 (g)
    exact h Q hQ
  · have h := h.2 (g)
    exact h.use hQ
theorem g_w_odds_13 {nb db : Nat} {by_ rs : RX} {c : Nat} {mi mi' : MI} {ml ml' : ML} {rv : Option AV} {l1 : Int32} {l2 : Int32} (hb : nb = 43 ∧ db = 5 ∨ nb = 5 ∧ db = 43)
    (h : ((mi nb 0) ≤ l2 → (Fin (some (vI l1)) mi ml rv mi' ml')) ∧ (¬ (mi nb 0) ≤ l2 → (vp_in l2 31 ∧ (((ml 16 l2.toNatClampNeg) < (lN 0) → (Go m_w_odds 13 [some (vR 10 0 1), some (vI (l1 ||| ((nI 1) <<< (l2 &&& 31)))), some (vI (l2 + nI 1))] [] rv c (MRc nb db by_ rs) mi ml mi' ml')) ∧ (¬ (ml 16 l2.toNatClampNeg) < (lN 0) → (vp_in l2 31 ∧ (((((mi nb 0) + (nI 1)).toInt64) ≤ (lN 0) → (Go m_w_odds 13 [some (vR 10 0 1), some (vI (l1 ||| ((nI 1) <<< (l2 &&& 31)))), some (vI (l2 + nI 1))] [] rv c (MRc nb db by_ rs) mi ml mi' ml')) ∧ (¬ (((mi nb 0) + (nI 1)).toInt64) ≤ (lN 0) → (¬ (((mi nb 0) + (nI 1)).toInt64) = 0 ∧ ((¬ (rmL (ml 16 l2.toNatClampNeg) (((mi nb 0) + (nI 1)).toInt64)) = (lN 0) → (Go m_w_odds 13 [some (vR 10 0 1), some (vI (l1 ||| ((nI 1) <<< (l2 &&& 31)))), some (vI (l2 + nI 1))] [] rv c (MRc nb db by_ rs) mi ml mi' ml')) ∧ ((rmL (ml 16 l2.toNatClampNeg) (((mi nb 0) + (nI 1)).toInt64)) = (lN 0) → (Go m_w_odds 13 [some (vR 10 0 1), some (vI l1), some (vI (l2 + nI 1))] [] rv c (MRc nb db by_ rs) mi ml mi' ml')))))))))))) :
    Go m_w_odds 13 [some (vR 10 0 1), some (vI l1), some (vI l2)] [] rv c (MRc nb db by_ rs) mi ml mi' ml' := by
  rcases hb with ⟨rfl, rfl⟩ | ⟨rfl, rfl⟩
  all_goals
    intro Q hQ
    refine at_wq inlT 400 rfl ?_
    refine ⟨fun g => ?_, fun g => ?_⟩
    · have h := h.1 (g)
      exact h.use hQ
    · have h := h.2 (g)
      refine ⟨h.1, ?_⟩
      have h := h.2
      refine ⟨fun g => ?_, fun g => ?_⟩
      · have h := h.1 ((lgc_lt _ _).mp g)
        exact h Q hQ
      · have h := h.2 (fun z => g ((lgc_lt _ _).mpr z))
        refine ⟨h.1, ?_⟩
        have h := h.2
        refine ⟨fun g => ?_, fun g => ?_⟩
        · have h := h.1 ((lgc_le _ _).mp g)
          refine ⟨Or.inl rfl, ?_⟩
          refine ⟨fun g => absurd g (by decide), fun _ => ?_⟩
          exact h Q hQ
        · have h := h.2 (fun z => g ((lgc_le _ _).mpr z))
          refine ⟨h.1, ?_⟩
          have h := h.2
          refine ⟨fun g => ?_, fun g => ?_⟩
          · have h := h.1 (fun z => g ((lgc_eq _ _).mpr z))
            refine ⟨Or.inl rfl, ?_⟩
            refine ⟨fun g => absurd g (by decide), fun _ => ?_⟩
            exact h Q hQ
          · have h := h.2 ((lgc_eq _ _).mp g)
            refine ⟨Or.inr rfl, ?_⟩
            refine ⟨fun _ => ?_, fun g => absurd g (by decide)⟩
            exact h Q hQ
theorem g_w_more_0 {nb db : Nat} {by_ rs : RX} {c : Nat} {mi mi' : MI} {ml ml' : ML} {rv : Option AV} {a0 : Int32} (hb : nb = 43 ∧ db = 5 ∨ nb = 5 ∧ db = 43)
    (h : ∃ (r1 : Int32) (mi1 : MI) (ml1 : ML), Ret m_w_haveBacks [(vR 10 0 1)] (some (vI r1)) c (MRc nb db by_ rs) mi ml mi1 ml1 ∧ ((¬ r1 = 0 → (∃ (r2 : Int32), Ret m_bn_monitor [(vR 13 0 nb)] (some (vI r2)) c (MRc nb db by_ rs) mi1 ml1 mi1 ml1 ∧ (Go m_w_more 32 [some (vR 10 0 1), some (vI a0), some (vL ((-r2.toInt64) * (((mi1 nb 0) + (nI 1)).toInt64))), none, some (vI (nI 0))] [] rv c (MRc nb db by_ rs) mi1 ml1 mi' ml'))) ∧ (r1 = 0 → (Fin (some (vL (-(lN 9223372036854775808)))) mi1 ml1 rv mi' ml')))) :
    Ret m_w_more [(vR 10 0 1), (vI a0)] rv c (MRc nb db by_ rs) mi ml mi' ml' := by
  rcases hb with ⟨rfl, rfl⟩ | ⟨rfl, rfl⟩
  all_goals
    intro Q hQ
    refine ok_wq inlT 400 rfl rfl ?_
    obtain ⟨r1, mi1, ml1, hR, h⟩ := h
    refine ⟨0, 0, Nat.zero_le _, Nat.zero_le _, hR _ ?_⟩
    refine ⟨fun g => ?_, fun g => ?_⟩
    · have h := h.1 (g)
      obtain ⟨r2, hR, h⟩ := h
      refine ⟨0, 0, Nat.zero_le _, Nat.zero_le _, hR _ ?_⟩
      exact h Q hQ
    · have h := h.2 (g)
      exact h.use hQ
theorem g_w_more_32 {nb db : Nat} {by_ rs : RX} {c : Nat} {mi mi' : MI} {ml ml' : ML} {rv : Option AV} {l1 : Int32} {l2 : Int64} {l4 : Int32} (hb : nb = 43 ∧ db = 5 ∨ nb = 5 ∧ db = 43)
    (h : ((mi nb 0) ≤ l4 → (∃ (r1 : Int64), Ret m_ra_part [(vL l2), (vL (((mi nb 0) + (nI 1)).toInt64)), (vI l1)] (some (vL r1)) c (MRc nb db by_ rs) mi ml mi ml ∧ (Fin (some (vL r1)) mi ml rv mi' ml'))) ∧ (¬ (mi nb 0) ≤ l4 → (vp_in l4 31 ∧ (Go m_w_more 32 [some (vR 10 0 1), some (vI l1), some (vL (l2 + (ml 16 l4.toNatClampNeg))), none, some (vI (l4 + nI 1))] [] rv c (MRc nb db by_ rs) mi ml mi' ml')))) :
    Go m_w_more 32 [some (vR 10 0 1), some (vI l1), some (vL l2), none, some (vI l4)] [] rv c (MRc nb db by_ rs) mi ml mi' ml' := by
  rcases hb with ⟨rfl, rfl⟩ | ⟨rfl, rfl⟩
  all_goals
    intro Q hQ
    refine at_wq inlT 400 rfl ?_
    refine ⟨fun g => ?_, fun g => ?_⟩
    · have h := h.1 (g)
      obtain ⟨r1, hR, h⟩ := h
      refine ⟨0, 0, Nat.zero_le _, Nat.zero_le _, hR _ ?_⟩
      exact h.use hQ
    · have h := h.2 (g)
      refine ⟨h.1, ?_⟩
      have h := h.2
      exact h Q hQ
theorem g_w_error_0 {nb db : Nat} {by_ rs : RX} {c : Nat} {mi mi' : MI} {ml ml' : ML} {rv : Option AV} {a0 : Int32} {a1 : Int32} (hb : nb = 43 ∧ db = 5 ∨ nb = 5 ∧ db = 43)
    (h : ∃ (r1 : Int32) (mi1 : MI) (ml1 : ML), Ret m_w_haveBackOf [(vR 10 0 1), (vI a0)] (some (vI r1)) c (MRc nb db by_ rs) mi ml mi1 ml1 ∧ ((¬ r1 = 0 → (∃ (r2 : Int64), Ret m_sg_errorOf [(vR 14 0 11), (vR 13 0 nb), (vI a0)] (some (vL r2)) c (MRc nb db by_ rs) mi1 ml1 mi1 ml1 ∧ (∃ (r3 : Int64), Ret m_ra_part [(vL r2), (vL (((mi1 nb 0) + (nI 1)).toInt64)), (vI a1)] (some (vL r3)) c (MRc nb db by_ rs) mi1 ml1 mi1 ml1 ∧ (Fin (some (vL r3)) mi1 ml1 rv mi' ml')))) ∧ (r1 = 0 → (Fin (some (vL (-(lN 9223372036854775808)))) mi1 ml1 rv mi' ml')))) :
    Ret m_w_error [(vR 10 0 1), (vI a0), (vI a1)] rv c (MRc nb db by_ rs) mi ml mi' ml' := by
  rcases hb with ⟨rfl, rfl⟩ | ⟨rfl, rfl⟩
  all_goals
    intro Q hQ
    refine ok_wq inlT 400 rfl rfl ?_
    obtain ⟨r1, mi1, ml1, hR, h⟩ := h
    refine ⟨0, 0, Nat.zero_le _, Nat.zero_le _, hR _ ?_⟩
    refine ⟨fun g => ?_, fun g => ?_⟩
    · have h := h.1 (g)
      obtain ⟨r2, hR, h⟩ := h
      refine ⟨0, 0, Nat.zero_le _, Nat.zero_le _, hR _ ?_⟩
      obtain ⟨r3, hR, h⟩ := h
      refine ⟨0, 0, Nat.zero_le _, Nat.zero_le _, hR _ ?_⟩
      exact h.use hQ
    · have h := h.2 (g)
      exact h.use hQ
theorem g_w_errors_0 {nb db : Nat} {by_ rs : RX} {c : Nat} {mi mi' : MI} {ml ml' : ML} {rv : Option AV} {a0 : Int32}
    (h : ∃ (r1 : Int32) (mi1 : MI) (ml1 : ML), Ret m_w_haveBacks [(vR 10 0 1)] (some (vI r1)) c (MRc nb db by_ rs) mi ml mi1 ml1 ∧ ((¬ r1 = 0 → (Go m_w_errors 16 [some (vR 10 0 1), some (vI a0), some (vL (lN 0)), none, some (vI (nI 0)), none, none] [] rv c (MRc nb db by_ rs) mi1 ml1 mi' ml')) ∧ (r1 = 0 → (Fin (some (vL (-(lN 9223372036854775808)))) mi1 ml1 rv mi' ml')))) :
    Ret m_w_errors [(vR 10 0 1), (vI a0)] rv c (MRc nb db by_ rs) mi ml mi' ml' := by
  intro Q hQ
  refine ok_wq inlT 400 rfl rfl ?_
  obtain ⟨r1, mi1, ml1, hR, h⟩ := h
  refine ⟨0, 0, Nat.zero_le _, Nat.zero_le _, hR _ ?_⟩
  refine ⟨fun g => ?_, fun g => ?_⟩
  · have h := h.1 (g)
    exact h Q hQ
  · have h := h.2 (g)
    exact h.use hQ
theorem g_w_errors_16 {nb db : Nat} {by_ rs : RX} {c : Nat} {mi mi' : MI} {ml ml' : ML} {rv : Option AV} {l1 : Int32} {l2 : Int64} {l4 : Int32} (hb : nb = 43 ∧ db = 5 ∨ nb = 5 ∧ db = 43)
    (h : ((mi nb 0) ≤ l4 → (∃ (r1 : Int64), Ret m_ra_part [(vL l2), (vL ((((mi nb 0) + (nI 1)).toInt64) * (((mi nb 0) + (nI 1)).toInt64))), (vI l1)] (some (vL r1)) c (MRc nb db by_ rs) mi ml mi ml ∧ (Fin (some (vL r1)) mi ml rv mi' ml'))) ∧ (¬ (mi nb 0) ≤ l4 → (∃ (r2 : Int64), Ret m_sg_errorOf [(vR 14 0 11), (vR 13 0 nb), (vI l4)] (some (vL r2)) c (MRc nb db by_ rs) mi ml mi ml ∧ (Go m_w_errors 16 [some (vR 10 0 1), some (vI l1), some (vL (l2 + (r2 * r2))), none, some (vI (l4 + nI 1)), none, none] [] rv c (MRc nb db by_ rs) mi ml mi' ml')))) :
    Go m_w_errors 16 [some (vR 10 0 1), some (vI l1), some (vL l2), none, some (vI l4), none, none] [] rv c (MRc nb db by_ rs) mi ml mi' ml' := by
  rcases hb with ⟨rfl, rfl⟩ | ⟨rfl, rfl⟩
  all_goals
    intro Q hQ
    refine at_wq inlT 400 rfl ?_
    refine ⟨fun g => ?_, fun g => ?_⟩
    · have h := h.1 (g)
      obtain ⟨r1, hR, h⟩ := h
      refine ⟨0, 0, Nat.zero_le _, Nat.zero_le _, hR _ ?_⟩
      exact h.use hQ
    · have h := h.2 (g)
      obtain ⟨r2, hR, h⟩ := h
      refine ⟨0, 0, Nat.zero_le _, Nat.zero_le _, hR _ ?_⟩
      exact At.wk (h Q hQ) ⟨rfl, rfl, rfl, rfl, trivial⟩
theorem g_w_worst_0 {nb db : Nat} {by_ rs : RX} {c : Nat} {mi mi' : MI} {ml ml' : ML} {rv : Option AV} 
    (h : ∃ (r1 : Int32) (mi1 : MI) (ml1 : ML), Ret m_w_haveBacks [(vR 10 0 1)] (some (vI r1)) c (MRc nb db by_ rs) mi ml mi1 ml1 ∧ ((¬ r1 = 0 → (Go m_w_worst 18 [some (vR 10 0 1), some (vI (nI 0)), some (vL (-(lN 1))), none, some (vI (nI 0)), none, none] [] rv c (MRc nb db by_ rs) mi1 ml1 mi' ml')) ∧ (r1 = 0 → (Fin (some (vI (-(nI 1)))) mi1 ml1 rv mi' ml')))) :
    Ret m_w_worst [(vR 10 0 1)] rv c (MRc nb db by_ rs) mi ml mi' ml' := by
  intro Q hQ
  refine ok_wq inlT 400 rfl rfl ?_
  obtain ⟨r1, mi1, ml1, hR, h⟩ := h
  refine ⟨0, 0, Nat.zero_le _, Nat.zero_le _, hR _ ?_⟩
  refine ⟨fun g => ?_, fun g => ?_⟩
  · have h := h.1 (g)
    exact h Q hQ
  · have h := h.2 (g)
    exact h.use hQ
theorem g_w_worst_18 {nb db : Nat} {by_ rs : RX} {c : Nat} {mi mi' : MI} {ml ml' : ML} {rv : Option AV} {l1 : Int32} {l2 : Int64} {l4 : Int32} (hb : nb = 43 ∧ db = 5 ∨ nb = 5 ∧ db = 43)
    (h : ((mi nb 0) ≤ l4 → (Fin (some (vI l1)) mi ml rv mi' ml')) ∧ (¬ (mi nb 0) ≤ l4 → (∃ (r1 : Int64), Ret m_sg_errorOf [(vR 14 0 11), (vR 13 0 nb), (vI l4)] (some (vL r1)) c (MRc nb db by_ rs) mi ml mi ml ∧ (((if 0 < r1 then r1 else -r1) ≤ l2 → (Go m_w_worst 18 [some (vR 10 0 1), some (vI l1), some (vL l2), none, some (vI (l4 + nI 1)), none, none] [] rv c (MRc nb db by_ rs) mi ml mi' ml')) ∧ (¬ (if 0 < r1 then r1 else -r1) ≤ l2 → (Go m_w_worst 18 [some (vR 10 0 1), some (vI l4), some (vL (if 0 < r1 then r1 else -r1)), none, some (vI (l4 + nI 1)), none, none] [] rv c (MRc nb db by_ rs) mi ml mi' ml')))))) :
    Go m_w_worst 18 [some (vR 10 0 1), some (vI l1), some (vL l2), none, some (vI l4), none, none] [] rv c (MRc nb db by_ rs) mi ml mi' ml' := by
  rcases hb with ⟨rfl, rfl⟩ | ⟨rfl, rfl⟩
  all_goals
    intro Q hQ
    refine at_wq inlT 400 rfl ?_
    refine ⟨fun g => ?_, fun g => ?_⟩
    · have h := h.1 (g)
      exact h.use hQ
    · have h := h.2 (g)
      obtain ⟨r1, hR, h⟩ := h
      refine ⟨0, 0, Nat.zero_le _, Nat.zero_le _, hR _ ?_⟩
      refine ⟨fun g => ?_, fun g => ?_⟩
      · have h := h.1 ((lgc_le _ _).mp g)
        exact At.wk (h Q hQ) ⟨rfl, rfl, rfl, rfl, trivial⟩
      · have h := h.2 (fun z => g ((lgc_le _ _).mpr z))
        exact At.wk (h Q hQ) ⟨rfl, rfl, rfl, rfl, trivial⟩
theorem g_w_share_0 {nb db : Nat} {by_ rs : RX} {c : Nat} {mi mi' : MI} {ml ml' : ML} {rv : Option AV} {a0 : Int32} (hb : nb = 43 ∧ db = 5 ∨ nb = 5 ∧ db = 43)
    (h : ((mi 1 8) = 0 → (Fin (some (vL (-(lN 1)))) (u2 mi 1 9 (nI 1)) ml rv mi' ml')) ∧ (¬ (mi 1 8) = 0 → (∃ (r1 : Int64), Ret m_ra_part [(vL ((lN 4) * ((mi nb 0).toInt64))), (vL ((((mi nb 0) + (nI 1)).toInt64) * (((mi nb 0) + (nI 1)).toInt64))), (vI a0)] (some (vL r1)) c (MRc nb db by_ rs) (u2 mi 1 9 (nI 0)) ml (u2 mi 1 9 (nI 0)) ml ∧ (Fin (some (vL r1)) (u2 mi 1 9 (nI 0)) ml rv mi' ml')))) :
    Ret m_w_share [(vR 10 0 1), (vI a0)] rv c (MRc nb db by_ rs) mi ml mi' ml' := by
  rcases hb with ⟨rfl, rfl⟩ | ⟨rfl, rfl⟩
  all_goals
    intro Q hQ
    refine ok_wq inlT 400 rfl rfl ?_
    refine ⟨fun g => ?_, fun g => ?_⟩
    · have h := h.1 (g)
      refine ⟨fun _ => ?_, fun g => absurd g (by decide)⟩
      refine ⟨Or.inl rfl, ?_⟩
      refine ⟨Or.inl rfl, ?_⟩
      refine ⟨fun g => absurd g (by decide), fun _ => ?_⟩
      exact h.use hQ
    · have h := h.2 (g)
      refine ⟨fun g => absurd g (by decide), fun _ => ?_⟩
      refine ⟨Or.inr rfl, ?_⟩
      refine ⟨Or.inr rfl, ?_⟩
      refine ⟨fun _ => ?_, fun g => absurd g (by decide)⟩
      obtain ⟨r1, hR, h⟩ := h
      refine ⟨0, 0, Nat.zero_le _, Nat.zero_le _, hR _ ?_⟩
      exact h.use hQ
theorem g_w_grains_0 {nb db : Nat} {by_ rs : RX} {c : Nat} {mi mi' : MI} {ml ml' : ML} {rv : Option AV} {a0 : Int32} (hb : nb = 43 ∧ db = 5 ∨ nb = 5 ∧ db = 43)
    (h : ∃ (r1 : Int32) (mi1 : MI) (ml1 : ML), Ret m_w_haveBacks [(vR 10 0 1)] (some (vI r1)) c (MRc nb db by_ rs) mi ml mi1 ml1 ∧ ((¬ r1 = 0 → (∃ (r2 : Int64), Ret m_ra_part [(vL ((lN 4) * (ml1 11 4))), (vL ((((mi1 nb 0) + (nI 1)).toInt64) * (((mi1 nb 0) + (nI 1)).toInt64))), (vI a0)] (some (vL r2)) c (MRc nb db by_ rs) mi1 ml1 mi1 ml1 ∧ (Fin (some (vL r2)) mi1 ml1 rv mi' ml'))) ∧ (r1 = 0 → (Fin (some (vL (-(lN 9223372036854775808)))) mi1 ml1 rv mi' ml')))) :
    Ret m_w_grains [(vR 10 0 1), (vI a0)] rv c (MRc nb db by_ rs) mi ml mi' ml' := by
  rcases hb with ⟨rfl, rfl⟩ | ⟨rfl, rfl⟩
  all_goals
    intro Q hQ
    refine ok_wq inlT 400 rfl rfl ?_
    obtain ⟨r1, mi1, ml1, hR, h⟩ := h
    refine ⟨0, 0, Nat.zero_le _, Nat.zero_le _, hR _ ?_⟩
    refine ⟨fun g => ?_, fun g => ?_⟩
    · have h := h.1 (g)
      obtain ⟨r2, hR, h⟩ := h
      refine ⟨0, 0, Nat.zero_le _, Nat.zero_le _, hR _ ?_⟩
      exact h.use hQ
    · have h := h.2 (g)
      exact h.use hQ
theorem g_w_better_0 {nb db : Nat} {by_ rs : RX} {c : Nat} {mi mi' : MI} {ml ml' : ML} {rv : Option AV} 
    (h : ∃ (r1 : Int32) (mi1 : MI) (ml1 : ML), Ret m_w_haveBacks [(vR 10 0 1)] (some (vI r1)) c (MRc nb db by_ rs) mi ml mi1 ml1 ∧ ((¬ r1 = 0 → (Go m_w_better 13 [some (vR 10 0 1), some (vI (nI 0)), some (vI (nI 0))] [] rv c (MRc nb db by_ rs) mi1 ml1 mi' ml')) ∧ (r1 = 0 → (Fin (some (vI (-(nI 1)))) mi1 ml1 rv mi' ml')))) :
    Ret m_w_better [(vR 10 0 1)] rv c (MRc nb db by_ rs) mi ml mi' ml' := by
  intro Q hQ
  refine ok_wq inlT 400 rfl rfl ?_
  obtain ⟨r1, mi1, ml1, hR, h⟩ := h
  refine ⟨0, 0, Nat.zero_le _, Nat.zero_le _, hR _ ?_⟩
  refine ⟨fun g => ?_, fun g => ?_⟩
  · have h := h.1 (g)
    exact h Q hQ
  · have h := h.2 (g)
    exact h.use hQ
theorem g_w_better_13 {nb db : Nat} {by_ rs : RX} {c : Nat} {mi mi' : MI} {ml ml' : ML} {rv : Option AV} {l1 : Int32} {l2 : Int32} (hb : nb = 43 ∧ db = 5 ∨ nb = 5 ∧ db = 43)
    (h : ((mi nb 0) ≤ l2 → (Fin (some (vI l1)) mi ml rv mi' ml')) ∧ (¬ (mi nb 0) ≤ l2 → (vp_in l2 31 ∧ ((((ml 16 l2.toNatClampNeg) * (((mi nb 0) + (nI 1)).toInt64)) ≤ ((lN 4) * (ml 11 4)) → (Go m_w_better 13 [some (vR 10 0 1), some (vI l1), some (vI (l2 + nI 1))] [] rv c (MRc nb db by_ rs) mi ml mi' ml')) ∧ (¬ ((ml 16 l2.toNatClampNeg) * (((mi nb 0) + (nI 1)).toInt64)) ≤ ((lN 4) * (ml 11 4)) → (Go m_w_better 13 [some (vR 10 0 1), some (vI (l1 ||| ((nI 1) <<< (l2 &&& 31)))), some (vI (l2 + nI 1))] [] rv c (MRc nb db by_ rs) mi ml mi' ml')))))) :
    Go m_w_better 13 [some (vR 10 0 1), some (vI l1), some (vI l2)] [] rv c (MRc nb db by_ rs) mi ml mi' ml' := by
  rcases hb with ⟨rfl, rfl⟩ | ⟨rfl, rfl⟩
  all_goals
    intro Q hQ
    refine at_wq inlT 400 rfl ?_
    refine ⟨fun g => ?_, fun g => ?_⟩
    · have h := h.1 (g)
      exact h.use hQ
    · have h := h.2 (g)
      refine ⟨h.1, ?_⟩
      have h := h.2
      refine ⟨fun g => ?_, fun g => ?_⟩
      · have h := h.1 ((lgc_ge _ _).mp g)
        exact h Q hQ
      · have h := h.2 (fun z => g ((lgc_ge _ _).mpr z))
        exact h Q hQ
theorem g_w_alone_0 {nb db : Nat} {by_ rs : RX} {c : Nat} {mi mi' : MI} {ml ml' : ML} {rv : Option AV} {a0 : Int32} (hb : nb = 43 ∧ db = 5 ∨ nb = 5 ∧ db = 43)
    (h : ∃ (r1 : Int32) (mi1 : MI) (ml1 : ML), Ret m_w_haveOne [(vR 10 0 1), (vI a0)] (some (vI r1)) c (MRc nb db by_ rs) mi ml mi1 ml1 ∧ ((r1 = 0 → (Fin (some (vI (-(nI 2147483648)))) mi1 ml1 rv mi' ml')) ∧ (¬ r1 = 0 → (∃ (r2 : Int32), Ret m_bn_aloneOf [(vR 13 0 nb), (vI a0)] (some (vI r2)) c (MRc nb db by_ rs) mi1 ml1 mi1 ml1 ∧ (Fin (some (vI r2)) mi1 ml1 rv mi' ml'))))) :
    Ret m_w_alone [(vR 10 0 1), (vI a0)] rv c (MRc nb db by_ rs) mi ml mi' ml' := by
  rcases hb with ⟨rfl, rfl⟩ | ⟨rfl, rfl⟩
  all_goals
    intro Q hQ
    refine ok_wq inlT 400 rfl rfl ?_
    obtain ⟨r1, mi1, ml1, hR, h⟩ := h
    refine ⟨0, 0, Nat.zero_le _, Nat.zero_le _, hR _ ?_⟩
    refine ⟨fun g => ?_, fun g => ?_⟩
    · have h := h.1 (g)
      exact h.use hQ
    · have h := h.2 (g)
      obtain ⟨r2, hR, h⟩ := h
      refine ⟨0, 0, Nat.zero_le _, Nat.zero_le _, hR _ ?_⟩
      exact h.use hQ
theorem g_w_alones_0 {nb db : Nat} {by_ rs : RX} {c : Nat} {mi mi' : MI} {ml ml' : ML} {rv : Option AV} 
    (h : ((mi 1 8) = 0 → (Fin (some (vL (-(lN 1)))) (u2 mi 1 9 (nI 1)) ml rv mi' ml')) ∧ (¬ (mi 1 8) = 0 → (Go m_w_alones 15 [some (vR 10 0 1), some (vL (lN 0)), none, some (vI (nI 0)), none, none] [] rv c (MRc nb db by_ rs) (u2 mi 1 9 (nI 0)) ml mi' ml'))) :
    Ret m_w_alones [(vR 10 0 1)] rv c (MRc nb db by_ rs) mi ml mi' ml' := by
  intro Q hQ
  refine ok_wq inlT 400 rfl rfl ?_
  refine ⟨fun g => ?_, fun g => ?_⟩
  · have h := h.1 (g)
    refine ⟨fun _ => ?_, fun g => absurd g (by decide)⟩
    refine ⟨Or.inl rfl, ?_⟩
    refine ⟨Or.inl rfl, ?_⟩
    refine ⟨fun g => absurd g (by decide), fun _ => ?_⟩
    exact h.use hQ
  · have h := h.2 (g)
    refine ⟨fun g => absurd g (by decide), fun _ => ?_⟩
    refine ⟨Or.inr rfl, ?_⟩
    refine ⟨Or.inr rfl, ?_⟩
    refine ⟨fun _ => ?_, fun g => absurd g (by decide)⟩
    exact h Q hQ
theorem g_w_alones_15 {nb db : Nat} {by_ rs : RX} {c : Nat} {mi mi' : MI} {ml ml' : ML} {rv : Option AV} {l1 : Int64} {l3 : Int32} (hb : nb = 43 ∧ db = 5 ∨ nb = 5 ∧ db = 43)
    (h : ((mi nb 0) ≤ l3 → (Fin (some (vL l1)) mi ml rv mi' ml')) ∧ (¬ (mi nb 0) ≤ l3 → (∃ (r1 : Int32), Ret m_bn_aloneOf [(vR 13 0 nb), (vI l3)] (some (vI r1)) c (MRc nb db by_ rs) mi ml mi ml ∧ (vp_in l3 31 ∧ (Go m_w_alones 15 [some (vR 10 0 1), some (vL (l1 + (((r1 - (mi (nb + 2) l3.toNatClampNeg)).toInt64) * ((r1 - (mi (nb + 2) l3.toNatClampNeg)).toInt64)))), none, some (vI (l3 + nI 1)), none, none] [] rv c (MRc nb db by_ rs) mi ml mi' ml'))))) :
    Go m_w_alones 15 [some (vR 10 0 1), some (vL l1), none, some (vI l3), none, none] [] rv c (MRc nb db by_ rs) mi ml mi' ml' := by
  rcases hb with ⟨rfl, rfl⟩ | ⟨rfl, rfl⟩
  all_goals
    intro Q hQ
    refine at_wq inlT 400 rfl ?_
    refine ⟨fun g => ?_, fun g => ?_⟩
    · have h := h.1 (g)
      exact h.use hQ
    · have h := h.2 (g)
      obtain ⟨r1, hR, h⟩ := h
      refine ⟨0, 0, Nat.zero_le _, Nat.zero_le _, hR _ ?_⟩
      refine ⟨h.1, ?_⟩
      have h := h.2
      exact At.wk (h Q hQ) ⟨rfl, rfl, rfl, trivial⟩
theorem g_w_closer_0 {nb db : Nat} {by_ rs : RX} {c : Nat} {mi mi' : MI} {ml ml' : ML} {rv : Option AV} 
    (h : ∃ (r1 : Int32) (mi1 : MI) (ml1 : ML), Ret m_w_haveBacks [(vR 10 0 1)] (some (vI r1)) c (MRc nb db by_ rs) mi ml mi1 ml1 ∧ ((¬ r1 = 0 → (Go m_w_closer 13 [some (vR 10 0 1), some (vI (nI 0)), some (vI (nI 0)), none, none] [] rv c (MRc nb db by_ rs) mi1 ml1 mi' ml')) ∧ (r1 = 0 → (Fin (some (vI (-(nI 1)))) mi1 ml1 rv mi' ml')))) :
    Ret m_w_closer [(vR 10 0 1)] rv c (MRc nb db by_ rs) mi ml mi' ml' := by
  intro Q hQ
  refine ok_wq inlT 400 rfl rfl ?_
  obtain ⟨r1, mi1, ml1, hR, h⟩ := h
  refine ⟨0, 0, Nat.zero_le _, Nat.zero_le _, hR _ ?_⟩
  refine ⟨fun g => ?_, fun g => ?_⟩
  · have h := h.1 (g)
    exact h Q hQ
  · have h := h.2 (g)
    exact h.use hQ
theorem g_w_closer_13 {nb db : Nat} {by_ rs : RX} {c : Nat} {mi mi' : MI} {ml ml' : ML} {rv : Option AV} {l1 : Int32} {l2 : Int32} (hb : nb = 43 ∧ db = 5 ∨ nb = 5 ∧ db = 43)
    (h : ((mi nb 0) ≤ l2 → (Fin (some (vI l1)) mi ml rv mi' ml')) ∧ (¬ (mi nb 0) ≤ l2 → (∃ (r1 : Int32), Ret m_bn_aloneOf [(vR 13 0 nb), (vI l2)] (some (vI r1)) c (MRc nb db by_ rs) mi ml mi ml ∧ (vp_in l2 31 ∧ (∃ (r2 : Int64), Ret m_sg_errorOf [(vR 14 0 11), (vR 13 0 nb), (vI l2)] (some (vL r2)) c (MRc nb db by_ rs) mi ml mi ml ∧ ((((if 0 < (r1.toInt64 - ((mi (nb + 2) l2.toNatClampNeg).toInt64)) then (r1.toInt64 - ((mi (nb + 2) l2.toNatClampNeg).toInt64)) else -(r1.toInt64 - ((mi (nb + 2) l2.toNatClampNeg).toInt64))) * (((mi nb 0) + (nI 1)).toInt64)) ≤ (if 0 < r2 then r2 else -r2) → (Go m_w_closer 13 [some (vR 10 0 1), some (vI l1), some (vI (l2 + nI 1)), none, none] [] rv c (MRc nb db by_ rs) mi ml mi' ml')) ∧ (¬ ((if 0 < (r1.toInt64 - ((mi (nb + 2) l2.toNatClampNeg).toInt64)) then (r1.toInt64 - ((mi (nb + 2) l2.toNatClampNeg).toInt64)) else -(r1.toInt64 - ((mi (nb + 2) l2.toNatClampNeg).toInt64))) * (((mi nb 0) + (nI 1)).toInt64)) ≤ (if 0 < r2 then r2 else -r2) → (Go m_w_closer 13 [some (vR 10 0 1), some (vI (l1 ||| ((nI 1) <<< (l2 &&& 31)))), some (vI (l2 + nI 1)), none, none] [] rv c (MRc nb db by_ rs) mi ml mi' ml')))))))) :
    Go m_w_closer 13 [some (vR 10 0 1), some (vI l1), some (vI l2), none, none] [] rv c (MRc nb db by_ rs) mi ml mi' ml' := by
  rcases hb with ⟨rfl, rfl⟩ | ⟨rfl, rfl⟩
  all_goals
    intro Q hQ
    refine at_wq inlT 400 rfl ?_
    refine ⟨fun g => ?_, fun g => ?_⟩
    · have h := h.1 (g)
      exact h.use hQ
    · have h := h.2 (g)
      obtain ⟨r1, hR, h⟩ := h
      refine ⟨0, 0, Nat.zero_le _, Nat.zero_le _, hR _ ?_⟩
      refine ⟨h.1, ?_⟩
      have h := h.2
      obtain ⟨r2, hR, h⟩ := h
      refine ⟨0, 0, Nat.zero_le _, Nat.zero_le _, hR _ ?_⟩
      refine ⟨fun g => ?_, fun g => ?_⟩
      · have h := h.1 ((lgc_ge _ _).mp g)
        exact At.wk (h Q hQ) ⟨rfl, rfl, rfl, trivial⟩
      · have h := h.2 (fun z => g ((lgc_ge _ _).mpr z))
        exact At.wk (h Q hQ) ⟨rfl, rfl, rfl, trivial⟩
theorem g_w_suspects_0 {nb db : Nat} {by_ rs : RX} {c : Nat} {mi mi' : MI} {ml ml' : ML} {rv : Option AV}  (hb : nb = 43 ∧ db = 5 ∨ nb = 5 ∧ db = 43)
    (h : ∃ (r1 : Int32) (mi1 : MI) (ml1 : ML), Ret m_w_haveSuspects [(vR 10 0 1)] (some (vI r1)) c (MRc nb db by_ rs) mi ml mi1 ml1 ∧ ((r1 = 0 → (Fin (some (vI (-(nI 1)))) mi1 ml1 rv mi' ml')) ∧ (¬ r1 = 0 → (∃ (r2 : Int32) (mi2 : MI) (ml2 : ML), Ret m_su_count [(vR 15 0 17), (vR 13 0 nb), (vR 14 0 11)] (some (vI r2)) c (MRc nb db by_ rs) mi1 ml1 mi2 ml2 ∧ (Fin (some (vI r2)) mi2 ml2 rv mi' ml'))))) :
    Ret m_w_suspects [(vR 10 0 1)] rv c (MRc nb db by_ rs) mi ml mi' ml' := by
  rcases hb with ⟨rfl, rfl⟩ | ⟨rfl, rfl⟩
  all_goals
    intro Q hQ
    refine ok_wq inlT 400 rfl rfl ?_
    obtain ⟨r1, mi1, ml1, hR, h⟩ := h
    refine ⟨0, 0, Nat.zero_le _, Nat.zero_le _, hR _ ?_⟩
    refine ⟨fun g => ?_, fun g => ?_⟩
    · have h := h.1 (g)
      exact h.use hQ
    · have h := h.2 (g)
      obtain ⟨r2, mi2, ml2, hR, h⟩ := h
      refine ⟨0, 0, Nat.zero_le _, Nat.zero_le _, hR _ ?_⟩
      exact h.use hQ
theorem g_w_suspect_0 {nb db : Nat} {by_ rs : RX} {c : Nat} {mi mi' : MI} {ml ml' : ML} {rv : Option AV} {a0 : Int32} (hb : nb = 43 ∧ db = 5 ∨ nb = 5 ∧ db = 43)
    (h : ∃ (r1 : Int32) (mi1 : MI) (ml1 : ML), Ret m_w_haveSuspects [(vR 10 0 1)] (some (vI r1)) c (MRc nb db by_ rs) mi ml mi1 ml1 ∧ ((¬ r1 = 0 → (∃ (r2 : Int32) (mi2 : MI) (ml2 : ML), Ret m_su_numberOf [(vR 15 0 17), (vI a0), (vR 13 0 nb), (vR 14 0 11)] (some (vI r2)) c (MRc nb db by_ rs) mi1 ml1 mi2 ml2 ∧ ((r2 < 0 → (Fin (some (vI (-(nI 1)))) (u2 mi2 1 9 (nI 1)) ml2 rv mi' ml')) ∧ (¬ r2 < 0 → (Fin (some (vI r2)) (u2 mi2 1 9 (nI 0)) ml2 rv mi' ml'))))) ∧ (r1 = 0 → (Fin (some (vI (-(nI 1)))) mi1 ml1 rv mi' ml')))) :
    Ret m_w_suspect [(vR 10 0 1), (vI a0)] rv c (MRc nb db by_ rs) mi ml mi' ml' := by
  rcases hb with ⟨rfl, rfl⟩ | ⟨rfl, rfl⟩
  all_goals
    intro Q hQ
    refine ok_wq inlT 400 rfl rfl ?_
    obtain ⟨r1, mi1, ml1, hR, h⟩ := h
    refine ⟨0, 0, Nat.zero_le _, Nat.zero_le _, hR _ ?_⟩
    refine ⟨fun g => ?_, fun g => ?_⟩
    · have h := h.1 (g)
      obtain ⟨r2, mi2, ml2, hR, h⟩ := h
      refine ⟨0, 0, Nat.zero_le _, Nat.zero_le _, hR _ ?_⟩
      refine ⟨fun g => ?_, fun g => ?_⟩
      · have h := h.1 (g)
        refine ⟨fun _ => ?_, fun g => absurd g (by decide)⟩
        refine ⟨Or.inl rfl, ?_⟩
        refine ⟨fun _ => ?_, fun g => absurd g (by decide)⟩
        exact h.use hQ
      · have h := h.2 (g)
        refine ⟨fun g => absurd g (by decide), fun _ => ?_⟩
        refine ⟨Or.inr rfl, ?_⟩
        refine ⟨fun g => absurd g (by decide), fun _ => ?_⟩
        exact h.use hQ
    · have h := h.2 (g)
      exact h.use hQ
theorem g_w_supposed_0 {nb db : Nat} {by_ rs : RX} {c : Nat} {mi mi' : MI} {ml ml' : ML} {rv : Option AV} {a0 : Int32} {a1 : Int32} (hb : nb = 43 ∧ db = 5 ∨ nb = 5 ∧ db = 43)
    (h : ∃ (r1 : Int32) (mi1 : MI) (ml1 : ML), Ret m_w_haveOne [(vR 10 0 1), (vI a1)] (some (vI r1)) c (MRc nb db by_ rs) mi ml mi1 ml1 ∧ ((r1 = 0 → (Fin (some (vI (-(nI 1)))) mi1 ml1 rv mi' ml')) ∧ (¬ r1 = 0 → (∃ (r2 : Int32) (mi2 : MI) (ml2 : ML), Ret m_w_haveSuspects [(vR 10 0 1)] (some (vI r2)) c (MRc nb db by_ rs) mi1 ml1 mi2 ml2 ∧ ((¬ r2 = 0 → (∃ (r3 : Int32) (mi3 : MI) (ml3 : ML), Ret m_su_numberOf [(vR 15 0 17), (vI a0), (vR 13 0 nb), (vR 14 0 11)] (some (vI r3)) c (MRc nb db by_ rs) mi2 ml2 mi3 ml3 ∧ ((r3 < 0 → (Fin (some (vI (-(nI 1)))) (u2 mi3 1 9 (nI 1)) ml3 rv mi' ml')) ∧ (¬ r3 < 0 → (vp_in a1 31 ∧ (Fin (some (vI (mi3 18 a1.toNatClampNeg))) (u2 mi3 1 9 (nI 0)) ml3 rv mi' ml')))))) ∧ (r2 = 0 → (Fin (some (vI (-(nI 1)))) mi2 ml2 rv mi' ml'))))))) :
    Ret m_w_supposed [(vR 10 0 1), (vI a0), (vI a1)] rv c (MRc nb db by_ rs) mi ml mi' ml' := by
  rcases hb with ⟨rfl, rfl⟩ | ⟨rfl, rfl⟩
  all_goals
    intro Q hQ
    refine ok_wq inlT 400 rfl rfl ?_
    obtain ⟨r1, mi1, ml1, hR, h⟩ := h
    refine ⟨0, 0, Nat.zero_le _, Nat.zero_le _, hR _ ?_⟩
    refine ⟨fun g => ?_, fun g => ?_⟩
    · have h := h.1 (g)
      exact h.use hQ
    · have h := h.2 (g)
      obtain ⟨r2, mi2, ml2, hR, h⟩ := h
      refine ⟨0, 0, Nat.zero_le _, Nat.zero_le _, hR _ ?_⟩
      refine ⟨fun g => ?_, fun g => ?_⟩
      · have h := h.1 (g)
        obtain ⟨r3, mi3, ml3, hR, h⟩ := h
        refine ⟨0, 0, Nat.zero_le _, Nat.zero_le _, hR _ ?_⟩
        refine ⟨fun g => ?_, fun g => ?_⟩
        · have h := h.1 (g)
          refine ⟨fun _ => ?_, fun g => absurd g (by decide)⟩
          refine ⟨Or.inl rfl, ?_⟩
          refine ⟨fun _ => ?_, fun g => absurd g (by decide)⟩
          exact h.use hQ
        · have h := h.2 (g)
          refine ⟨fun g => absurd g (by decide), fun _ => ?_⟩
          refine ⟨Or.inr rfl, ?_⟩
          refine ⟨fun g => absurd g (by decide), fun _ => ?_⟩
          refine ⟨h.1, ?_⟩
          have h := h.2
          exact h.use hQ
      · have h := h.2 (g)
        exact h.use hQ
theorem g_w_mask_0 {nb db : Nat} {by_ rs : RX} {c : Nat} {mi mi' : MI} {ml ml' : ML} {rv : Option AV} {a0 : Int32} (hb : nb = 43 ∧ db = 5 ∨ nb = 5 ∧ db = 43)
    (h : ((mi 1 8) = 0 → (Fin (some (vI (-(nI 1)))) (u2 mi 1 9 (nI 1)) ml rv mi' ml')) ∧ (¬ (mi 1 8) = 0 → ((a0 < 0 → (Fin (some (vI (-(nI 1)))) (u2 mi 1 9 (nI 1)) ml rv mi' ml')) ∧ (¬ a0 < 0 → (((mi nb 4) ≤ a0 → (Fin (some (vI (-(nI 1)))) (u2 mi 1 9 (nI 1)) ml rv mi' ml')) ∧ (¬ (mi nb 4) ≤ a0 → (vp_in a0 12 ∧ (Fin (some (vI (mi (nb + 4) a0.toNatClampNeg))) (u2 mi 1 9 (nI 0)) ml rv mi' ml')))))))) :
    Ret m_w_mask [(vR 10 0 1), (vI a0)] rv c (MRc nb db by_ rs) mi ml mi' ml' := by
  rcases hb with ⟨rfl, rfl⟩ | ⟨rfl, rfl⟩
  all_goals
    intro Q hQ
    refine ok_wq inlT 400 rfl rfl ?_
    refine ⟨fun g => ?_, fun g => ?_⟩
    · have h := h.1 (g)
      refine ⟨fun _ => ?_, fun g => absurd g (by decide)⟩
      refine ⟨Or.inl rfl, ?_⟩
      refine ⟨fun _ => ?_, fun g => absurd g (by decide)⟩
      exact h.use hQ
    · have h := h.2 (g)
      refine ⟨fun g => ?_, fun g => ?_⟩
      · have h := h.1 (g)
        refine ⟨Or.inl rfl, ?_⟩
        refine ⟨fun _ => ?_, fun g => absurd g (by decide)⟩
        refine ⟨fun _ => ?_, fun g => absurd g (by decide)⟩
        refine ⟨Or.inl rfl, ?_⟩
        refine ⟨fun _ => ?_, fun g => absurd g (by decide)⟩
        exact h.use hQ
      · have h := h.2 (g)
        refine ⟨fun g => ?_, fun g => ?_⟩
        · have h := h.1 (g)
          refine ⟨Or.inl rfl, ?_⟩
          refine ⟨fun _ => ?_, fun g => absurd g (by decide)⟩
          refine ⟨fun _ => ?_, fun g => absurd g (by decide)⟩
          refine ⟨Or.inl rfl, ?_⟩
          refine ⟨fun _ => ?_, fun g => absurd g (by decide)⟩
          exact h.use hQ
        · have h := h.2 (g)
          refine ⟨Or.inr rfl, ?_⟩
          refine ⟨fun g => absurd g (by decide), fun _ => ?_⟩
          refine ⟨fun g => absurd g (by decide), fun _ => ?_⟩
          refine ⟨Or.inr rfl, ?_⟩
          refine ⟨fun g => absurd g (by decide), fun _ => ?_⟩
          refine ⟨h.1, ?_⟩
          have h := h.2
          exact h.use hQ
theorem g_w_rank_0 {nb db : Nat} {by_ rs : RX} {c : Nat} {mi mi' : MI} {ml ml' : ML} {rv : Option AV} 
    (h : ((mi 1 8) = 0 → (Fin (some (vI (-(nI 1)))) (u2 mi 1 9 (nI 1)) ml rv mi' ml')) ∧ (¬ (mi 1 8) = 0 → (Fin (some (vI (mi 19 0))) (u2 mi 1 9 (nI 0)) ml rv mi' ml'))) :
    Ret m_w_rank [(vR 10 0 1)] rv c (MRc nb db by_ rs) mi ml mi' ml' := by
  intro Q hQ
  refine ok_wq inlT 400 rfl rfl ?_
  refine ⟨fun g => ?_, fun g => ?_⟩
  · have h := h.1 (g)
    refine ⟨fun _ => ?_, fun g => absurd g (by decide)⟩
    refine ⟨Or.inl rfl, ?_⟩
    refine ⟨Or.inl rfl, ?_⟩
    refine ⟨fun _ => ?_, fun g => absurd g (by decide)⟩
    exact h.use hQ
  · have h := h.2 (g)
    refine ⟨fun g => absurd g (by decide), fun _ => ?_⟩
    refine ⟨Or.inr rfl, ?_⟩
    refine ⟨Or.inr rfl, ?_⟩
    refine ⟨fun g => absurd g (by decide), fun _ => ?_⟩
    exact h.use hQ
theorem g_w_told_0 {nb db : Nat} {by_ rs : RX} {c : Nat} {mi mi' : MI} {ml ml' : ML} {rv : Option AV} 
    (h : ((mi 1 8) = 0 → (Fin (some (vI (-(nI 1)))) (u2 mi 1 9 (nI 1)) ml rv mi' ml')) ∧ (¬ (mi 1 8) = 0 → (Fin (some (vI (mi 19 1))) (u2 mi 1 9 (nI 0)) ml rv mi' ml'))) :
    Ret m_w_told [(vR 10 0 1)] rv c (MRc nb db by_ rs) mi ml mi' ml' := by
  intro Q hQ
  refine ok_wq inlT 400 rfl rfl ?_
  refine ⟨fun g => ?_, fun g => ?_⟩
  · have h := h.1 (g)
    refine ⟨fun _ => ?_, fun g => absurd g (by decide)⟩
    refine ⟨Or.inl rfl, ?_⟩
    refine ⟨Or.inl rfl, ?_⟩
    refine ⟨fun _ => ?_, fun g => absurd g (by decide)⟩
    exact h.use hQ
  · have h := h.2 (g)
    refine ⟨fun g => absurd g (by decide), fun _ => ?_⟩
    refine ⟨Or.inr rfl, ?_⟩
    refine ⟨Or.inr rfl, ?_⟩
    refine ⟨fun g => absurd g (by decide), fun _ => ?_⟩
    exact h.use hQ
theorem g_w_solved_0 {nb db : Nat} {by_ rs : RX} {c : Nat} {mi mi' : MI} {ml ml' : ML} {rv : Option AV} {a0 : Int32} {a1 : Int32} (hb : nb = 43 ∧ db = 5 ∨ nb = 5 ∧ db = 43)
    (h : ∃ (r1 : Int32) (mi1 : MI) (ml1 : ML), Ret m_w_haveTold [(vR 10 0 1), (vI a0)] (some (vI r1)) c (MRc nb db by_ rs) mi ml mi1 ml1 ∧ ((¬ r1 = 0 → (vp_in a0 31 ∧ (∃ (r2 : Int64), Ret m_mt_sumOfLooks [(vR 16 0 19), (vR 13 0 nb), (vI (mi1 20 a0.toNatClampNeg))] (some (vL r2)) c (MRc nb db by_ rs) mi1 ml1 mi1 ml1 ∧ (∃ (r3 : Int64), Ret m_ra_part [(vL r2), (vL (ml1 19 2)), (vI a1)] (some (vL r3)) c (MRc nb db by_ rs) mi1 ml1 mi1 ml1 ∧ (Fin (some (vL r3)) mi1 ml1 rv mi' ml'))))) ∧ (r1 = 0 → (Fin (some (vL (-(lN 9223372036854775808)))) mi1 ml1 rv mi' ml')))) :
    Ret m_w_solved [(vR 10 0 1), (vI a0), (vI a1)] rv c (MRc nb db by_ rs) mi ml mi' ml' := by
  rcases hb with ⟨rfl, rfl⟩ | ⟨rfl, rfl⟩
  all_goals
    intro Q hQ
    refine ok_wq inlT 400 rfl rfl ?_
    obtain ⟨r1, mi1, ml1, hR, h⟩ := h
    refine ⟨0, 0, Nat.zero_le _, Nat.zero_le _, hR _ ?_⟩
    refine ⟨fun g => ?_, fun g => ?_⟩
    · have h := h.1 (g)
      refine ⟨h.1, ?_⟩
      have h := h.2
      obtain ⟨r2, hR, h⟩ := h
      refine ⟨0, 0, Nat.zero_le _, Nat.zero_le _, hR _ ?_⟩
      obtain ⟨r3, hR, h⟩ := h
      refine ⟨0, 0, Nat.zero_le _, Nat.zero_le _, hR _ ?_⟩
      exact h.use hQ
    · have h := h.2 (g)
      exact h.use hQ
theorem g_w_factor_0 {nb db : Nat} {by_ rs : RX} {c : Nat} {mi mi' : MI} {ml ml' : ML} {rv : Option AV} {a0 : Int32} {a1 : Int32} {a2 : Int32} (hb : nb = 43 ∧ db = 5 ∨ nb = 5 ∧ db = 43)
    (h : ((mi 1 8) = 0 → (Fin (some (vL (-(lN 9223372036854775808)))) (u2 mi 1 9 (nI 1)) ml rv mi' ml')) ∧ (¬ (mi 1 8) = 0 → ((a1 < 0 → (Fin (some (vL (-(lN 9223372036854775808)))) (u2 mi 1 9 (nI 1)) ml rv mi' ml')) ∧ (¬ a1 < 0 → (((mi nb 4) ≤ a1 → (Fin (some (vL (-(lN 9223372036854775808)))) (u2 mi 1 9 (nI 1)) ml rv mi' ml')) ∧ (¬ (mi nb 4) ≤ a1 → (∃ (r1 : Int32) (mi1 : MI) (ml1 : ML), Ret m_w_haveTold [(vR 10 0 1), (vI a0)] (some (vI r1)) c (MRc nb db by_ rs) (u2 mi 1 9 (nI 0)) ml mi1 ml1 ∧ ((¬ r1 = 0 → (vp_in a0 31 ∧ (((mi1 20 a0.toNatClampNeg) < 0 → (∃ (r2 : Int64), Ret m_ra_part [(vL (lN 0)), (vL (ml1 19 2)), (vI a2)] (some (vL r2)) c (MRc nb db by_ rs) mi1 ml1 mi1 ml1 ∧ (Fin (some (vL r2)) mi1 ml1 rv mi' ml'))) ∧ (¬ (mi1 20 a0.toNatClampNeg) < 0 → (((nI 12) ≤ (mi1 20 a0.toNatClampNeg) → (∃ (r3 : Int64), Ret m_ra_part [(vL (lN 0)), (vL (ml1 19 2)), (vI a2)] (some (vL r3)) c (MRc nb db by_ rs) mi1 ml1 mi1 ml1 ∧ (Fin (some (vL r3)) mi1 ml1 rv mi' ml'))) ∧ (¬ (nI 12) ≤ (mi1 20 a0.toNatClampNeg) → ((a1 < 0 → (∃ (r4 : Int64), Ret m_ra_part [(vL (lN 0)), (vL (ml1 19 2)), (vI a2)] (some (vL r4)) c (MRc nb db by_ rs) mi1 ml1 mi1 ml1 ∧ (Fin (some (vL r4)) mi1 ml1 rv mi' ml'))) ∧ (¬ a1 < 0 → ((a1 < (nI 12) → (∃ t5 : Nat, (mi1 20 a0.toNatClampNeg) = nI t5 ∧ t5 < 12 ∧ (vp_in ((nI 31) + a1) 43 ∧ (∃ (r6 : Int64), Ret m_ra_part [(vL (ml1 (22 + t5) ((nI 31) + a1).toNatClampNeg)), (vL (ml1 19 2)), (vI a2)] (some (vL r6)) c (MRc nb db by_ rs) mi1 ml1 mi1 ml1 ∧ (Fin (some (vL r6)) mi1 ml1 rv mi' ml'))))) ∧ (¬ a1 < (nI 12) → (∃ (r7 : Int64), Ret m_ra_part [(vL (lN 0)), (vL (ml1 19 2)), (vI a2)] (some (vL r7)) c (MRc nb db by_ rs) mi1 ml1 mi1 ml1 ∧ (Fin (some (vL r7)) mi1 ml1 rv mi' ml')))))))))))) ∧ (r1 = 0 → (Fin (some (vL (-(lN 9223372036854775808)))) mi1 ml1 rv mi' ml')))))))))) :
    Ret m_w_factor [(vR 10 0 1), (vI a0), (vI a1), (vI a2)] rv c (MRc nb db by_ rs) mi ml mi' ml' := by
  rcases hb with ⟨rfl, rfl⟩ | ⟨rfl, rfl⟩
  all_goals
    intro Q hQ
    refine ok_wq inlT 400 rfl rfl ?_
    refine ⟨fun g => ?_, fun g => ?_⟩
    · have h := h.1 (g)
      refine ⟨fun _ => ?_, fun g => absurd g (by decide)⟩
      refine ⟨Or.inl rfl, ?_⟩
      refine ⟨fun _ => ?_, fun g => absurd g (by decide)⟩
      exact h.use hQ
    · have h := h.2 (g)
      refine ⟨fun g => ?_, fun g => ?_⟩
      · have h := h.1 (g)
        refine ⟨Or.inl rfl, ?_⟩
        refine ⟨fun _ => ?_, fun g => absurd g (by decide)⟩
        refine ⟨fun _ => ?_, fun g => absurd g (by decide)⟩
        refine ⟨Or.inl rfl, ?_⟩
        refine ⟨fun _ => ?_, fun g => absurd g (by decide)⟩
        exact h.use hQ
      · have h := h.2 (g)
        refine ⟨fun g => ?_, fun g => ?_⟩
        · have h := h.1 (g)
          refine ⟨Or.inl rfl, ?_⟩
          refine ⟨fun _ => ?_, fun g => absurd g (by decide)⟩
          refine ⟨fun _ => ?_, fun g => absurd g (by decide)⟩
          refine ⟨Or.inl rfl, ?_⟩
          refine ⟨fun _ => ?_, fun g => absurd g (by decide)⟩
          exact h.use hQ
        · have h := h.2 (g)
          refine ⟨Or.inr rfl, ?_⟩
          refine ⟨fun g => absurd g (by decide), fun _ => ?_⟩
          refine ⟨fun g => absurd g (by decide), fun _ => ?_⟩
          refine ⟨Or.inr rfl, ?_⟩
          refine ⟨fun g => absurd g (by decide), fun _ => ?_⟩
          obtain ⟨r1, mi1, ml1, hR, h⟩ := h
          refine ⟨0, 0, Nat.zero_le _, Nat.zero_le _, hR _ ?_⟩
          refine ⟨fun g => ?_, fun g => ?_⟩
          · have h := h.1 (g)
            refine ⟨h.1, ?_⟩
            have h := h.2
            refine ⟨fun g => ?_, fun g => ?_⟩
            · have h := h.1 (g)
              obtain ⟨r2, hR, h⟩ := h
              refine ⟨0, 0, Nat.zero_le _, Nat.zero_le _, hR _ ?_⟩
              exact h.use hQ
            · have h := h.2 (g)
              refine ⟨fun g => ?_, fun g => ?_⟩
              · have h := h.1 (g)
                obtain ⟨r3, hR, h⟩ := h
                refine ⟨0, 0, Nat.zero_le _, Nat.zero_le _, hR _ ?_⟩
                exact h.use hQ
              · have h := h.2 (g)
                refine ⟨fun g => ?_, fun g => ?_⟩
                · have h := h.1 (g)
                  obtain ⟨r4, hR, h⟩ := h
                  refine ⟨0, 0, Nat.zero_le _, Nat.zero_le _, hR _ ?_⟩
                  exact h.use hQ
                · have h := h.2 (g)
                  refine ⟨fun g => ?_, fun g => ?_⟩
                  · have h := h.1 (g)
                    obtain ⟨t5, e_t5, l_t5, h⟩ := h
                    refine ⟨row_in e_t5 l_t5, (1, 43, 22 + t5), row_mr e_t5 l_t5, ?_⟩
                    refine ⟨h.1, ?_⟩
                    have h := h.2
                    obtain ⟨r6, hR, h⟩ := h
                    refine ⟨0, 0, Nat.zero_le _, Nat.zero_le _, hR _ ?_⟩
                    exact h.use hQ
                  · have h := h.2 (g)
                    obtain ⟨r7, hR, h⟩ := h
                    refine ⟨0, 0, Nat.zero_le _, Nat.zero_le _, hR _ ?_⟩
                    exact h.use hQ
          · have h := h.2 (g)
            exact h.use hQ
theorem g_w_shareBy_0 {nb db : Nat} {by_ rs : RX} {c : Nat} {mi mi' : MI} {ml ml' : ML} {rv : Option AV} {a0 : Int32} {a1 : Int32} (hb : nb = 43 ∧ db = 5 ∨ nb = 5 ∧ db = 43)
    (h : ∃ (r1 : Int32) (mi1 : MI) (ml1 : ML), Ret m_w_haveTold [(vR 10 0 1), (vI a0)] (some (vI r1)) c (MRc nb db by_ rs) mi ml mi1 ml1 ∧ ((¬ r1 = 0 → (vp_in a0 31 ∧ (∃ (r2 : Int64), Ret m_mt_squares [(vR 16 0 19), (vR 13 0 nb), (vI (mi1 20 a0.toNatClampNeg))] (some (vL r2)) c (MRc nb db by_ rs) mi1 ml1 mi1 ml1 ∧ (∃ (r3 : Int64), Ret m_ra_part [(vL r2), (vL ((ml1 19 2) * (ml1 19 2))), (vI a1)] (some (vL r3)) c (MRc nb db by_ rs) mi1 ml1 mi1 ml1 ∧ (Fin (some (vL r3)) mi1 ml1 rv mi' ml'))))) ∧ (r1 = 0 → (Fin (some (vL (-(lN 1)))) mi1 ml1 rv mi' ml')))) :
    Ret m_w_shareBy [(vR 10 0 1), (vI a0), (vI a1)] rv c (MRc nb db by_ rs) mi ml mi' ml' := by
  rcases hb with ⟨rfl, rfl⟩ | ⟨rfl, rfl⟩
  all_goals
    intro Q hQ
    refine ok_wq inlT 400 rfl rfl ?_
    obtain ⟨r1, mi1, ml1, hR, h⟩ := h
    refine ⟨0, 0, Nat.zero_le _, Nat.zero_le _, hR _ ?_⟩
    refine ⟨fun g => ?_, fun g => ?_⟩
    · have h := h.1 (g)
      refine ⟨h.1, ?_⟩
      have h := h.2
      obtain ⟨r2, hR, h⟩ := h
      refine ⟨0, 0, Nat.zero_le _, Nat.zero_le _, hR _ ?_⟩
      obtain ⟨r3, hR, h⟩ := h
      refine ⟨0, 0, Nat.zero_le _, Nat.zero_le _, hR _ ?_⟩
      exact h.use hQ
    · have h := h.2 (g)
      exact h.use hQ
theorem g_w_fewer_0 {nb db : Nat} {by_ rs : RX} {c : Nat} {mi mi' : MI} {ml ml' : ML} {rv : Option AV}  (hb : nb = 43 ∧ db = 5 ∨ nb = 5 ∧ db = 43)
    (h : ((mi 1 8) = 0 → (Fin (some (vI (-(nI 1)))) (u2 mi 1 9 (nI 1)) ml rv mi' ml')) ∧ (¬ (mi 1 8) = 0 → (Go m_w_fewer 43 [some (vR 10 0 1), some (vL ((((lN 4) * ((mi nb 0).toInt64)) * (ml 19 2)) * (ml 19 2))), none, some (vI (nI 0)), some (vI (nI 0))] [] rv c (MRc nb db by_ rs) (u2 mi 1 9 (nI 0)) ml mi' ml'))) :
    Ret m_w_fewer [(vR 10 0 1)] rv c (MRc nb db by_ rs) mi ml mi' ml' := by
  rcases hb with ⟨rfl, rfl⟩ | ⟨rfl, rfl⟩
  all_goals
    intro Q hQ
    refine ok_wq inlT 400 rfl rfl ?_
    refine ⟨fun g => ?_, fun g => ?_⟩
    · have h := h.1 (g)
      refine ⟨fun _ => ?_, fun g => absurd g (by decide)⟩
      refine ⟨Or.inl rfl, ?_⟩
      refine ⟨Or.inl rfl, ?_⟩
      refine ⟨fun g => absurd g (by decide), fun _ => ?_⟩
      exact h.use hQ
    · have h := h.2 (g)
      refine ⟨fun g => absurd g (by decide), fun _ => ?_⟩
      refine ⟨Or.inr rfl, ?_⟩
      refine ⟨Or.inr rfl, ?_⟩
      refine ⟨fun _ => ?_, fun g => absurd g (by decide)⟩
      exact h Q hQ
theorem g_w_fewer_43 {nb db : Nat} {by_ rs : RX} {c : Nat} {mi mi' : MI} {ml ml' : ML} {rv : Option AV} {l1 : Int64} {l3 : Int32} {l4 : Int32} (hb : nb = 43 ∧ db = 5 ∨ nb = 5 ∧ db = 43)
    (h : ((mi nb 0) ≤ l4 → (Fin (some (vI l3)) mi ml rv mi' ml')) ∧ (¬ (mi nb 0) ≤ l4 → ((l4 < 0 → (Go m_w_fewer 43 [some (vR 10 0 1), some (vL l1), none, some (vI l3), some (vI (l4 + nI 1))] [] rv c (MRc nb db by_ rs) mi ml mi' ml')) ∧ (¬ l4 < 0 → (((nI 31) ≤ l4 → (Go m_w_fewer 43 [some (vR 10 0 1), some (vL l1), none, some (vI l3), some (vI (l4 + nI 1))] [] rv c (MRc nb db by_ rs) mi ml mi' ml')) ∧ (¬ (nI 31) ≤ l4 → ((¬ (((mi 19 1) >>> (l4 &&& 31)) &&& (nI 1)) = (nI 1) → (Go m_w_fewer 43 [some (vR 10 0 1), some (vL l1), none, some (vI l3), some (vI (l4 + nI 1))] [] rv c (MRc nb db by_ rs) mi ml mi' ml')) ∧ ((((mi 19 1) >>> (l4 &&& 31)) &&& (nI 1)) = (nI 1) → (vp_in l4 31 ∧ (∃ (r1 : Int64), Ret m_mt_squares [(vR 16 0 19), (vR 13 0 nb), (vI (mi 20 l4.toNatClampNeg))] (some (vL r1)) c (MRc nb db by_ rs) mi ml mi ml ∧ ((l1 ≤ (r1 * ((((mi nb 0) + (nI 1)).toInt64) * (((mi nb 0) + (nI 1)).toInt64))) → (Go m_w_fewer 43 [some (vR 10 0 1), some (vL l1), none, some (vI l3), some (vI (l4 + nI 1))] [] rv c (MRc nb db by_ rs) mi ml mi' ml')) ∧ (¬ l1 ≤ (r1 * ((((mi nb 0) + (nI 1)).toInt64) * (((mi nb 0) + (nI 1)).toInt64))) → (Go m_w_fewer 43 [some (vR 10 0 1), some (vL l1), none, some (vI (l3 ||| ((nI 1) <<< (l4 &&& 31)))), some (vI (l4 + nI 1))] [] rv c (MRc nb db by_ rs) mi ml mi' ml'))))))))))))) :
    Go m_w_fewer 43 [some (vR 10 0 1), some (vL l1), none, some (vI l3), some (vI l4)] [] rv c (MRc nb db by_ rs) mi ml mi' ml' := by
  rcases hb with ⟨rfl, rfl⟩ | ⟨rfl, rfl⟩
  all_goals
    intro Q hQ
    refine at_wq inlT 400 rfl ?_
    refine ⟨fun g => ?_, fun g => ?_⟩
    · have h := h.1 (g)
      exact h.use hQ
    · have h := h.2 (g)
      refine ⟨fun g => ?_, fun g => ?_⟩
      · have h := h.1 (g)
        refine ⟨Or.inl rfl, ?_⟩
        refine ⟨fun _ => ?_, fun g => absurd g (by decide)⟩
        exact h Q hQ
      · have h := h.2 (g)
        refine ⟨fun g => ?_, fun g => ?_⟩
        · have h := h.1 (g)
          refine ⟨Or.inl rfl, ?_⟩
          refine ⟨fun _ => ?_, fun g => absurd g (by decide)⟩
          exact h Q hQ
        · have h := h.2 (g)
          refine ⟨fun g => ?_, fun g => ?_⟩
          · have h := h.1 (g)
            refine ⟨Or.inl rfl, ?_⟩
            refine ⟨fun _ => ?_, fun g => absurd g (by decide)⟩
            exact h Q hQ
          · have h := h.2 (g)
            refine ⟨Or.inr rfl, ?_⟩
            refine ⟨fun g => absurd g (by decide), fun _ => ?_⟩
            refine ⟨h.1, ?_⟩
            have h := h.2
            obtain ⟨r1, hR, h⟩ := h
            refine ⟨0, 0, Nat.zero_le _, Nat.zero_le _, hR _ ?_⟩
            refine ⟨fun g => ?_, fun g => ?_⟩
            · have h := h.1 ((lgc_ge _ _).mp g)
              exact h Q hQ
            · have h := h.2 (fun z => g ((lgc_ge _ _).mpr z))
              exact h Q hQ
theorem g_w_agree_0 {nb db : Nat} {by_ rs : RX} {c : Nat} {mi mi' : MI} {ml ml' : ML} {rv : Option AV}  (hb : nb = 43 ∧ db = 5 ∨ nb = 5 ∧ db = 43)
    (h : ((mi 1 8) = 0 → (Fin (some (vI (-(nI 1)))) (u2 mi 1 9 (nI 1)) ml rv mi' ml')) ∧ (¬ (mi 1 8) = 0 → (∃ (r1 : Int32), Ret m_mt_allAgree [(vR 16 0 19), (vR 13 0 nb)] (some (vI r1)) c (MRc nb db by_ rs) (u2 mi 1 9 (nI 0)) ml (u2 mi 1 9 (nI 0)) ml ∧ ((r1 = 0 → (Fin (some (vI (nI 0))) (u2 mi 1 9 (nI 0)) ml rv mi' ml')) ∧ (¬ r1 = 0 → (Fin (some (vI (nI 1))) (u2 mi 1 9 (nI 0)) ml rv mi' ml')))))) :
    Ret m_w_agree [(vR 10 0 1)] rv c (MRc nb db by_ rs) mi ml mi' ml' := by
  rcases hb with ⟨rfl, rfl⟩ | ⟨rfl, rfl⟩
  all_goals
    intro Q hQ
    refine ok_wq inlT 400 rfl rfl ?_
    refine ⟨fun g => ?_, fun g => ?_⟩
    · have h := h.1 (g)
      refine ⟨fun _ => ?_, fun g => absurd g (by decide)⟩
      refine ⟨Or.inl rfl, ?_⟩
      refine ⟨Or.inl rfl, ?_⟩
      refine ⟨fun g => absurd g (by decide), fun _ => ?_⟩
      exact h.use hQ
    · have h := h.2 (g)
      refine ⟨fun g => absurd g (by decide), fun _ => ?_⟩
      refine ⟨Or.inr rfl, ?_⟩
      refine ⟨Or.inr rfl, ?_⟩
      refine ⟨fun _ => ?_, fun g => absurd g (by decide)⟩
      obtain ⟨r1, hR, h⟩ := h
      refine ⟨0, 0, Nat.zero_le _, Nat.zero_le _, hR _ ?_⟩
      refine ⟨fun g => ?_, fun g => ?_⟩
      · have h := h.1 (g)
        exact h.use hQ
      · have h := h.2 (g)
        exact h.use hQ
theorem g_w_tour_0 {nb db : Nat} {by_ rs : RX} {c : Nat} {mi mi' : MI} {ml ml' : ML} {rv : Option AV}  (hb : nb = 43 ∧ db = 5 ∨ nb = 5 ∧ db = 43)
    (h : ((mi 1 8) = 0 → (Fin (some (vI (-(nI 1)))) (u2 mi 1 9 (nI 1)) ml rv mi' ml')) ∧ (¬ (mi 1 8) = 0 → (∃ (mi1 : MI) (ml1 : ML), Ret m_tr_find [(vR 17 0 35), (vR 13 0 nb)] none c (MRc nb db by_ rs) (u2 mi 1 9 (nI 0)) ml mi1 ml1 ∧ (Fin (some (vI (mi1 35 1))) mi1 ml1 rv mi' ml')))) :
    Ret m_w_tour [(vR 10 0 1)] rv c (MRc nb db by_ rs) mi ml mi' ml' := by
  rcases hb with ⟨rfl, rfl⟩ | ⟨rfl, rfl⟩
  all_goals
    intro Q hQ
    refine ok_wq inlT 400 rfl rfl ?_
    refine ⟨fun g => ?_, fun g => ?_⟩
    · have h := h.1 (g)
      refine ⟨fun _ => ?_, fun g => absurd g (by decide)⟩
      refine ⟨Or.inl rfl, ?_⟩
      refine ⟨Or.inl rfl, ?_⟩
      refine ⟨fun g => absurd g (by decide), fun _ => ?_⟩
      exact h.use hQ
    · have h := h.2 (g)
      refine ⟨fun g => absurd g (by decide), fun _ => ?_⟩
      refine ⟨Or.inr rfl, ?_⟩
      refine ⟨Or.inr rfl, ?_⟩
      refine ⟨fun _ => ?_, fun g => absurd g (by decide)⟩
      obtain ⟨mi1, ml1, hR, h⟩ := h
      refine ⟨0, 0, Nat.zero_le _, Nat.zero_le _, hR _ ?_⟩
      exact h.use hQ
theorem g_w_tourAt_0 {nb db : Nat} {by_ rs : RX} {c : Nat} {mi mi' : MI} {ml ml' : ML} {rv : Option AV} {a0 : Int32} (hb : nb = 43 ∧ db = 5 ∨ nb = 5 ∧ db = 43)
    (h : ((mi 1 8) = 0 → (Fin (some (vI (-(nI 1)))) (u2 mi 1 9 (nI 1)) ml rv mi' ml')) ∧ (¬ (mi 1 8) = 0 → ((a0 < 0 → (Fin (some (vI (-(nI 1)))) (u2 mi 1 9 (nI 1)) ml rv mi' ml')) ∧ (¬ a0 < 0 → (((mi nb 4) ≤ a0 → (Fin (some (vI (-(nI 1)))) (u2 mi 1 9 (nI 1)) ml rv mi' ml')) ∧ (¬ (mi nb 4) ≤ a0 → (∃ (mi1 : MI) (ml1 : ML), Ret m_tr_find [(vR 17 0 35), (vR 13 0 nb)] none c (MRc nb db by_ rs) (u2 mi 1 9 (nI 0)) ml mi1 ml1 ∧ (vp_in a0 12 ∧ (Fin (some (vI (mi1 36 a0.toNatClampNeg))) mi1 ml1 rv mi' ml'))))))))) :
    Ret m_w_tourAt [(vR 10 0 1), (vI a0)] rv c (MRc nb db by_ rs) mi ml mi' ml' := by
  rcases hb with ⟨rfl, rfl⟩ | ⟨rfl, rfl⟩
  all_goals
    intro Q hQ
    refine ok_wq inlT 400 rfl rfl ?_
    refine ⟨fun g => ?_, fun g => ?_⟩
    · have h := h.1 (g)
      refine ⟨fun _ => ?_, fun g => absurd g (by decide)⟩
      refine ⟨Or.inl rfl, ?_⟩
      refine ⟨fun g => absurd g (by decide), fun _ => ?_⟩
      exact h.use hQ
    · have h := h.2 (g)
      refine ⟨fun g => ?_, fun g => ?_⟩
      · have h := h.1 (g)
        refine ⟨Or.inl rfl, ?_⟩
        refine ⟨fun _ => ?_, fun g => absurd g (by decide)⟩
        refine ⟨fun _ => ?_, fun g => absurd g (by decide)⟩
        refine ⟨Or.inl rfl, ?_⟩
        refine ⟨fun g => absurd g (by decide), fun _ => ?_⟩
        exact h.use hQ
      · have h := h.2 (g)
        refine ⟨fun g => ?_, fun g => ?_⟩
        · have h := h.1 (g)
          refine ⟨Or.inl rfl, ?_⟩
          refine ⟨fun _ => ?_, fun g => absurd g (by decide)⟩
          refine ⟨fun _ => ?_, fun g => absurd g (by decide)⟩
          refine ⟨Or.inl rfl, ?_⟩
          refine ⟨fun g => absurd g (by decide), fun _ => ?_⟩
          exact h.use hQ
        · have h := h.2 (g)
          refine ⟨Or.inr rfl, ?_⟩
          refine ⟨fun g => absurd g (by decide), fun _ => ?_⟩
          refine ⟨fun g => absurd g (by decide), fun _ => ?_⟩
          refine ⟨Or.inr rfl, ?_⟩
          refine ⟨fun _ => ?_, fun g => absurd g (by decide)⟩
          obtain ⟨mi1, ml1, hR, h⟩ := h
          refine ⟨0, 0, Nat.zero_le _, Nat.zero_le _, hR _ ?_⟩
          refine ⟨h.1, ?_⟩
          have h := h.2
          exact h.use hQ
theorem g_w_sign_0 {nb db : Nat} {by_ rs : RX} {c : Nat} {mi mi' : MI} {ml ml' : ML} {rv : Option AV} {a0 : Int32} {a1 : Int32} {a2 : Int32}
    (h : (a0 < 0 → (Fin (some (vI (nI 0))) (u2 mi 1 9 (nI 2)) ml rv mi' ml')) ∧ (¬ a0 < 0 → (((nI 9) < a0 → (Fin (some (vI (nI 0))) (u2 mi 1 9 (nI 2)) ml rv mi' ml')) ∧ (¬ (nI 9) < a0 → ((a1 < 0 → (Fin (some (vI (nI 0))) (u2 mi 1 9 (nI 2)) ml rv mi' ml')) ∧ (¬ a1 < 0 → ((((nI 1) <<< (a0 &&& 31)) ≤ a1 → (Fin (some (vI (nI 0))) (u2 mi 1 9 (nI 2)) ml rv mi' ml')) ∧ (¬ ((nI 1) <<< (a0 &&& 31)) ≤ a1 → ((a2 < 0 → (Fin (some (vI (nI 0))) (u2 mi 1 9 (nI 2)) ml rv mi' ml')) ∧ (¬ a2 < 0 → ((((nI 1) <<< (a0 &&& 31)) ≤ a2 → (Fin (some (vI (nI 0))) (u2 mi 1 9 (nI 2)) ml rv mi' ml')) ∧ (¬ ((nI 1) <<< (a0 &&& 31)) ≤ a2 → (∃ (r1 : Int32), Ret m_ji_bitCount [(vI (a1 &&& a2))] (some (vI r1)) c (MRc nb db by_ rs) (u2 mi 1 9 (nI 0)) ml (u2 mi 1 9 (nI 0)) ml ∧ ((¬ (r1 &&& (nI 1)) = 0 → (Fin (some (vI (-(nI 1)))) (u2 mi 1 9 (nI 0)) ml rv mi' ml')) ∧ ((r1 &&& (nI 1)) = 0 → (Fin (some (vI (nI 1))) (u2 mi 1 9 (nI 0)) ml rv mi' ml')))))))))))))))) :
    Ret m_w_sign [(vR 10 0 1), (vI a0), (vI a1), (vI a2)] rv c (MRc nb db by_ rs) mi ml mi' ml' := by
  intro Q hQ
  refine ok_wq inlT 400 rfl rfl ?_
  refine ⟨fun g => ?_, fun g => ?_⟩
  · have h := h.1 (g)
    refine ⟨fun _ => ?_, fun g => absurd g (by decide)⟩
    refine ⟨fun _ => ?_, fun g => absurd g (by decide)⟩
    refine ⟨Or.inl rfl, ?_⟩
    refine ⟨fun g => absurd g (by decide), fun _ => ?_⟩
    exact h.use hQ
  · have h := h.2 (g)
    refine ⟨fun g => ?_, fun g => ?_⟩
    · have h := h.1 (g)
      refine ⟨fun _ => ?_, fun g => absurd g (by decide)⟩
      refine ⟨fun _ => ?_, fun g => absurd g (by decide)⟩
      refine ⟨Or.inl rfl, ?_⟩
      refine ⟨fun g => absurd g (by decide), fun _ => ?_⟩
      exact h.use hQ
    · have h := h.2 (g)
      refine ⟨fun g => ?_, fun g => ?_⟩
      · have h := h.1 (g)
        refine ⟨fun _ => ?_, fun g => absurd g (by decide)⟩
        refine ⟨fun _ => ?_, fun g => absurd g (by decide)⟩
        refine ⟨Or.inl rfl, ?_⟩
        refine ⟨fun g => absurd g (by decide), fun _ => ?_⟩
        exact h.use hQ
      · have h := h.2 (g)
        refine ⟨fun g => ?_, fun g => ?_⟩
        · have h := h.1 (g)
          refine ⟨fun _ => ?_, fun g => absurd g (by decide)⟩
          refine ⟨fun _ => ?_, fun g => absurd g (by decide)⟩
          refine ⟨Or.inl rfl, ?_⟩
          refine ⟨fun g => absurd g (by decide), fun _ => ?_⟩
          exact h.use hQ
        · have h := h.2 (g)
          refine ⟨fun g => ?_, fun g => ?_⟩
          · have h := h.1 (g)
            refine ⟨fun _ => ?_, fun g => absurd g (by decide)⟩
            refine ⟨fun _ => ?_, fun g => absurd g (by decide)⟩
            refine ⟨Or.inl rfl, ?_⟩
            refine ⟨fun g => absurd g (by decide), fun _ => ?_⟩
            exact h.use hQ
          · have h := h.2 (g)
            refine ⟨fun g => ?_, fun g => ?_⟩
            · have h := h.1 (g)
              refine ⟨fun _ => ?_, fun g => absurd g (by decide)⟩
              refine ⟨fun _ => ?_, fun g => absurd g (by decide)⟩
              refine ⟨Or.inl rfl, ?_⟩
              refine ⟨fun g => absurd g (by decide), fun _ => ?_⟩
              exact h.use hQ
            · have h := h.2 (g)
              refine ⟨fun g => absurd g (by decide), fun _ => ?_⟩
              refine ⟨fun g => absurd g (by decide), fun _ => ?_⟩
              refine ⟨Or.inr rfl, ?_⟩
              refine ⟨fun _ => ?_, fun g => absurd g (by decide)⟩
              obtain ⟨r1, hR, h⟩ := h
              refine ⟨0, 0, Nat.zero_le _, Nat.zero_le _, hR _ ?_⟩
              refine ⟨fun g => ?_, fun g => ?_⟩
              · have h := h.1 (g)
                exact h.use hQ
              · have h := h.2 (g)
                exact h.use hQ
theorem g_w_shine_0 {nb db : Nat} {by_ rs : RX} {c : Nat} {mi mi' : MI} {ml ml' : ML} {rv : Option AV} {a0 : Int32} {a1 : Int32} (hb : nb = 43 ∧ db = 5 ∨ nb = 5 ∧ db = 43)
    (h : ∃ (r1 : Int32) (mi1 : MI) (ml1 : ML), Ret m_w_haveOne [(vR 10 0 1), (vI a0)] (some (vI r1)) c (MRc nb db by_ rs) mi ml mi1 ml1 ∧ ((r1 = 0 → (Fin (some (vI (-(nI 1)))) mi1 ml1 rv mi' ml')) ∧ (¬ r1 = 0 → ((a1 < 0 → (Fin (some (vI (-(nI 1)))) (u2 mi1 1 9 (nI 2)) ml1 rv mi' ml')) ∧ (¬ a1 < 0 → (((nI 9999) < a1 → (Fin (some (vI (-(nI 1)))) (u2 mi1 1 9 (nI 2)) ml1 rv mi' ml')) ∧ (¬ (nI 9999) < a1 → (vp_in a0 31 ∧ (∃ (mi2 : MI) (ml2 : ML), Ret m_ac_note [(vR 18 0 39), (vI (nI 0)), (vI a0), (vI (mi1 (nb + 2) a0.toNatClampNeg))] none c (MRc nb db by_ rs) (u2 mi1 1 9 (nI 0)) ml1 mi2 ml2 ∧ (vp_in a0 31 ∧ (Fin (some (vI (mi1 (nb + 2) a0.toNatClampNeg))) (u2 (u2 (u2 mi2 (nb + 2) a0.toNatClampNeg a1) 11 2 (nI 0)) 11 3 (nI 0)) ml2 rv mi' ml'))))))))))) :
    Ret m_w_shine [(vR 10 0 1), (vI a0), (vI a1)] rv c (MRc nb db by_ rs) mi ml mi' ml' := by
  rcases hb with ⟨rfl, rfl⟩ | ⟨rfl, rfl⟩
  all_goals
    intro Q hQ
    refine ok_wq inlT 400 rfl rfl ?_
    obtain ⟨r1, mi1, ml1, hR, h⟩ := h
    refine ⟨0, 0, Nat.zero_le _, Nat.zero_le _, hR _ ?_⟩
    refine ⟨fun g => ?_, fun g => ?_⟩
    · have h := h.1 (g)
      exact h.use hQ
    · have h := h.2 (g)
      refine ⟨fun g => ?_, fun g => ?_⟩
      · have h := h.1 (g)
        refine ⟨fun _ => ?_, fun g => absurd g (by decide)⟩
        refine ⟨Or.inl rfl, ?_⟩
        refine ⟨fun g => absurd g (by decide), fun _ => ?_⟩
        exact h.use hQ
      · have h := h.2 (g)
        refine ⟨fun g => ?_, fun g => ?_⟩
        · have h := h.1 (g)
          refine ⟨fun _ => ?_, fun g => absurd g (by decide)⟩
          refine ⟨Or.inl rfl, ?_⟩
          refine ⟨fun g => absurd g (by decide), fun _ => ?_⟩
          exact h.use hQ
        · have h := h.2 (g)
          refine ⟨fun g => absurd g (by decide), fun _ => ?_⟩
          refine ⟨Or.inr rfl, ?_⟩
          refine ⟨fun _ => ?_, fun g => absurd g (by decide)⟩
          refine ⟨h.1, ?_⟩
          have h := h.2
          obtain ⟨mi2, ml2, hR, h⟩ := h
          refine ⟨0, 0, Nat.zero_le _, Nat.zero_le _, hR _ ?_⟩
          refine ⟨h.1, ?_⟩
          have h := h.2
          refine ⟨Or.inl rfl, ?_⟩
          exact h.use hQ
theorem g_w_stick_0 {nb db : Nat} {by_ rs : RX} {c : Nat} {mi mi' : MI} {ml ml' : ML} {rv : Option AV} {a0 : Int32} {a1 : Int32} (hb : nb = 43 ∧ db = 5 ∨ nb = 5 ∧ db = 43)
    (h : ∃ (r1 : Int32) (mi1 : MI) (ml1 : ML), Ret m_w_haveOne [(vR 10 0 1), (vI a0)] (some (vI r1)) c (MRc nb db by_ rs) mi ml mi1 ml1 ∧ ((r1 = 0 → (Fin (some (vI (-(nI 1)))) mi1 ml1 rv mi' ml')) ∧ (¬ r1 = 0 → ((a1 < 0 → (Fin (some (vI (-(nI 1)))) (u2 mi1 1 9 (nI 2)) ml1 rv mi' ml')) ∧ (¬ a1 < 0 → (((nI 2) < a1 → (Fin (some (vI (-(nI 1)))) (u2 mi1 1 9 (nI 2)) ml1 rv mi' ml')) ∧ (¬ (nI 2) < a1 → ((¬ (((mi1 nb 5) >>> (a0 &&& 31)) &&& (nI 1)) = (nI 1) → ((¬ (((mi1 nb 6) >>> (a0 &&& 31)) &&& (nI 1)) = (nI 1) → (∃ (mi2 : MI) (ml2 : ML), Ret m_ac_note [(vR 18 0 39), (vI (nI 1)), (vI a0), (vI (nI 0))] none c (MRc nb db by_ rs) (u2 mi1 1 9 (nI 0)) ml1 mi2 ml2 ∧ ((¬ a1 = (nI 1) → ((¬ a1 = (nI 2) → (Fin (some (vI (nI 0))) (u2 (u2 (u2 (u2 mi2 nb 5 ((mi2 nb 5) &&& (((nI 1) <<< (a0 &&& 31)) ^^^ (-(nI 1))))) nb 6 ((mi2 nb 6) &&& (((nI 1) <<< (a0 &&& 31)) ^^^ (-(nI 1))))) 11 2 (nI 0)) 11 3 (nI 0)) ml2 rv mi' ml')) ∧ (a1 = (nI 2) → (Fin (some (vI (nI 0))) (u2 (u2 (u2 (u2 (u2 mi2 nb 5 ((mi2 nb 5) &&& (((nI 1) <<< (a0 &&& 31)) ^^^ (-(nI 1))))) nb 6 ((mi2 nb 6) &&& (((nI 1) <<< (a0 &&& 31)) ^^^ (-(nI 1))))) nb 6 (((mi2 nb 6) &&& (((nI 1) <<< (a0 &&& 31)) ^^^ (-(nI 1)))) ||| ((nI 1) <<< (a0 &&& 31)))) 11 2 (nI 0)) 11 3 (nI 0)) ml2 rv mi' ml')))) ∧ (a1 = (nI 1) → ((¬ a1 = (nI 2) → (Fin (some (vI (nI 0))) (u2 (u2 (u2 (u2 (u2 mi2 nb 5 ((mi2 nb 5) &&& (((nI 1) <<< (a0 &&& 31)) ^^^ (-(nI 1))))) nb 6 ((mi2 nb 6) &&& (((nI 1) <<< (a0 &&& 31)) ^^^ (-(nI 1))))) nb 5 (((mi2 nb 5) &&& (((nI 1) <<< (a0 &&& 31)) ^^^ (-(nI 1)))) ||| ((nI 1) <<< (a0 &&& 31)))) 11 2 (nI 0)) 11 3 (nI 0)) ml2 rv mi' ml')) ∧ (a1 = (nI 2) → (Fin (some (vI (nI 0))) (u2 (u2 (u2 (u2 (u2 (u2 mi2 nb 5 ((mi2 nb 5) &&& (((nI 1) <<< (a0 &&& 31)) ^^^ (-(nI 1))))) nb 6 ((mi2 nb 6) &&& (((nI 1) <<< (a0 &&& 31)) ^^^ (-(nI 1))))) nb 5 (((mi2 nb 5) &&& (((nI 1) <<< (a0 &&& 31)) ^^^ (-(nI 1)))) ||| ((nI 1) <<< (a0 &&& 31)))) nb 6 (((mi2 nb 6) &&& (((nI 1) <<< (a0 &&& 31)) ^^^ (-(nI 1)))) ||| ((nI 1) <<< (a0 &&& 31)))) 11 2 (nI 0)) 11 3 (nI 0)) ml2 rv mi' ml'))))))) ∧ ((((mi1 nb 6) >>> (a0 &&& 31)) &&& (nI 1)) = (nI 1) → (∃ (mi3 : MI) (ml3 : ML), Ret m_ac_note [(vR 18 0 39), (vI (nI 1)), (vI a0), (vI (nI 2))] none c (MRc nb db by_ rs) (u2 mi1 1 9 (nI 0)) ml1 mi3 ml3 ∧ ((¬ a1 = (nI 1) → ((¬ a1 = (nI 2) → (Fin (some (vI (nI 2))) (u2 (u2 (u2 (u2 mi3 nb 5 ((mi3 nb 5) &&& (((nI 1) <<< (a0 &&& 31)) ^^^ (-(nI 1))))) nb 6 ((mi3 nb 6) &&& (((nI 1) <<< (a0 &&& 31)) ^^^ (-(nI 1))))) 11 2 (nI 0)) 11 3 (nI 0)) ml3 rv mi' ml')) ∧ (a1 = (nI 2) → (Fin (some (vI (nI 2))) (u2 (u2 (u2 (u2 (u2 mi3 nb 5 ((mi3 nb 5) &&& (((nI 1) <<< (a0 &&& 31)) ^^^ (-(nI 1))))) nb 6 ((mi3 nb 6) &&& (((nI 1) <<< (a0 &&& 31)) ^^^ (-(nI 1))))) nb 6 (((mi3 nb 6) &&& (((nI 1) <<< (a0 &&& 31)) ^^^ (-(nI 1)))) ||| ((nI 1) <<< (a0 &&& 31)))) 11 2 (nI 0)) 11 3 (nI 0)) ml3 rv mi' ml')))) ∧ (a1 = (nI 1) → ((¬ a1 = (nI 2) → (Fin (some (vI (nI 2))) (u2 (u2 (u2 (u2 (u2 mi3 nb 5 ((mi3 nb 5) &&& (((nI 1) <<< (a0 &&& 31)) ^^^ (-(nI 1))))) nb 6 ((mi3 nb 6) &&& (((nI 1) <<< (a0 &&& 31)) ^^^ (-(nI 1))))) nb 5 (((mi3 nb 5) &&& (((nI 1) <<< (a0 &&& 31)) ^^^ (-(nI 1)))) ||| ((nI 1) <<< (a0 &&& 31)))) 11 2 (nI 0)) 11 3 (nI 0)) ml3 rv mi' ml')) ∧ (a1 = (nI 2) → (Fin (some (vI (nI 2))) (u2 (u2 (u2 (u2 (u2 (u2 mi3 nb 5 ((mi3 nb 5) &&& (((nI 1) <<< (a0 &&& 31)) ^^^ (-(nI 1))))) nb 6 ((mi3 nb 6) &&& (((nI 1) <<< (a0 &&& 31)) ^^^ (-(nI 1))))) nb 5 (((mi3 nb 5) &&& (((nI 1) <<< (a0 &&& 31)) ^^^ (-(nI 1)))) ||| ((nI 1) <<< (a0 &&& 31)))) nb 6 (((mi3 nb 6) &&& (((nI 1) <<< (a0 &&& 31)) ^^^ (-(nI 1)))) ||| ((nI 1) <<< (a0 &&& 31)))) 11 2 (nI 0)) 11 3 (nI 0)) ml3 rv mi' ml'))))))))) ∧ ((((mi1 nb 5) >>> (a0 &&& 31)) &&& (nI 1)) = (nI 1) → (∃ (mi4 : MI) (ml4 : ML), Ret m_ac_note [(vR 18 0 39), (vI (nI 1)), (vI a0), (vI (nI 1))] none c (MRc nb db by_ rs) (u2 mi1 1 9 (nI 0)) ml1 mi4 ml4 ∧ ((¬ a1 = (nI 1) → ((¬ a1 = (nI 2) → (Fin (some (vI (nI 1))) (u2 (u2 (u2 (u2 mi4 nb 5 ((mi4 nb 5) &&& (((nI 1) <<< (a0 &&& 31)) ^^^ (-(nI 1))))) nb 6 ((mi4 nb 6) &&& (((nI 1) <<< (a0 &&& 31)) ^^^ (-(nI 1))))) 11 2 (nI 0)) 11 3 (nI 0)) ml4 rv mi' ml')) ∧ (a1 = (nI 2) → (Fin (some (vI (nI 1))) (u2 (u2 (u2 (u2 (u2 mi4 nb 5 ((mi4 nb 5) &&& (((nI 1) <<< (a0 &&& 31)) ^^^ (-(nI 1))))) nb 6 ((mi4 nb 6) &&& (((nI 1) <<< (a0 &&& 31)) ^^^ (-(nI 1))))) nb 6 (((mi4 nb 6) &&& (((nI 1) <<< (a0 &&& 31)) ^^^ (-(nI 1)))) ||| ((nI 1) <<< (a0 &&& 31)))) 11 2 (nI 0)) 11 3 (nI 0)) ml4 rv mi' ml')))) ∧ (a1 = (nI 1) → ((¬ a1 = (nI 2) → (Fin (some (vI (nI 1))) (u2 (u2 (u2 (u2 (u2 mi4 nb 5 ((mi4 nb 5) &&& (((nI 1) <<< (a0 &&& 31)) ^^^ (-(nI 1))))) nb 6 ((mi4 nb 6) &&& (((nI 1) <<< (a0 &&& 31)) ^^^ (-(nI 1))))) nb 5 (((mi4 nb 5) &&& (((nI 1) <<< (a0 &&& 31)) ^^^ (-(nI 1)))) ||| ((nI 1) <<< (a0 &&& 31)))) 11 2 (nI 0)) 11 3 (nI 0)) ml4 rv mi' ml')) ∧ (a1 = (nI 2) → (Fin (some (vI (nI 1))) (u2 (u2 (u2 (u2 (u2 (u2 mi4 nb 5 ((mi4 nb 5) &&& (((nI 1) <<< (a0 &&& 31)) ^^^ (-(nI 1))))) nb 6 ((mi4 nb 6) &&& (((nI 1) <<< (a0 &&& 31)) ^^^ (-(nI 1))))) nb 5 (((mi4 nb 5) &&& (((nI 1) <<< (a0 &&& 31)) ^^^ (-(nI 1)))) ||| ((nI 1) <<< (a0 &&& 31)))) nb 6 (((mi4 nb 6) &&& (((nI 1) <<< (a0 &&& 31)) ^^^ (-(nI 1)))) ||| ((nI 1) <<< (a0 &&& 31)))) 11 2 (nI 0)) 11 3 (nI 0)) ml4 rv mi' ml'))))))))))))))) :
    Ret m_w_stick [(vR 10 0 1), (vI a0), (vI a1)] rv c (MRc nb db by_ rs) mi ml mi' ml' := by
  rcases hb with ⟨rfl, rfl⟩ | ⟨rfl, rfl⟩
  all_goals
    intro Q hQ
    refine ok_wq inlT 400 rfl rfl ?_
    obtain ⟨r1, mi1, ml1, hR, h⟩ := h
    refine ⟨0, 0, Nat.zero_le _, Nat.zero_le _, hR _ ?_⟩
    refine ⟨fun g => ?_, fun g => ?_⟩
    · have h := h.1 (g)
      exact h.use hQ
    · have h := h.2 (g)
      refine ⟨fun g => ?_, fun g => ?_⟩
      · have h := h.1 (g)
        refine ⟨fun _ => ?_, fun g => absurd g (by decide)⟩
        refine ⟨Or.inl rfl, ?_⟩
        refine ⟨fun g => absurd g (by decide), fun _ => ?_⟩
        exact h.use hQ
      · have h := h.2 (g)
        refine ⟨fun g => ?_, fun g => ?_⟩
        · have h := h.1 (g)
          refine ⟨fun _ => ?_, fun g => absurd g (by decide)⟩
          refine ⟨Or.inl rfl, ?_⟩
          refine ⟨fun g => absurd g (by decide), fun _ => ?_⟩
          exact h.use hQ
        · have h := h.2 (g)
          refine ⟨fun g => absurd g (by decide), fun _ => ?_⟩
          refine ⟨Or.inr rfl, ?_⟩
          refine ⟨fun _ => ?_, fun g => absurd g (by decide)⟩
          refine ⟨fun g => ?_, fun g => ?_⟩
          · have h := h.1 (g)
            refine ⟨fun g => ?_, fun g => ?_⟩
            · have h := h.1 (g)
              obtain ⟨mi2, ml2, hR, h⟩ := h
              refine ⟨0, 0, Nat.zero_le _, Nat.zero_le _, hR _ ?_⟩
              refine ⟨fun g => ?_, fun g => ?_⟩
              · have h := h.1 (g)
                refine ⟨fun g => ?_, fun g => ?_⟩
                · have h := h.1 (g)
                  refine ⟨Or.inl rfl, ?_⟩
                  exact h.use hQ
                · have h := h.2 (g)
                  refine ⟨Or.inl rfl, ?_⟩
                  exact h.use hQ
              · have h := h.2 (g)
                refine ⟨fun g => ?_, fun g => ?_⟩
                · have h := h.1 (g)
                  refine ⟨Or.inl rfl, ?_⟩
                  exact h.use hQ
                · have h := h.2 (g)
                  refine ⟨Or.inl rfl, ?_⟩
                  exact h.use hQ
            · have h := h.2 (g)
              obtain ⟨mi3, ml3, hR, h⟩ := h
              refine ⟨0, 0, Nat.zero_le _, Nat.zero_le _, hR _ ?_⟩
              refine ⟨fun g => ?_, fun g => ?_⟩
              · have h := h.1 (g)
                refine ⟨fun g => ?_, fun g => ?_⟩
                · have h := h.1 (g)
                  refine ⟨Or.inl rfl, ?_⟩
                  exact h.use hQ
                · have h := h.2 (g)
                  refine ⟨Or.inl rfl, ?_⟩
                  exact h.use hQ
              · have h := h.2 (g)
                refine ⟨fun g => ?_, fun g => ?_⟩
                · have h := h.1 (g)
                  refine ⟨Or.inl rfl, ?_⟩
                  exact h.use hQ
                · have h := h.2 (g)
                  refine ⟨Or.inl rfl, ?_⟩
                  exact h.use hQ
          · have h := h.2 (g)
            obtain ⟨mi4, ml4, hR, h⟩ := h
            refine ⟨0, 0, Nat.zero_le _, Nat.zero_le _, hR _ ?_⟩
            refine ⟨fun g => ?_, fun g => ?_⟩
            · have h := h.1 (g)
              refine ⟨fun g => ?_, fun g => ?_⟩
              · have h := h.1 (g)
                refine ⟨Or.inl rfl, ?_⟩
                exact h.use hQ
              · have h := h.2 (g)
                refine ⟨Or.inl rfl, ?_⟩
                exact h.use hQ
            · have h := h.2 (g)
              refine ⟨fun g => ?_, fun g => ?_⟩
              · have h := h.1 (g)
                refine ⟨Or.inl rfl, ?_⟩
                exact h.use hQ
              · have h := h.2 (g)
                refine ⟨Or.inl rfl, ?_⟩
                exact h.use hQ
theorem g_w_lose_0 {nb db : Nat} {by_ rs : RX} {c : Nat} {mi mi' : MI} {ml ml' : ML} {rv : Option AV} {a0 : Int32} (hb : nb = 43 ∧ db = 5 ∨ nb = 5 ∧ db = 43)
    (h : ∃ (r1 : Int32) (mi1 : MI) (ml1 : ML), Ret m_w_haveOne [(vR 10 0 1), (vI a0)] (some (vI r1)) c (MRc nb db by_ rs) mi ml mi1 ml1 ∧ ((r1 = 0 → (Fin (some (vI (-(nI 1)))) mi1 ml1 rv mi' ml')) ∧ (¬ r1 = 0 → ((¬ (((mi1 nb 7) >>> (a0 &&& 31)) &&& (nI 1)) = (nI 1) → (∃ (mi2 : MI) (ml2 : ML), Ret m_ac_note [(vR 18 0 39), (vI (nI 2)), (vI a0), (vI (nI 0))] none c (MRc nb db by_ rs) (u2 mi1 1 9 (nI 0)) ml1 mi2 ml2 ∧ (∃ (r3 : Int32), Ret m_bn_lostCount [(vR 13 0 nb)] (some (vI r3)) c (MRc nb db by_ rs) (u2 (u2 (u2 mi2 nb 7 ((mi2 nb 7) ||| ((nI 1) <<< (a0 &&& 31)))) 11 2 (nI 0)) 11 3 (nI 0)) ml2 (u2 (u2 (u2 mi2 nb 7 ((mi2 nb 7) ||| ((nI 1) <<< (a0 &&& 31)))) 11 2 (nI 0)) 11 3 (nI 0)) ml2 ∧ (Fin (some (vI r3)) (u2 (u2 (u2 mi2 nb 7 ((mi2 nb 7) ||| ((nI 1) <<< (a0 &&& 31)))) 11 2 (nI 0)) 11 3 (nI 0)) ml2 rv mi' ml')))) ∧ ((((mi1 nb 7) >>> (a0 &&& 31)) &&& (nI 1)) = (nI 1) → (Fin (some (vI (-(nI 1)))) (u2 mi1 1 9 (nI 5)) ml1 rv mi' ml')))))) :
    Ret m_w_lose [(vR 10 0 1), (vI a0)] rv c (MRc nb db by_ rs) mi ml mi' ml' := by
  rcases hb with ⟨rfl, rfl⟩ | ⟨rfl, rfl⟩
  all_goals
    intro Q hQ
    refine ok_wq inlT 400 rfl rfl ?_
    obtain ⟨r1, mi1, ml1, hR, h⟩ := h
    refine ⟨0, 0, Nat.zero_le _, Nat.zero_le _, hR _ ?_⟩
    refine ⟨fun g => ?_, fun g => ?_⟩
    · have h := h.1 (g)
      exact h.use hQ
    · have h := h.2 (g)
      refine ⟨fun g => ?_, fun g => ?_⟩
      · have h := h.1 (g)
        refine ⟨Or.inl rfl, ?_⟩
        refine ⟨fun _ => ?_, fun g => absurd g (by decide)⟩
        refine ⟨fun g => absurd g (by decide), fun _ => ?_⟩
        refine ⟨Or.inr rfl, ?_⟩
        refine ⟨fun _ => ?_, fun g => absurd g (by decide)⟩
        obtain ⟨mi2, ml2, hR, h⟩ := h
        refine ⟨0, 0, Nat.zero_le _, Nat.zero_le _, hR _ ?_⟩
        refine ⟨Or.inl rfl, ?_⟩
        obtain ⟨r3, hR, h⟩ := h
        refine ⟨0, 0, Nat.zero_le _, Nat.zero_le _, hR _ ?_⟩
        exact h.use hQ
      · have h := h.2 (g)
        refine ⟨Or.inr rfl, ?_⟩
        refine ⟨fun g => absurd g (by decide), fun _ => ?_⟩
        refine ⟨fun _ => ?_, fun g => absurd g (by decide)⟩
        refine ⟨Or.inl rfl, ?_⟩
        refine ⟨fun g => absurd g (by decide), fun _ => ?_⟩
        exact h.use hQ
theorem g_w_undo_0 {nb db : Nat} {by_ rs : RX} {c : Nat} {mi mi' : MI} {ml ml' : ML} {rv : Option AV}  (hb : nb = 43 ∧ db = 5 ∨ nb = 5 ∧ db = 43)
    (h : ((mi 1 8) = 0 → (Fin (some (vI (nI 0))) (u2 mi 1 9 (nI 1)) ml rv mi' ml')) ∧ (¬ (mi 1 8) = 0 → (((mi 39 0) ≤ 0 → (Fin (some (vI (nI 0))) (u2 mi 1 9 (nI 1)) ml rv mi' ml')) ∧ (¬ (mi 39 0) ≤ 0 → (∃ (mi1 : MI) (ml1 : ML), Ret m_ac_takeBack [(vR 18 0 39), (vR 13 0 nb)] none c (MRc nb db by_ rs) (u2 mi 1 9 (nI 0)) ml mi1 ml1 ∧ (Fin (some (vI (nI 1))) (u2 (u2 mi1 11 2 (nI 0)) 11 3 (nI 0)) ml1 rv mi' ml')))))) :
    Ret m_w_undo [(vR 10 0 1)] rv c (MRc nb db by_ rs) mi ml mi' ml' := by
  rcases hb with ⟨rfl, rfl⟩ | ⟨rfl, rfl⟩
  all_goals
    intro Q hQ
    refine ok_wq inlT 400 rfl rfl ?_
    refine ⟨fun g => ?_, fun g => ?_⟩
    · have h := h.1 (g)
      refine ⟨fun _ => ?_, fun g => absurd g (by decide)⟩
      refine ⟨Or.inl rfl, ?_⟩
      refine ⟨fun g => absurd g (by decide), fun _ => ?_⟩
      refine ⟨Or.inl rfl, ?_⟩
      exact h.use hQ
    · have h := h.2 (g)
      refine ⟨fun g => ?_, fun g => ?_⟩
      · have h := h.1 (g)
        refine ⟨fun _ => ?_, fun g => absurd g (by decide)⟩
        refine ⟨Or.inl rfl, ?_⟩
        refine ⟨fun g => absurd g (by decide), fun _ => ?_⟩
        refine ⟨Or.inl rfl, ?_⟩
        exact h.use hQ
      · have h := h.2 (g)
        refine ⟨fun g => absurd g (by decide), fun _ => ?_⟩
        refine ⟨Or.inr rfl, ?_⟩
        refine ⟨fun _ => ?_, fun g => absurd g (by decide)⟩
        obtain ⟨mi1, ml1, hR, h⟩ := h
        refine ⟨0, 0, Nat.zero_le _, Nat.zero_le _, hR _ ?_⟩
        refine ⟨Or.inl rfl, ?_⟩
        refine ⟨Or.inr rfl, ?_⟩
        exact h.use hQ
theorem g_w_size_0 {nb db : Nat} {by_ rs : RX} {c : Nat} {mi mi' : MI} {ml ml' : ML} {rv : Option AV} {a0 : Int32}
    (h : Go m_w_size 1 [some (vR 10 0 1), some (vI a0)] [(vI a0)] rv c (MRc nb db by_ rs) mi ml mi' ml') :
    Ret m_w_size [(vR 10 0 1), (vI a0)] rv c (MRc nb db by_ rs) mi ml mi' ml' := by
  intro Q hQ
  refine ok_wq inlT 400 rfl rfl ?_
  exact h Q hQ
theorem g_w_size_40 {nb db : Nat} {by_ rs : RX} {c : Nat} {mi mi' : MI} {ml ml' : ML} {rv : Option AV} {a0 : Int32} (hb : nb = 43 ∧ db = 5 ∨ nb = 5 ∧ db = 43)
    (h : ((mi 1 8) = 0 → (Fin (some (vI (nI 0))) mi ml rv mi' ml')) ∧ (¬ (mi 1 8) = 0 → (Fin (some (vI (mi nb 4))) mi ml rv mi' ml'))) :
    Go m_w_size 40 [some (vR 10 0 1), some (vI a0)] [] rv c (MRc nb db by_ rs) mi ml mi' ml' := by
  rcases hb with ⟨rfl, rfl⟩ | ⟨rfl, rfl⟩
  all_goals
    intro Q hQ
    refine at_wq inlT 400 rfl ?_
    refine ⟨fun g => ?_, fun g => ?_⟩
    · have h := h.1 (g)
      exact h.use hQ
    · have h := h.2 (g)
      exact h.use hQ
theorem g_w_size_59 {nb db : Nat} {by_ rs : RX} {c : Nat} {mi mi' : MI} {ml ml' : ML} {rv : Option AV} {a0 : Int32} (hb : nb = 43 ∧ db = 5 ∨ nb = 5 ∧ db = 43)
    (h : ((mi 1 8) = 0 → (Fin (some (vI (nI 0))) mi ml rv mi' ml')) ∧ (¬ (mi 1 8) = 0 → (∃ (r1 : Int32), Ret m_bn_lostCount [(vR 13 0 nb)] (some (vI r1)) c (MRc nb db by_ rs) mi ml mi ml ∧ (Fin (some (vI r1)) mi ml rv mi' ml')))) :
    Go m_w_size 59 [some (vR 10 0 1), some (vI a0)] [] rv c (MRc nb db by_ rs) mi ml mi' ml' := by
  rcases hb with ⟨rfl, rfl⟩ | ⟨rfl, rfl⟩
  all_goals
    intro Q hQ
    refine at_wq inlT 400 rfl ?_
    refine ⟨fun g => ?_, fun g => ?_⟩
    · have h := h.1 (g)
      exact h.use hQ
    · have h := h.2 (g)
      obtain ⟨r1, hR, h⟩ := h
      refine ⟨0, 0, Nat.zero_le _, Nat.zero_le _, hR _ ?_⟩
      exact h.use hQ
theorem g_w_size_78 {nb db : Nat} {by_ rs : RX} {c : Nat} {mi mi' : MI} {ml ml' : ML} {rv : Option AV} {a0 : Int32}
    (h : Fin (some (vI (mi 11 2))) mi ml rv mi' ml') :
    Go m_w_size 78 [some (vR 10 0 1), some (vI a0)] [] rv c (MRc nb db by_ rs) mi ml mi' ml' := by
  intro Q hQ
  refine at_wq inlT 400 rfl ?_
  exact h.use hQ
theorem g_w_size_86 {nb db : Nat} {by_ rs : RX} {c : Nat} {mi mi' : MI} {ml ml' : ML} {rv : Option AV} {a0 : Int32}
    (h : ((mi 11 3) = 0 → (Fin (some (vI (nI 0))) mi ml rv mi' ml')) ∧ (¬ (mi 11 3) = 0 → (Fin (some (vI (nI 1))) mi ml rv mi' ml'))) :
    Go m_w_size 86 [some (vR 10 0 1), some (vI a0)] [] rv c (MRc nb db by_ rs) mi ml mi' ml' := by
  intro Q hQ
  refine at_wq inlT 400 rfl ?_
  refine ⟨fun g => ?_, fun g => ?_⟩
  · have h := h.1 (g)
    exact h.use hQ
  · have h := h.2 (g)
    exact h.use hQ
theorem g_w_size_102 {nb db : Nat} {by_ rs : RX} {c : Nat} {mi mi' : MI} {ml ml' : ML} {rv : Option AV} {a0 : Int32}
    (h : Fin (some (vI (mi 39 0))) mi ml rv mi' ml') :
    Go m_w_size 102 [some (vR 10 0 1), some (vI a0)] [] rv c (MRc nb db by_ rs) mi ml mi' ml' := by
  intro Q hQ
  refine at_wq inlT 400 rfl ?_
  exact h.use hQ
theorem g_w_size_110 {nb db : Nat} {by_ rs : RX} {c : Nat} {mi mi' : MI} {ml ml' : ML} {rv : Option AV} {a0 : Int32}
    (h : Fin (some (vI (mi 2 1))) mi ml rv mi' ml') :
    Go m_w_size 110 [some (vR 10 0 1), some (vI a0)] [] rv c (MRc nb db by_ rs) mi ml mi' ml' := by
  intro Q hQ
  refine at_wq inlT 400 rfl ?_
  exact h.use hQ
theorem g_w_size_118 {nb db : Nat} {by_ rs : RX} {c : Nat} {mi mi' : MI} {ml ml' : ML} {rv : Option AV} {a0 : Int32}
    (h : Fin (some (vI (-(nI 1)))) mi ml rv mi' ml') :
    Go m_w_size 118 [some (vR 10 0 1), some (vI a0)] [] rv c (MRc nb db by_ rs) mi ml mi' ml' := by
  intro Q hQ
  refine at_wq inlT 400 rfl ?_
  exact h.use hQ
theorem g_w_trouble_0 {nb db : Nat} {by_ rs : RX} {c : Nat} {mi mi' : MI} {ml ml' : ML} {rv : Option AV} 
    (h : Fin (some (vI (mi 1 9))) mi ml rv mi' ml') :
    Ret m_w_trouble [(vR 10 0 1)] rv c (MRc nb db by_ rs) mi ml mi' ml' := by
  intro Q hQ
  refine ok_wq inlT 400 rfl rfl ?_
  exact h.use hQ
theorem g_w_haveOne_0 {nb db : Nat} {by_ rs : RX} {c : Nat} {mi mi' : MI} {ml ml' : ML} {rv : Option AV} {a0 : Int32} (hb : nb = 43 ∧ db = 5 ∨ nb = 5 ∧ db = 43)
    (h : ((mi 1 8) = 0 → (Fin (some (vI (nI 0))) (u2 mi 1 9 (nI 1)) ml rv mi' ml')) ∧ (¬ (mi 1 8) = 0 → ((a0 < 0 → (Fin (some (vI (nI 0))) (u2 mi 1 9 (nI 1)) ml rv mi' ml')) ∧ (¬ a0 < 0 → (((mi nb 0) ≤ a0 → (Fin (some (vI (nI 0))) (u2 mi 1 9 (nI 1)) ml rv mi' ml')) ∧ (¬ (mi nb 0) ≤ a0 → (Fin (some (vI (nI 1))) (u2 mi 1 9 (nI 0)) ml rv mi' ml'))))))) :
    Ret m_w_haveOne [(vR 10 0 1), (vI a0)] rv c (MRc nb db by_ rs) mi ml mi' ml' := by
  rcases hb with ⟨rfl, rfl⟩ | ⟨rfl, rfl⟩
  all_goals
    intro Q hQ
    refine ok_wq inlT 400 rfl rfl ?_
    refine ⟨fun g => ?_, fun g => ?_⟩
    · have h := h.1 (g)
      refine ⟨fun _ => ?_, fun g => absurd g (by decide)⟩
      refine ⟨Or.inl rfl, ?_⟩
      refine ⟨Or.inl rfl, ?_⟩
      exact h.use hQ
    · have h := h.2 (g)
      refine ⟨fun g => ?_, fun g => ?_⟩
      · have h := h.1 (g)
        refine ⟨Or.inl rfl, ?_⟩
        refine ⟨fun _ => ?_, fun g => absurd g (by decide)⟩
        refine ⟨fun _ => ?_, fun g => absurd g (by decide)⟩
        refine ⟨Or.inl rfl, ?_⟩
        refine ⟨Or.inl rfl, ?_⟩
        exact h.use hQ
      · have h := h.2 (g)
        refine ⟨fun g => ?_, fun g => ?_⟩
        · have h := h.1 (g)
          refine ⟨Or.inl rfl, ?_⟩
          refine ⟨fun _ => ?_, fun g => absurd g (by decide)⟩
          refine ⟨fun _ => ?_, fun g => absurd g (by decide)⟩
          refine ⟨Or.inl rfl, ?_⟩
          refine ⟨Or.inl rfl, ?_⟩
          exact h.use hQ
        · have h := h.2 (g)
          refine ⟨Or.inr rfl, ?_⟩
          refine ⟨fun g => absurd g (by decide), fun _ => ?_⟩
          refine ⟨fun g => absurd g (by decide), fun _ => ?_⟩
          refine ⟨Or.inr rfl, ?_⟩
          refine ⟨Or.inr rfl, ?_⟩
          exact h.use hQ
theorem g_w_haveSet_0 {nb db : Nat} {by_ rs : RX} {c : Nat} {mi mi' : MI} {ml ml' : ML} {rv : Option AV} {a0 : Int32} (hb : nb = 43 ∧ db = 5 ∨ nb = 5 ∧ db = 43)
    (h : ((mi 1 8) = 0 → (Fin (some (vI (nI 0))) (u2 mi 1 9 (nI 1)) ml rv mi' ml')) ∧ (¬ (mi 1 8) = 0 → ((a0 < 0 → (Fin (some (vI (nI 0))) (u2 (u2 mi 1 9 (nI 0)) 1 9 (nI 2)) ml rv mi' ml')) ∧ (¬ a0 < 0 → ((¬ (usr a0 (mi nb 0)) = 0 → (Fin (some (vI (nI 0))) (u2 (u2 mi 1 9 (nI 0)) 1 9 (nI 2)) ml rv mi' ml')) ∧ ((usr a0 (mi nb 0)) = 0 → (Fin (some (vI (nI 1))) (u2 (u2 mi 1 9 (nI 0)) 1 9 (nI 0)) ml rv mi' ml'))))))) :
    Ret m_w_haveSet [(vR 10 0 1), (vI a0)] rv c (MRc nb db by_ rs) mi ml mi' ml' := by
  rcases hb with ⟨rfl, rfl⟩ | ⟨rfl, rfl⟩
  all_goals
    intro Q hQ
    refine ok_wq inlT 400 rfl rfl ?_
    refine ⟨fun g => ?_, fun g => ?_⟩
    · have h := h.1 (g)
      refine ⟨fun _ => ?_, fun g => absurd g (by decide)⟩
      refine ⟨Or.inl rfl, ?_⟩
      refine ⟨Or.inl rfl, ?_⟩
      refine ⟨fun _ => ?_, fun g => absurd g (by decide)⟩
      refine ⟨Or.inl rfl, ?_⟩
      exact h.use hQ
    · have h := h.2 (g)
      refine ⟨fun g => absurd g (by decide), fun _ => ?_⟩
      refine ⟨Or.inr rfl, ?_⟩
      refine ⟨Or.inr rfl, ?_⟩
      refine ⟨fun g => absurd g (by decide), fun _ => ?_⟩
      refine ⟨fun g => ?_, fun g => ?_⟩
      · have h := h.1 (g)
        refine ⟨Or.inl rfl, ?_⟩
        refine ⟨fun _ => ?_, fun g => absurd g (by decide)⟩
        refine ⟨fun _ => ?_, fun g => absurd g (by decide)⟩
        refine ⟨Or.inl rfl, ?_⟩
        refine ⟨fun _ => ?_, fun g => absurd g (by decide)⟩
        refine ⟨Or.inl rfl, ?_⟩
        exact h.use hQ
      · have h := h.2 (g)
        refine ⟨fun g => ?_, fun g => ?_⟩
        · have h := h.1 (g)
          refine ⟨Or.inl rfl, ?_⟩
          refine ⟨fun _ => ?_, fun g => absurd g (by decide)⟩
          refine ⟨fun _ => ?_, fun g => absurd g (by decide)⟩
          refine ⟨Or.inl rfl, ?_⟩
          refine ⟨fun _ => ?_, fun g => absurd g (by decide)⟩
          refine ⟨Or.inl rfl, ?_⟩
          exact h.use hQ
        · have h := h.2 (g)
          refine ⟨Or.inr rfl, ?_⟩
          refine ⟨fun g => absurd g (by decide), fun _ => ?_⟩
          refine ⟨fun g => absurd g (by decide), fun _ => ?_⟩
          refine ⟨Or.inr rfl, ?_⟩
          refine ⟨fun g => absurd g (by decide), fun _ => ?_⟩
          refine ⟨Or.inr rfl, ?_⟩
          exact h.use hQ
theorem g_w_haveBacks_0 {nb db : Nat} {by_ rs : RX} {c : Nat} {mi mi' : MI} {ml ml' : ML} {rv : Option AV}  (hb : nb = 43 ∧ db = 5 ∨ nb = 5 ∧ db = 43)
    (h : ((mi 1 8) = 0 → (Fin (some (vI (nI 0))) (u2 mi 1 9 (nI 1)) ml rv mi' ml')) ∧ (¬ (mi 1 8) = 0 → (((mi 11 3) = 0 → (Fin (some (vI (nI 0))) (u2 (u2 mi 1 9 (nI 0)) 1 9 (nI 5)) ml rv mi' ml')) ∧ (¬ (mi 11 3) = 0 → (∃ (r1 : Int32), Ret m_bn_lostCount [(vR 13 0 nb)] (some (vI r1)) c (MRc nb db by_ rs) (u2 mi 1 9 (nI 0)) ml (u2 mi 1 9 (nI 0)) ml ∧ (((nI 2) ≤ r1 → (Fin (some (vI (nI 0))) (u2 (u2 mi 1 9 (nI 0)) 1 9 (nI 5)) ml rv mi' ml')) ∧ (¬ (nI 2) ≤ r1 → (Fin (some (vI (nI 1))) (u2 (u2 mi 1 9 (nI 0)) 1 9 (nI 0)) ml rv mi' ml')))))))) :
    Ret m_w_haveBacks [(vR 10 0 1)] rv c (MRc nb db by_ rs) mi ml mi' ml' := by
  rcases hb with ⟨rfl, rfl⟩ | ⟨rfl, rfl⟩
  all_goals
    intro Q hQ
    refine ok_wq inlT 400 rfl rfl ?_
    refine ⟨fun g => ?_, fun g => ?_⟩
    · have h := h.1 (g)
      refine ⟨fun _ => ?_, fun g => absurd g (by decide)⟩
      refine ⟨Or.inl rfl, ?_⟩
      refine ⟨Or.inl rfl, ?_⟩
      refine ⟨fun _ => ?_, fun g => absurd g (by decide)⟩
      refine ⟨Or.inl rfl, ?_⟩
      exact h.use hQ
    · have h := h.2 (g)
      refine ⟨fun g => absurd g (by decide), fun _ => ?_⟩
      refine ⟨Or.inr rfl, ?_⟩
      refine ⟨Or.inr rfl, ?_⟩
      refine ⟨fun g => absurd g (by decide), fun _ => ?_⟩
      refine ⟨fun g => ?_, fun g => ?_⟩
      · have h := h.1 (g)
        refine ⟨fun _ => ?_, fun g => absurd g (by decide)⟩
        refine ⟨Or.inl rfl, ?_⟩
        refine ⟨fun _ => ?_, fun g => absurd g (by decide)⟩
        refine ⟨Or.inl rfl, ?_⟩
        exact h.use hQ
      · have h := h.2 (g)
        obtain ⟨r1, hR, h⟩ := h
        refine ⟨0, 0, Nat.zero_le _, Nat.zero_le _, hR _ ?_⟩
        refine ⟨fun g => ?_, fun g => ?_⟩
        · have h := h.1 (g)
          refine ⟨fun _ => ?_, fun g => absurd g (by decide)⟩
          refine ⟨Or.inl rfl, ?_⟩
          refine ⟨fun _ => ?_, fun g => absurd g (by decide)⟩
          refine ⟨Or.inl rfl, ?_⟩
          exact h.use hQ
        · have h := h.2 (g)
          refine ⟨fun g => absurd g (by decide), fun _ => ?_⟩
          refine ⟨Or.inr rfl, ?_⟩
          refine ⟨fun g => absurd g (by decide), fun _ => ?_⟩
          refine ⟨Or.inr rfl, ?_⟩
          exact h.use hQ
theorem g_w_haveBackOf_0 {nb db : Nat} {by_ rs : RX} {c : Nat} {mi mi' : MI} {ml ml' : ML} {rv : Option AV} {a0 : Int32}
    (h : ∃ (r1 : Int32) (mi1 : MI) (ml1 : ML), Ret m_w_haveOne [(vR 10 0 1), (vI a0)] (some (vI r1)) c (MRc nb db by_ rs) mi ml mi1 ml1 ∧ ((r1 = 0 → (Fin (some (vI (nI 0))) mi1 ml1 rv mi' ml')) ∧ (¬ r1 = 0 → (∃ (r2 : Int32) (mi2 : MI) (ml2 : ML), Ret m_w_haveBacks [(vR 10 0 1)] (some (vI r2)) c (MRc nb db by_ rs) mi1 ml1 mi2 ml2 ∧ ((r2 = 0 → (Fin (some (vI (nI 0))) mi2 ml2 rv mi' ml')) ∧ (¬ r2 = 0 → (Fin (some (vI (nI 1))) mi2 ml2 rv mi' ml'))))))) :
    Ret m_w_haveBackOf [(vR 10 0 1), (vI a0)] rv c (MRc nb db by_ rs) mi ml mi' ml' := by
  intro Q hQ
  refine ok_wq inlT 400 rfl rfl ?_
  obtain ⟨r1, mi1, ml1, hR, h⟩ := h
  refine ⟨0, 0, Nat.zero_le _, Nat.zero_le _, hR _ ?_⟩
  refine ⟨fun g => ?_, fun g => ?_⟩
  · have h := h.1 (g)
    refine ⟨Or.inl rfl, ?_⟩
    exact h.use hQ
  · have h := h.2 (g)
    obtain ⟨r2, mi2, ml2, hR, h⟩ := h
    refine ⟨0, 0, Nat.zero_le _, Nat.zero_le _, hR _ ?_⟩
    refine ⟨fun g => ?_, fun g => ?_⟩
    · have h := h.1 (g)
      refine ⟨Or.inl rfl, ?_⟩
      exact h.use hQ
    · have h := h.2 (g)
      refine ⟨Or.inr rfl, ?_⟩
      exact h.use hQ
theorem g_w_haveSuspects_0 {nb db : Nat} {by_ rs : RX} {c : Nat} {mi mi' : MI} {ml ml' : ML} {rv : Option AV}  (hb : nb = 43 ∧ db = 5 ∨ nb = 5 ∧ db = 43)
    (h : ((mi 1 8) = 0 → (Fin (some (vI (nI 0))) (u2 mi 1 9 (nI 1)) ml rv mi' ml')) ∧ (¬ (mi 1 8) = 0 → (((mi 11 3) = 0 → (Fin (some (vI (nI 0))) (u2 (u2 mi 1 9 (nI 0)) 1 9 (nI 5)) ml rv mi' ml')) ∧ (¬ (mi 11 3) = 0 → (∃ (r1 : Int32), Ret m_bn_lostCount [(vR 13 0 nb)] (some (vI r1)) c (MRc nb db by_ rs) (u2 mi 1 9 (nI 0)) ml (u2 mi 1 9 (nI 0)) ml ∧ ((¬ r1 = 0 → (Fin (some (vI (nI 0))) (u2 (u2 mi 1 9 (nI 0)) 1 9 (nI 5)) ml rv mi' ml')) ∧ (r1 = 0 → (Fin (some (vI (nI 1))) (u2 (u2 mi 1 9 (nI 0)) 1 9 (nI 0)) ml rv mi' ml')))))))) :
    Ret m_w_haveSuspects [(vR 10 0 1)] rv c (MRc nb db by_ rs) mi ml mi' ml' := by
  rcases hb with ⟨rfl, rfl⟩ | ⟨rfl, rfl⟩
  all_goals
    intro Q hQ
    refine ok_wq inlT 400 rfl rfl ?_
    refine ⟨fun g => ?_, fun g => ?_⟩
    · have h := h.1 (g)
      refine ⟨fun _ => ?_, fun g => absurd g (by decide)⟩
      refine ⟨Or.inl rfl, ?_⟩
      refine ⟨Or.inl rfl, ?_⟩
      refine ⟨fun _ => ?_, fun g => absurd g (by decide)⟩
      refine ⟨Or.inl rfl, ?_⟩
      exact h.use hQ
    · have h := h.2 (g)
      refine ⟨fun g => absurd g (by decide), fun _ => ?_⟩
      refine ⟨Or.inr rfl, ?_⟩
      refine ⟨Or.inr rfl, ?_⟩
      refine ⟨fun g => absurd g (by decide), fun _ => ?_⟩
      refine ⟨fun g => ?_, fun g => ?_⟩
      · have h := h.1 (g)
        refine ⟨fun _ => ?_, fun g => absurd g (by decide)⟩
        refine ⟨Or.inl rfl, ?_⟩
        refine ⟨fun _ => ?_, fun g => absurd g (by decide)⟩
        refine ⟨Or.inl rfl, ?_⟩
        exact h.use hQ
      · have h := h.2 (g)
        obtain ⟨r1, hR, h⟩ := h
        refine ⟨0, 0, Nat.zero_le _, Nat.zero_le _, hR _ ?_⟩
        refine ⟨fun g => ?_, fun g => ?_⟩
        · have h := h.1 (g)
          refine ⟨fun _ => ?_, fun g => absurd g (by decide)⟩
          refine ⟨Or.inl rfl, ?_⟩
          refine ⟨fun _ => ?_, fun g => absurd g (by decide)⟩
          refine ⟨Or.inl rfl, ?_⟩
          exact h.use hQ
        · have h := h.2 (g)
          refine ⟨fun g => absurd g (by decide), fun _ => ?_⟩
          refine ⟨Or.inr rfl, ?_⟩
          refine ⟨fun g => absurd g (by decide), fun _ => ?_⟩
          refine ⟨Or.inr rfl, ?_⟩
          exact h.use hQ
theorem g_w_haveTold_0 {nb db : Nat} {by_ rs : RX} {c : Nat} {mi mi' : MI} {ml ml' : ML} {rv : Option AV} {a0 : Int32}
    (h : ∃ (r1 : Int32) (mi1 : MI) (ml1 : ML), Ret m_w_haveOne [(vR 10 0 1), (vI a0)] (some (vI r1)) c (MRc nb db by_ rs) mi ml mi1 ml1 ∧ ((r1 = 0 → (Fin (some (vI (nI 0))) mi1 ml1 rv mi' ml')) ∧ (¬ r1 = 0 → ((a0 < 0 → (Fin (some (vI (nI 0))) (u2 mi1 1 9 (nI 5)) ml1 rv mi' ml')) ∧ (¬ a0 < 0 → (((nI 31) ≤ a0 → (Fin (some (vI (nI 0))) (u2 mi1 1 9 (nI 5)) ml1 rv mi' ml')) ∧ (¬ (nI 31) ≤ a0 → ((¬ (((mi1 19 1) >>> (a0 &&& 31)) &&& (nI 1)) = (nI 1) → (Fin (some (vI (nI 0))) (u2 mi1 1 9 (nI 5)) ml1 rv mi' ml')) ∧ ((((mi1 19 1) >>> (a0 &&& 31)) &&& (nI 1)) = (nI 1) → (Fin (some (vI (nI 1))) (u2 mi1 1 9 (nI 0)) ml1 rv mi' ml')))))))))) :
    Ret m_w_haveTold [(vR 10 0 1), (vI a0)] rv c (MRc nb db by_ rs) mi ml mi' ml' := by
  intro Q hQ
  refine ok_wq inlT 400 rfl rfl ?_
  obtain ⟨r1, mi1, ml1, hR, h⟩ := h
  refine ⟨0, 0, Nat.zero_le _, Nat.zero_le _, hR _ ?_⟩
  refine ⟨fun g => ?_, fun g => ?_⟩
  · have h := h.1 (g)
    refine ⟨Or.inl rfl, ?_⟩
    exact h.use hQ
  · have h := h.2 (g)
    refine ⟨fun g => ?_, fun g => ?_⟩
    · have h := h.1 (g)
      refine ⟨Or.inl rfl, ?_⟩
      refine ⟨fun _ => ?_, fun g => absurd g (by decide)⟩
      refine ⟨fun _ => ?_, fun g => absurd g (by decide)⟩
      refine ⟨Or.inl rfl, ?_⟩
      refine ⟨fun _ => ?_, fun g => absurd g (by decide)⟩
      refine ⟨Or.inl rfl, ?_⟩
      exact h.use hQ
    · have h := h.2 (g)
      refine ⟨fun g => ?_, fun g => ?_⟩
      · have h := h.1 (g)
        refine ⟨Or.inl rfl, ?_⟩
        refine ⟨fun _ => ?_, fun g => absurd g (by decide)⟩
        refine ⟨fun _ => ?_, fun g => absurd g (by decide)⟩
        refine ⟨Or.inl rfl, ?_⟩
        refine ⟨fun _ => ?_, fun g => absurd g (by decide)⟩
        refine ⟨Or.inl rfl, ?_⟩
        exact h.use hQ
      · have h := h.2 (g)
        refine ⟨fun g => ?_, fun g => ?_⟩
        · have h := h.1 (g)
          refine ⟨Or.inl rfl, ?_⟩
          refine ⟨fun _ => ?_, fun g => absurd g (by decide)⟩
          refine ⟨fun _ => ?_, fun g => absurd g (by decide)⟩
          refine ⟨Or.inl rfl, ?_⟩
          refine ⟨fun _ => ?_, fun g => absurd g (by decide)⟩
          refine ⟨Or.inl rfl, ?_⟩
          exact h.use hQ
        · have h := h.2 (g)
          refine ⟨Or.inr rfl, ?_⟩
          refine ⟨fun g => absurd g (by decide), fun _ => ?_⟩
          refine ⟨fun g => absurd g (by decide), fun _ => ?_⟩
          refine ⟨Or.inr rfl, ?_⟩
          refine ⟨fun g => absurd g (by decide), fun _ => ?_⟩
          refine ⟨Or.inr rfl, ?_⟩
          exact h.use hQ
