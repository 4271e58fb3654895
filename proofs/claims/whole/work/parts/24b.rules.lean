/-! ===== rules of the walk, laid by wip/whole/genw.py ===== -/
theorem g_bn_clear_0 {nb db b : Nat} {by_ rs : RX} {c : Nat} {mi mi' : MI} {ml ml' : ML} {rv : Option AV}  (hbb : b = 43 ∨ b = 5)
    (h : Go m_bn_clear 42 [some (vR 13 0 b), some (vI (nI 0))] [] rv c (MRc nb db by_ rs) (u2 (u2 (u2 (u2 (u2 (u2 (u2 (u2 mi b 0 (nI 0)) b 1 (nI 0)) b 2 (nI 0)) b 3 (nI 0)) b 4 (nI 0)) b 5 (nI 0)) b 6 (nI 0)) b 7 (nI 0)) ml mi' ml') :
    Ret m_bn_clear [(vR 13 0 b)] rv c (MRc nb db by_ rs) mi ml mi' ml' := by
  rcases hbb with rfl | rfl
  all_goals
    intro Q hQ
    refine ok_wq inlT 400 rfl rfl ?_
    exact h Q hQ
theorem g_bn_clear_42 {nb db b : Nat} {by_ rs : RX} {c : Nat} {mi mi' : MI} {ml ml' : ML} {rv : Option AV} {l1 : Int32} (hbb : b = 43 ∨ b = 5)
    (h : ((nI 31) ≤ l1 → (Fin none mi ml rv mi' ml')) ∧ (¬ (nI 31) ≤ l1 → (vp_in l1 31 ∧ (vp_in l1 31 ∧ (vp_in l1 31 ∧ (Go m_bn_clear 42 [some (vR 13 0 b), some (vI (l1 + nI 1))] [] rv c (MRc nb db by_ rs) (u2 (u2 (u2 mi (b + 1) l1.toNatClampNeg (nI 0)) (b + 2) l1.toNatClampNeg (nI 0)) (b + 3) l1.toNatClampNeg (nI 0)) ml mi' ml')))))) :
    Go m_bn_clear 42 [some (vR 13 0 b), some (vI l1)] [] rv c (MRc nb db by_ rs) mi ml mi' ml' := by
  rcases hbb with rfl | rfl
  all_goals
    intro Q hQ
    refine at_wq inlT 400 rfl ?_
    refine ⟨fun g => ?_, fun g => ?_⟩
    · have h := h.1 (g)
      exact h.use hQ
    · have h := h.2 (g)
      refine ⟨h.1, ?_⟩
      have h := h.2
      refine ⟨h.1, ?_⟩
      have h := h.2
      refine ⟨h.1, ?_⟩
      have h := h.2
      exact h Q hQ
theorem g_bn_makeDoubled_0 {nb db b : Nat} {by_ rs : RX} {c : Nat} {mi mi' : MI} {ml ml' : ML} {rv : Option AV} {a0 : Int32} (hbb : b = 43 ∨ b = 5)
    (h : Go m_bn_makeDoubled 21 [some (vR 13 0 b), some (vI a0), some (vI (nI 0)), none, none] [] rv c (MRc nb db by_ rs) (u2 (u2 mi b 1 (nI 0)) b 0 (if (nI 31) < (((nI 1) <<< (a0 &&& 31)) - (nI 1)) then (nI 31) else (((nI 1) <<< (a0 &&& 31)) - (nI 1)))) ml mi' ml') :
    Ret m_bn_makeDoubled [(vR 13 0 b), (vI a0)] rv c (MRc nb db by_ rs) mi ml mi' ml' := by
  rcases hbb with rfl | rfl
  all_goals
    intro Q hQ
    refine ok_wq inlT 400 rfl rfl ?_
    exact h Q hQ
theorem g_bn_makeDoubled_21 {nb db b : Nat} {by_ rs : RX} {c : Nat} {mi mi' : MI} {ml ml' : ML} {rv : Option AV} {l1 : Int32} {l2 : Int32} (hbb : b = 43 ∨ b = 5)
    (h : ((mi b 0) ≤ l2 → (Fin none mi ml rv mi' ml')) ∧ (¬ (mi b 0) ≤ l2 → (Go m_bn_makeDoubled 34 [some (vR 13 0 b), some (vI l1), some (vI l2), some (vI (nI 0)), some (vI (nI 0))] [] rv c (MRc nb db by_ rs) mi ml mi' ml'))) :
    Go m_bn_makeDoubled 21 [some (vR 13 0 b), some (vI l1), some (vI l2), none, none] [] rv c (MRc nb db by_ rs) mi ml mi' ml' := by
  rcases hbb with rfl | rfl
  all_goals
    intro Q hQ
    refine at_wq inlT 400 rfl ?_
    refine ⟨fun g => ?_, fun g => ?_⟩
    · have h := h.1 (g)
      exact h.use hQ
    · have h := h.2 (g)
      exact h Q hQ
theorem g_bn_makeDoubled_34 {nb db b : Nat} {by_ rs : RX} {c : Nat} {mi mi' : MI} {ml ml' : ML} {rv : Option AV} {l1 : Int32} {l2 : Int32} {l3 : Int32} {l4 : Int32} (hbb : b = 43 ∨ b = 5)
    (h : ((mi b 0) ≤ l4 → (vp_in l2 31 ∧ (Go m_bn_makeDoubled 21 [some (vR 13 0 b), some (vI l1), some (vI (l2 + nI 1)), none, none] [] rv c (MRc nb db by_ rs) (u2 mi (b + 1) l2.toNatClampNeg l3) ml mi' ml'))) ∧ (¬ (mi b 0) ≤ l4 → (∃ (r1 : Int32), Ret m_ji_bitCount [(vI ((l2 + (nI 1)) &&& (l4 + (nI 1))))] (some (vI r1)) c (MRc nb db by_ rs) mi ml mi ml ∧ (Go m_bn_makeDoubled 34 [some (vR 13 0 b), some (vI l1), some (vI l2), some (vI (l3 ||| ((r1 &&& (nI 1)) <<< (l4 &&& 31)))), some (vI (l4 + nI 1))] [] rv c (MRc nb db by_ rs) mi ml mi' ml')))) :
    Go m_bn_makeDoubled 34 [some (vR 13 0 b), some (vI l1), some (vI l2), some (vI l3), some (vI l4)] [] rv c (MRc nb db by_ rs) mi ml mi' ml' := by
  rcases hbb with rfl | rfl
  all_goals
    intro Q hQ
    refine at_wq inlT 400 rfl ?_
    refine ⟨fun g => ?_, fun g => ?_⟩
    · have h := h.1 (g)
      refine ⟨h.1, ?_⟩
      have h := h.2
      exact At.wk (h Q hQ) ⟨rfl, rfl, rfl, trivial⟩
    · have h := h.2 (g)
      obtain ⟨r1, hR, h⟩ := h
      refine ⟨0, 0, Nat.zero_le _, Nat.zero_le _, hR _ ?_⟩
      exact h Q hQ
theorem g_bn_makeSquares_0 {nb db b : Nat} {by_ rs : RX} {c : Nat} {mi mi' : MI} {ml ml' : ML} {rv : Option AV} {a0 : Int32} (hbb : b = 43 ∨ b = 5)
    (h : Go m_bn_makeSquares 19 [some (vR 13 0 b), some (vI a0), some (vI (nI 1)), some (vI (nI 1)), none, none] [] rv c (MRc nb db by_ rs) (u2 (u2 mi b 1 (nI 1)) b 0 (if (nI 31) < a0 then (nI 31) else a0)) ml mi' ml') :
    Ret m_bn_makeSquares [(vR 13 0 b), (vI a0)] rv c (MRc nb db by_ rs) mi ml mi' ml' := by
  rcases hbb with rfl | rfl
  all_goals
    intro Q hQ
    refine ok_wq inlT 400 rfl rfl ?_
    exact h Q hQ
theorem g_bn_makeSquares_19 {nb db b : Nat} {by_ rs : RX} {c : Nat} {mi mi' : MI} {ml ml' : ML} {rv : Option AV} {l1 : Int32} {l2 : Int32} {l3 : Int32} (hbb : b = 43 ∨ b = 5)
    (h : ((mi b 0) ≤ l3 → (Go m_bn_makeSquares 48 [some (vR 13 0 b), some (vI l1), some (vI l2), some (vI (nI 0)), none, none] [] rv c (MRc nb db by_ rs) mi ml mi' ml')) ∧ (¬ (mi b 0) ≤ l3 → (¬ (mi b 0) = 0 ∧ (Go m_bn_makeSquares 19 [some (vR 13 0 b), some (vI l1), some (vI (l2 ||| ((nI 1) <<< ((rmI (l3 * l3) (mi b 0)) &&& 31)))), some (vI (l3 + nI 1)), none, none] [] rv c (MRc nb db by_ rs) mi ml mi' ml')))) :
    Go m_bn_makeSquares 19 [some (vR 13 0 b), some (vI l1), some (vI l2), some (vI l3), none, none] [] rv c (MRc nb db by_ rs) mi ml mi' ml' := by
  rcases hbb with rfl | rfl
  all_goals
    intro Q hQ
    refine at_wq inlT 400 rfl ?_
    refine ⟨fun g => ?_, fun g => ?_⟩
    · have h := h.1 (g)
      exact h Q hQ
    · have h := h.2 (g)
      refine ⟨h.1, ?_⟩
      have h := h.2
      exact h Q hQ
theorem g_bn_makeSquares_48 {nb db b : Nat} {by_ rs : RX} {c : Nat} {mi mi' : MI} {ml ml' : ML} {rv : Option AV} {l1 : Int32} {l2 : Int32} {l3 : Int32} (hbb : b = 43 ∨ b = 5)
    (h : ((mi b 0) ≤ l3 → (Fin none mi ml rv mi' ml')) ∧ (¬ (mi b 0) ≤ l3 → (Go m_bn_makeSquares 62 [some (vR 13 0 b), some (vI l1), some (vI l2), some (vI l3), some (vI (nI 0)), some (vI (nI 0))] [] rv c (MRc nb db by_ rs) mi ml mi' ml'))) :
    Go m_bn_makeSquares 48 [some (vR 13 0 b), some (vI l1), some (vI l2), some (vI l3), none, none] [] rv c (MRc nb db by_ rs) mi ml mi' ml' := by
  rcases hbb with rfl | rfl
  all_goals
    intro Q hQ
    refine at_wq inlT 400 rfl ?_
    refine ⟨fun g => ?_, fun g => ?_⟩
    · have h := h.1 (g)
      exact h.use hQ
    · have h := h.2 (g)
      exact h Q hQ
theorem g_bn_makeSquares_62 {nb db b : Nat} {by_ rs : RX} {c : Nat} {mi mi' : MI} {ml ml' : ML} {rv : Option AV} {l1 : Int32} {l2 : Int32} {l3 : Int32} {l4 : Int32} {l5 : Int32} (hbb : b = 43 ∨ b = 5)
    (h : ((mi b 0) ≤ l5 → (vp_in l3 31 ∧ (Go m_bn_makeSquares 48 [some (vR 13 0 b), some (vI l1), some (vI l2), some (vI (l3 + nI 1)), none, none] [] rv c (MRc nb db by_ rs) (u2 mi (b + 1) l3.toNatClampNeg l4) ml mi' ml'))) ∧ (¬ (mi b 0) ≤ l5 → (¬ (mi b 0) = 0 ∧ (Go m_bn_makeSquares 62 [some (vR 13 0 b), some (vI l1), some (vI l2), some (vI l3), some (vI (l4 ||| (((l2 >>> ((rmI (l3 + l5) (mi b 0)) &&& 31)) &&& (nI 1)) <<< (l5 &&& 31)))), some (vI (l5 + nI 1))] [] rv c (MRc nb db by_ rs) mi ml mi' ml')))) :
    Go m_bn_makeSquares 62 [some (vR 13 0 b), some (vI l1), some (vI l2), some (vI l3), some (vI l4), some (vI l5)] [] rv c (MRc nb db by_ rs) mi ml mi' ml' := by
  rcases hbb with rfl | rfl
  all_goals
    intro Q hQ
    refine at_wq inlT 400 rfl ?_
    refine ⟨fun g => ?_, fun g => ?_⟩
    · have h := h.1 (g)
      refine ⟨h.1, ?_⟩
      have h := h.2
      exact At.wk (h Q hQ) ⟨rfl, rfl, rfl, rfl, trivial⟩
    · have h := h.2 (g)
      refine ⟨h.1, ?_⟩
      have h := h.2
      exact h Q hQ
theorem g_bn_lostCount_0 {nb db b : Nat} {by_ rs : RX} {c : Nat} {mi mi' : MI} {ml ml' : ML} {rv : Option AV}  (hbb : b = 43 ∨ b = 5)
    (h : ∃ (r1 : Int32), Ret m_ji_bitCount [(vI (mi b 7))] (some (vI r1)) c (MRc nb db by_ rs) mi ml mi ml ∧ (Fin (some (vI r1)) mi ml rv mi' ml')) :
    Ret m_bn_lostCount [(vR 13 0 b)] rv c (MRc nb db by_ rs) mi ml mi' ml' := by
  rcases hbb with rfl | rfl
  all_goals
    intro Q hQ
    refine ok_wq inlT 400 rfl rfl ?_
    obtain ⟨r1, hR, h⟩ := h
    refine ⟨0, 0, Nat.zero_le _, Nat.zero_le _, hR _ ?_⟩
    exact h.use hQ
theorem g_bn_monitor_0 {nb db b : Nat} {by_ rs : RX} {c : Nat} {mi mi' : MI} {ml ml' : ML} {rv : Option AV}  (hbb : b = 43 ∨ b = 5)
    (h : Go m_bn_monitor 4 [some (vR 13 0 b), some (vI (nI 0)), some (vI (nI 0))] [] rv c (MRc nb db by_ rs) mi ml mi' ml') :
    Ret m_bn_monitor [(vR 13 0 b)] rv c (MRc nb db by_ rs) mi ml mi' ml' := by
  rcases hbb with rfl | rfl
  all_goals
    intro Q hQ
    refine ok_wq inlT 400 rfl rfl ?_
    exact h Q hQ
theorem g_bn_monitor_4 {nb db b : Nat} {by_ rs : RX} {c : Nat} {mi mi' : MI} {ml ml' : ML} {rv : Option AV} {l1 : Int32} {l2 : Int32} (hbb : b = 43 ∨ b = 5)
    (h : ((mi b 0) ≤ l2 → (Fin (some (vI l1)) mi ml rv mi' ml')) ∧ (¬ (mi b 0) ≤ l2 → (vp_in l2 31 ∧ (Go m_bn_monitor 4 [some (vR 13 0 b), some (vI (l1 + (mi (b + 2) l2.toNatClampNeg))), some (vI (l2 + nI 1))] [] rv c (MRc nb db by_ rs) mi ml mi' ml')))) :
    Go m_bn_monitor 4 [some (vR 13 0 b), some (vI l1), some (vI l2)] [] rv c (MRc nb db by_ rs) mi ml mi' ml' := by
  rcases hbb with rfl | rfl
  all_goals
    intro Q hQ
    refine at_wq inlT 400 rfl ?_
    refine ⟨fun g => ?_, fun g => ?_⟩
    · have h := h.1 (g)
      exact h.use hQ
    · have h := h.2 (g)
      refine ⟨h.1, ?_⟩
      have h := h.2
      exact h Q hQ
theorem g_bn_readOf_0 {nb db b : Nat} {by_ rs : RX} {c : Nat} {mi mi' : MI} {ml ml' : ML} {rv : Option AV} {a0 : Int32} (hbb : b = 43 ∨ b = 5)
    (h : Go m_bn_readOf 22 [some (vR 13 0 b), some (vI a0), some (vI ((a0 &&& ((mi b 6) ^^^ (-(nI 1)))) ||| (mi b 5))), some (vI (mi b 2)), some (vI (nI 0))] [] rv c (MRc nb db by_ rs) mi ml mi' ml') :
    Ret m_bn_readOf [(vR 13 0 b), (vI a0)] rv c (MRc nb db by_ rs) mi ml mi' ml' := by
  rcases hbb with rfl | rfl
  all_goals
    intro Q hQ
    refine ok_wq inlT 400 rfl rfl ?_
    exact h Q hQ
theorem g_bn_readOf_22 {nb db b : Nat} {by_ rs : RX} {c : Nat} {mi mi' : MI} {ml ml' : ML} {rv : Option AV} {l1 : Int32} {l2 : Int32} {l3 : Int32} {l4 : Int32} (hbb : b = 43 ∨ b = 5)
    (h : ((mi b 0) ≤ l4 → (Fin (some (vI l3)) mi ml rv mi' ml')) ∧ (¬ (mi b 0) ≤ l4 → ((¬ ((l2 >>> (l4 &&& 31)) &&& (nI 1)) = (nI 1) → (Go m_bn_readOf 22 [some (vR 13 0 b), some (vI l1), some (vI l2), some (vI l3), some (vI (l4 + nI 1))] [] rv c (MRc nb db by_ rs) mi ml mi' ml')) ∧ (((l2 >>> (l4 &&& 31)) &&& (nI 1)) = (nI 1) → (vp_in l4 31 ∧ (Go m_bn_readOf 22 [some (vR 13 0 b), some (vI l1), some (vI l2), some (vI (l3 + (mi (b + 2) l4.toNatClampNeg))), some (vI (l4 + nI 1))] [] rv c (MRc nb db by_ rs) mi ml mi' ml')))))) :
    Go m_bn_readOf 22 [some (vR 13 0 b), some (vI l1), some (vI l2), some (vI l3), some (vI l4)] [] rv c (MRc nb db by_ rs) mi ml mi' ml' := by
  rcases hbb with rfl | rfl
  all_goals
    intro Q hQ
    refine at_wq inlT 400 rfl ?_
    refine ⟨fun g => ?_, fun g => ?_⟩
    · have h := h.1 (g)
      exact h.use hQ
    · have h := h.2 (g)
      refine ⟨fun g => ?_, fun g => ?_⟩
      · have h := h.1 (g)
        exact h Q hQ
      · have h := h.2 (g)
        refine ⟨h.1, ?_⟩
        have h := h.2
        exact h Q hQ
theorem g_bn_aloneOf_0 {nb db b : Nat} {by_ rs : RX} {c : Nat} {mi mi' : MI} {ml ml' : ML} {rv : Option AV} {a0 : Int32} (hbb : b = 43 ∨ b = 5)
    (h : ∃ (r1 : Int32), Ret m_bn_readOf [(vR 13 0 b), (vI ((nI 1) <<< (a0 &&& 31)))] (some (vI r1)) c (MRc nb db by_ rs) mi ml mi ml ∧ (vp_in a0 31 ∧ (Fin (some (vI ((r1 + (mi (b + 3) a0.toNatClampNeg)) - (mi b 2)))) mi ml rv mi' ml'))) :
    Ret m_bn_aloneOf [(vR 13 0 b), (vI a0)] rv c (MRc nb db by_ rs) mi ml mi' ml' := by
  rcases hbb with rfl | rfl
  all_goals
    intro Q hQ
    refine ok_wq inlT 400 rfl rfl ?_
    obtain ⟨r1, hR, h⟩ := h
    refine ⟨0, 0, Nat.zero_le _, Nat.zero_le _, hR _ ?_⟩
    refine ⟨h.1, ?_⟩
    have h := h.2
    exact h.use hQ
theorem g_ra_part_0 {nb db : Nat} {by_ rs : RX} {c : Nat} {mi mi' : MI} {ml ml' : ML} {rv : Option AV} {a0 : Int64} {a1 : Int64} {a2 : Int32}
    (h : ∃ (r1 : Int64), Ret m_ra_commonDivisor [(vL (if 0 < a0 then a0 else -a0)), (vL a1)] (some (vL r1)) c (MRc nb db by_ rs) mi ml mi ml ∧ (((lN 0) < r1 → ((a2 = 0 → (¬ r1 = 0 ∧ (Fin (some (vL (a0 / r1))) mi ml rv mi' ml'))) ∧ (¬ a2 = 0 → (¬ r1 = 0 ∧ (Fin (some (vL (a1 / r1))) mi ml rv mi' ml'))))) ∧ (¬ (lN 0) < r1 → (Fin (some (vL (lN 0))) mi ml rv mi' ml')))) :
    Ret m_ra_part [(vL a0), (vL a1), (vI a2)] rv c (MRc nb db by_ rs) mi ml mi' ml' := by
  intro Q hQ
  refine ok_wq inlT 400 rfl rfl ?_
  obtain ⟨r1, hR, h⟩ := h
  refine ⟨0, 0, Nat.zero_le _, Nat.zero_le _, hR _ ?_⟩
  refine ⟨fun g => ?_, fun g => ?_⟩
  · have h := h.1 ((lgc_gt _ _).mp g)
    refine ⟨fun g => ?_, fun g => ?_⟩
    · have h := h.1 (g)
      refine ⟨h.1, ?_⟩
      have h := h.2
      exact h.use hQ
    · have h := h.2 (g)
      refine ⟨h.1, ?_⟩
      have h := h.2
      exact h.use hQ
  · have h := h.2 (fun z => g ((lgc_gt _ _).mpr z))
    exact h.use hQ
theorem g_ra_commonDivisor_0 {nb db : Nat} {by_ rs : RX} {c : Nat} {mi mi' : MI} {ml ml' : ML} {rv : Option AV} {a0 : Int64} {a1 : Int64}
    (h : Go m_ra_commonDivisor 9 [some (vL a0), none, some (vL a1), none, some (vL a0), none, some (vL a1), none, some (vI (nI 0)), none, none] [] rv c (MRc nb db by_ rs) mi ml mi' ml') :
    Ret m_ra_commonDivisor [(vL a0), (vL a1)] rv c (MRc nb db by_ rs) mi ml mi' ml' := by
  intro Q hQ
  refine ok_wq inlT 400 rfl rfl ?_
  exact h Q hQ
theorem g_ra_commonDivisor_9 {nb db : Nat} {by_ rs : RX} {c : Nat} {mi mi' : MI} {ml ml' : ML} {rv : Option AV} {l0 : Int64} {l2 : Int64} {l4 : Int64} {l6 : Int64} {l8 : Int32}
    (h : ((nI 100) ≤ l8 → (Fin (some (vL l4)) mi ml rv mi' ml')) ∧ (¬ (nI 100) ≤ l8 → ((l6 = (lN 0) → (Fin (some (vL l4)) mi ml rv mi' ml')) ∧ (¬ l6 = (lN 0) → (¬ l6 = 0 ∧ (Go m_ra_commonDivisor 9 [some (vL l0), none, some (vL l2), none, some (vL l6), none, some (vL (rmL l4 l6)), none, some (vI (l8 + nI 1)), none, none] [] rv c (MRc nb db by_ rs) mi ml mi' ml')))))) :
    Go m_ra_commonDivisor 9 [some (vL l0), none, some (vL l2), none, some (vL l4), none, some (vL l6), none, some (vI l8), none, none] [] rv c (MRc nb db by_ rs) mi ml mi' ml' := by
  intro Q hQ
  refine at_wq inlT 400 rfl ?_
  refine ⟨fun g => ?_, fun g => ?_⟩
  · have h := h.1 (g)
    exact h.use hQ
  · have h := h.2 (g)
    refine ⟨fun g => ?_, fun g => ?_⟩
    · have h := h.1 ((lgc_eq _ _).mp g)
      exact h.use hQ
    · have h := h.2 (fun z => g ((lgc_eq _ _).mpr z))
      refine ⟨h.1, ?_⟩
      have h := h.2
      exact At.wk (h Q hQ) ⟨rfl, rfl, rfl, rfl, rfl, trivial⟩
theorem g_sg_lookAt_0 {nb db b : Nat} {by_ rs : RX} {c : Nat} {mi mi' : MI} {ml ml' : ML} {rv : Option AV} {a1 : Int32} (hbb : b = 43 ∨ b = 5)
    (h : ∃ (r1 : Int32), Ret m_bn_readOf [(vR 13 0 b), (vI a1)] (some (vI r1)) c (MRc nb db by_ rs) (u2 mi 11 0 ((mi 11 0) + (nI 1))) ml (u2 mi 11 0 ((mi 11 0) + (nI 1))) ml ∧ ((r1 ≤ (mi b 3) → (Fin (some (vI r1)) (u2 mi 11 0 ((mi 11 0) + (nI 1))) ml rv mi' ml')) ∧ (¬ r1 ≤ (mi b 3) → (Fin (some (vI (-(nI 1)))) (u2 (u2 mi 11 0 ((mi 11 0) + (nI 1))) 11 1 ((mi 11 1) + (nI 1))) ml rv mi' ml')))) :
    Ret m_sg_lookAt [(vR 14 0 11), (vR 13 0 b), (vI a1)] rv c (MRc nb db by_ rs) mi ml mi' ml' := by
  rcases hbb with rfl | rfl
  all_goals
    intro Q hQ
    refine ok_wq inlT 400 rfl rfl ?_
    obtain ⟨r1, hR, h⟩ := h
    refine ⟨0, 0, Nat.zero_le _, Nat.zero_le _, hR _ ?_⟩
    refine ⟨fun g => ?_, fun g => ?_⟩
    · have h := h.1 (g)
      exact h.use hQ
    · have h := h.2 (g)
      exact h.use hQ
theorem g_sg_keep_0 {nb db : Nat} {by_ rs : RX} {c : Nat} {mi mi' : MI} {ml ml' : ML} {rv : Option AV} {a0 : Int32} {a1 : Int32}
    (h : ((nI 20) ≤ (mi 11 2) → (Go m_sg_keep 26 [some (vR 14 0 11), some (vI a0), some (vI a1), some (vI ((mi 11 2) - (nI 1)))] [] rv c (MRc nb db by_ rs) mi ml mi' ml')) ∧ (¬ (nI 20) ≤ (mi 11 2) → (Go m_sg_keep 26 [some (vR 14 0 11), some (vI a0), some (vI a1), some (vI (((mi 11 2) + (nI 1)) - (nI 1)))] [] rv c (MRc nb db by_ rs) (u2 mi 11 2 ((mi 11 2) + (nI 1))) ml mi' ml'))) :
    Ret m_sg_keep [(vR 14 0 11), (vI a0), (vI a1)] rv c (MRc nb db by_ rs) mi ml mi' ml' := by
  intro Q hQ
  refine ok_wq inlT 400 rfl rfl ?_
  refine ⟨fun g => ?_, fun g => ?_⟩
  · have h := h.1 (g)
    exact h Q hQ
  · have h := h.2 (g)
    exact h Q hQ
theorem g_sg_keep_26 {nb db : Nat} {by_ rs : RX} {c : Nat} {mi mi' : MI} {ml ml' : ML} {rv : Option AV} {l1 : Int32} {l2 : Int32} {l3 : Int32}
    (h : (l3 ≤ 0 → (Fin none (u2 (u2 mi 12 0 l1) 13 0 l2) ml rv mi' ml')) ∧ (¬ l3 ≤ 0 → (vp_in (l3 - (nI 1)) 20 ∧ (vp_in l3 20 ∧ (vp_in (l3 - (nI 1)) 20 ∧ (vp_in l3 20 ∧ (Go m_sg_keep 26 [some (vR 14 0 11), some (vI l1), some (vI l2), some (vI (l3 + -(nI 1)))] [] rv c (MRc nb db by_ rs) (u2 (u2 mi 12 l3.toNatClampNeg (mi 12 (l3 - (nI 1)).toNatClampNeg)) 13 l3.toNatClampNeg (mi 13 (l3 - (nI 1)).toNatClampNeg)) ml mi' ml'))))))) :
    Go m_sg_keep 26 [some (vR 14 0 11), some (vI l1), some (vI l2), some (vI l3)] [] rv c (MRc nb db by_ rs) mi ml mi' ml' := by
  intro Q hQ
  refine at_wq inlT 400 rfl ?_
  refine ⟨fun g => ?_, fun g => ?_⟩
  · have h := h.1 (g)
    refine ⟨vp_in_nI (by decide) (by decide), ?_⟩
    refine ⟨vp_in_nI (by decide) (by decide), ?_⟩
    exact h.use hQ
  · have h := h.2 (g)
    refine ⟨h.1, ?_⟩
    have h := h.2
    refine ⟨h.1, ?_⟩
    have h := h.2
    refine ⟨h.1, ?_⟩
    have h := h.2
    refine ⟨h.1, ?_⟩
    have h := h.2
    exact h Q hQ
theorem g_sg_scanAll_0 {nb db b : Nat} {by_ rs : RX} {c : Nat} {mi mi' : MI} {ml ml' : ML} {rv : Option AV}  (hbb : b = 43 ∨ b = 5)
    (h : Go m_sg_scanAll 9 [some (vR 14 0 11), some (vR 13 0 b), some (vI (nI 0)), some (vI (nI 0)), none] [] rv c (MRc nb db by_ rs) (u2 mi 11 3 (nI 0)) ml mi' ml') :
    Ret m_sg_scanAll [(vR 14 0 11), (vR 13 0 b)] rv c (MRc nb db by_ rs) mi ml mi' ml' := by
  rcases hbb with rfl | rfl
  all_goals
    intro Q hQ
    refine ok_wq inlT 400 rfl rfl ?_
    refine ⟨Or.inl rfl, ?_⟩
    exact h Q hQ
theorem g_sg_scanAll_9 {nb db b : Nat} {by_ rs : RX} {c : Nat} {mi mi' : MI} {ml ml' : ML} {rv : Option AV} {l2 : Int32} {l3 : Int32} (hbb : b = 43 ∨ b = 5)
    (h : ((mi b 0) ≤ l3 → (∃ (mi1 : MI) (ml1 : ML), Ret m_sg_findNets [(vR 14 0 11), (vR 13 0 b)] none c (MRc nb db by_ rs) (u2 mi 11 3 (nI 1)) ml mi1 ml1 ∧ (∃ (mi2 : MI) (ml2 : ML), Ret m_sg_findBacks [(vR 14 0 11), (vR 13 0 b)] none c (MRc nb db by_ rs) mi1 ml1 mi2 ml2 ∧ (Fin (some (vI l2)) mi2 ml2 rv mi' ml')))) ∧ (¬ (mi b 0) ≤ l3 → ((¬ (((mi b 7) >>> (l3 &&& 31)) &&& (nI 1)) = (nI 1) → (vp_in l3 31 ∧ (∃ (r3 : Int32) (mi3 : MI) (ml3 : ML), Ret m_sg_lookAt [(vR 14 0 11), (vR 13 0 b), (vI (mi (b + 1) l3.toNatClampNeg))] (some (vI r3)) c (MRc nb db by_ rs) mi ml mi3 ml3 ∧ ((0 ≤ r3 → (vp_in l3 31 ∧ (vp_in l3 31 ∧ (Go m_sg_scanAll 9 [some (vR 14 0 11), some (vR 13 0 b), some (vI (l2 + nI 1)), some (vI (l3 + nI 1)), none] [] rv c (MRc nb db by_ rs) (u2 mi3 14 l3.toNatClampNeg (r3 + (mi3 (b + 3) l3.toNatClampNeg))) ml3 mi' ml')))) ∧ (¬ 0 ≤ r3 → (Fin (some (vI (-(nI 1)))) mi3 ml3 rv mi' ml')))))) ∧ ((((mi b 7) >>> (l3 &&& 31)) &&& (nI 1)) = (nI 1) → (Go m_sg_scanAll 9 [some (vR 14 0 11), some (vR 13 0 b), some (vI l2), some (vI (l3 + nI 1)), none] [] rv c (MRc nb db by_ rs) mi ml mi' ml'))))) :
    Go m_sg_scanAll 9 [some (vR 14 0 11), some (vR 13 0 b), some (vI l2), some (vI l3), none] [] rv c (MRc nb db by_ rs) mi ml mi' ml' := by
  rcases hbb with rfl | rfl
  all_goals
    intro Q hQ
    refine at_wq inlT 400 rfl ?_
    refine ⟨fun g => ?_, fun g => ?_⟩
    · have h := h.1 (g)
      refine ⟨Or.inr rfl, ?_⟩
      obtain ⟨mi1, ml1, hR, h⟩ := h
      refine ⟨0, 0, Nat.zero_le _, Nat.zero_le _, hR _ ?_⟩
      obtain ⟨mi2, ml2, hR, h⟩ := h
      refine ⟨0, 0, Nat.zero_le _, Nat.zero_le _, hR _ ?_⟩
      exact h.use hQ
    · have h := h.2 (g)
      refine ⟨fun g => ?_, fun g => ?_⟩
      · have h := h.1 (g)
        refine ⟨Or.inl rfl, ?_⟩
        refine ⟨fun g => absurd g (by decide), fun _ => ?_⟩
        refine ⟨h.1, ?_⟩
        have h := h.2
        obtain ⟨r3, mi3, ml3, hR, h⟩ := h
        refine ⟨0, 0, Nat.zero_le _, Nat.zero_le _, hR _ ?_⟩
        refine ⟨fun g => ?_, fun g => ?_⟩
        · have h := h.1 (g)
          refine ⟨h.1, ?_⟩
          have h := h.2
          refine ⟨h.1, ?_⟩
          have h := h.2
          exact At.wk (h Q hQ) ⟨rfl, rfl, rfl, rfl, trivial⟩
        · have h := h.2 (g)
          exact h.use hQ
      · have h := h.2 (g)
        refine ⟨Or.inr rfl, ?_⟩
        refine ⟨fun _ => ?_, fun g => absurd g (by decide)⟩
        exact h Q hQ
theorem g_sg_findNets_0 {nb db b : Nat} {by_ rs : RX} {c : Nat} {mi mi' : MI} {ml ml' : ML} {rv : Option AV}  (hbb : b = 43 ∨ b = 5)
    (h : Go m_sg_findNets 4 [some (vR 14 0 11), some (vR 13 0 b), some (vI (nI 0)), some (vI (nI 0)), none] [] rv c (MRc nb db by_ rs) mi ml mi' ml') :
    Ret m_sg_findNets [(vR 14 0 11), (vR 13 0 b)] rv c (MRc nb db by_ rs) mi ml mi' ml' := by
  rcases hbb with rfl | rfl
  all_goals
    intro Q hQ
    refine ok_wq inlT 400 rfl rfl ?_
    exact h Q hQ
theorem g_sg_findNets_4 {nb db b : Nat} {by_ rs : RX} {c : Nat} {mi mi' : MI} {ml ml' : ML} {rv : Option AV} {l2 : Int32} {l3 : Int32} (hbb : b = 43 ∨ b = 5)
    (h : ((mi b 0) ≤ l3 → (∃ (r1 : Int32), Ret m_bn_lostCount [(vR 13 0 b)] (some (vI r1)) c (MRc nb db by_ rs) mi (u2 ml 11 4 l2.toInt64) mi (u2 ml 11 4 l2.toInt64) ∧ ((r1 = (nI 1) → (∃ (r2 : Int32), Ret m_bn_monitor [(vR 13 0 b)] (some (vI r2)) c (MRc nb db by_ rs) mi (u2 ml 11 4 l2.toInt64) mi (u2 ml 11 4 l2.toInt64) ∧ (Go m_sg_findNets 84 [some (vR 14 0 11), some (vR 13 0 b), some (vI l2), some (vI ((((mi b 0) + (nI 1)) / (nI 2)) * r2)), some (vI (nI 0))] [] rv c (MRc nb db by_ rs) mi (u2 ml 11 4 l2.toInt64) mi' ml'))) ∧ (¬ r1 = (nI 1) → (Fin none mi (u2 ml 11 4 l2.toInt64) rv mi' ml'))))) ∧ (¬ (mi b 0) ≤ l3 → ((¬ (((mi b 7) >>> (l3 &&& 31)) &&& (nI 1)) = (nI 1) → (vp_in l3 31 ∧ (vp_in l3 31 ∧ (vp_in l3 31 ∧ (Go m_sg_findNets 4 [some (vR 14 0 11), some (vR 13 0 b), some (vI (l2 + ((u2 mi 15 l3.toNatClampNeg ((mi 14 l3.toNatClampNeg) - (mi b 2))) 15 l3.toNatClampNeg))), some (vI (l3 + nI 1)), none] [] rv c (MRc nb db by_ rs) (u2 mi 15 l3.toNatClampNeg ((mi 14 l3.toNatClampNeg) - (mi b 2))) ml mi' ml'))))) ∧ ((((mi b 7) >>> (l3 &&& 31)) &&& (nI 1)) = (nI 1) → (vp_in l3 31 ∧ (vp_in l3 31 ∧ (Go m_sg_findNets 4 [some (vR 14 0 11), some (vR 13 0 b), some (vI (l2 + ((u2 mi 15 l3.toNatClampNeg (nI 0)) 15 l3.toNatClampNeg))), some (vI (l3 + nI 1)), none] [] rv c (MRc nb db by_ rs) (u2 mi 15 l3.toNatClampNeg (nI 0)) ml mi' ml'))))))) :
    Go m_sg_findNets 4 [some (vR 14 0 11), some (vR 13 0 b), some (vI l2), some (vI l3), none] [] rv c (MRc nb db by_ rs) mi ml mi' ml' := by
  rcases hbb with rfl | rfl
  all_goals
    intro Q hQ
    refine at_wq inlT 400 rfl ?_
    refine ⟨fun g => ?_, fun g => ?_⟩
    · have h := h.1 (g)
      obtain ⟨r1, hR, h⟩ := h
      refine ⟨0, 0, Nat.zero_le _, Nat.zero_le _, hR _ ?_⟩
      refine ⟨fun g => ?_, fun g => ?_⟩
      · have h := h.1 (g)
        refine ⟨by decide, ?_⟩
        obtain ⟨r2, hR, h⟩ := h
        refine ⟨0, 0, Nat.zero_le _, Nat.zero_le _, hR _ ?_⟩
        exact h Q hQ
      · have h := h.2 (g)
        exact h.use hQ
    · have h := h.2 (g)
      refine ⟨fun g => ?_, fun g => ?_⟩
      · have h := h.1 (g)
        refine ⟨Or.inl rfl, ?_⟩
        refine ⟨fun _ => ?_, fun g => absurd g (by decide)⟩
        refine ⟨h.1, ?_⟩
        have h := h.2
        refine ⟨h.1, ?_⟩
        have h := h.2
        refine ⟨h.1, ?_⟩
        have h := h.2
        exact h Q hQ
      · have h := h.2 (g)
        refine ⟨Or.inr rfl, ?_⟩
        refine ⟨fun g => absurd g (by decide), fun _ => ?_⟩
        refine ⟨h.1, ?_⟩
        have h := h.2
        refine ⟨h.1, ?_⟩
        have h := h.2
        exact h Q hQ
theorem g_sg_findNets_84 {nb db b : Nat} {by_ rs : RX} {c : Nat} {mi mi' : MI} {ml ml' : ML} {rv : Option AV} {l2 : Int32} {l3 : Int32} {l4 : Int32} (hbb : b = 43 ∨ b = 5)
    (h : ((mi b 0) ≤ l4 → (Fin none mi (u2 ml 11 4 l3.toInt64) rv mi' ml')) ∧ (¬ (mi b 0) ≤ l4 → ((¬ (((mi b 7) >>> (l4 &&& 31)) &&& (nI 1)) = (nI 1) → (Go m_sg_findNets 84 [some (vR 14 0 11), some (vR 13 0 b), some (vI l2), some (vI l3), some (vI (l4 + nI 1))] [] rv c (MRc nb db by_ rs) mi ml mi' ml')) ∧ ((((mi b 7) >>> (l4 &&& 31)) &&& (nI 1)) = (nI 1) → (vp_in l4 31 ∧ (Go m_sg_findNets 84 [some (vR 14 0 11), some (vR 13 0 b), some (vI l2), some (vI l3), some (vI (l4 + nI 1))] [] rv c (MRc nb db by_ rs) (u2 mi 15 l4.toNatClampNeg (l3 - l2)) ml mi' ml')))))) :
    Go m_sg_findNets 84 [some (vR 14 0 11), some (vR 13 0 b), some (vI l2), some (vI l3), some (vI l4)] [] rv c (MRc nb db by_ rs) mi ml mi' ml' := by
  rcases hbb with rfl | rfl
  all_goals
    intro Q hQ
    refine at_wq inlT 400 rfl ?_
    refine ⟨fun g => ?_, fun g => ?_⟩
    · have h := h.1 (g)
      exact h.use hQ
    · have h := h.2 (g)
      refine ⟨fun g => ?_, fun g => ?_⟩
      · have h := h.1 (g)
        refine ⟨Or.inl rfl, ?_⟩
        refine ⟨fun _ => ?_, fun g => absurd g (by decide)⟩
        exact h Q hQ
      · have h := h.2 (g)
        refine ⟨Or.inr rfl, ?_⟩
        refine ⟨fun g => absurd g (by decide), fun _ => ?_⟩
        refine ⟨h.1, ?_⟩
        have h := h.2
        exact h Q hQ
theorem g_sg_findBacks_0 {nb db b : Nat} {by_ rs : RX} {c : Nat} {mi mi' : MI} {ml ml' : ML} {rv : Option AV}  (hbb : b = 43 ∨ b = 5)
    (h : Go m_sg_findBacks 2 [some (vR 14 0 11), some (vR 13 0 b), some (vI (nI 0)), none, none, none] [] rv c (MRc nb db by_ rs) mi ml mi' ml') :
    Ret m_sg_findBacks [(vR 14 0 11), (vR 13 0 b)] rv c (MRc nb db by_ rs) mi ml mi' ml' := by
  rcases hbb with rfl | rfl
  all_goals
    intro Q hQ
    refine ok_wq inlT 400 rfl rfl ?_
    exact h Q hQ
theorem g_sg_findBacks_2 {nb db b : Nat} {by_ rs : RX} {c : Nat} {mi mi' : MI} {ml ml' : ML} {rv : Option AV} {l2 : Int32} (hbb : b = 43 ∨ b = 5)
    (h : ((mi b 0) ≤ l2 → (Fin none mi ml rv mi' ml')) ∧ (¬ (mi b 0) ≤ l2 → (Go m_sg_findBacks 15 [some (vR 14 0 11), some (vR 13 0 b), some (vI l2), some (vL (lN 0)), none, some (vI (nI 0))] [] rv c (MRc nb db by_ rs) mi ml mi' ml'))) :
    Go m_sg_findBacks 2 [some (vR 14 0 11), some (vR 13 0 b), some (vI l2), none, none, none] [] rv c (MRc nb db by_ rs) mi ml mi' ml' := by
  rcases hbb with rfl | rfl
  all_goals
    intro Q hQ
    refine at_wq inlT 400 rfl ?_
    refine ⟨fun g => ?_, fun g => ?_⟩
    · have h := h.1 (g)
      exact h.use hQ
    · have h := h.2 (g)
      exact h Q hQ
theorem g_sg_findBacks_15 {nb db b : Nat} {by_ rs : RX} {c : Nat} {mi mi' : MI} {ml ml' : ML} {rv : Option AV} {l2 : Int32} {l3 : Int64} {l5 : Int32} (hbb : b = 43 ∨ b = 5)
    (h : ((mi b 0) ≤ l5 → (vp_in l2 31 ∧ (Go m_sg_findBacks 2 [some (vR 14 0 11), some (vR 13 0 b), some (vI (l2 + nI 1)), none, none, none] [] rv c (MRc nb db by_ rs) mi (u2 ml 16 l2.toNatClampNeg (((lN 4) * l3) - ((lN 2) * (ml 11 4)))) mi' ml'))) ∧ (¬ (mi b 0) ≤ l5 → (vp_in l5 31 ∧ ((¬ (((mi (b + 1) l5.toNatClampNeg) >>> (l2 &&& 31)) &&& (nI 1)) = (nI 1) → (Go m_sg_findBacks 15 [some (vR 14 0 11), some (vR 13 0 b), some (vI l2), some (vL l3), none, some (vI (l5 + nI 1))] [] rv c (MRc nb db by_ rs) mi ml mi' ml')) ∧ ((((mi (b + 1) l5.toNatClampNeg) >>> (l2 &&& 31)) &&& (nI 1)) = (nI 1) → (vp_in l5 31 ∧ (Go m_sg_findBacks 15 [some (vR 14 0 11), some (vR 13 0 b), some (vI l2), some (vL (l3 + ((mi 15 l5.toNatClampNeg).toInt64))), none, some (vI (l5 + nI 1))] [] rv c (MRc nb db by_ rs) mi ml mi' ml'))))))) :
    Go m_sg_findBacks 15 [some (vR 14 0 11), some (vR 13 0 b), some (vI l2), some (vL l3), none, some (vI l5)] [] rv c (MRc nb db by_ rs) mi ml mi' ml' := by
  rcases hbb with rfl | rfl
  all_goals
    intro Q hQ
    refine at_wq inlT 400 rfl ?_
    refine ⟨fun g => ?_, fun g => ?_⟩
    · have h := h.1 (g)
      refine ⟨h.1, ?_⟩
      have h := h.2
      exact At.wk (h Q hQ) ⟨rfl, rfl, rfl, trivial⟩
    · have h := h.2 (g)
      refine ⟨h.1, ?_⟩
      have h := h.2
      refine ⟨fun g => ?_, fun g => ?_⟩
      · have h := h.1 (g)
        exact h Q hQ
      · have h := h.2 (g)
        refine ⟨h.1, ?_⟩
        have h := h.2
        exact h Q hQ
theorem g_sg_errorOf_0 {nb db b : Nat} {by_ rs : RX} {c : Nat} {mi mi' : MI} {ml ml' : ML} {rv : Option AV} {a1 : Int32} (hbb : b = 43 ∨ b = 5)
    (h : (a1 < 0 → (Fin (some (vL (lN 0))) mi ml rv mi' ml')) ∧ (¬ a1 < 0 → (((mi b 0) ≤ a1 → (Fin (some (vL (lN 0))) mi ml rv mi' ml')) ∧ (¬ (mi b 0) ≤ a1 → (vp_in a1 31 ∧ (vp_in a1 31 ∧ (Fin (some (vL ((ml 16 a1.toNatClampNeg) - (((mi (b + 2) a1.toNatClampNeg).toInt64) * (((mi b 0) + (nI 1)).toInt64))))) mi ml rv mi' ml'))))))) :
    Ret m_sg_errorOf [(vR 14 0 11), (vR 13 0 b), (vI a1)] rv c (MRc nb db by_ rs) mi ml mi' ml' := by
  rcases hbb with rfl | rfl
  all_goals
    intro Q hQ
    refine ok_wq inlT 400 rfl rfl ?_
    refine ⟨fun g => ?_, fun g => ?_⟩
    · have h := h.1 (g)
      refine ⟨Or.inl rfl, ?_⟩
      refine ⟨fun g => absurd g (by decide), fun _ => ?_⟩
      exact h.use hQ
    · have h := h.2 (g)
      refine ⟨fun g => ?_, fun g => ?_⟩
      · have h := h.1 (g)
        refine ⟨Or.inl rfl, ?_⟩
        refine ⟨fun g => absurd g (by decide), fun _ => ?_⟩
        exact h.use hQ
      · have h := h.2 (g)
        refine ⟨Or.inr rfl, ?_⟩
        refine ⟨fun _ => ?_, fun g => absurd g (by decide)⟩
        refine ⟨h.1, ?_⟩
        have h := h.2
        refine ⟨h.1, ?_⟩
        have h := h.2
        exact h.use hQ
theorem g_su_count_0 {nb db b : Nat} {by_ rs : RX} {c : Nat} {mi mi' : MI} {ml ml' : ML} {rv : Option AV}  (hbb : b = 43 ∨ b = 5)
    (h : Go m_su_count 5 [some (vR 15 0 17), some (vR 13 0 b), some (vR 14 0 11), some (vI (nI 0)), some (vI (nI 0))] [] rv c (MRc nb db by_ rs) mi ml mi' ml') :
    Ret m_su_count [(vR 15 0 17), (vR 13 0 b), (vR 14 0 11)] rv c (MRc nb db by_ rs) mi ml mi' ml' := by
  rcases hbb with rfl | rfl
  all_goals
    intro Q hQ
    refine ok_wq inlT 400 rfl rfl ?_
    exact h Q hQ
theorem g_su_count_5 {nb db b : Nat} {by_ rs : RX} {c : Nat} {mi mi' : MI} {ml ml' : ML} {rv : Option AV} {l3 : Int32} {l4 : Int32} (hbb : b = 43 ∨ b = 5)
    (h : (((nI 2) * (mi b 0)) < l4 → (Fin (some (vI l3)) mi ml rv mi' ml')) ∧ (¬ ((nI 2) * (mi b 0)) < l4 → (∃ (r1 : Int32) (mi1 : MI) (ml1 : ML), Ret m_su_holds [(vR 15 0 17), (vI l4), (vR 13 0 b), (vR 14 0 11)] (some (vI r1)) c (MRc nb db by_ rs) mi ml mi1 ml1 ∧ ((r1 = 0 → (Go m_su_count 5 [some (vR 15 0 17), some (vR 13 0 b), some (vR 14 0 11), some (vI l3), some (vI (l4 + nI 1))] [] rv c (MRc nb db by_ rs) mi1 ml1 mi' ml')) ∧ (¬ r1 = 0 → (Go m_su_count 5 [some (vR 15 0 17), some (vR 13 0 b), some (vR 14 0 11), some (vI (l3 + nI 1)), some (vI (l4 + nI 1))] [] rv c (MRc nb db by_ rs) mi1 ml1 mi' ml')))))) :
    Go m_su_count 5 [some (vR 15 0 17), some (vR 13 0 b), some (vR 14 0 11), some (vI l3), some (vI l4)] [] rv c (MRc nb db by_ rs) mi ml mi' ml' := by
  rcases hbb with rfl | rfl
  all_goals
    intro Q hQ
    refine at_wq inlT 400 rfl ?_
    refine ⟨fun g => ?_, fun g => ?_⟩
    · have h := h.1 (g)
      exact h.use hQ
    · have h := h.2 (g)
      obtain ⟨r1, mi1, ml1, hR, h⟩ := h
      refine ⟨0, 0, Nat.zero_le _, Nat.zero_le _, hR _ ?_⟩
      refine ⟨fun g => ?_, fun g => ?_⟩
      · have h := h.1 (g)
        exact h Q hQ
      · have h := h.2 (g)
        exact h Q hQ
theorem g_su_numberOf_0 {nb db b : Nat} {by_ rs : RX} {c : Nat} {mi mi' : MI} {ml ml' : ML} {rv : Option AV} {a0 : Int32} (hbb : b = 43 ∨ b = 5)
    (h : Go m_su_numberOf 6 [some (vR 15 0 17), some (vI a0), some (vR 13 0 b), some (vR 14 0 11), some (vI (nI 0)), some (vI (nI 0))] [] rv c (MRc nb db by_ rs) mi ml mi' ml') :
    Ret m_su_numberOf [(vR 15 0 17), (vI a0), (vR 13 0 b), (vR 14 0 11)] rv c (MRc nb db by_ rs) mi ml mi' ml' := by
  rcases hbb with rfl | rfl
  all_goals
    intro Q hQ
    refine ok_wq inlT 400 rfl rfl ?_
    exact h Q hQ
theorem g_su_numberOf_6 {nb db b : Nat} {by_ rs : RX} {c : Nat} {mi mi' : MI} {ml ml' : ML} {rv : Option AV} {l1 : Int32} {l4 : Int32} {l5 : Int32} (hbb : b = 43 ∨ b = 5)
    (h : (((nI 2) * (mi b 0)) < l5 → (Fin (some (vI (-(nI 1)))) mi ml rv mi' ml')) ∧ (¬ ((nI 2) * (mi b 0)) < l5 → (∃ (r1 : Int32) (mi1 : MI) (ml1 : ML), Ret m_su_holds [(vR 15 0 17), (vI l5), (vR 13 0 b), (vR 14 0 11)] (some (vI r1)) c (MRc nb db by_ rs) mi ml mi1 ml1 ∧ ((r1 = 0 → (Go m_su_numberOf 6 [some (vR 15 0 17), some (vI l1), some (vR 13 0 b), some (vR 14 0 11), some (vI l4), some (vI (l5 + nI 1))] [] rv c (MRc nb db by_ rs) mi1 ml1 mi' ml')) ∧ (¬ r1 = 0 → ((¬ l4 = l1 → (Go m_su_numberOf 6 [some (vR 15 0 17), some (vI l1), some (vR 13 0 b), some (vR 14 0 11), some (vI (l4 + nI 1)), some (vI (l5 + nI 1))] [] rv c (MRc nb db by_ rs) mi1 ml1 mi' ml')) ∧ (l4 = l1 → (Fin (some (vI l5)) mi1 ml1 rv mi' ml')))))))) :
    Go m_su_numberOf 6 [some (vR 15 0 17), some (vI l1), some (vR 13 0 b), some (vR 14 0 11), some (vI l4), some (vI l5)] [] rv c (MRc nb db by_ rs) mi ml mi' ml' := by
  rcases hbb with rfl | rfl
  all_goals
    intro Q hQ
    refine at_wq inlT 400 rfl ?_
    refine ⟨fun g => ?_, fun g => ?_⟩
    · have h := h.1 (g)
      exact h.use hQ
    · have h := h.2 (g)
      obtain ⟨r1, mi1, ml1, hR, h⟩ := h
      refine ⟨0, 0, Nat.zero_le _, Nat.zero_le _, hR _ ?_⟩
      refine ⟨fun g => ?_, fun g => ?_⟩
      · have h := h.1 (g)
        exact h Q hQ
      · have h := h.2 (g)
        refine ⟨fun g => ?_, fun g => ?_⟩
        · have h := h.1 (g)
          exact h Q hQ
        · have h := h.2 (g)
          exact h.use hQ
theorem g_su_holds_0 {nb db b : Nat} {by_ rs : RX} {c : Nat} {mi mi' : MI} {ml ml' : ML} {rv : Option AV} {a0 : Int32} (hbb : b = 43 ∨ b = 5)
    (h : (¬ a0 = 0 → ((((a0 - (nI 1)) / (nI 2)) < 0 → (Fin (some (vI (nI 0))) mi ml rv mi' ml')) ∧ (¬ ((a0 - (nI 1)) / (nI 2)) < 0 → (((mi b 0) ≤ ((a0 - (nI 1)) / (nI 2)) → (Fin (some (vI (nI 0))) mi ml rv mi' ml')) ∧ (¬ (mi b 0) ≤ ((a0 - (nI 1)) / (nI 2)) → ((¬ (a0 &&& (nI 1)) = (nI 1) → (∃ (r1 : Int32) (mi1 : MI) (ml1 : ML), Ret m_su_supposeShut [(vR 15 0 17), (vI ((a0 - (nI 1)) / (nI 2))), (vR 13 0 b), (vR 14 0 11)] (some (vI r1)) c (MRc nb db by_ rs) mi ml mi1 ml1 ∧ ((r1 = 0 → (Fin (some (vI (nI 0))) mi1 ml1 rv mi' ml')) ∧ (¬ r1 = 0 → (∃ (r2 : Int32), Ret m_su_sumIsRight [(vR 15 0 17), (vR 13 0 b)] (some (vI r2)) c (MRc nb db by_ rs) mi1 ml1 mi1 ml1 ∧ ((r2 = 0 → (Fin (some (vI (nI 0))) mi1 ml1 rv mi' ml')) ∧ (¬ r2 = 0 → (∃ (r3 : Int32), Ret m_su_logIsRight [(vR 15 0 17), (vR 13 0 b), (vR 14 0 11), (vI (nI 0)), (vI ((nI 1) <<< (((a0 - (nI 1)) / (nI 2)) &&& 31)))] (some (vI r3)) c (MRc nb db by_ rs) mi1 ml1 mi1 ml1 ∧ ((r3 = 0 → (Fin (some (vI (nI 0))) mi1 ml1 rv mi' ml')) ∧ (¬ r3 = 0 → (Fin (some (vI (nI 1))) mi1 ml1 rv mi' ml'))))))))))) ∧ ((a0 &&& (nI 1)) = (nI 1) → (∃ (r4 : Int32) (mi4 : MI) (ml4 : ML), Ret m_su_supposeOpen [(vR 15 0 17), (vI ((a0 - (nI 1)) / (nI 2))), (vR 13 0 b), (vR 14 0 11)] (some (vI r4)) c (MRc nb db by_ rs) mi ml mi4 ml4 ∧ ((r4 = 0 → (Fin (some (vI (nI 0))) mi4 ml4 rv mi' ml')) ∧ (¬ r4 = 0 → (∃ (r5 : Int32), Ret m_su_sumIsRight [(vR 15 0 17), (vR 13 0 b)] (some (vI r5)) c (MRc nb db by_ rs) mi4 ml4 mi4 ml4 ∧ ((r5 = 0 → (Fin (some (vI (nI 0))) mi4 ml4 rv mi' ml')) ∧ (¬ r5 = 0 → (∃ (r6 : Int32), Ret m_su_logIsRight [(vR 15 0 17), (vR 13 0 b), (vR 14 0 11), (vI ((nI 1) <<< (((a0 - (nI 1)) / (nI 2)) &&& 31))), (vI (nI 0))] (some (vI r6)) c (MRc nb db by_ rs) mi4 ml4 mi4 ml4 ∧ ((r6 = 0 → (Fin (some (vI (nI 0))) mi4 ml4 rv mi' ml')) ∧ (¬ r6 = 0 → (Fin (some (vI (nI 1))) mi4 ml4 rv mi' ml'))))))))))))))))) ∧ (a0 = 0 → (∃ (r7 : Int32) (mi7 : MI) (ml7 : ML), Ret m_su_supposeFine [(vR 15 0 17), (vR 13 0 b), (vR 14 0 11)] (some (vI r7)) c (MRc nb db by_ rs) mi ml mi7 ml7 ∧ ((r7 = 0 → (Fin (some (vI (nI 0))) mi7 ml7 rv mi' ml')) ∧ (¬ r7 = 0 → (∃ (r8 : Int32), Ret m_su_sumIsRight [(vR 15 0 17), (vR 13 0 b)] (some (vI r8)) c (MRc nb db by_ rs) mi7 ml7 mi7 ml7 ∧ ((r8 = 0 → (Fin (some (vI (nI 0))) mi7 ml7 rv mi' ml')) ∧ (¬ r8 = 0 → (∃ (r9 : Int32), Ret m_su_logIsRight [(vR 15 0 17), (vR 13 0 b), (vR 14 0 11), (vI (nI 0)), (vI (nI 0))] (some (vI r9)) c (MRc nb db by_ rs) mi7 ml7 mi7 ml7 ∧ ((r9 = 0 → (Fin (some (vI (nI 0))) mi7 ml7 rv mi' ml')) ∧ (¬ r9 = 0 → (Fin (some (vI (nI 1))) mi7 ml7 rv mi' ml')))))))))))) :
    Ret m_su_holds [(vR 15 0 17), (vI a0), (vR 13 0 b), (vR 14 0 11)] rv c (MRc nb db by_ rs) mi ml mi' ml' := by
  rcases hbb with rfl | rfl
  all_goals
    intro Q hQ
    refine ok_wq inlT 400 rfl rfl ?_
    refine ⟨fun g => ?_, fun g => ?_⟩
    · have h := h.1 (g)
      refine ⟨by decide, ?_⟩
      refine ⟨fun g => ?_, fun g => ?_⟩
      · have h := h.1 (g)
        refine ⟨Or.inl rfl, ?_⟩
        refine ⟨fun g => absurd g (by decide), fun _ => ?_⟩
        refine ⟨Or.inl rfl, ?_⟩
        exact h.use hQ
      · have h := h.2 (g)
        refine ⟨fun g => ?_, fun g => ?_⟩
        · have h := h.1 (g)
          refine ⟨Or.inl rfl, ?_⟩
          refine ⟨fun g => absurd g (by decide), fun _ => ?_⟩
          refine ⟨Or.inl rfl, ?_⟩
          exact h.use hQ
        · have h := h.2 (g)
          refine ⟨Or.inr rfl, ?_⟩
          refine ⟨fun _ => ?_, fun g => absurd g (by decide)⟩
          refine ⟨fun g => ?_, fun g => ?_⟩
          · have h := h.1 (g)
            obtain ⟨r1, mi1, ml1, hR, h⟩ := h
            refine ⟨0, 0, Nat.zero_le _, Nat.zero_le _, hR _ ?_⟩
            refine ⟨fun g => ?_, fun g => ?_⟩
            · have h := h.1 (g)
              refine ⟨Or.inl rfl, ?_⟩
              exact h.use hQ
            · have h := h.2 (g)
              obtain ⟨r2, hR, h⟩ := h
              refine ⟨0, 0, Nat.zero_le _, Nat.zero_le _, hR _ ?_⟩
              refine ⟨fun g => ?_, fun g => ?_⟩
              · have h := h.1 (g)
                refine ⟨Or.inl rfl, ?_⟩
                exact h.use hQ
              · have h := h.2 (g)
                obtain ⟨r3, hR, h⟩ := h
                refine ⟨0, 0, Nat.zero_le _, Nat.zero_le _, hR _ ?_⟩
                refine ⟨fun g => ?_, fun g => ?_⟩
                · have h := h.1 (g)
                  refine ⟨Or.inl rfl, ?_⟩
                  exact h.use hQ
                · have h := h.2 (g)
                  refine ⟨Or.inr rfl, ?_⟩
                  exact h.use hQ
          · have h := h.2 (g)
            obtain ⟨r4, mi4, ml4, hR, h⟩ := h
            refine ⟨0, 0, Nat.zero_le _, Nat.zero_le _, hR _ ?_⟩
            refine ⟨fun g => ?_, fun g => ?_⟩
            · have h := h.1 (g)
              refine ⟨Or.inl rfl, ?_⟩
              exact h.use hQ
            · have h := h.2 (g)
              obtain ⟨r5, hR, h⟩ := h
              refine ⟨0, 0, Nat.zero_le _, Nat.zero_le _, hR _ ?_⟩
              refine ⟨fun g => ?_, fun g => ?_⟩
              · have h := h.1 (g)
                refine ⟨Or.inl rfl, ?_⟩
                exact h.use hQ
              · have h := h.2 (g)
                obtain ⟨r6, hR, h⟩ := h
                refine ⟨0, 0, Nat.zero_le _, Nat.zero_le _, hR _ ?_⟩
                refine ⟨fun g => ?_, fun g => ?_⟩
                · have h := h.1 (g)
                  refine ⟨Or.inl rfl, ?_⟩
                  exact h.use hQ
                · have h := h.2 (g)
                  refine ⟨Or.inr rfl, ?_⟩
                  exact h.use hQ
    · have h := h.2 (g)
      obtain ⟨r7, mi7, ml7, hR, h⟩ := h
      refine ⟨0, 0, Nat.zero_le _, Nat.zero_le _, hR _ ?_⟩
      refine ⟨fun g => ?_, fun g => ?_⟩
      · have h := h.1 (g)
        refine ⟨Or.inl rfl, ?_⟩
        exact h.use hQ
      · have h := h.2 (g)
        obtain ⟨r8, hR, h⟩ := h
        refine ⟨0, 0, Nat.zero_le _, Nat.zero_le _, hR _ ?_⟩
        refine ⟨fun g => ?_, fun g => ?_⟩
        · have h := h.1 (g)
          refine ⟨Or.inl rfl, ?_⟩
          exact h.use hQ
        · have h := h.2 (g)
          obtain ⟨r9, hR, h⟩ := h
          refine ⟨0, 0, Nat.zero_le _, Nat.zero_le _, hR _ ?_⟩
          refine ⟨fun g => ?_, fun g => ?_⟩
          · have h := h.1 (g)
            refine ⟨Or.inl rfl, ?_⟩
            exact h.use hQ
          · have h := h.2 (g)
            refine ⟨Or.inr rfl, ?_⟩
            exact h.use hQ
theorem g_su_supposeFine_0 {nb db b : Nat} {by_ rs : RX} {c : Nat} {mi mi' : MI} {ml ml' : ML} {rv : Option AV}  (hbb : b = 43 ∨ b = 5)
    (h : Go m_su_supposeFine 2 [some (vR 15 0 17), some (vR 13 0 b), some (vR 14 0 11), some (vI (nI 0))] [] rv c (MRc nb db by_ rs) mi ml mi' ml') :
    Ret m_su_supposeFine [(vR 15 0 17), (vR 13 0 b), (vR 14 0 11)] rv c (MRc nb db by_ rs) mi ml mi' ml' := by
  rcases hbb with rfl | rfl
  all_goals
    intro Q hQ
    refine ok_wq inlT 400 rfl rfl ?_
    exact h Q hQ
theorem g_su_supposeFine_2 {nb db b : Nat} {by_ rs : RX} {c : Nat} {mi mi' : MI} {ml ml' : ML} {rv : Option AV} {l3 : Int32} (hbb : b = 43 ∨ b = 5)
    (h : ((mi b 0) ≤ l3 → (Fin (some (vI (nI 1))) mi ml rv mi' ml')) ∧ (¬ (mi b 0) ≤ l3 → (vp_in l3 31 ∧ (∃ (r1 : Int32) (mi1 : MI) (ml1 : ML), Ret m_su_put [(vR 15 0 17), (vI l3), (vL (ml 16 l3.toNatClampNeg)), (vL (((mi b 0) + (nI 1)).toInt64))] (some (vI r1)) c (MRc nb db by_ rs) mi ml mi1 ml1 ∧ ((¬ r1 = 0 → (Go m_su_supposeFine 2 [some (vR 15 0 17), some (vR 13 0 b), some (vR 14 0 11), some (vI (l3 + nI 1))] [] rv c (MRc nb db by_ rs) mi1 ml1 mi' ml')) ∧ (r1 = 0 → (Fin (some (vI (nI 0))) mi1 ml1 rv mi' ml'))))))) :
    Go m_su_supposeFine 2 [some (vR 15 0 17), some (vR 13 0 b), some (vR 14 0 11), some (vI l3)] [] rv c (MRc nb db by_ rs) mi ml mi' ml' := by
  rcases hbb with rfl | rfl
  all_goals
    intro Q hQ
    refine at_wq inlT 400 rfl ?_
    refine ⟨fun g => ?_, fun g => ?_⟩
    · have h := h.1 (g)
      refine ⟨Or.inr rfl, ?_⟩
      exact h.use hQ
    · have h := h.2 (g)
      refine ⟨h.1, ?_⟩
      have h := h.2
      obtain ⟨r1, mi1, ml1, hR, h⟩ := h
      refine ⟨0, 0, Nat.zero_le _, Nat.zero_le _, hR _ ?_⟩
      refine ⟨fun g => ?_, fun g => ?_⟩
      · have h := h.1 (g)
        exact h Q hQ
      · have h := h.2 (g)
        refine ⟨Or.inl rfl, ?_⟩
        exact h.use hQ
theorem g_su_supposeOpen_0 {nb db b : Nat} {by_ rs : RX} {c : Nat} {mi mi' : MI} {ml ml' : ML} {rv : Option AV} {a0 : Int32} (hbb : b = 43 ∨ b = 5)
    (h : vp_in a0 31 ∧ (Go m_su_supposeOpen 11 [some (vR 15 0 17), some (vI a0), some (vR 13 0 b), some (vR 14 0 11), some (vL (ml 16 a0.toNatClampNeg)), none, some (vI (nI 0)), none] [] rv c (MRc nb db by_ rs) mi ml mi' ml')) :
    Ret m_su_supposeOpen [(vR 15 0 17), (vI a0), (vR 13 0 b), (vR 14 0 11)] rv c (MRc nb db by_ rs) mi ml mi' ml' := by
  rcases hbb with rfl | rfl
  all_goals
    intro Q hQ
    refine ok_wq inlT 400 rfl rfl ?_
    refine ⟨h.1, ?_⟩
    have h := h.2
    exact h Q hQ
theorem g_su_supposeOpen_11 {nb db b : Nat} {by_ rs : RX} {c : Nat} {mi mi' : MI} {ml ml' : ML} {rv : Option AV} {l1 : Int32} {l4 : Int64} {l6 : Int32} (hbb : b = 43 ∨ b = 5)
    (h : ((mi b 0) ≤ l6 → (Fin (some (vI (nI 1))) mi ml rv mi' ml')) ∧ (¬ (mi b 0) ≤ l6 → ((¬ l6 = l1 → (vp_in l6 31 ∧ (∃ (r1 : Int32) (mi1 : MI) (ml1 : ML), Ret m_su_put [(vR 15 0 17), (vI l6), (vL ((ml 16 l6.toNatClampNeg) - l4)), (vL (((mi b 0) + (nI 1)).toInt64))] (some (vI r1)) c (MRc nb db by_ rs) mi ml mi1 ml1 ∧ ((¬ r1 = 0 → (Go m_su_supposeOpen 11 [some (vR 15 0 17), some (vI l1), some (vR 13 0 b), some (vR 14 0 11), some (vL l4), none, some (vI (l6 + nI 1)), none] [] rv c (MRc nb db by_ rs) mi1 ml1 mi' ml')) ∧ (r1 = 0 → (Fin (some (vI (nI 0))) mi1 ml1 rv mi' ml')))))) ∧ (l6 = l1 → (∃ (r2 : Int32) (mi2 : MI) (ml2 : ML), Ret m_su_put [(vR 15 0 17), (vI l6), (vL l4), (vL (lN 2))] (some (vI r2)) c (MRc nb db by_ rs) mi ml mi2 ml2 ∧ ((¬ r2 = 0 → (Go m_su_supposeOpen 11 [some (vR 15 0 17), some (vI l1), some (vR 13 0 b), some (vR 14 0 11), some (vL l4), none, some (vI (l6 + nI 1)), none] [] rv c (MRc nb db by_ rs) mi2 ml2 mi' ml')) ∧ (r2 = 0 → (Fin (some (vI (nI 0))) mi2 ml2 rv mi' ml')))))))) :
    Go m_su_supposeOpen 11 [some (vR 15 0 17), some (vI l1), some (vR 13 0 b), some (vR 14 0 11), some (vL l4), none, some (vI l6), none] [] rv c (MRc nb db by_ rs) mi ml mi' ml' := by
  rcases hbb with rfl | rfl
  all_goals
    intro Q hQ
    refine at_wq inlT 400 rfl ?_
    refine ⟨fun g => ?_, fun g => ?_⟩
    · have h := h.1 (g)
      refine ⟨Or.inr rfl, ?_⟩
      exact h.use hQ
    · have h := h.2 (g)
      refine ⟨fun g => ?_, fun g => ?_⟩
      · have h := h.1 (g)
        refine ⟨h.1, ?_⟩
        have h := h.2
        obtain ⟨r1, mi1, ml1, hR, h⟩ := h
        refine ⟨0, 0, Nat.zero_le _, Nat.zero_le _, hR _ ?_⟩
        refine ⟨fun g => ?_, fun g => ?_⟩
        · have h := h.1 (g)
          exact At.wk (h Q hQ) ⟨rfl, rfl, rfl, rfl, rfl, rfl, trivial⟩
        · have h := h.2 (g)
          refine ⟨Or.inl rfl, ?_⟩
          exact h.use hQ
      · have h := h.2 (g)
        obtain ⟨r2, mi2, ml2, hR, h⟩ := h
        refine ⟨0, 0, Nat.zero_le _, Nat.zero_le _, hR _ ?_⟩
        refine ⟨fun g => ?_, fun g => ?_⟩
        · have h := h.1 (g)
          exact At.wk (h Q hQ) ⟨rfl, rfl, rfl, rfl, rfl, rfl, trivial⟩
        · have h := h.2 (g)
          refine ⟨Or.inl rfl, ?_⟩
          exact h.use hQ
theorem g_su_supposeShut_0 {nb db b : Nat} {by_ rs : RX} {c : Nat} {mi mi' : MI} {ml ml' : ML} {rv : Option AV} {a0 : Int32} (hbb : b = 43 ∨ b = 5)
    (h : vp_in a0 31 ∧ (((ml 16 a0.toNatClampNeg) = (lN 0) → (∃ (r1 : Int32), Ret m_bn_monitor [(vR 13 0 b)] (some (vI r1)) c (MRc nb db by_ rs) mi ml mi ml ∧ (Go m_su_supposeShut 23 [some (vR 15 0 17), some (vI a0), some (vR 13 0 b), some (vR 14 0 11), some (vL r1.toInt64), none, some (vI (nI 0))] [] rv c (MRc nb db by_ rs) mi ml mi' ml'))) ∧ (¬ (ml 16 a0.toNatClampNeg) = (lN 0) → (Fin (some (vI (nI 0))) mi ml rv mi' ml')))) :
    Ret m_su_supposeShut [(vR 15 0 17), (vI a0), (vR 13 0 b), (vR 14 0 11)] rv c (MRc nb db by_ rs) mi ml mi' ml' := by
  rcases hbb with rfl | rfl
  all_goals
    intro Q hQ
    refine ok_wq inlT 400 rfl rfl ?_
    refine ⟨h.1, ?_⟩
    have h := h.2
    refine ⟨fun g => ?_, fun g => ?_⟩
    · have h := h.1 ((lgc_eq _ _).mp g)
      obtain ⟨r1, hR, h⟩ := h
      refine ⟨0, 0, Nat.zero_le _, Nat.zero_le _, hR _ ?_⟩
      exact h Q hQ
    · have h := h.2 (fun z => g ((lgc_eq _ _).mpr z))
      refine ⟨Or.inl rfl, ?_⟩
      exact h.use hQ
theorem g_su_supposeShut_23 {nb db b : Nat} {by_ rs : RX} {c : Nat} {mi mi' : MI} {ml ml' : ML} {rv : Option AV} {l1 : Int32} {l4 : Int64} {l6 : Int32} (hbb : b = 43 ∨ b = 5)
    (h : ((mi b 0) ≤ l6 → (∃ (r1 : Int32) (mi1 : MI) (ml1 : ML), Ret m_su_put [(vR 15 0 17), (vI l1), (vL l4), (vL (lN 1))] (some (vI r1)) c (MRc nb db by_ rs) mi ml mi1 ml1 ∧ ((r1 = 0 ∨ r1 = 1) ∧ (Fin (some (vI r1)) mi1 ml1 rv mi' ml')))) ∧ (¬ (mi b 0) ≤ l6 → ((l6 = l1 → (Go m_su_supposeShut 23 [some (vR 15 0 17), some (vI l1), some (vR 13 0 b), some (vR 14 0 11), some (vL l4), none, some (vI (l6 + nI 1))] [] rv c (MRc nb db by_ rs) mi ml mi' ml')) ∧ (¬ l6 = l1 → (vp_in l6 31 ∧ (∃ (r2 : Int32) (mi2 : MI) (ml2 : ML), Ret m_su_put [(vR 15 0 17), (vI l6), (vL (ml 16 l6.toNatClampNeg)), (vL (((mi b 0) + (nI 1)).toInt64))] (some (vI r2)) c (MRc nb db by_ rs) mi ml mi2 ml2 ∧ ((¬ r2 = 0 → (vp_in l6 31 ∧ (Go m_su_supposeShut 23 [some (vR 15 0 17), some (vI l1), some (vR 13 0 b), some (vR 14 0 11), some (vL (l4 - ((mi2 18 l6.toNatClampNeg).toInt64))), none, some (vI (l6 + nI 1))] [] rv c (MRc nb db by_ rs) mi2 ml2 mi' ml'))) ∧ (r2 = 0 → (Fin (some (vI (nI 0))) mi2 ml2 rv mi' ml'))))))))) :
    Go m_su_supposeShut 23 [some (vR 15 0 17), some (vI l1), some (vR 13 0 b), some (vR 14 0 11), some (vL l4), none, some (vI l6)] [] rv c (MRc nb db by_ rs) mi ml mi' ml' := by
  rcases hbb with rfl | rfl
  all_goals
    intro Q hQ
    refine at_wq inlT 400 rfl ?_
    refine ⟨fun g => ?_, fun g => ?_⟩
    · have h := h.1 (g)
      obtain ⟨r1, mi1, ml1, hR, h⟩ := h
      refine ⟨0, 0, Nat.zero_le _, Nat.zero_le _, hR _ ?_⟩
      refine ⟨h.1, ?_⟩
      have h := h.2
      exact h.use hQ
    · have h := h.2 (g)
      refine ⟨fun g => ?_, fun g => ?_⟩
      · have h := h.1 (g)
        exact h Q hQ
      · have h := h.2 (g)
        refine ⟨h.1, ?_⟩
        have h := h.2
        obtain ⟨r2, mi2, ml2, hR, h⟩ := h
        refine ⟨0, 0, Nat.zero_le _, Nat.zero_le _, hR _ ?_⟩
        refine ⟨fun g => ?_, fun g => ?_⟩
        · have h := h.1 (g)
          refine ⟨h.1, ?_⟩
          have h := h.2
          exact h Q hQ
        · have h := h.2 (g)
          refine ⟨Or.inl rfl, ?_⟩
          exact h.use hQ
theorem g_su_put_0 {nb db : Nat} {by_ rs : RX} {c : Nat} {mi mi' : MI} {ml ml' : ML} {rv : Option AV} {a0 : Int32} {a1 : Int64} {a2 : Int64}
    (h : (a0 < 0 → (Fin (some (vI (nI 0))) mi ml rv mi' ml')) ∧ (¬ a0 < 0 → (((nI 31) ≤ a0 → (Fin (some (vI (nI 0))) mi ml rv mi' ml')) ∧ (¬ (nI 31) ≤ a0 → ((a2 ≤ (lN 0) → (Fin (some (vI (nI 0))) mi ml rv mi' ml')) ∧ (¬ a2 ≤ (lN 0) → (¬ a2 = 0 ∧ (((rmL a1 a2) = (lN 0) → (¬ a2 = 0 ∧ (((a1 / a2) < (lN 0) → (Fin (some (vI (nI 0))) mi ml rv mi' ml')) ∧ (¬ (a1 / a2) < (lN 0) → (((a1 / a2) ≤ (lN 9999) → (vp_in a0 31 ∧ (Fin (some (vI (nI 1))) (u2 mi 18 a0.toNatClampNeg ((a1 / a2).toInt32)) ml rv mi' ml'))) ∧ (¬ (a1 / a2) ≤ (lN 9999) → (Fin (some (vI (nI 0))) mi ml rv mi' ml'))))))) ∧ (¬ (rmL a1 a2) = (lN 0) → (Fin (some (vI (nI 0))) mi ml rv mi' ml')))))))))) :
    Ret m_su_put [(vR 15 0 17), (vI a0), (vL a1), (vL a2)] rv c (MRc nb db by_ rs) mi ml mi' ml' := by
  intro Q hQ
  refine ok_wq inlT 400 rfl rfl ?_
  refine ⟨fun g => ?_, fun g => ?_⟩
  · have h := h.1 (g)
    refine ⟨Or.inl rfl, ?_⟩
    exact h.use hQ
  · have h := h.2 (g)
    refine ⟨fun g => ?_, fun g => ?_⟩
    · have h := h.1 (g)
      refine ⟨Or.inl rfl, ?_⟩
      exact h.use hQ
    · have h := h.2 (g)
      refine ⟨fun g => ?_, fun g => ?_⟩
      · have h := h.1 ((lgc_le _ _).mp g)
        refine ⟨Or.inl rfl, ?_⟩
        exact h.use hQ
      · have h := h.2 (fun z => g ((lgc_le _ _).mpr z))
        refine ⟨h.1, ?_⟩
        have h := h.2
        refine ⟨fun g => ?_, fun g => ?_⟩
        · have h := h.1 ((lgc_eq _ _).mp g)
          refine ⟨h.1, ?_⟩
          have h := h.2
          refine ⟨fun g => ?_, fun g => ?_⟩
          · have h := h.1 ((lgc_lt _ _).mp g)
            refine ⟨Or.inl rfl, ?_⟩
            exact h.use hQ
          · have h := h.2 (fun z => g ((lgc_lt _ _).mpr z))
            refine ⟨fun g => ?_, fun g => ?_⟩
            · have h := h.1 ((lgc_le _ _).mp g)
              refine ⟨h.1, ?_⟩
              have h := h.2
              refine ⟨Or.inr rfl, ?_⟩
              exact h.use hQ
            · have h := h.2 (fun z => g ((lgc_le _ _).mpr z))
              refine ⟨Or.inl rfl, ?_⟩
              exact h.use hQ
        · have h := h.2 (fun z => g ((lgc_eq _ _).mpr z))
          refine ⟨Or.inl rfl, ?_⟩
          exact h.use hQ
theorem g_su_sumIsRight_0 {nb db b : Nat} {by_ rs : RX} {c : Nat} {mi mi' : MI} {ml ml' : ML} {rv : Option AV}  (hbb : b = 43 ∨ b = 5)
    (h : Go m_su_sumIsRight 4 [some (vR 15 0 17), some (vR 13 0 b), some (vI (nI 0)), some (vI (nI 0))] [] rv c (MRc nb db by_ rs) mi ml mi' ml') :
    Ret m_su_sumIsRight [(vR 15 0 17), (vR 13 0 b)] rv c (MRc nb db by_ rs) mi ml mi' ml' := by
  rcases hbb with rfl | rfl
  all_goals
    intro Q hQ
    refine ok_wq inlT 400 rfl rfl ?_
    exact h Q hQ
theorem g_su_sumIsRight_4 {nb db b : Nat} {by_ rs : RX} {c : Nat} {mi mi' : MI} {ml ml' : ML} {rv : Option AV} {l2 : Int32} {l3 : Int32} (hbb : b = 43 ∨ b = 5)
    (h : ((mi b 0) ≤ l3 → (∃ (r1 : Int32), Ret m_bn_monitor [(vR 13 0 b)] (some (vI r1)) c (MRc nb db by_ rs) mi ml mi ml ∧ ((¬ l2 = r1 → (Fin (some (vI (nI 0))) mi ml rv mi' ml')) ∧ (l2 = r1 → (Fin (some (vI (nI 1))) mi ml rv mi' ml'))))) ∧ (¬ (mi b 0) ≤ l3 → (vp_in l3 31 ∧ (Go m_su_sumIsRight 4 [some (vR 15 0 17), some (vR 13 0 b), some (vI (l2 + (mi 18 l3.toNatClampNeg))), some (vI (l3 + nI 1))] [] rv c (MRc nb db by_ rs) mi ml mi' ml')))) :
    Go m_su_sumIsRight 4 [some (vR 15 0 17), some (vR 13 0 b), some (vI l2), some (vI l3)] [] rv c (MRc nb db by_ rs) mi ml mi' ml' := by
  rcases hbb with rfl | rfl
  all_goals
    intro Q hQ
    refine at_wq inlT 400 rfl ?_
    refine ⟨fun g => ?_, fun g => ?_⟩
    · have h := h.1 (g)
      obtain ⟨r1, hR, h⟩ := h
      refine ⟨0, 0, Nat.zero_le _, Nat.zero_le _, hR _ ?_⟩
      refine ⟨fun g => ?_, fun g => ?_⟩
      · have h := h.1 (g)
        refine ⟨Or.inl rfl, ?_⟩
        exact h.use hQ
      · have h := h.2 (g)
        refine ⟨Or.inr rfl, ?_⟩
        exact h.use hQ
    · have h := h.2 (g)
      refine ⟨h.1, ?_⟩
      have h := h.2
      exact h Q hQ
theorem g_su_logIsRight_0 {nb db b : Nat} {by_ rs : RX} {c : Nat} {mi mi' : MI} {ml ml' : ML} {rv : Option AV} {a2 : Int32} {a3 : Int32} (hbb : b = 43 ∨ b = 5)
    (h : Go m_su_logIsRight 3 [some (vR 15 0 17), some (vR 13 0 b), some (vR 14 0 11), some (vI a2), some (vI a3), some (vI (nI 0)), none, none, none] [] rv c (MRc nb db by_ rs) mi ml mi' ml') :
    Ret m_su_logIsRight [(vR 15 0 17), (vR 13 0 b), (vR 14 0 11), (vI a2), (vI a3)] rv c (MRc nb db by_ rs) mi ml mi' ml' := by
  rcases hbb with rfl | rfl
  all_goals
    intro Q hQ
    refine ok_wq inlT 400 rfl rfl ?_
    exact h Q hQ
theorem g_su_logIsRight_3 {nb db b : Nat} {by_ rs : RX} {c : Nat} {mi mi' : MI} {ml ml' : ML} {rv : Option AV} {l3 : Int32} {l4 : Int32} {l5 : Int32} (hbb : b = 43 ∨ b = 5)
    (h : ((mi 11 2) ≤ l5 → (Fin (some (vI (nI 1))) mi ml rv mi' ml')) ∧ (¬ (mi 11 2) ≤ l5 → (vp_in l5 20 ∧ (Go m_su_logIsRight 37 [some (vR 15 0 17), some (vR 13 0 b), some (vR 14 0 11), some (vI l3), some (vI l4), some (vI l5), some (vI (((mi 12 l5.toNatClampNeg) &&& (l4 ^^^ (-(nI 1)))) ||| l3)), some (vI (mi b 2)), some (vI (nI 0))] [] rv c (MRc nb db by_ rs) mi ml mi' ml')))) :
    Go m_su_logIsRight 3 [some (vR 15 0 17), some (vR 13 0 b), some (vR 14 0 11), some (vI l3), some (vI l4), some (vI l5), none, none, none] [] rv c (MRc nb db by_ rs) mi ml mi' ml' := by
  rcases hbb with rfl | rfl
  all_goals
    intro Q hQ
    refine at_wq inlT 400 rfl ?_
    refine ⟨fun g => ?_, fun g => ?_⟩
    · have h := h.1 (g)
      refine ⟨Or.inr rfl, ?_⟩
      exact h.use hQ
    · have h := h.2 (g)
      refine ⟨h.1, ?_⟩
      have h := h.2
      exact h Q hQ
theorem g_su_logIsRight_37 {nb db b : Nat} {by_ rs : RX} {c : Nat} {mi mi' : MI} {ml ml' : ML} {rv : Option AV} {l3 : Int32} {l4 : Int32} {l5 : Int32} {l6 : Int32} {l7 : Int32} {l8 : Int32} (hbb : b = 43 ∨ b = 5)
    (h : ((mi b 0) ≤ l8 → (vp_in l5 20 ∧ ((l7 = (mi 13 l5.toNatClampNeg) → (Go m_su_logIsRight 3 [some (vR 15 0 17), some (vR 13 0 b), some (vR 14 0 11), some (vI l3), some (vI l4), some (vI (l5 + nI 1)), none, none, none] [] rv c (MRc nb db by_ rs) mi ml mi' ml')) ∧ (¬ l7 = (mi 13 l5.toNatClampNeg) → (Fin (some (vI (nI 0))) mi ml rv mi' ml'))))) ∧ (¬ (mi b 0) ≤ l8 → ((¬ ((l6 >>> (l8 &&& 31)) &&& (nI 1)) = (nI 1) → (Go m_su_logIsRight 37 [some (vR 15 0 17), some (vR 13 0 b), some (vR 14 0 11), some (vI l3), some (vI l4), some (vI l5), some (vI l6), some (vI l7), some (vI (l8 + nI 1))] [] rv c (MRc nb db by_ rs) mi ml mi' ml')) ∧ (((l6 >>> (l8 &&& 31)) &&& (nI 1)) = (nI 1) → (vp_in l8 31 ∧ (Go m_su_logIsRight 37 [some (vR 15 0 17), some (vR 13 0 b), some (vR 14 0 11), some (vI l3), some (vI l4), some (vI l5), some (vI l6), some (vI (l7 + (mi 18 l8.toNatClampNeg))), some (vI (l8 + nI 1))] [] rv c (MRc nb db by_ rs) mi ml mi' ml')))))) :
    Go m_su_logIsRight 37 [some (vR 15 0 17), some (vR 13 0 b), some (vR 14 0 11), some (vI l3), some (vI l4), some (vI l5), some (vI l6), some (vI l7), some (vI l8)] [] rv c (MRc nb db by_ rs) mi ml mi' ml' := by
  rcases hbb with rfl | rfl
  all_goals
    intro Q hQ
    refine at_wq inlT 400 rfl ?_
    refine ⟨fun g => ?_, fun g => ?_⟩
    · have h := h.1 (g)
      refine ⟨h.1, ?_⟩
      have h := h.2
      refine ⟨fun g => ?_, fun g => ?_⟩
      · have h := h.1 (g)
        exact At.wk (h Q hQ) ⟨rfl, rfl, rfl, rfl, rfl, rfl, trivial⟩
      · have h := h.2 (g)
        refine ⟨Or.inl rfl, ?_⟩
        exact h.use hQ
    · have h := h.2 (g)
      refine ⟨fun g => ?_, fun g => ?_⟩
      · have h := h.1 (g)
        exact h Q hQ
      · have h := h.2 (g)
        refine ⟨h.1, ?_⟩
        have h := h.2
        exact h Q hQ
