/-! ===== the law's cases, laid by wip/whole/genlaw.py ===== -/
section
variable {L n f k s0 c : Nat} {s : Nat → Int32} {l4 : Int32} {mr : MR} {mi : MI} {ml : ML}
set_option maxRecDepth 100000 in
theorem LC_20 (K : KL L n s l4) (ix : ∀ j, j ≤ 5 → vp_in (l4 + nI j) L) (hk : f + n ≤ k) (hs0 : 49152 * f + 6 * n ≤ s0) (H : LI f s c mr mi ml) : At m_l_law 792 [some (vR 104 L 0), some (vR 10 0 1), some (vR 19 0 48), some (vR 1 1 66), some (vI l4), none, none] [] k s0 (Zq QW) c mr mi ml := by
  have hs := H.sc
  refine at_wq inlT 400 rfl ?_
  refine ⟨ix 1 (by decide), ?_⟩
  refine ⟨ix 2 (by decide), ?_⟩
  refine ⟨fun g0 => ?_, fun g0 => ?_⟩
  · refine ⟨0, 0, Nat.zero_le _, Nat.zero_le _, Ok.mono (C_back H) (fun r c' mr' mi' ml' h => ?_)⟩
    obtain ⟨e0, v, iv, er, hR⟩ := h
    obtain ⟨u, ev⟩ := isV_l rfl iv
    subst ev er
    have e : mi' 0 = mi 0 := e0.trans hs.symm
    refine ⟨ix 1 (by decide), ?_⟩
    refine ⟨ix 2 (by decide), ?_⟩
    refine ⟨fun g2 => ?_, fun g2 => absurd (by rw [e]; exact g0) g2⟩
    refine ⟨0, 0, Nat.zero_le _, Nat.zero_le _, ?_⟩
    rw [← e] at hR
    refine Ok.mono hR (fun r2 c2 mr2 mi2 ml2 h => ?_)
    obtain ⟨er2, J⟩ := h
    subst er2
    refine ⟨fun _ => ?_, fun z => absurd ((lgc_eq u u).mpr rfl) z⟩
    exact K _ _ _ _ _ _ _ hk hs0 J
  · refine ⟨0, 0, Nat.zero_le _, Nat.zero_le _, Ok.mono (C_back H) (fun r c' mr' mi' ml' h => ?_)⟩
    obtain ⟨e0, v, iv, er, hR⟩ := h
    obtain ⟨u, ev⟩ := isV_l rfl iv
    subst ev er
    have e : mi' 0 = mi 0 := e0.trans hs.symm
    refine ⟨ix 1 (by decide), ?_⟩
    refine ⟨ix 2 (by decide), ?_⟩
    refine ⟨fun g2 => absurd (by rw [← e]; exact g2) g0, fun g2 => ?_⟩
    refine ⟨0, 0, Nat.zero_le _, Nat.zero_le _, ?_⟩
    rw [← e] at hR
    refine Ok.mono hR (fun r2 c2 mr2 mi2 ml2 h => ?_)
    obtain ⟨er2, J⟩ := h
    subst er2
    refine ⟨fun _ => ?_, fun z => absurd ((lgc_eq u u).mpr rfl) z⟩
    exact K _ _ _ _ _ _ _ hk hs0 J
set_option maxRecDepth 100000 in
theorem LC_21 (K : KL L n s l4) (ix : ∀ j, j ≤ 5 → vp_in (l4 + nI j) L) (hk : f + n ≤ k) (hs0 : 49152 * f + 6 * n ≤ s0) (H : LI f s c mr mi ml) : At m_l_law 846 [some (vR 104 L 0), some (vR 10 0 1), some (vR 19 0 48), some (vR 1 1 66), some (vI l4), none, none] [] k s0 (Zq QW) c mr mi ml := by
  have hs := H.sc
  refine at_wq inlT 400 rfl ?_
  refine ⟨0, 0, Nat.zero_le _, Nat.zero_le _, Ok.mono (C_odds H) (fun r c' mr' mi' ml' h => ?_)⟩
  obtain ⟨e0, v, iv, er, hR⟩ := h
  obtain ⟨u, ev⟩ := isV_i rfl iv
  subst ev er
  have e : mi' 0 = mi 0 := e0.trans hs.symm
  refine ⟨0, 0, Nat.zero_le _, Nat.zero_le _, ?_⟩
  refine Ok.mono hR (fun r2 c2 mr2 mi2 ml2 h => ?_)
  obtain ⟨er2, J⟩ := h
  subst er2
  refine ⟨fun _ => ?_, fun z => absurd rfl z⟩
  exact K _ _ _ _ _ _ _ hk hs0 J
set_option maxRecDepth 100000 in
theorem LC_22 (K : KL L n s l4) (ix : ∀ j, j ≤ 5 → vp_in (l4 + nI j) L) (hk : f + n ≤ k) (hs0 : 49152 * f + 6 * n ≤ s0) (H : LI f s c mr mi ml) : At m_l_law 859 [some (vR 104 L 0), some (vR 10 0 1), some (vR 19 0 48), some (vR 1 1 66), some (vI l4), none, none] [] k s0 (Zq QW) c mr mi ml := by
  have hs := H.sc
  refine at_wq inlT 400 rfl ?_
  refine ⟨ix 1 (by decide), ?_⟩
  refine ⟨fun g0 => ?_, fun g0 => ?_⟩
  · refine ⟨0, 0, Nat.zero_le _, Nat.zero_le _, Ok.mono (C_more H) (fun r c' mr' mi' ml' h => ?_)⟩
    obtain ⟨e0, v, iv, er, hR⟩ := h
    obtain ⟨u, ev⟩ := isV_l rfl iv
    subst ev er
    have e : mi' 0 = mi 0 := e0.trans hs.symm
    refine ⟨ix 1 (by decide), ?_⟩
    refine ⟨fun g2 => ?_, fun g2 => absurd (by rw [e]; exact g0) g2⟩
    refine ⟨0, 0, Nat.zero_le _, Nat.zero_le _, ?_⟩
    refine Ok.mono hR (fun r2 c2 mr2 mi2 ml2 h => ?_)
    obtain ⟨er2, J⟩ := h
    subst er2
    refine ⟨fun _ => ?_, fun z => absurd ((lgc_eq u u).mpr rfl) z⟩
    exact K _ _ _ _ _ _ _ hk hs0 J
  · refine ⟨0, 0, Nat.zero_le _, Nat.zero_le _, Ok.mono (C_more H) (fun r c' mr' mi' ml' h => ?_)⟩
    obtain ⟨e0, v, iv, er, hR⟩ := h
    obtain ⟨u, ev⟩ := isV_l rfl iv
    subst ev er
    have e : mi' 0 = mi 0 := e0.trans hs.symm
    refine ⟨ix 1 (by decide), ?_⟩
    refine ⟨fun g2 => absurd (by rw [← e]; exact g2) g0, fun g2 => ?_⟩
    refine ⟨0, 0, Nat.zero_le _, Nat.zero_le _, ?_⟩
    refine Ok.mono hR (fun r2 c2 mr2 mi2 ml2 h => ?_)
    obtain ⟨er2, J⟩ := h
    subst er2
    refine ⟨fun _ => ?_, fun z => absurd ((lgc_eq u u).mpr rfl) z⟩
    exact K _ _ _ _ _ _ _ hk hs0 J
set_option maxRecDepth 100000 in
theorem LC_23 (K : KL L n s l4) (ix : ∀ j, j ≤ 5 → vp_in (l4 + nI j) L) (hk : f + n ≤ k) (hs0 : 49152 * f + 6 * n ≤ s0) (H : LI f s c mr mi ml) : At m_l_law 901 [some (vR 104 L 0), some (vR 10 0 1), some (vR 19 0 48), some (vR 1 1 66), some (vI l4), none, none] [] k s0 (Zq QW) c mr mi ml := by
  have hs := H.sc
  refine at_wq inlT 400 rfl ?_
  refine ⟨ix 1 (by decide), ?_⟩
  refine ⟨ix 2 (by decide), ?_⟩
  refine ⟨fun g0 => ?_, fun g0 => ?_⟩
  · refine ⟨0, 0, Nat.zero_le _, Nat.zero_le _, Ok.mono (C_error H) (fun r c' mr' mi' ml' h => ?_)⟩
    obtain ⟨e0, v, iv, er, hR⟩ := h
    obtain ⟨u, ev⟩ := isV_l rfl iv
    subst ev er
    have e : mi' 0 = mi 0 := e0.trans hs.symm
    refine ⟨ix 1 (by decide), ?_⟩
    refine ⟨ix 2 (by decide), ?_⟩
    refine ⟨fun g2 => ?_, fun g2 => absurd (by rw [e]; exact g0) g2⟩
    refine ⟨0, 0, Nat.zero_le _, Nat.zero_le _, ?_⟩
    rw [← e] at hR
    refine Ok.mono hR (fun r2 c2 mr2 mi2 ml2 h => ?_)
    obtain ⟨er2, J⟩ := h
    subst er2
    refine ⟨fun _ => ?_, fun z => absurd ((lgc_eq u u).mpr rfl) z⟩
    exact K _ _ _ _ _ _ _ hk hs0 J
  · refine ⟨0, 0, Nat.zero_le _, Nat.zero_le _, Ok.mono (C_error H) (fun r c' mr' mi' ml' h => ?_)⟩
    obtain ⟨e0, v, iv, er, hR⟩ := h
    obtain ⟨u, ev⟩ := isV_l rfl iv
    subst ev er
    have e : mi' 0 = mi 0 := e0.trans hs.symm
    refine ⟨ix 1 (by decide), ?_⟩
    refine ⟨ix 2 (by decide), ?_⟩
    refine ⟨fun g2 => absurd (by rw [← e]; exact g2) g0, fun g2 => ?_⟩
    refine ⟨0, 0, Nat.zero_le _, Nat.zero_le _, ?_⟩
    rw [← e] at hR
    refine Ok.mono hR (fun r2 c2 mr2 mi2 ml2 h => ?_)
    obtain ⟨er2, J⟩ := h
    subst er2
    refine ⟨fun _ => ?_, fun z => absurd ((lgc_eq u u).mpr rfl) z⟩
    exact K _ _ _ _ _ _ _ hk hs0 J
set_option maxRecDepth 100000 in
theorem LC_24 (K : KL L n s l4) (ix : ∀ j, j ≤ 5 → vp_in (l4 + nI j) L) (hk : f + n ≤ k) (hs0 : 49152 * f + 6 * n ≤ s0) (H : LI f s c mr mi ml) : At m_l_law 955 [some (vR 104 L 0), some (vR 10 0 1), some (vR 19 0 48), some (vR 1 1 66), some (vI l4), none, none] [] k s0 (Zq QW) c mr mi ml := by
  have hs := H.sc
  refine at_wq inlT 400 rfl ?_
  refine ⟨ix 1 (by decide), ?_⟩
  refine ⟨fun g0 => ?_, fun g0 => ?_⟩
  · refine ⟨0, 0, Nat.zero_le _, Nat.zero_le _, Ok.mono (C_errors H) (fun r c' mr' mi' ml' h => ?_)⟩
    obtain ⟨e0, v, iv, er, hR⟩ := h
    obtain ⟨u, ev⟩ := isV_l rfl iv
    subst ev er
    have e : mi' 0 = mi 0 := e0.trans hs.symm
    refine ⟨ix 1 (by decide), ?_⟩
    refine ⟨fun g2 => ?_, fun g2 => absurd (by rw [e]; exact g0) g2⟩
    refine ⟨0, 0, Nat.zero_le _, Nat.zero_le _, ?_⟩
    refine Ok.mono hR (fun r2 c2 mr2 mi2 ml2 h => ?_)
    obtain ⟨er2, J⟩ := h
    subst er2
    refine ⟨fun _ => ?_, fun z => absurd ((lgc_eq u u).mpr rfl) z⟩
    exact K _ _ _ _ _ _ _ hk hs0 J
  · refine ⟨0, 0, Nat.zero_le _, Nat.zero_le _, Ok.mono (C_errors H) (fun r c' mr' mi' ml' h => ?_)⟩
    obtain ⟨e0, v, iv, er, hR⟩ := h
    obtain ⟨u, ev⟩ := isV_l rfl iv
    subst ev er
    have e : mi' 0 = mi 0 := e0.trans hs.symm
    refine ⟨ix 1 (by decide), ?_⟩
    refine ⟨fun g2 => absurd (by rw [← e]; exact g2) g0, fun g2 => ?_⟩
    refine ⟨0, 0, Nat.zero_le _, Nat.zero_le _, ?_⟩
    refine Ok.mono hR (fun r2 c2 mr2 mi2 ml2 h => ?_)
    obtain ⟨er2, J⟩ := h
    subst er2
    refine ⟨fun _ => ?_, fun z => absurd ((lgc_eq u u).mpr rfl) z⟩
    exact K _ _ _ _ _ _ _ hk hs0 J
set_option maxRecDepth 100000 in
theorem LC_25 (K : KL L n s l4) (ix : ∀ j, j ≤ 5 → vp_in (l4 + nI j) L) (hk : f + n ≤ k) (hs0 : 49152 * f + 6 * n ≤ s0) (H : LI f s c mr mi ml) : At m_l_law 997 [some (vR 104 L 0), some (vR 10 0 1), some (vR 19 0 48), some (vR 1 1 66), some (vI l4), none, none] [] k s0 (Zq QW) c mr mi ml := by
  have hs := H.sc
  refine at_wq inlT 400 rfl ?_
  refine ⟨0, 0, Nat.zero_le _, Nat.zero_le _, Ok.mono (C_worst H) (fun r c' mr' mi' ml' h => ?_)⟩
  obtain ⟨e0, v, iv, er, hR⟩ := h
  obtain ⟨u, ev⟩ := isV_i rfl iv
  subst ev er
  have e : mi' 0 = mi 0 := e0.trans hs.symm
  refine ⟨0, 0, Nat.zero_le _, Nat.zero_le _, ?_⟩
  refine Ok.mono hR (fun r2 c2 mr2 mi2 ml2 h => ?_)
  obtain ⟨er2, J⟩ := h
  subst er2
  refine ⟨fun _ => ?_, fun z => absurd rfl z⟩
  exact K _ _ _ _ _ _ _ hk hs0 J
set_option maxRecDepth 100000 in
theorem LC_26 (K : KL L n s l4) (ix : ∀ j, j ≤ 5 → vp_in (l4 + nI j) L) (hk : f + n ≤ k) (hs0 : 49152 * f + 6 * n ≤ s0) (H : LI f s c mr mi ml) : At m_l_law 1010 [some (vR 104 L 0), some (vR 10 0 1), some (vR 19 0 48), some (vR 1 1 66), some (vI l4), none, none] [] k s0 (Zq QW) c mr mi ml := by
  have hs := H.sc
  refine at_wq inlT 400 rfl ?_
  refine ⟨ix 1 (by decide), ?_⟩
  refine ⟨fun g0 => ?_, fun g0 => ?_⟩
  · refine ⟨0, 0, Nat.zero_le _, Nat.zero_le _, Ok.mono (C_share H) (fun r c' mr' mi' ml' h => ?_)⟩
    obtain ⟨e0, v, iv, er, hR⟩ := h
    obtain ⟨u, ev⟩ := isV_l rfl iv
    subst ev er
    have e : mi' 0 = mi 0 := e0.trans hs.symm
    refine ⟨ix 1 (by decide), ?_⟩
    refine ⟨fun g2 => ?_, fun g2 => absurd (by rw [e]; exact g0) g2⟩
    refine ⟨0, 0, Nat.zero_le _, Nat.zero_le _, ?_⟩
    refine Ok.mono hR (fun r2 c2 mr2 mi2 ml2 h => ?_)
    obtain ⟨er2, J⟩ := h
    subst er2
    refine ⟨fun _ => ?_, fun z => absurd ((lgc_eq u u).mpr rfl) z⟩
    exact K _ _ _ _ _ _ _ hk hs0 J
  · refine ⟨0, 0, Nat.zero_le _, Nat.zero_le _, Ok.mono (C_share H) (fun r c' mr' mi' ml' h => ?_)⟩
    obtain ⟨e0, v, iv, er, hR⟩ := h
    obtain ⟨u, ev⟩ := isV_l rfl iv
    subst ev er
    have e : mi' 0 = mi 0 := e0.trans hs.symm
    refine ⟨ix 1 (by decide), ?_⟩
    refine ⟨fun g2 => absurd (by rw [← e]; exact g2) g0, fun g2 => ?_⟩
    refine ⟨0, 0, Nat.zero_le _, Nat.zero_le _, ?_⟩
    refine Ok.mono hR (fun r2 c2 mr2 mi2 ml2 h => ?_)
    obtain ⟨er2, J⟩ := h
    subst er2
    refine ⟨fun _ => ?_, fun z => absurd ((lgc_eq u u).mpr rfl) z⟩
    exact K _ _ _ _ _ _ _ hk hs0 J
set_option maxRecDepth 100000 in
theorem LC_27 (K : KL L n s l4) (ix : ∀ j, j ≤ 5 → vp_in (l4 + nI j) L) (hk : f + n ≤ k) (hs0 : 49152 * f + 6 * n ≤ s0) (H : LI f s c mr mi ml) : At m_l_law 1052 [some (vR 104 L 0), some (vR 10 0 1), some (vR 19 0 48), some (vR 1 1 66), some (vI l4), none, none] [] k s0 (Zq QW) c mr mi ml := by
  have hs := H.sc
  refine at_wq inlT 400 rfl ?_
  refine ⟨ix 1 (by decide), ?_⟩
  refine ⟨fun g0 => ?_, fun g0 => ?_⟩
  · refine ⟨0, 0, Nat.zero_le _, Nat.zero_le _, Ok.mono (C_grains H) (fun r c' mr' mi' ml' h => ?_)⟩
    obtain ⟨e0, v, iv, er, hR⟩ := h
    obtain ⟨u, ev⟩ := isV_l rfl iv
    subst ev er
    have e : mi' 0 = mi 0 := e0.trans hs.symm
    refine ⟨ix 1 (by decide), ?_⟩
    refine ⟨fun g2 => ?_, fun g2 => absurd (by rw [e]; exact g0) g2⟩
    refine ⟨0, 0, Nat.zero_le _, Nat.zero_le _, ?_⟩
    refine Ok.mono hR (fun r2 c2 mr2 mi2 ml2 h => ?_)
    obtain ⟨er2, J⟩ := h
    subst er2
    refine ⟨fun _ => ?_, fun z => absurd ((lgc_eq u u).mpr rfl) z⟩
    exact K _ _ _ _ _ _ _ hk hs0 J
  · refine ⟨0, 0, Nat.zero_le _, Nat.zero_le _, Ok.mono (C_grains H) (fun r c' mr' mi' ml' h => ?_)⟩
    obtain ⟨e0, v, iv, er, hR⟩ := h
    obtain ⟨u, ev⟩ := isV_l rfl iv
    subst ev er
    have e : mi' 0 = mi 0 := e0.trans hs.symm
    refine ⟨ix 1 (by decide), ?_⟩
    refine ⟨fun g2 => absurd (by rw [← e]; exact g2) g0, fun g2 => ?_⟩
    refine ⟨0, 0, Nat.zero_le _, Nat.zero_le _, ?_⟩
    refine Ok.mono hR (fun r2 c2 mr2 mi2 ml2 h => ?_)
    obtain ⟨er2, J⟩ := h
    subst er2
    refine ⟨fun _ => ?_, fun z => absurd ((lgc_eq u u).mpr rfl) z⟩
    exact K _ _ _ _ _ _ _ hk hs0 J
set_option maxRecDepth 100000 in
theorem LC_28 (K : KL L n s l4) (ix : ∀ j, j ≤ 5 → vp_in (l4 + nI j) L) (hk : f + n ≤ k) (hs0 : 49152 * f + 6 * n ≤ s0) (H : LI f s c mr mi ml) : At m_l_law 1094 [some (vR 104 L 0), some (vR 10 0 1), some (vR 19 0 48), some (vR 1 1 66), some (vI l4), none, none] [] k s0 (Zq QW) c mr mi ml := by
  have hs := H.sc
  refine at_wq inlT 400 rfl ?_
  refine ⟨0, 0, Nat.zero_le _, Nat.zero_le _, Ok.mono (C_better H) (fun r c' mr' mi' ml' h => ?_)⟩
  obtain ⟨e0, v, iv, er, hR⟩ := h
  obtain ⟨u, ev⟩ := isV_i rfl iv
  subst ev er
  have e : mi' 0 = mi 0 := e0.trans hs.symm
  refine ⟨0, 0, Nat.zero_le _, Nat.zero_le _, ?_⟩
  refine Ok.mono hR (fun r2 c2 mr2 mi2 ml2 h => ?_)
  obtain ⟨er2, J⟩ := h
  subst er2
  refine ⟨fun _ => ?_, fun z => absurd rfl z⟩
  exact K _ _ _ _ _ _ _ hk hs0 J
set_option maxRecDepth 100000 in
theorem LC_29 (K : KL L n s l4) (ix : ∀ j, j ≤ 5 → vp_in (l4 + nI j) L) (hk : f + n ≤ k) (hs0 : 49152 * f + 6 * n ≤ s0) (H : LI f s c mr mi ml) : At m_l_law 1107 [some (vR 104 L 0), some (vR 10 0 1), some (vR 19 0 48), some (vR 1 1 66), some (vI l4), none, none] [] k s0 (Zq QW) c mr mi ml := by
  have hs := H.sc
  refine at_wq inlT 400 rfl ?_
  refine ⟨ix 1 (by decide), ?_⟩
  refine ⟨0, 0, Nat.zero_le _, Nat.zero_le _, Ok.mono (C_alone H) (fun r c' mr' mi' ml' h => ?_)⟩
  obtain ⟨e0, v, iv, er, hR⟩ := h
  obtain ⟨u, ev⟩ := isV_i rfl iv
  subst ev er
  have e : mi' 0 = mi 0 := e0.trans hs.symm
  refine ⟨ix 1 (by decide), ?_⟩
  refine ⟨0, 0, Nat.zero_le _, Nat.zero_le _, ?_⟩
  rw [← e] at hR
  refine Ok.mono hR (fun r2 c2 mr2 mi2 ml2 h => ?_)
  obtain ⟨er2, J⟩ := h
  subst er2
  refine ⟨fun _ => ?_, fun z => absurd rfl z⟩
  exact K _ _ _ _ _ _ _ hk hs0 J
set_option maxRecDepth 100000 in
theorem LC_30 (K : KL L n s l4) (ix : ∀ j, j ≤ 5 → vp_in (l4 + nI j) L) (hk : f + n ≤ k) (hs0 : 49152 * f + 6 * n ≤ s0) (H : LI f s c mr mi ml) : At m_l_law 1132 [some (vR 104 L 0), some (vR 10 0 1), some (vR 19 0 48), some (vR 1 1 66), some (vI l4), none, none] [] k s0 (Zq QW) c mr mi ml := by
  have hs := H.sc
  refine at_wq inlT 400 rfl ?_
  refine ⟨0, 0, Nat.zero_le _, Nat.zero_le _, Ok.mono (C_alones H) (fun r c' mr' mi' ml' h => ?_)⟩
  obtain ⟨e0, v, iv, er, hR⟩ := h
  obtain ⟨u, ev⟩ := isV_l rfl iv
  subst ev er
  have e : mi' 0 = mi 0 := e0.trans hs.symm
  refine ⟨0, 0, Nat.zero_le _, Nat.zero_le _, ?_⟩
  refine Ok.mono hR (fun r2 c2 mr2 mi2 ml2 h => ?_)
  obtain ⟨er2, J⟩ := h
  subst er2
  refine ⟨fun _ => ?_, fun z => absurd ((lgc_eq u u).mpr rfl) z⟩
  exact K _ _ _ _ _ _ _ hk hs0 J
set_option maxRecDepth 100000 in
theorem LC_31 (K : KL L n s l4) (ix : ∀ j, j ≤ 5 → vp_in (l4 + nI j) L) (hk : f + n ≤ k) (hs0 : 49152 * f + 6 * n ≤ s0) (H : LI f s c mr mi ml) : At m_l_law 1146 [some (vR 104 L 0), some (vR 10 0 1), some (vR 19 0 48), some (vR 1 1 66), some (vI l4), none, none] [] k s0 (Zq QW) c mr mi ml := by
  have hs := H.sc
  refine at_wq inlT 400 rfl ?_
  refine ⟨0, 0, Nat.zero_le _, Nat.zero_le _, Ok.mono (C_closer H) (fun r c' mr' mi' ml' h => ?_)⟩
  obtain ⟨e0, v, iv, er, hR⟩ := h
  obtain ⟨u, ev⟩ := isV_i rfl iv
  subst ev er
  have e : mi' 0 = mi 0 := e0.trans hs.symm
  refine ⟨0, 0, Nat.zero_le _, Nat.zero_le _, ?_⟩
  refine Ok.mono hR (fun r2 c2 mr2 mi2 ml2 h => ?_)
  obtain ⟨er2, J⟩ := h
  subst er2
  refine ⟨fun _ => ?_, fun z => absurd rfl z⟩
  exact K _ _ _ _ _ _ _ hk hs0 J
set_option maxRecDepth 100000 in
theorem LC_32 (K : KL L n s l4) (ix : ∀ j, j ≤ 5 → vp_in (l4 + nI j) L) (hk : f + n ≤ k) (hs0 : 49152 * f + 6 * n ≤ s0) (H : LI f s c mr mi ml) : At m_l_law 1159 [some (vR 104 L 0), some (vR 10 0 1), some (vR 19 0 48), some (vR 1 1 66), some (vI l4), none, none] [] k s0 (Zq QW) c mr mi ml := by
  have hs := H.sc
  refine at_wq inlT 400 rfl ?_
  refine ⟨0, 0, Nat.zero_le _, Nat.zero_le _, Ok.mono (C_suspects H) (fun r c' mr' mi' ml' h => ?_)⟩
  obtain ⟨e0, v, iv, er, hR⟩ := h
  obtain ⟨u, ev⟩ := isV_i rfl iv
  subst ev er
  have e : mi' 0 = mi 0 := e0.trans hs.symm
  refine ⟨0, 0, Nat.zero_le _, Nat.zero_le _, ?_⟩
  refine Ok.mono hR (fun r2 c2 mr2 mi2 ml2 h => ?_)
  obtain ⟨er2, J⟩ := h
  subst er2
  refine ⟨fun _ => ?_, fun z => absurd rfl z⟩
  exact K _ _ _ _ _ _ _ hk hs0 J
set_option maxRecDepth 100000 in
theorem LC_33 (K : KL L n s l4) (ix : ∀ j, j ≤ 5 → vp_in (l4 + nI j) L) (hk : f + n ≤ k) (hs0 : 49152 * f + 6 * n ≤ s0) (H : LI f s c mr mi ml) : At m_l_law 1172 [some (vR 104 L 0), some (vR 10 0 1), some (vR 19 0 48), some (vR 1 1 66), some (vI l4), none, none] [] k s0 (Zq QW) c mr mi ml := by
  have hs := H.sc
  refine at_wq inlT 400 rfl ?_
  refine ⟨ix 1 (by decide), ?_⟩
  refine ⟨0, 0, Nat.zero_le _, Nat.zero_le _, Ok.mono (C_suspect H) (fun r c' mr' mi' ml' h => ?_)⟩
  obtain ⟨e0, v, iv, er, hR⟩ := h
  obtain ⟨u, ev⟩ := isV_i rfl iv
  subst ev er
  have e : mi' 0 = mi 0 := e0.trans hs.symm
  refine ⟨ix 1 (by decide), ?_⟩
  refine ⟨0, 0, Nat.zero_le _, Nat.zero_le _, ?_⟩
  rw [← e] at hR
  refine Ok.mono hR (fun r2 c2 mr2 mi2 ml2 h => ?_)
  obtain ⟨er2, J⟩ := h
  subst er2
  refine ⟨fun _ => ?_, fun z => absurd rfl z⟩
  exact K _ _ _ _ _ _ _ hk hs0 J
set_option maxRecDepth 100000 in
theorem LC_34 (K : KL L n s l4) (ix : ∀ j, j ≤ 5 → vp_in (l4 + nI j) L) (hk : f + n ≤ k) (hs0 : 49152 * f + 6 * n ≤ s0) (H : LI f s c mr mi ml) : At m_l_law 1197 [some (vR 104 L 0), some (vR 10 0 1), some (vR 19 0 48), some (vR 1 1 66), some (vI l4), none, none] [] k s0 (Zq QW) c mr mi ml := by
  have hs := H.sc
  refine at_wq inlT 400 rfl ?_
  refine ⟨ix 1 (by decide), ?_⟩
  refine ⟨ix 2 (by decide), ?_⟩
  refine ⟨0, 0, Nat.zero_le _, Nat.zero_le _, Ok.mono (C_supposed H) (fun r c' mr' mi' ml' h => ?_)⟩
  obtain ⟨e0, v, iv, er, hR⟩ := h
  obtain ⟨u, ev⟩ := isV_i rfl iv
  subst ev er
  have e : mi' 0 = mi 0 := e0.trans hs.symm
  refine ⟨ix 1 (by decide), ?_⟩
  refine ⟨ix 2 (by decide), ?_⟩
  refine ⟨0, 0, Nat.zero_le _, Nat.zero_le _, ?_⟩
  rw [← e] at hR
  refine Ok.mono hR (fun r2 c2 mr2 mi2 ml2 h => ?_)
  obtain ⟨er2, J⟩ := h
  subst er2
  refine ⟨fun _ => ?_, fun z => absurd rfl z⟩
  exact K _ _ _ _ _ _ _ hk hs0 J
set_option maxRecDepth 100000 in
theorem LC_35 (K : KL L n s l4) (ix : ∀ j, j ≤ 5 → vp_in (l4 + nI j) L) (hk : f + n ≤ k) (hs0 : 49152 * f + 6 * n ≤ s0) (H : LI f s c mr mi ml) : At m_l_law 1234 [some (vR 104 L 0), some (vR 10 0 1), some (vR 19 0 48), some (vR 1 1 66), some (vI l4), none, none] [] k s0 (Zq QW) c mr mi ml := by
  have hs := H.sc
  refine at_wq inlT 400 rfl ?_
  refine ⟨ix 1 (by decide), ?_⟩
  refine ⟨0, 0, Nat.zero_le _, Nat.zero_le _, Ok.mono (C_mask H) (fun r c' mr' mi' ml' h => ?_)⟩
  obtain ⟨e0, v, iv, er, hR⟩ := h
  obtain ⟨u, ev⟩ := isV_i rfl iv
  subst ev er
  have e : mi' 0 = mi 0 := e0.trans hs.symm
  refine ⟨ix 1 (by decide), ?_⟩
  refine ⟨0, 0, Nat.zero_le _, Nat.zero_le _, ?_⟩
  rw [← e] at hR
  refine Ok.mono hR (fun r2 c2 mr2 mi2 ml2 h => ?_)
  obtain ⟨er2, J⟩ := h
  subst er2
  refine ⟨fun _ => ?_, fun z => absurd rfl z⟩
  exact K _ _ _ _ _ _ _ hk hs0 J
set_option maxRecDepth 100000 in
theorem LC_36 (K : KL L n s l4) (ix : ∀ j, j ≤ 5 → vp_in (l4 + nI j) L) (hk : f + n ≤ k) (hs0 : 49152 * f + 6 * n ≤ s0) (H : LI f s c mr mi ml) : At m_l_law 1259 [some (vR 104 L 0), some (vR 10 0 1), some (vR 19 0 48), some (vR 1 1 66), some (vI l4), none, none] [] k s0 (Zq QW) c mr mi ml := by
  have hs := H.sc
  refine at_wq inlT 400 rfl ?_
  refine ⟨0, 0, Nat.zero_le _, Nat.zero_le _, Ok.mono (C_rank H) (fun r c' mr' mi' ml' h => ?_)⟩
  obtain ⟨e0, v, iv, er, hR⟩ := h
  obtain ⟨u, ev⟩ := isV_i rfl iv
  subst ev er
  have e : mi' 0 = mi 0 := e0.trans hs.symm
  refine ⟨0, 0, Nat.zero_le _, Nat.zero_le _, ?_⟩
  refine Ok.mono hR (fun r2 c2 mr2 mi2 ml2 h => ?_)
  obtain ⟨er2, J⟩ := h
  subst er2
  refine ⟨fun _ => ?_, fun z => absurd rfl z⟩
  exact K _ _ _ _ _ _ _ hk hs0 J
set_option maxRecDepth 100000 in
theorem LC_37 (K : KL L n s l4) (ix : ∀ j, j ≤ 5 → vp_in (l4 + nI j) L) (hk : f + n ≤ k) (hs0 : 49152 * f + 6 * n ≤ s0) (H : LI f s c mr mi ml) : At m_l_law 1272 [some (vR 104 L 0), some (vR 10 0 1), some (vR 19 0 48), some (vR 1 1 66), some (vI l4), none, none] [] k s0 (Zq QW) c mr mi ml := by
  have hs := H.sc
  refine at_wq inlT 400 rfl ?_
  refine ⟨0, 0, Nat.zero_le _, Nat.zero_le _, Ok.mono (C_told H) (fun r c' mr' mi' ml' h => ?_)⟩
  obtain ⟨e0, v, iv, er, hR⟩ := h
  obtain ⟨u, ev⟩ := isV_i rfl iv
  subst ev er
  have e : mi' 0 = mi 0 := e0.trans hs.symm
  refine ⟨0, 0, Nat.zero_le _, Nat.zero_le _, ?_⟩
  refine Ok.mono hR (fun r2 c2 mr2 mi2 ml2 h => ?_)
  obtain ⟨er2, J⟩ := h
  subst er2
  refine ⟨fun _ => ?_, fun z => absurd rfl z⟩
  exact K _ _ _ _ _ _ _ hk hs0 J
set_option maxRecDepth 100000 in
theorem LC_38 (K : KL L n s l4) (ix : ∀ j, j ≤ 5 → vp_in (l4 + nI j) L) (hk : f + n ≤ k) (hs0 : 49152 * f + 6 * n ≤ s0) (H : LI f s c mr mi ml) : At m_l_law 1285 [some (vR 104 L 0), some (vR 10 0 1), some (vR 19 0 48), some (vR 1 1 66), some (vI l4), none, none] [] k s0 (Zq QW) c mr mi ml := by
  have hs := H.sc
  refine at_wq inlT 400 rfl ?_
  refine ⟨ix 1 (by decide), ?_⟩
  refine ⟨ix 2 (by decide), ?_⟩
  refine ⟨fun g0 => ?_, fun g0 => ?_⟩
  · refine ⟨0, 0, Nat.zero_le _, Nat.zero_le _, Ok.mono (C_solved H) (fun r c' mr' mi' ml' h => ?_)⟩
    obtain ⟨e0, v, iv, er, hR⟩ := h
    obtain ⟨u, ev⟩ := isV_l rfl iv
    subst ev er
    have e : mi' 0 = mi 0 := e0.trans hs.symm
    refine ⟨ix 1 (by decide), ?_⟩
    refine ⟨ix 2 (by decide), ?_⟩
    refine ⟨fun g2 => ?_, fun g2 => absurd (by rw [e]; exact g0) g2⟩
    refine ⟨0, 0, Nat.zero_le _, Nat.zero_le _, ?_⟩
    rw [← e] at hR
    refine Ok.mono hR (fun r2 c2 mr2 mi2 ml2 h => ?_)
    obtain ⟨er2, J⟩ := h
    subst er2
    refine ⟨fun _ => ?_, fun z => absurd ((lgc_eq u u).mpr rfl) z⟩
    exact K _ _ _ _ _ _ _ hk hs0 J
  · refine ⟨0, 0, Nat.zero_le _, Nat.zero_le _, Ok.mono (C_solved H) (fun r c' mr' mi' ml' h => ?_)⟩
    obtain ⟨e0, v, iv, er, hR⟩ := h
    obtain ⟨u, ev⟩ := isV_l rfl iv
    subst ev er
    have e : mi' 0 = mi 0 := e0.trans hs.symm
    refine ⟨ix 1 (by decide), ?_⟩
    refine ⟨ix 2 (by decide), ?_⟩
    refine ⟨fun g2 => absurd (by rw [← e]; exact g2) g0, fun g2 => ?_⟩
    refine ⟨0, 0, Nat.zero_le _, Nat.zero_le _, ?_⟩
    rw [← e] at hR
    refine Ok.mono hR (fun r2 c2 mr2 mi2 ml2 h => ?_)
    obtain ⟨er2, J⟩ := h
    subst er2
    refine ⟨fun _ => ?_, fun z => absurd ((lgc_eq u u).mpr rfl) z⟩
    exact K _ _ _ _ _ _ _ hk hs0 J
set_option maxRecDepth 100000 in
theorem LC_39 (K : KL L n s l4) (ix : ∀ j, j ≤ 5 → vp_in (l4 + nI j) L) (hk : f + n ≤ k) (hs0 : 49152 * f + 6 * n ≤ s0) (H : LI f s c mr mi ml) : At m_l_law 1339 [some (vR 104 L 0), some (vR 10 0 1), some (vR 19 0 48), some (vR 1 1 66), some (vI l4), none, none] [] k s0 (Zq QW) c mr mi ml := by
  have hs := H.sc
  refine at_wq inlT 400 rfl ?_
  refine ⟨ix 1 (by decide), ?_⟩
  refine ⟨ix 2 (by decide), ?_⟩
  refine ⟨ix 3 (by decide), ?_⟩
  refine ⟨fun g0 => ?_, fun g0 => ?_⟩
  · refine ⟨0, 0, Nat.zero_le _, Nat.zero_le _, Ok.mono (C_factor H) (fun r c' mr' mi' ml' h => ?_)⟩
    obtain ⟨e0, v, iv, er, hR⟩ := h
    obtain ⟨u, ev⟩ := isV_l rfl iv
    subst ev er
    have e : mi' 0 = mi 0 := e0.trans hs.symm
    refine ⟨ix 1 (by decide), ?_⟩
    refine ⟨ix 2 (by decide), ?_⟩
    refine ⟨ix 3 (by decide), ?_⟩
    refine ⟨fun g2 => ?_, fun g2 => absurd (by rw [e]; exact g0) g2⟩
    refine ⟨0, 0, Nat.zero_le _, Nat.zero_le _, ?_⟩
    rw [← e] at hR
    refine Ok.mono hR (fun r2 c2 mr2 mi2 ml2 h => ?_)
    obtain ⟨er2, J⟩ := h
    subst er2
    refine ⟨fun _ => ?_, fun z => absurd ((lgc_eq u u).mpr rfl) z⟩
    exact K _ _ _ _ _ _ _ hk hs0 J
  · refine ⟨0, 0, Nat.zero_le _, Nat.zero_le _, Ok.mono (C_factor H) (fun r c' mr' mi' ml' h => ?_)⟩
    obtain ⟨e0, v, iv, er, hR⟩ := h
    obtain ⟨u, ev⟩ := isV_l rfl iv
    subst ev er
    have e : mi' 0 = mi 0 := e0.trans hs.symm
    refine ⟨ix 1 (by decide), ?_⟩
    refine ⟨ix 2 (by decide), ?_⟩
    refine ⟨ix 3 (by decide), ?_⟩
    refine ⟨fun g2 => absurd (by rw [← e]; exact g2) g0, fun g2 => ?_⟩
    refine ⟨0, 0, Nat.zero_le _, Nat.zero_le _, ?_⟩
    rw [← e] at hR
    refine Ok.mono hR (fun r2 c2 mr2 mi2 ml2 h => ?_)
    obtain ⟨er2, J⟩ := h
    subst er2
    refine ⟨fun _ => ?_, fun z => absurd ((lgc_eq u u).mpr rfl) z⟩
    exact K _ _ _ _ _ _ _ hk hs0 J
set_option maxRecDepth 100000 in
theorem LC_40 (K : KL L n s l4) (ix : ∀ j, j ≤ 5 → vp_in (l4 + nI j) L) (hk : f + n ≤ k) (hs0 : 49152 * f + 6 * n ≤ s0) (H : LI f s c mr mi ml) : At m_l_law 1405 [some (vR 104 L 0), some (vR 10 0 1), some (vR 19 0 48), some (vR 1 1 66), some (vI l4), none, none] [] k s0 (Zq QW) c mr mi ml := by
  have hs := H.sc
  refine at_wq inlT 400 rfl ?_
  refine ⟨ix 1 (by decide), ?_⟩
  refine ⟨ix 2 (by decide), ?_⟩
  refine ⟨fun g0 => ?_, fun g0 => ?_⟩
  · refine ⟨0, 0, Nat.zero_le _, Nat.zero_le _, Ok.mono (C_shareBy H) (fun r c' mr' mi' ml' h => ?_)⟩
    obtain ⟨e0, v, iv, er, hR⟩ := h
    obtain ⟨u, ev⟩ := isV_l rfl iv
    subst ev er
    have e : mi' 0 = mi 0 := e0.trans hs.symm
    refine ⟨ix 1 (by decide), ?_⟩
    refine ⟨ix 2 (by decide), ?_⟩
    refine ⟨fun g2 => ?_, fun g2 => absurd (by rw [e]; exact g0) g2⟩
    refine ⟨0, 0, Nat.zero_le _, Nat.zero_le _, ?_⟩
    rw [← e] at hR
    refine Ok.mono hR (fun r2 c2 mr2 mi2 ml2 h => ?_)
    obtain ⟨er2, J⟩ := h
    subst er2
    refine ⟨fun _ => ?_, fun z => absurd ((lgc_eq u u).mpr rfl) z⟩
    exact K _ _ _ _ _ _ _ hk hs0 J
  · refine ⟨0, 0, Nat.zero_le _, Nat.zero_le _, Ok.mono (C_shareBy H) (fun r c' mr' mi' ml' h => ?_)⟩
    obtain ⟨e0, v, iv, er, hR⟩ := h
    obtain ⟨u, ev⟩ := isV_l rfl iv
    subst ev er
    have e : mi' 0 = mi 0 := e0.trans hs.symm
    refine ⟨ix 1 (by decide), ?_⟩
    refine ⟨ix 2 (by decide), ?_⟩
    refine ⟨fun g2 => absurd (by rw [← e]; exact g2) g0, fun g2 => ?_⟩
    refine ⟨0, 0, Nat.zero_le _, Nat.zero_le _, ?_⟩
    rw [← e] at hR
    refine Ok.mono hR (fun r2 c2 mr2 mi2 ml2 h => ?_)
    obtain ⟨er2, J⟩ := h
    subst er2
    refine ⟨fun _ => ?_, fun z => absurd ((lgc_eq u u).mpr rfl) z⟩
    exact K _ _ _ _ _ _ _ hk hs0 J
set_option maxRecDepth 100000 in
theorem LC_41 (K : KL L n s l4) (ix : ∀ j, j ≤ 5 → vp_in (l4 + nI j) L) (hk : f + n ≤ k) (hs0 : 49152 * f + 6 * n ≤ s0) (H : LI f s c mr mi ml) : At m_l_law 1459 [some (vR 104 L 0), some (vR 10 0 1), some (vR 19 0 48), some (vR 1 1 66), some (vI l4), none, none] [] k s0 (Zq QW) c mr mi ml := by
  have hs := H.sc
  refine at_wq inlT 400 rfl ?_
  refine ⟨0, 0, Nat.zero_le _, Nat.zero_le _, Ok.mono (C_fewer H) (fun r c' mr' mi' ml' h => ?_)⟩
  obtain ⟨e0, v, iv, er, hR⟩ := h
  obtain ⟨u, ev⟩ := isV_i rfl iv
  subst ev er
  have e : mi' 0 = mi 0 := e0.trans hs.symm
  refine ⟨0, 0, Nat.zero_le _, Nat.zero_le _, ?_⟩
  refine Ok.mono hR (fun r2 c2 mr2 mi2 ml2 h => ?_)
  obtain ⟨er2, J⟩ := h
  subst er2
  refine ⟨fun _ => ?_, fun z => absurd rfl z⟩
  exact K _ _ _ _ _ _ _ hk hs0 J
set_option maxRecDepth 100000 in
theorem LC_42 (K : KL L n s l4) (ix : ∀ j, j ≤ 5 → vp_in (l4 + nI j) L) (hk : f + n ≤ k) (hs0 : 49152 * f + 6 * n ≤ s0) (H : LI f s c mr mi ml) : At m_l_law 1472 [some (vR 104 L 0), some (vR 10 0 1), some (vR 19 0 48), some (vR 1 1 66), some (vI l4), none, none] [] k s0 (Zq QW) c mr mi ml := by
  have hs := H.sc
  refine at_wq inlT 400 rfl ?_
  refine ⟨0, 0, Nat.zero_le _, Nat.zero_le _, Ok.mono (C_agree H) (fun r c' mr' mi' ml' h => ?_)⟩
  obtain ⟨e0, v, iv, er, hR⟩ := h
  obtain ⟨u, ev⟩ := isV_i rfl iv
  subst ev er
  have e : mi' 0 = mi 0 := e0.trans hs.symm
  refine ⟨0, 0, Nat.zero_le _, Nat.zero_le _, ?_⟩
  refine Ok.mono hR (fun r2 c2 mr2 mi2 ml2 h => ?_)
  obtain ⟨er2, J⟩ := h
  subst er2
  refine ⟨fun _ => ?_, fun z => absurd rfl z⟩
  exact K _ _ _ _ _ _ _ hk hs0 J
set_option maxRecDepth 100000 in
theorem LC_45 (K : KL L n s l4) (ix : ∀ j, j ≤ 5 → vp_in (l4 + nI j) L) (hk : f + n ≤ k) (hs0 : 49152 * f + 6 * n ≤ s0) (H : LI f s c mr mi ml) : At m_l_law 1523 [some (vR 104 L 0), some (vR 10 0 1), some (vR 19 0 48), some (vR 1 1 66), some (vI l4), none, none] [] k s0 (Zq QW) c mr mi ml := by
  have hs := H.sc
  refine at_wq inlT 400 rfl ?_
  refine ⟨ix 1 (by decide), ?_⟩
  refine ⟨ix 2 (by decide), ?_⟩
  refine ⟨ix 3 (by decide), ?_⟩
  refine ⟨0, 0, Nat.zero_le _, Nat.zero_le _, Ok.mono (C_sign H) (fun r c' mr' mi' ml' h => ?_)⟩
  obtain ⟨e0, v, iv, er, hR⟩ := h
  obtain ⟨u, ev⟩ := isV_i rfl iv
  subst ev er
  have e : mi' 0 = mi 0 := e0.trans hs.symm
  refine ⟨ix 1 (by decide), ?_⟩
  refine ⟨ix 2 (by decide), ?_⟩
  refine ⟨ix 3 (by decide), ?_⟩
  refine ⟨0, 0, Nat.zero_le _, Nat.zero_le _, ?_⟩
  rw [← e] at hR
  refine Ok.mono hR (fun r2 c2 mr2 mi2 ml2 h => ?_)
  obtain ⟨er2, J⟩ := h
  subst er2
  refine ⟨fun _ => ?_, fun z => absurd rfl z⟩
  exact K _ _ _ _ _ _ _ hk hs0 J
set_option maxRecDepth 100000 in
theorem LC_46 (K : KL L n s l4) (ix : ∀ j, j ≤ 5 → vp_in (l4 + nI j) L) (hk : f + n ≤ k) (hs0 : 49152 * f + 6 * n ≤ s0) (H : LI f s c mr mi ml) : At m_l_law 1572 [some (vR 104 L 0), some (vR 10 0 1), some (vR 19 0 48), some (vR 1 1 66), some (vI l4), none, none] [] k s0 (Zq QW) c mr mi ml := by
  have hs := H.sc
  refine at_wq inlT 400 rfl ?_
  refine ⟨ix 1 (by decide), ?_⟩
  refine ⟨ix 2 (by decide), ?_⟩
  refine ⟨0, 0, Nat.zero_le _, Nat.zero_le _, Ok.mono (C_shine H) (fun r c' mr' mi' ml' h => ?_)⟩
  obtain ⟨e0, v, iv, er, hR⟩ := h
  obtain ⟨u, ev⟩ := isV_i rfl iv
  subst ev er
  have e : mi' 0 = mi 0 := e0.trans hs.symm
  refine ⟨ix 1 (by decide), ?_⟩
  refine ⟨ix 2 (by decide), ?_⟩
  refine ⟨0, 0, Nat.zero_le _, Nat.zero_le _, ?_⟩
  rw [← e] at hR
  refine Ok.mono hR (fun r2 c2 mr2 mi2 ml2 h => ?_)
  obtain ⟨er2, J⟩ := h
  subst er2
  refine ⟨fun _ => ?_, fun z => absurd rfl z⟩
  exact K _ _ _ _ _ _ _ hk hs0 J
set_option maxRecDepth 100000 in
theorem LC_47 (K : KL L n s l4) (ix : ∀ j, j ≤ 5 → vp_in (l4 + nI j) L) (hk : f + n ≤ k) (hs0 : 49152 * f + 6 * n ≤ s0) (H : LI f s c mr mi ml) : At m_l_law 1609 [some (vR 104 L 0), some (vR 10 0 1), some (vR 19 0 48), some (vR 1 1 66), some (vI l4), none, none] [] k s0 (Zq QW) c mr mi ml := by
  have hs := H.sc
  refine at_wq inlT 400 rfl ?_
  refine ⟨ix 1 (by decide), ?_⟩
  refine ⟨ix 2 (by decide), ?_⟩
  refine ⟨0, 0, Nat.zero_le _, Nat.zero_le _, Ok.mono (C_stick H) (fun r c' mr' mi' ml' h => ?_)⟩
  obtain ⟨e0, v, iv, er, hR⟩ := h
  obtain ⟨u, ev⟩ := isV_i rfl iv
  subst ev er
  have e : mi' 0 = mi 0 := e0.trans hs.symm
  refine ⟨ix 1 (by decide), ?_⟩
  refine ⟨ix 2 (by decide), ?_⟩
  refine ⟨0, 0, Nat.zero_le _, Nat.zero_le _, ?_⟩
  rw [← e] at hR
  refine Ok.mono hR (fun r2 c2 mr2 mi2 ml2 h => ?_)
  obtain ⟨er2, J⟩ := h
  subst er2
  refine ⟨fun _ => ?_, fun z => absurd rfl z⟩
  exact K _ _ _ _ _ _ _ hk hs0 J
set_option maxRecDepth 100000 in
theorem LC_48 (K : KL L n s l4) (ix : ∀ j, j ≤ 5 → vp_in (l4 + nI j) L) (hk : f + n ≤ k) (hs0 : 49152 * f + 6 * n ≤ s0) (H : LI f s c mr mi ml) : At m_l_law 1646 [some (vR 104 L 0), some (vR 10 0 1), some (vR 19 0 48), some (vR 1 1 66), some (vI l4), none, none] [] k s0 (Zq QW) c mr mi ml := by
  have hs := H.sc
  refine at_wq inlT 400 rfl ?_
  refine ⟨ix 1 (by decide), ?_⟩
  refine ⟨0, 0, Nat.zero_le _, Nat.zero_le _, Ok.mono (C_lose H) (fun r c' mr' mi' ml' h => ?_)⟩
  obtain ⟨e0, v, iv, er, hR⟩ := h
  obtain ⟨u, ev⟩ := isV_i rfl iv
  subst ev er
  have e : mi' 0 = mi 0 := e0.trans hs.symm
  refine ⟨ix 1 (by decide), ?_⟩
  refine ⟨0, 0, Nat.zero_le _, Nat.zero_le _, ?_⟩
  rw [← e] at hR
  refine Ok.mono hR (fun r2 c2 mr2 mi2 ml2 h => ?_)
  obtain ⟨er2, J⟩ := h
  subst er2
  refine ⟨fun _ => ?_, fun z => absurd rfl z⟩
  exact K _ _ _ _ _ _ _ hk hs0 J
set_option maxRecDepth 100000 in
theorem LC_49 (K : KL L n s l4) (ix : ∀ j, j ≤ 5 → vp_in (l4 + nI j) L) (hk : f + n ≤ k) (hs0 : 49152 * f + 6 * n ≤ s0) (H : LI f s c mr mi ml) : At m_l_law 1671 [some (vR 104 L 0), some (vR 10 0 1), some (vR 19 0 48), some (vR 1 1 66), some (vI l4), none, none] [] k s0 (Zq QW) c mr mi ml := by
  have hs := H.sc
  refine at_wq inlT 400 rfl ?_
  refine ⟨0, 0, Nat.zero_le _, Nat.zero_le _, Ok.mono (C_undo H) (fun r c' mr' mi' ml' h => ?_)⟩
  obtain ⟨e0, v, iv, er, hR⟩ := h
  obtain ⟨u, ev⟩ := isV_i rfl iv
  subst ev er
  have e : mi' 0 = mi 0 := e0.trans hs.symm
  refine ⟨0, 0, Nat.zero_le _, Nat.zero_le _, ?_⟩
  refine Ok.mono hR (fun r2 c2 mr2 mi2 ml2 h => ?_)
  obtain ⟨er2, J⟩ := h
  subst er2
  refine ⟨fun _ => ?_, fun z => absurd rfl z⟩
  exact K _ _ _ _ _ _ _ hk hs0 J
set_option maxRecDepth 100000 in
theorem LC_51 (K : KL L n s l4) (ix : ∀ j, j ≤ 5 → vp_in (l4 + nI j) L) (hk : f + n ≤ k) (hs0 : 49152 * f + 6 * n ≤ s0) (H : LI f s c mr mi ml) : At m_l_law 1740 [some (vR 104 L 0), some (vR 10 0 1), some (vR 19 0 48), some (vR 1 1 66), some (vI l4), none, none] [] k s0 (Zq QW) c mr mi ml := by
  have hs := H.sc
  refine at_wq inlT 400 rfl ?_
  refine ⟨ix 1 (by decide), ?_⟩
  refine ⟨0, 0, Nat.zero_le _, Nat.zero_le _, Ok.mono (C_size H) (fun r c' mr' mi' ml' h => ?_)⟩
  obtain ⟨e0, v, iv, er, hR⟩ := h
  obtain ⟨u, ev⟩ := isV_i rfl iv
  subst ev er
  have e : mi' 0 = mi 0 := e0.trans hs.symm
  refine ⟨ix 1 (by decide), ?_⟩
  refine ⟨0, 0, Nat.zero_le _, Nat.zero_le _, ?_⟩
  rw [← e] at hR
  refine Ok.mono hR (fun r2 c2 mr2 mi2 ml2 h => ?_)
  obtain ⟨er2, J⟩ := h
  subst er2
  refine ⟨fun _ => ?_, fun z => absurd rfl z⟩
  exact K _ _ _ _ _ _ _ hk hs0 J
set_option maxRecDepth 100000 in
theorem LC_52 (K : KL L n s l4) (ix : ∀ j, j ≤ 5 → vp_in (l4 + nI j) L) (hk : f + n ≤ k) (hs0 : 49152 * f + 6 * n ≤ s0) (H : LI f s c mr mi ml) : At m_l_law 1765 [some (vR 104 L 0), some (vR 10 0 1), some (vR 19 0 48), some (vR 1 1 66), some (vI l4), none, none] [] k s0 (Zq QW) c mr mi ml := by
  have hs := H.sc
  refine at_wq inlT 400 rfl ?_
  refine ⟨0, 0, Nat.zero_le _, Nat.zero_le _, Ok.mono (C_trouble H) (fun r c' mr' mi' ml' h => ?_)⟩
  obtain ⟨e0, v, iv, er, hR⟩ := h
  obtain ⟨u, ev⟩ := isV_i rfl iv
  subst ev er
  have e : mi' 0 = mi 0 := e0.trans hs.symm
  refine ⟨0, 0, Nat.zero_le _, Nat.zero_le _, ?_⟩
  refine Ok.mono hR (fun r2 c2 mr2 mi2 ml2 h => ?_)
  obtain ⟨er2, J⟩ := h
  subst er2
  refine ⟨fun _ => ?_, fun z => absurd rfl z⟩
  exact K _ _ _ _ _ _ _ hk hs0 J
end
