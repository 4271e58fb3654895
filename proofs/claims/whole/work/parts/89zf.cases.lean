/-! ===== the law's cases, laid by wip/whole/genlaw.py ===== -/
section
variable {L n f k s0 c : Nat} {s : Nat → Int32} {l4 : Int32} {mr : MR} {mi : MI} {ml : ML}
set_option maxRecDepth 100000 in
theorem LC_0 (K : KL L n s l4) (ix : ∀ j, j ≤ 5 → vp_in (l4 + nI j) L) (hk : f + n ≤ k) (hs0 : 49152 * f + 6 * n ≤ s0) (H : LI f s c mr mi ml) : At m_l_law 268 [some (vR 104 L 0), some (vR 10 0 1), some (vR 19 0 48), some (vR 1 1 66), some (vI l4), none, none] [] k s0 (Zq QW) c mr mi ml := by
  have hs := H.sc
  refine at_wq inlT 400 rfl ?_
  refine ⟨ix 1 (by decide), ?_⟩
  refine ⟨ix 2 (by decide), ?_⟩
  refine ⟨ix 3 (by decide), ?_⟩
  refine ⟨ix 4 (by decide), ?_⟩
  refine ⟨ix 5 (by decide), ?_⟩
  refine ⟨0, 0, Nat.zero_le _, Nat.zero_le _, Ok.mono (C_feed H) (fun r c' mr' mi' ml' h => ?_)⟩
  obtain ⟨e0, v, iv, er, hR⟩ := h
  obtain ⟨u, ev⟩ := isV_i rfl iv
  subst ev er
  have e : mi' 0 = mi 0 := e0.trans hs.symm
  refine ⟨ix 1 (by decide), ?_⟩
  refine ⟨ix 2 (by decide), ?_⟩
  refine ⟨ix 3 (by decide), ?_⟩
  refine ⟨ix 4 (by decide), ?_⟩
  refine ⟨ix 5 (by decide), ?_⟩
  refine ⟨0, 0, Nat.zero_le _, Nat.zero_le _, ?_⟩
  rw [← e] at hR
  refine Ok.mono hR (fun r2 c2 mr2 mi2 ml2 h => ?_)
  obtain ⟨er2, J⟩ := h
  subst er2
  refine ⟨fun _ => ?_, fun z => absurd rfl z⟩
  exact K _ _ _ _ _ _ _ hk hs0 J
set_option maxRecDepth 100000 in
theorem LC_1 (K : KL L n s l4) (ix : ∀ j, j ≤ 5 → vp_in (l4 + nI j) L) (hk : f + n ≤ k) (hs0 : 49152 * f + 6 * n ≤ s0) (H : LI f s c mr mi ml) : At m_l_law 341 [some (vR 104 L 0), some (vR 10 0 1), some (vR 19 0 48), some (vR 1 1 66), some (vI l4), none, none] [] k s0 (Zq QW) c mr mi ml := by
  have hs := H.sc
  refine at_wq inlT 400 rfl ?_
  refine ⟨ix 1 (by decide), ?_⟩
  refine ⟨0, 0, Nat.zero_le _, Nat.zero_le _, Ok.mono (C_bench H) (fun r c' mr' mi' ml' h => ?_)⟩
  obtain ⟨e0, v, iv, er, hR⟩ := h
  obtain ⟨u, ev⟩ := isV_i rfl iv
  subst ev er
  have e : mi' 0 = mi 0 := e0.trans hs.symm
  refine ⟨ix 1 (by decide), ?_⟩
  refine ⟨0, 0, Nat.zero_le _, Nat.zero_le _, ?_⟩
  rw [← e] at hR
  refine Ok.mono hR (fun r2 c2 mr2 mi2 ml2 h => ?_)
  obtain ⟨er2, J⟩ := h
  subst er2
  refine ⟨fun _ => ?_, fun z => absurd rfl z⟩
  exact K _ _ _ _ _ _ _ hk hs0 J
set_option maxRecDepth 100000 in
theorem LC_2 (K : KL L n s l4) (ix : ∀ j, j ≤ 5 → vp_in (l4 + nI j) L) (hk : f + n ≤ k) (hs0 : 49152 * f + 6 * n ≤ s0) (H : LI f s c mr mi ml) : At m_l_law 366 [some (vR 104 L 0), some (vR 10 0 1), some (vR 19 0 48), some (vR 1 1 66), some (vI l4), none, none] [] k s0 (Zq QW) c mr mi ml := by
  have hs := H.sc
  refine at_wq inlT 400 rfl ?_
  refine ⟨0, 0, Nat.zero_le _, Nat.zero_le _, Ok.mono (C_fault H) (fun r c' mr' mi' ml' h => ?_)⟩
  obtain ⟨e0, v, iv, er, hR⟩ := h
  obtain ⟨u, ev⟩ := isV_i rfl iv
  subst ev er
  have e : mi' 0 = mi 0 := e0.trans hs.symm
  refine ⟨0, 0, Nat.zero_le _, Nat.zero_le _, ?_⟩
  refine Ok.mono hR (fun r2 c2 mr2 mi2 ml2 h => ?_)
  obtain ⟨er2, J⟩ := h
  subst er2
  refine ⟨fun _ => ?_, fun z => absurd rfl z⟩
  exact K _ _ _ _ _ _ _ hk hs0 J
set_option maxRecDepth 100000 in
theorem LC_3 (K : KL L n s l4) (ix : ∀ j, j ≤ 5 → vp_in (l4 + nI j) L) (hk : f + n ≤ k) (hs0 : 49152 * f + 6 * n ≤ s0) (H : LI f s c mr mi ml) : At m_l_law 379 [some (vR 104 L 0), some (vR 10 0 1), some (vR 19 0 48), some (vR 1 1 66), some (vI l4), none, none] [] k s0 (Zq QW) c mr mi ml := by
  have hs := H.sc
  refine at_wq inlT 400 rfl ?_
  refine ⟨0, 0, Nat.zero_le _, Nat.zero_le _, Ok.mono (C_where H) (fun r c' mr' mi' ml' h => ?_)⟩
  obtain ⟨e0, v, iv, er, hR⟩ := h
  obtain ⟨u, ev⟩ := isV_i rfl iv
  subst ev er
  have e : mi' 0 = mi 0 := e0.trans hs.symm
  refine ⟨0, 0, Nat.zero_le _, Nat.zero_le _, ?_⟩
  refine Ok.mono hR (fun r2 c2 mr2 mi2 ml2 h => ?_)
  obtain ⟨er2, J⟩ := h
  subst er2
  refine ⟨fun _ => ?_, fun z => absurd rfl z⟩
  exact K _ _ _ _ _ _ _ hk hs0 J
set_option maxRecDepth 100000 in
theorem LC_4 (K : KL L n s l4) (ix : ∀ j, j ≤ 5 → vp_in (l4 + nI j) L) (hk : f + n ≤ k) (hs0 : 49152 * f + 6 * n ≤ s0) (H : LI f s c mr mi ml) : At m_l_law 392 [some (vR 104 L 0), some (vR 10 0 1), some (vR 19 0 48), some (vR 1 1 66), some (vI l4), none, none] [] k s0 (Zq QW) c mr mi ml := by
  have hs := H.sc
  refine at_wq inlT 400 rfl ?_
  refine ⟨ix 1 (by decide), ?_⟩
  refine ⟨0, 0, Nat.zero_le _, Nat.zero_le _, Ok.mono (C_about H) (fun r c' mr' mi' ml' h => ?_)⟩
  obtain ⟨e0, v, iv, er, hR⟩ := h
  obtain ⟨u, ev⟩ := isV_i rfl iv
  subst ev er
  have e : mi' 0 = mi 0 := e0.trans hs.symm
  refine ⟨ix 1 (by decide), ?_⟩
  refine ⟨0, 0, Nat.zero_le _, Nat.zero_le _, ?_⟩
  rw [← e] at hR
  refine Ok.mono hR (fun r2 c2 mr2 mi2 ml2 h => ?_)
  obtain ⟨er2, J⟩ := h
  subst er2
  refine ⟨fun _ => ?_, fun z => absurd rfl z⟩
  exact K _ _ _ _ _ _ _ hk hs0 J
set_option maxRecDepth 100000 in
theorem LC_5 (K : KL L n s l4) (ix : ∀ j, j ≤ 5 → vp_in (l4 + nI j) L) (hk : f + n ≤ k) (hs0 : 49152 * f + 6 * n ≤ s0) (H : LI f s c mr mi ml) : At m_l_law 417 [some (vR 104 L 0), some (vR 10 0 1), some (vR 19 0 48), some (vR 1 1 66), some (vI l4), none, none] [] k s0 (Zq QW) c mr mi ml := by
  have hs := H.sc
  refine at_wq inlT 400 rfl ?_
  refine ⟨ix 1 (by decide), ?_⟩
  refine ⟨0, 0, Nat.zero_le _, Nat.zero_le _, Ok.mono (C_plate H) (fun r c' mr' mi' ml' h => ?_)⟩
  obtain ⟨e0, v, iv, er, hR⟩ := h
  obtain ⟨u, ev⟩ := isV_i rfl iv
  subst ev er
  have e : mi' 0 = mi 0 := e0.trans hs.symm
  refine ⟨ix 1 (by decide), ?_⟩
  refine ⟨0, 0, Nat.zero_le _, Nat.zero_le _, ?_⟩
  rw [← e] at hR
  refine Ok.mono hR (fun r2 c2 mr2 mi2 ml2 h => ?_)
  obtain ⟨er2, J⟩ := h
  subst er2
  refine ⟨fun _ => ?_, fun z => absurd rfl z⟩
  exact K _ _ _ _ _ _ _ hk hs0 J
set_option maxRecDepth 100000 in
theorem LC_6 (K : KL L n s l4) (ix : ∀ j, j ≤ 5 → vp_in (l4 + nI j) L) (hk : f + n ≤ k) (hs0 : 49152 * f + 6 * n ≤ s0) (H : LI f s c mr mi ml) : At m_l_law 442 [some (vR 104 L 0), some (vR 10 0 1), some (vR 19 0 48), some (vR 1 1 66), some (vI l4), none, none] [] k s0 (Zq QW) c mr mi ml := by
  have hs := H.sc
  refine at_wq inlT 400 rfl ?_
  refine ⟨ix 1 (by decide), ?_⟩
  refine ⟨ix 2 (by decide), ?_⟩
  refine ⟨0, 0, Nat.zero_le _, Nat.zero_le _, Ok.mono (C_common H) (fun r c' mr' mi' ml' h => ?_)⟩
  obtain ⟨e0, v, iv, er, hR⟩ := h
  obtain ⟨u, ev⟩ := isV_i rfl iv
  subst ev er
  have e : mi' 0 = mi 0 := e0.trans hs.symm
  refine ⟨ix 1 (by decide), ?_⟩
  refine ⟨ix 2 (by decide), ?_⟩
  refine ⟨0, 0, Nat.zero_le _, Nat.zero_le _, ?_⟩
  rw [← e] at hR
  refine Ok.mono hR (fun r2 c2 mr2 mi2 ml2 h => ?_)
  obtain ⟨er2, J⟩ := h
  subst er2
  refine ⟨fun _ => ?_, fun z => absurd rfl z⟩
  exact K _ _ _ _ _ _ _ hk hs0 J
set_option maxRecDepth 100000 in
theorem LC_7 (K : KL L n s l4) (ix : ∀ j, j ≤ 5 → vp_in (l4 + nI j) L) (hk : f + n ≤ k) (hs0 : 49152 * f + 6 * n ≤ s0) (H : LI f s c mr mi ml) : At m_l_law 479 [some (vR 104 L 0), some (vR 10 0 1), some (vR 19 0 48), some (vR 1 1 66), some (vI l4), none, none] [] k s0 (Zq QW) c mr mi ml := by
  have hs := H.sc
  refine at_wq inlT 400 rfl ?_
  refine ⟨ix 1 (by decide), ?_⟩
  refine ⟨0, 0, Nat.zero_le _, Nat.zero_le _, Ok.mono (C_which H) (fun r c' mr' mi' ml' h => ?_)⟩
  obtain ⟨e0, v, iv, er, hR⟩ := h
  obtain ⟨u, ev⟩ := isV_i rfl iv
  subst ev er
  have e : mi' 0 = mi 0 := e0.trans hs.symm
  refine ⟨ix 1 (by decide), ?_⟩
  refine ⟨0, 0, Nat.zero_le _, Nat.zero_le _, ?_⟩
  rw [← e] at hR
  refine Ok.mono hR (fun r2 c2 mr2 mi2 ml2 h => ?_)
  obtain ⟨er2, J⟩ := h
  subst er2
  refine ⟨fun _ => ?_, fun z => absurd rfl z⟩
  exact K _ _ _ _ _ _ _ hk hs0 J
set_option maxRecDepth 100000 in
theorem LC_8 (K : KL L n s l4) (ix : ∀ j, j ≤ 5 → vp_in (l4 + nI j) L) (hk : f + n ≤ k) (hs0 : 49152 * f + 6 * n ≤ s0) (H : LI f s c mr mi ml) : At m_l_law 504 [some (vR 104 L 0), some (vR 10 0 1), some (vR 19 0 48), some (vR 1 1 66), some (vI l4), none, none] [] k s0 (Zq QW) c mr mi ml := by
  have hs := H.sc
  refine at_wq inlT 400 rfl ?_
  refine ⟨ix 1 (by decide), ?_⟩
  refine ⟨0, 0, Nat.zero_le _, Nat.zero_le _, Ok.mono (C_apart H) (fun r c' mr' mi' ml' h => ?_)⟩
  obtain ⟨e0, v, iv, er, hR⟩ := h
  obtain ⟨u, ev⟩ := isV_i rfl iv
  subst ev er
  have e : mi' 0 = mi 0 := e0.trans hs.symm
  refine ⟨ix 1 (by decide), ?_⟩
  refine ⟨0, 0, Nat.zero_le _, Nat.zero_le _, ?_⟩
  rw [← e] at hR
  refine Ok.mono hR (fun r2 c2 mr2 mi2 ml2 h => ?_)
  obtain ⟨er2, J⟩ := h
  subst er2
  refine ⟨fun _ => ?_, fun z => absurd rfl z⟩
  exact K _ _ _ _ _ _ _ hk hs0 J
set_option maxRecDepth 100000 in
theorem LC_9 (K : KL L n s l4) (ix : ∀ j, j ≤ 5 → vp_in (l4 + nI j) L) (hk : f + n ≤ k) (hs0 : 49152 * f + 6 * n ≤ s0) (H : LI f s c mr mi ml) : At m_l_law 529 [some (vR 104 L 0), some (vR 10 0 1), some (vR 19 0 48), some (vR 1 1 66), some (vI l4), none, none] [] k s0 (Zq QW) c mr mi ml := by
  have hs := H.sc
  refine at_wq inlT 400 rfl ?_
  refine ⟨ix 1 (by decide), ?_⟩
  refine ⟨0, 0, Nat.zero_le _, Nat.zero_le _, Ok.mono (C_odd H) (fun r c' mr' mi' ml' h => ?_)⟩
  obtain ⟨e0, v, iv, er, hR⟩ := h
  obtain ⟨u, ev⟩ := isV_i rfl iv
  subst ev er
  have e : mi' 0 = mi 0 := e0.trans hs.symm
  refine ⟨ix 1 (by decide), ?_⟩
  refine ⟨0, 0, Nat.zero_le _, Nat.zero_le _, ?_⟩
  rw [← e] at hR
  refine Ok.mono hR (fun r2 c2 mr2 mi2 ml2 h => ?_)
  obtain ⟨er2, J⟩ := h
  subst er2
  refine ⟨fun _ => ?_, fun z => absurd rfl z⟩
  exact K _ _ _ _ _ _ _ hk hs0 J
set_option maxRecDepth 100000 in
theorem LC_10 (K : KL L n s l4) (ix : ∀ j, j ≤ 5 → vp_in (l4 + nI j) L) (hk : f + n ≤ k) (hs0 : 49152 * f + 6 * n ≤ s0) (H : LI f s c mr mi ml) : At m_l_law 554 [some (vR 104 L 0), some (vR 10 0 1), some (vR 19 0 48), some (vR 1 1 66), some (vI l4), none, none] [] k s0 (Zq QW) c mr mi ml := by
  have hs := H.sc
  refine at_wq inlT 400 rfl ?_
  refine ⟨ix 1 (by decide), ?_⟩
  refine ⟨0, 0, Nat.zero_le _, Nat.zero_le _, Ok.mono (C_light H) (fun r c' mr' mi' ml' h => ?_)⟩
  obtain ⟨e0, v, iv, er, hR⟩ := h
  obtain ⟨u, ev⟩ := isV_i rfl iv
  subst ev er
  have e : mi' 0 = mi 0 := e0.trans hs.symm
  refine ⟨ix 1 (by decide), ?_⟩
  refine ⟨0, 0, Nat.zero_le _, Nat.zero_le _, ?_⟩
  rw [← e] at hR
  refine Ok.mono hR (fun r2 c2 mr2 mi2 ml2 h => ?_)
  obtain ⟨er2, J⟩ := h
  subst er2
  refine ⟨fun _ => ?_, fun z => absurd rfl z⟩
  exact K _ _ _ _ _ _ _ hk hs0 J
set_option maxRecDepth 100000 in
theorem LC_11 (K : KL L n s l4) (ix : ∀ j, j ≤ 5 → vp_in (l4 + nI j) L) (hk : f + n ≤ k) (hs0 : 49152 * f + 6 * n ≤ s0) (H : LI f s c mr mi ml) : At m_l_law 579 [some (vR 104 L 0), some (vR 10 0 1), some (vR 19 0 48), some (vR 1 1 66), some (vI l4), none, none] [] k s0 (Zq QW) c mr mi ml := by
  have hs := H.sc
  refine at_wq inlT 400 rfl ?_
  refine ⟨ix 1 (by decide), ?_⟩
  refine ⟨0, 0, Nat.zero_le _, Nat.zero_le _, Ok.mono (C_shutter H) (fun r c' mr' mi' ml' h => ?_)⟩
  obtain ⟨e0, v, iv, er, hR⟩ := h
  obtain ⟨u, ev⟩ := isV_i rfl iv
  subst ev er
  have e : mi' 0 = mi 0 := e0.trans hs.symm
  refine ⟨ix 1 (by decide), ?_⟩
  refine ⟨0, 0, Nat.zero_le _, Nat.zero_le _, ?_⟩
  rw [← e] at hR
  refine Ok.mono hR (fun r2 c2 mr2 mi2 ml2 h => ?_)
  obtain ⟨er2, J⟩ := h
  subst er2
  refine ⟨fun _ => ?_, fun z => absurd rfl z⟩
  exact K _ _ _ _ _ _ _ hk hs0 J
set_option maxRecDepth 100000 in
theorem LC_12 (K : KL L n s l4) (ix : ∀ j, j ≤ 5 → vp_in (l4 + nI j) L) (hk : f + n ≤ k) (hs0 : 49152 * f + 6 * n ≤ s0) (H : LI f s c mr mi ml) : At m_l_law 604 [some (vR 104 L 0), some (vR 10 0 1), some (vR 19 0 48), some (vR 1 1 66), some (vI l4), none, none] [] k s0 (Zq QW) c mr mi ml := by
  have hs := H.sc
  refine at_wq inlT 400 rfl ?_
  refine ⟨ix 1 (by decide), ?_⟩
  refine ⟨0, 0, Nat.zero_le _, Nat.zero_le _, Ok.mono (C_noise H) (fun r c' mr' mi' ml' h => ?_)⟩
  obtain ⟨e0, v, iv, er, hR⟩ := h
  obtain ⟨u, ev⟩ := isV_i rfl iv
  subst ev er
  have e : mi' 0 = mi 0 := e0.trans hs.symm
  refine ⟨ix 1 (by decide), ?_⟩
  refine ⟨0, 0, Nat.zero_le _, Nat.zero_le _, ?_⟩
  rw [← e] at hR
  refine Ok.mono hR (fun r2 c2 mr2 mi2 ml2 h => ?_)
  obtain ⟨er2, J⟩ := h
  subst er2
  refine ⟨fun _ => ?_, fun z => absurd rfl z⟩
  exact K _ _ _ _ _ _ _ hk hs0 J
set_option maxRecDepth 100000 in
theorem LC_13 (K : KL L n s l4) (ix : ∀ j, j ≤ 5 → vp_in (l4 + nI j) L) (hk : f + n ≤ k) (hs0 : 49152 * f + 6 * n ≤ s0) (H : LI f s c mr mi ml) : At m_l_law 629 [some (vR 104 L 0), some (vR 10 0 1), some (vR 19 0 48), some (vR 1 1 66), some (vI l4), none, none] [] k s0 (Zq QW) c mr mi ml := by
  have hs := H.sc
  refine at_wq inlT 400 rfl ?_
  refine ⟨ix 1 (by decide), ?_⟩
  refine ⟨0, 0, Nat.zero_le _, Nat.zero_le _, Ok.mono (C_lost H) (fun r c' mr' mi' ml' h => ?_)⟩
  obtain ⟨e0, v, iv, er, hR⟩ := h
  obtain ⟨u, ev⟩ := isV_i rfl iv
  subst ev er
  have e : mi' 0 = mi 0 := e0.trans hs.symm
  refine ⟨ix 1 (by decide), ?_⟩
  refine ⟨0, 0, Nat.zero_le _, Nat.zero_le _, ?_⟩
  rw [← e] at hR
  refine Ok.mono hR (fun r2 c2 mr2 mi2 ml2 h => ?_)
  obtain ⟨er2, J⟩ := h
  subst er2
  refine ⟨fun _ => ?_, fun z => absurd rfl z⟩
  exact K _ _ _ _ _ _ _ hk hs0 J
set_option maxRecDepth 100000 in
theorem LC_14 (K : KL L n s l4) (ix : ∀ j, j ≤ 5 → vp_in (l4 + nI j) L) (hk : f + n ≤ k) (hs0 : 49152 * f + 6 * n ≤ s0) (H : LI f s c mr mi ml) : At m_l_law 654 [some (vR 104 L 0), some (vR 10 0 1), some (vR 19 0 48), some (vR 1 1 66), some (vI l4), none, none] [] k s0 (Zq QW) c mr mi ml := by
  have hs := H.sc
  refine at_wq inlT 400 rfl ?_
  refine ⟨ix 1 (by decide), ?_⟩
  refine ⟨0, 0, Nat.zero_le _, Nat.zero_le _, Ok.mono (C_look H) (fun r c' mr' mi' ml' h => ?_)⟩
  obtain ⟨e0, v, iv, er, hR⟩ := h
  obtain ⟨u, ev⟩ := isV_i rfl iv
  subst ev er
  have e : mi' 0 = mi 0 := e0.trans hs.symm
  refine ⟨ix 1 (by decide), ?_⟩
  refine ⟨0, 0, Nat.zero_le _, Nat.zero_le _, ?_⟩
  rw [← e] at hR
  refine Ok.mono hR (fun r2 c2 mr2 mi2 ml2 h => ?_)
  obtain ⟨er2, J⟩ := h
  subst er2
  refine ⟨fun _ => ?_, fun z => absurd rfl z⟩
  exact K _ _ _ _ _ _ _ hk hs0 J
set_option maxRecDepth 100000 in
theorem LC_15 (K : KL L n s l4) (ix : ∀ j, j ≤ 5 → vp_in (l4 + nI j) L) (hk : f + n ≤ k) (hs0 : 49152 * f + 6 * n ≤ s0) (H : LI f s c mr mi ml) : At m_l_law 679 [some (vR 104 L 0), some (vR 10 0 1), some (vR 19 0 48), some (vR 1 1 66), some (vI l4), none, none] [] k s0 (Zq QW) c mr mi ml := by
  have hs := H.sc
  refine at_wq inlT 400 rfl ?_
  refine ⟨ix 1 (by decide), ?_⟩
  refine ⟨ix 2 (by decide), ?_⟩
  refine ⟨0, 0, Nat.zero_le _, Nat.zero_le _, Ok.mono (C_logged H) (fun r c' mr' mi' ml' h => ?_)⟩
  obtain ⟨e0, v, iv, er, hR⟩ := h
  obtain ⟨u, ev⟩ := isV_i rfl iv
  subst ev er
  have e : mi' 0 = mi 0 := e0.trans hs.symm
  refine ⟨ix 1 (by decide), ?_⟩
  refine ⟨ix 2 (by decide), ?_⟩
  refine ⟨0, 0, Nat.zero_le _, Nat.zero_le _, ?_⟩
  rw [← e] at hR
  refine Ok.mono hR (fun r2 c2 mr2 mi2 ml2 h => ?_)
  obtain ⟨er2, J⟩ := h
  subst er2
  refine ⟨fun _ => ?_, fun z => absurd rfl z⟩
  exact K _ _ _ _ _ _ _ hk hs0 J
set_option maxRecDepth 100000 in
theorem LC_16 (K : KL L n s l4) (ix : ∀ j, j ≤ 5 → vp_in (l4 + nI j) L) (hk : f + n ≤ k) (hs0 : 49152 * f + 6 * n ≤ s0) (H : LI f s c mr mi ml) : At m_l_law 716 [some (vR 104 L 0), some (vR 10 0 1), some (vR 19 0 48), some (vR 1 1 66), some (vI l4), none, none] [] k s0 (Zq QW) c mr mi ml := by
  have hs := H.sc
  refine at_wq inlT 400 rfl ?_
  refine ⟨0, 0, Nat.zero_le _, Nat.zero_le _, Ok.mono (C_scan H) (fun r c' mr' mi' ml' h => ?_)⟩
  obtain ⟨e0, v, iv, er, hR⟩ := h
  obtain ⟨u, ev⟩ := isV_i rfl iv
  subst ev er
  have e : mi' 0 = mi 0 := e0.trans hs.symm
  refine ⟨0, 0, Nat.zero_le _, Nat.zero_le _, ?_⟩
  refine Ok.mono hR (fun r2 c2 mr2 mi2 ml2 h => ?_)
  obtain ⟨er2, J⟩ := h
  subst er2
  refine ⟨fun _ => ?_, fun z => absurd rfl z⟩
  exact K _ _ _ _ _ _ _ hk hs0 J
set_option maxRecDepth 100000 in
theorem LC_17 (K : KL L n s l4) (ix : ∀ j, j ≤ 5 → vp_in (l4 + nI j) L) (hk : f + n ≤ k) (hs0 : 49152 * f + 6 * n ≤ s0) (H : LI f s c mr mi ml) : At m_l_law 729 [some (vR 104 L 0), some (vR 10 0 1), some (vR 19 0 48), some (vR 1 1 66), some (vI l4), none, none] [] k s0 (Zq QW) c mr mi ml := by
  have hs := H.sc
  refine at_wq inlT 400 rfl ?_
  refine ⟨0, 0, Nat.zero_le _, Nat.zero_le _, Ok.mono (C_blinds H) (fun r c' mr' mi' ml' h => ?_)⟩
  obtain ⟨e0, v, iv, er, hR⟩ := h
  obtain ⟨u, ev⟩ := isV_i rfl iv
  subst ev er
  have e : mi' 0 = mi 0 := e0.trans hs.symm
  refine ⟨0, 0, Nat.zero_le _, Nat.zero_le _, ?_⟩
  refine Ok.mono hR (fun r2 c2 mr2 mi2 ml2 h => ?_)
  obtain ⟨er2, J⟩ := h
  subst er2
  refine ⟨fun _ => ?_, fun z => absurd rfl z⟩
  exact K _ _ _ _ _ _ _ hk hs0 J
set_option maxRecDepth 100000 in
theorem LC_18 (K : KL L n s l4) (ix : ∀ j, j ≤ 5 → vp_in (l4 + nI j) L) (hk : f + n ≤ k) (hs0 : 49152 * f + 6 * n ≤ s0) (H : LI f s c mr mi ml) : At m_l_law 742 [some (vR 104 L 0), some (vR 10 0 1), some (vR 19 0 48), some (vR 1 1 66), some (vI l4), none, none] [] k s0 (Zq QW) c mr mi ml := by
  have hs := H.sc
  refine at_wq inlT 400 rfl ?_
  refine ⟨ix 1 (by decide), ?_⟩
  refine ⟨0, 0, Nat.zero_le _, Nat.zero_le _, Ok.mono (C_reading H) (fun r c' mr' mi' ml' h => ?_)⟩
  obtain ⟨e0, v, iv, er, hR⟩ := h
  obtain ⟨u, ev⟩ := isV_i rfl iv
  subst ev er
  have e : mi' 0 = mi 0 := e0.trans hs.symm
  refine ⟨ix 1 (by decide), ?_⟩
  refine ⟨0, 0, Nat.zero_le _, Nat.zero_le _, ?_⟩
  rw [← e] at hR
  refine Ok.mono hR (fun r2 c2 mr2 mi2 ml2 h => ?_)
  obtain ⟨er2, J⟩ := h
  subst er2
  refine ⟨fun _ => ?_, fun z => absurd rfl z⟩
  exact K _ _ _ _ _ _ _ hk hs0 J
set_option maxRecDepth 100000 in
theorem LC_19 (K : KL L n s l4) (ix : ∀ j, j ≤ 5 → vp_in (l4 + nI j) L) (hk : f + n ≤ k) (hs0 : 49152 * f + 6 * n ≤ s0) (H : LI f s c mr mi ml) : At m_l_law 767 [some (vR 104 L 0), some (vR 10 0 1), some (vR 19 0 48), some (vR 1 1 66), some (vI l4), none, none] [] k s0 (Zq QW) c mr mi ml := by
  have hs := H.sc
  refine at_wq inlT 400 rfl ?_
  refine ⟨ix 1 (by decide), ?_⟩
  refine ⟨0, 0, Nat.zero_le _, Nat.zero_le _, Ok.mono (C_net H) (fun r c' mr' mi' ml' h => ?_)⟩
  obtain ⟨e0, v, iv, er, hR⟩ := h
  obtain ⟨u, ev⟩ := isV_i rfl iv
  subst ev er
  have e : mi' 0 = mi 0 := e0.trans hs.symm
  refine ⟨ix 1 (by decide), ?_⟩
  refine ⟨0, 0, Nat.zero_le _, Nat.zero_le _, ?_⟩
  rw [← e] at hR
  refine Ok.mono hR (fun r2 c2 mr2 mi2 ml2 h => ?_)
  obtain ⟨er2, J⟩ := h
  subst er2
  refine ⟨fun _ => ?_, fun z => absurd rfl z⟩
  exact K _ _ _ _ _ _ _ hk hs0 J
end
