/-! ===== the law ===== -/
theorem ls_dc : decode (mCd m_l_law) 1692 = .ok (.invokestatic 228, 3) := by decide +kernel
theorem ls_ln : Cond.methodLink "WeighingPlatesLaw" 228 yLs ∈ lw_tbl := by decide +kernel
theorem vp01 : vp_in (nI 0) 1 := vp_in_nI (by decide) (by decide)
section
variable {L n f k s0 c : Nat} {s : Nat → Int32} {l4 : Int32} {mr : MR} {mi : MI} {ml : ML}
set_option maxRecDepth 100000 in
theorem LC_43 (K : KL L n s l4) (hk : f + n ≤ k) (hs0 : 49152 * f + 6 * n ≤ s0) (H : LI f s c mr mi ml) : At m_l_law 1485 [some (vR 104 L 0), some (vR 10 0 1), some (vR 19 0 48), some (vR 1 1 66), some (vI l4), none, none] [] k s0 (Zq QW) c mr mi ml := by
  obtain ⟨kc, ks, f', h1, h2, O⟩ := C_tour H
  refine at_wq inlT 400 rfl ?_
  refine ⟨kc, ks, by omega, by omega, Ok.mono O (fun r c' mr' mi' ml' h => ?_)⟩
  obtain ⟨e0, v, iv, er, hR⟩ := h
  obtain ⟨u, ev⟩ := isV_i rfl iv
  subst ev er
  refine ⟨0, 0, Nat.zero_le _, Nat.zero_le _, ?_⟩
  refine Ok.mono hR (fun r2 c2 mr2 mi2 ml2 h => ?_)
  obtain ⟨er2, J⟩ := h
  subst er2
  refine ⟨fun _ => ?_, fun z => absurd rfl z⟩
  exact K f' _ _ _ _ _ _ (by omega) (by omega) J
set_option maxRecDepth 100000 in
theorem LC_44 (K : KL L n s l4) (ix : ∀ j, j ≤ 5 → vp_in (l4 + nI j) L) (hk : f + n ≤ k) (hs0 : 49152 * f + 6 * n ≤ s0) (H : LI f s c mr mi ml) : At m_l_law 1498 [some (vR 104 L 0), some (vR 10 0 1), some (vR 19 0 48), some (vR 1 1 66), some (vI l4), none, none] [] k s0 (Zq QW) c mr mi ml := by
  have hs := H.sc
  obtain ⟨kc, ks, f', h1, h2, O⟩ := C_tourAt (x := mi 0 (l4 + nI 1).toNatClampNeg) H
  refine at_wq inlT 400 rfl ?_
  refine ⟨ix 1 (by decide), ?_⟩
  refine ⟨kc, ks, by omega, by omega, Ok.mono O (fun r c' mr' mi' ml' h => ?_)⟩
  obtain ⟨e0, v, iv, er, hR⟩ := h
  obtain ⟨u, ev⟩ := isV_i rfl iv
  subst ev er
  have e : mi' 0 = mi 0 := e0.trans hs.symm
  refine ⟨ix 1 (by decide), ?_⟩
  refine ⟨0, 0, Nat.zero_le _, Nat.zero_le _, ?_⟩
  rw [← e] at hR
  refine Ok.mono hR (fun r2 c2 mr2 mi2 ml2 h => ?_)
  obtain ⟨er2, J⟩ := h
  subst er2
  refine ⟨fun _ => ?_, fun z => absurd rfl z⟩
  exact K f' _ _ _ _ _ _ (by omega) (by omega) J
set_option maxRecDepth 100000 in
theorem LC_50 (K : KL L n s l4) (ix : ∀ j, j ≤ 5 → vp_in (l4 + nI j) L) (hk : f + (n + 1) ≤ k) (hs0 : 49152 * f + 6 * (n + 1) ≤ s0) (H : LI f s c mr mi ml) : At m_l_law 1684 [some (vR 104 L 0), some (vR 10 0 1), some (vR 19 0 48), some (vR 1 1 66), some (vI l4), none, none] [] k s0 (Zq QW) c mr mi ml := by
  have H0 := H
  obtain ⟨σ, nb, db, by_, rn, rc, hb, rfl, F, R, M, T, hrc, hc, hf, hs⟩ := H
  refine at_wq inlT 400 rfl ?_
  refine ⟨ix 1 (by decide), ?_⟩
  have OX := CS_stuck (x := mi 0 (l4 + nI 1).toNatClampNeg) (by_ := by_) (rs := some (0, rn, rc)) (c := c) (ml := ml) (Q := fun r c' mr' mi' ml' => (∃ i, stk σ (mi 0 (l4 + nI 1).toNatClampNeg) = some i ∧ r = some (vI (nI i))) ∧ c' = c ∧ mr' = MRc nb db by_ (some (0, rn, rc)) ∧ mi' = mi ∧ ml' = ml) (QX := fun c' mr' mi' ml' => stk σ (mi 0 (l4 + nI 1).toNatClampNeg) = none ∧ c ≤ c' ∧ mr' = MRc nb db by_ (some (0, rn, rc)) ∧ mi' = mi ∧ ml' = ml) hb F.1 (fun i hi => ⟨⟨i, hi, rfl⟩, rfl, rfl, rfl, rfl⟩) (fun h c' hc' => ⟨h, hc', rfl, rfl, rfl⟩)
  have OL := OkLs (QL := fun r c' mr' mi' ml' => c ≤ c' ∧ mr' = MRc nb db by_ (some (0, rn, rc)) ∧ mi' = mi ∧ ((∃ i, stk σ (mi 0 (l4 + nI 1).toNatClampNeg) = some i ∧ r = some (vI 0) ∧ ml' = u2 ml 66 (0 : Int32).toNatClampNeg (nI i).toInt64) ∨ (stk σ (mi 0 (l4 + nI 1).toNatClampNeg) = none ∧ r = some (vI 1) ∧ ml' = ml))) OX (fun r c' mr' mi' ml' h => by
      obtain ⟨⟨i, hi, er⟩, e1, e2, e3, e4⟩ := h
      exact ⟨nI i, er, by omega, e2, e3, Or.inl ⟨i, hi, rfl, by rw [e4]⟩⟩) (fun c' mr' mi' ml' h => by
      obtain ⟨hi, e1, e2, e3, e4⟩ := h
      exact ⟨e1, e2, e3, Or.inr ⟨hi, rfl, e4⟩⟩)
  refine at_callL (as := [vR 10 0 1, vI (mi 0 (l4 + nI 1).toNatClampNeg), vR 1 1 66]) (t := []) ls_dc (w_in ls_ln) (by decide) rfl OL (by omega) (by omega) (fun rv c' mr' mi' ml' h => ?_)
  obtain ⟨hcc, e2, e3, hh⟩ := h
  rw [e2, e3]
  rcases hh with ⟨i, hi, er, e4⟩ | ⟨hi, er, e4⟩
  · subst er
    rw [e4]
    refine at_wq inlT 400 rfl ?_
    refine ⟨ix 1 (by decide), ?_⟩
    refine ⟨0, 0, Nat.zero_le _, Nat.zero_le _, (RS_stuck R.1).1 i hi _ ?_⟩
    refine ⟨0, 0, Nat.zero_le _, Nat.zero_le _, g_r_thrown_0 ⟨rfl, rfl, rfl⟩ _ ?_⟩
    refine ⟨fun _ => ?_, fun z => absurd rfl z⟩
    refine ⟨fun z => absurd rfl z, fun _ => ?_⟩
    refine ⟨vp01, ?_⟩
    refine ⟨fun _ => ?_, fun z => absurd ((lgc_eq _ _).mpr rfl) z⟩
    exact At.wk (K f _ _ _ _ _ _ (by omega) (by omega) (H0.w0 hcc (fun a ha => u2_o _ _ (by omega)))) ⟨rfl, rfl, rfl, rfl, rfl, trivial⟩
  · subst er
    rw [e4]
    refine at_wq inlT 400 rfl ?_
    refine ⟨ix 1 (by decide), ?_⟩
    refine ⟨0, 0, Nat.zero_le _, Nat.zero_le _, (RS_stuck R.1).2 hi _ ?_⟩
    refine ⟨0, 0, Nat.zero_le _, Nat.zero_le _, g_r_thrown_0 ⟨rfl, rfl, rfl⟩ _ ?_⟩
    refine ⟨fun _ => ?_, fun z => absurd rfl z⟩
    refine ⟨fun _ => ?_, fun z => absurd z (by decide)⟩
    have J := H0.w0 (v := nI 1) hcc (fun a ha => (rfl : ml a = ml a))
    rw [← u2_u2 mi 48 0 (nI 0) (nI 1)] at J
    exact At.wk (K f _ _ _ _ _ _ (by omega) (by omega) J) ⟨rfl, rfl, rfl, rfl, rfl, trivial⟩
end
