/-! ===== lines before a bench, and a bench again: the reference ===== -/
section
variable {nb db b : Nat} {by_ rs : RX} {c : Nat} {mj : MI} {mk : ML}
theorem X_light (hn : mj 48 13 = 0) (h38 : mj 48 38 = nI 0) : Ret m_r_readLight [vR 19 0 48] none c (MRc nb db by_ rs) mj mk (u2 (u2 mj 48 38 (nI 5)) 48 35 (nI 0)) mk := by
  have D := DR.mk0 (mj := mj) (f := 5) (by decide) (by decide)
  exact g_r_readLight_0 ⟨_, _, B_lack hn h38, _, _, _, D_readNew D _, _, _, _, D_readWhole D _ _, fun z => absurd z D.np, fun _ => ⟨rfl, rfl, rfl⟩⟩
theorem X_lost (hn : mj 48 13 = 0) (h38 : mj 48 38 = nI 0) (hc : ¬ mj 48 20 = nI 3) : Ret m_r_readLost [vR 19 0 48] none c (MRc nb db by_ rs) mj mk (u2 (u2 mj 48 38 (nI 5)) 48 35 (nI 0)) mk := by
  have D := DR.mk0 (mj := mj) (f := 5) (by decide) (by decide)
  exact g_r_readLost_0 ⟨fun _ => ⟨_, _, B_lack hn h38, _, _, _, D_readNew D _, fun z => absurd z D.np, fun _ => ⟨rfl, rfl, rfl⟩⟩, fun z => absurd z hc⟩
theorem X_stuck (hn : mj 48 13 = 0) (h38 : mj 48 38 = nI 0) (hc : ¬ mj 48 18 = nI 3) : Ret m_r_readStuckOne [vR 19 0 48] none c (MRc nb db by_ rs) mj mk (u2 (u2 mj 48 38 (nI 5)) 48 35 (nI 0)) mk := by
  have D := DR.mk0 (mj := mj) (f := 5) (by decide) (by decide)
  exact g_r_readStuckOne_0 ⟨fun _ => ⟨_, _, B_lack hn h38, _, _, _, D_readNew D _, _, _, _, D_isW D (by decide) (by decide), fun z => absurd rfl z, fun _ => ⟨_, _, _, D_isW D (by decide) (by decide), fun z => absurd rfl z, fun _ => ⟨fun _ => ⟨u2 (u2 mj 48 38 (nI 5)) 48 35 (nI 0), mk, by rw [D.id]; exact D_next D, fun z => absurd z D.np, fun _ => ⟨rfl, rfl, rfl⟩⟩, fun z => absurd z D.nz⟩⟩⟩, fun z => absurd z hc⟩
theorem X_noise (hn : mj 48 13 = 0) (h38 : mj 48 38 = nI 0) (hc : ¬ mj 48 19 = nI 8) : Ret m_r_readNoiseOf [vR 19 0 48] none c (MRc nb db by_ rs) mj mk (u2 (u2 mj 48 38 (nI 5)) 48 35 (nI 0)) mk := by
  have D := DR.mk0 (mj := mj) (f := 5) (by decide) (by decide)
  exact g_r_readNoiseOf_0 ⟨fun _ => ⟨_, _, B_lack hn h38, _, _, _, D_readNew D _, _, _, _, D_isW D (by decide) (by decide), fun z => absurd rfl z, fun _ => ⟨_, _, _, D_isW D (by decide) (by decide), fun z => absurd rfl z, fun _ => ⟨fun _ => ⟨u2 (u2 mj 48 38 (nI 5)) 48 35 (nI 0), mk, by rw [D.id]; exact D_next D, _, _, _, D_readWhole D _ _, fun z => absurd z D.np, fun _ => ⟨rfl, rfl, rfl⟩⟩, fun z => absurd z D.nz⟩⟩⟩, fun z => absurd z hc⟩
theorem X_mask (hn : mj 48 13 = 0) (h38 : mj 48 38 = nI 0) (hc : ¬ mj 48 17 = nI 12) : Ret m_r_readMaskOf [vR 19 0 48] none c (MRc nb db by_ rs) mj mk (u2 (u2 mj 48 38 (nI 5)) 48 35 (nI 0)) mk := by
  have D := DR.mk0 (mj := mj) (f := 5) (by decide) (by decide)
  have n35 : ¬ (u2 (u2 mj 48 38 (nI 5)) 48 35 (nI 0)) 48 35 = nI 3 := by rw [D.2.2.2]; decide
  exact g_r_readMaskOf_0 ⟨fun _ => ⟨_, _, B_lack hn h38, g_r_readMaskOf_22 ⟨fun z => absurd z (by decide), fun _ => ⟨_, _, _, D_readNew D _, fun _ => g_r_readMaskOf_22 ⟨fun _ => ⟨fun z => absurd z D.np, fun _ => ⟨rfl, rfl, rfl⟩⟩, fun z => absurd rfl z⟩, fun z => absurd z n35⟩⟩⟩, fun z => absurd z hc⟩
theorem X_again (hn : ¬ mj 48 13 ≤ 0) (h38 : mj 48 38 = nI 0) : Ret m_r_readBench [vR 19 0 48] none c (MRc nb db by_ rs) mj mk (u2 (u2 mj 48 38 (nI 3)) 48 35 (nI 0)) mk := by
  have D := DR.mk0 (mj := mj) (f := 3) (by decide) (by decide)
  exact g_r_readBench_0 ⟨fun z => absurd z hn, fun _ => ⟨fun z => absurd h38 z, fun _ => ⟨_, _, D_next D, _, _, _, D_isW D (by decide) (by decide), fun z => absurd rfl z, fun _ => ⟨_, _, _, D_isW D (by decide) (by decide), fun z => absurd rfl z, fun _ => ⟨fun _ => ⟨u2 (u2 mj 48 38 (nI 3)) 48 35 (nI 0), mk, by rw [D.id]; exact D_next D, fun _ => ⟨_, _, _, D_order D, _, _, D_needs D (by decide) (by decide), _, _, _, D_readWhole D _ _, _, _, D_needs D (by decide) (by decide), _, _, _, D_readWhole D _ _, fun z => absurd z D.np, fun _ => ⟨rfl, rfl, rfl⟩⟩, fun z => absurd rfl z⟩, fun z => absurd z D.nz⟩⟩⟩⟩⟩
end
