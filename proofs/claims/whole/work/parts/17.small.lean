/-! ===== small methods ===== -/
theorem u2_ne2 {α : Type} (f : Nat → Nat → α) {a k b j : Nat} (v : α) (h : b ≠ a ∨ j ≠ k) : u2 f a k v b j = f b j := by
  rcases h with h | h
  · rw [u2_n f k v h]
  · by_cases e : b = a
    · subst e; exact u2_k f b v h
    · rw [u2_n f k v e]
theorem wf_n {σ : SG} (h : WF σ) : ∃ n : Nat, σ 0 5 = n ∧ n ≤ 31 := by
  obtain ⟨h, -⟩ := h
  rcases h with ⟨-, h, -⟩ | ⟨-, h, h2, -⟩
  · exact ⟨0, h, by omega⟩
  · refine ⟨(σ 0 5).toNat, by omega, ?_⟩
    generalize (σ 0 5).toNat = n at h
    generalize (σ 0 6).toNat = k at h
    simp only [bnOK, Bool.or_eq_true, Bool.and_eq_true, beq_iff_eq] at h
    omega
theorem RCs_why {σ : SG} {mi : MI} (h : RCs σ mi) {w : Int} (hw : w ≠ 4) : RCs (u2 σ 0 1 w) (u2 mi 1 9 (zI w)) := by
  obtain ⟨h1, h2, h3, h4, h5, h6, h7, h8, h9, h10, h11⟩ := h
  exact ⟨h1, by simp [u2], h3, fun z => absurd (by simpa [u2] using z) hw, h5, h6, h7, h8, h9, h10, h11⟩
theorem RCb_why {σ : SG} {nb : Nat} {mi : MI} (hb : nb = 43 ∨ nb = 5) (h : RCb σ nb mi) {w : Int} {x : Int32} : RCb (u2 σ 0 1 w) nb (u2 mi 1 9 x) := by
  rcases hb with rfl | rfl <;> exact h
/-- a colour, a plate, that there is -/
def InN (σ : SG) (j : Int32) : Prop := σ 0 0 = 1 ∧ 0 ≤ j.toInt ∧ j.toInt < σ 0 5
theorem InN.nat {σ : SG} {j : Int32} (h : InN σ j) (hW : WF σ) : ∃ i : Nat, j = nI i ∧ (i : Int) < σ 0 5 ∧ i < 31 := by
  obtain ⟨n, hn, h31⟩ := wf_n hW
  obtain ⟨-, h1, h2⟩ := h
  refine ⟨j.toInt.toNat, ?_, by omega, by omega⟩
  rw [nI_z, show ((j.toInt.toNat : Nat) : Int) = j.toInt by omega]
  exact zI_of j
theorem rd_01 {σ : SG} (hW : WF σ) : σ 0 0 = 0 ∨ σ 0 0 = 1 := by
  rcases hW.1 with h | h
  · exact Or.inl h.1
  · exact Or.inr h.1
theorem k_haveOne {nb db : Nat} (hb : nb = 43 ∧ db = 5 ∨ nb = 5 ∧ db = 43) {by_ rs : Option (Nat × Nat × Nat)} {c : Nat} {σ : SG} {mi : MI} {ml : ML} {j : Int32} {Q : Option AV → HP} (hW : WF σ) (hs : RCs σ mi) (hB : σ 0 0 = 1 → RCb σ nb mi)
    (h1 : InN σ j → Q (some (vI 1)) c (MRc nb db by_ rs) (u2 mi 1 9 (zI 0)) ml) (h0 : ¬ InN σ j → Q (some (vI 0)) c (MRc nb db by_ rs) (u2 mi 1 9 (zI 1)) ml) : Ok m_w_haveOne 0 0 [vR 10 0 1, vI j] Q c (MRc nb db by_ rs) mi ml := by
  obtain ⟨n, hn, hn31⟩ := wf_n hW
  have h8 := hs.1
  have hr : σ 0 0 = 1 → mi nb 0 = nI n := fun z => by rw [(hB z).1, hn]; rfl
  rcases hb with ⟨rfl, rfl⟩ | ⟨rfl, rfl⟩
  all_goals
    refine ok_wq inlT 200 rfl rfl ?_
    refine ⟨fun g1 => ?_, fun g1 => ?_⟩
    · repeat' (first | (refine ⟨fun h => ?_, fun h => ?_⟩ <;> first | exact absurd h (by decide) | skip) | refine ⟨Or.inl rfl, ?_⟩ | refine ⟨Or.inr rfl, ?_⟩ | fail)
      refine h0 (fun z => ?_)
      rw [h8, z.1] at g1
      exact absurd g1 (by decide)
    · have hz : σ 0 0 = 1 := by
        rcases rd_01 hW with z | z
        · rw [h8, z] at g1; exact absurd rfl g1
        · exact z
      refine ⟨fun g2 => ?_, fun g2 => ?_⟩
      · repeat' (first | (refine ⟨fun h => ?_, fun h => ?_⟩ <;> first | exact absurd h (by decide) | skip) | refine ⟨Or.inl rfl, ?_⟩ | refine ⟨Or.inr rfl, ?_⟩ | fail)
        refine h0 (fun z => ?_)
        rw [Int32.lt_iff_toInt_lt] at g2
        exact absurd z.2.1 (by simpa using g2)
      · refine ⟨fun g3 => ?_, fun g3 => ?_⟩
        · repeat' (first | (refine ⟨fun h => ?_, fun h => ?_⟩ <;> first | exact absurd h (by decide) | skip) | refine ⟨Or.inl rfl, ?_⟩ | refine ⟨Or.inr rfl, ?_⟩ | fail)
          refine h0 (fun z => ?_)
          have g3 : mi _ 0 ≤ j := g3
          rw [hr hz, Int32.le_iff_toInt_le, nI_z, zI_toInt ⟨by omega, by omega⟩] at g3
          have := z.2.2
          omega
        · repeat' (first | (refine ⟨fun h => ?_, fun h => ?_⟩ <;> first | exact absurd h (by decide) | skip) | refine ⟨Or.inl rfl, ?_⟩ | refine ⟨Or.inr rfl, ?_⟩ | fail)
          refine h1 ⟨hz, ?_, ?_⟩
          · rw [Int32.lt_iff_toInt_lt] at g2
            simpa using g2
          · have g3 : ¬ mi _ 0 ≤ j := g3
            rw [hr hz, Int32.le_iff_toInt_le, nI_z, zI_toInt ⟨by omega, by omega⟩] at g3
            omega
theorem k_isOne {mr : MR} {c : Nat} {σ : SG} {mi : MI} {ml : ML} {j : Int32} {Q : Option AV → HP} (hW : WF σ) (hs : RMs σ mi)
    (h1 : InN σ j → Q (some (vI 1)) c mr mi ml) (h0 : ¬ InN σ j → Q (some (vI 0)) c mr mi ml) : Ok m_r_isOne 0 0 [vR 19 0 48, vI j] Q c mr mi ml := by
  obtain ⟨n, hn, hn31⟩ := wf_n hW
  have h26 : mi 48 26 = zI (σ 0 0) := hs.2.2.2.2.1
  have h5 : mi 48 5 = nI n := by rw [hs.2.2.1, hn]; rfl
  refine ok_wq inlT 200 rfl rfl ?_
  refine ⟨fun g1 => ?_, fun g1 => ?_⟩
  · repeat' (first | (refine ⟨fun h => ?_, fun h => ?_⟩ <;> first | exact absurd h (by decide) | skip) | refine ⟨Or.inl rfl, ?_⟩ | refine ⟨Or.inr rfl, ?_⟩ | fail)
    refine h0 (fun z => ?_)
    rw [h26, z.1] at g1
    exact absurd g1 (by decide)
  · have hz : σ 0 0 = 1 := by
      rcases rd_01 hW with z | z
      · rw [h26, z] at g1; exact absurd rfl g1
      · exact z
    refine ⟨fun g2 => ?_, fun g2 => ?_⟩
    · repeat' (first | (refine ⟨fun h => ?_, fun h => ?_⟩ <;> first | exact absurd h (by decide) | skip) | refine ⟨Or.inl rfl, ?_⟩ | refine ⟨Or.inr rfl, ?_⟩ | fail)
      refine h0 (fun z => ?_)
      rw [Int32.lt_iff_toInt_lt] at g2
      exact absurd z.2.1 (by simpa using g2)
    · refine ⟨fun g3 => ?_, fun g3 => ?_⟩
      · repeat' (first | (refine ⟨fun h => ?_, fun h => ?_⟩ <;> first | exact absurd h (by decide) | skip) | refine ⟨Or.inl rfl, ?_⟩ | refine ⟨Or.inr rfl, ?_⟩ | fail)
        refine h0 (fun z => ?_)
        rw [h5, Int32.le_iff_toInt_le, nI_z, zI_toInt ⟨by omega, by omega⟩] at g3
        have := z.2.2
        omega
      · repeat' (first | (refine ⟨fun h => ?_, fun h => ?_⟩ <;> first | exact absurd h (by decide) | skip) | refine ⟨Or.inl rfl, ?_⟩ | refine ⟨Or.inr rfl, ?_⟩ | fail)
        refine h1 ⟨hz, ?_, ?_⟩
        · rw [Int32.lt_iff_toInt_lt] at g2
          simpa using g2
        · rw [h5, Int32.le_iff_toInt_le, nI_z, zI_toInt ⟨by omega, by omega⟩] at g3
          omega
