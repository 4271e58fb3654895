/-! ===== a try: light, on both sides ===== -/
theorem u2_ne2 {α : Type} (f : Nat → Nat → α) {a k b j : Nat} (v : α) (h : b ≠ a ∨ j ≠ k) : u2 f a k v b j = f b j := by
  rcases h with h | h
  · rw [u2_n f k v h]
  · by_cases e : b = a
    · subst e; exact u2_k f b v h
    · rw [u2_n f k v e]
theorem wf_n {σ : SG} (h : WF σ) : ∃ n : Nat, σ 0 5 = n ∧ n ≤ 31 := by
  obtain ⟨h, -⟩ := h
  rcases h with ⟨-, h, -⟩ | ⟨-, h, h2, -⟩
  · exact ⟨0, h, by omega⟩
  · refine ⟨(σ 0 5).toNat, by omega, ?_⟩
    generalize (σ 0 5).toNat = n at h
    generalize (σ 0 6).toNat = k at h
    simp only [bnOK, Bool.or_eq_true, Bool.and_eq_true, beq_iff_eq] at h
    omega
theorem RCs_why {σ : SG} {mi : MI} (h : RCs σ mi) {w : Int} (hw : w ≠ 4) : RCs (u2 σ 0 1 w) (u2 mi 1 9 (zI w)) := by
  obtain ⟨h1, h2, h3, h4, h5, h6, h7, h8, h9, h10, h11⟩ := h
  exact ⟨h1, by simp [u2], h3, fun z => absurd (by simpa [u2] using z) hw, h5, h6, h7, h8, h9, h10, h11⟩
theorem RCb_why {σ : SG} {nb : Nat} {mi : MI} (hb : nb = 43 ∨ nb = 5) (h : RCb σ nb mi) {w : Int} {x : Int32} : RCb (u2 σ 0 1 w) nb (u2 mi 1 9 x) := by
  rcases hb with rfl | rfl <;> exact h
theorem t_light {nb db : Nat} (hb : nb = 43 ∧ db = 5 ∨ nb = 5 ∧ db = 43) {by_ rs : Option (Nat × Nat × Nat)} {c : Nat} {σ : SG} {mi : MI} {ml : ML} {j : Int32} (hW : WF σ) (hs : RCs σ mi) (hB : σ 0 0 = 1 → RCb σ nb mi) :
    Ok m_w_light 0 0 [vR 10 0 1, vI j] (fun r c' mr' mi' ml' => c' = c ∧ mr' = MRc nb db by_ rs ∧ ml' = ml ∧ ((σ 0 0 = 1 ∧ 0 ≤ j.toInt ∧ j.toInt < σ 0 5 ∧ r = some (vI (zI (σ 1 j.toInt.toNat))) ∧ mi' = u2 mi 1 9 (zI 0)) ∨ (¬ (σ 0 0 = 1 ∧ 0 ≤ j.toInt ∧ j.toInt < σ 0 5) ∧ r = some (vI (zI (-1))) ∧ mi' = u2 mi 1 9 (zI 1)))) c (MRc nb db by_ rs) mi ml := by
  obtain ⟨n, hn, hn31⟩ := wf_n hW
  have h8 := hs.1
  rcases hb with ⟨rfl, rfl⟩ | ⟨rfl, rfl⟩
  all_goals
    refine ok_wq inlT 200 rfl rfl ?_
    repeat' (first | (refine ⟨fun h => ?_, fun h => ?_⟩ <;> first | exact absurd h (by decide) | skip) | refine ⟨Or.inl rfl, ?_⟩ | refine ⟨Or.inr rfl, ?_⟩ | fail)
    all_goals trace_state
    all_goals sorry
