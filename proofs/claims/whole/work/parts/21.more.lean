/-! ===== shutter, lost ===== -/
theorem op_lt {σ : SG} (hW : WF σ) : opB σ < 2 ^ 31 := by
  obtain ⟨n, hn, h31⟩ := wf_n hW
  have := bitsOf_lt (fun j => σ 2 j == 1) (σ 0 5).toNat
  exact Nat.lt_of_lt_of_le this (p31 (by omega))
theorem sh_lt {σ : SG} (hW : WF σ) : shB σ < 2 ^ 31 := by
  obtain ⟨n, hn, h31⟩ := wf_n hW
  have := bitsOf_lt (fun j => σ 2 j == 2) (σ 0 5).toNat
  exact Nat.lt_of_lt_of_le this (p31 (by omega))
theorem op_at {σ : SG} (hW : WF σ) {i : Nat} (hi : (i : Int) < σ 0 5) (h31 : i < 31) : (nI (opB σ) >>> (nI i &&& 31)) &&& nI 1 = nI (if σ 2 i = 1 then 1 else 0) := by
  rw [bit_at (op_lt hW) (by omega)]
  unfold opB
  rw [bitsOf_at _ _ (show i < (σ 0 5).toNat by omega)]
  simp only [beq_iff_eq]
theorem sh_at {σ : SG} (hW : WF σ) {i : Nat} (hi : (i : Int) < σ 0 5) (h31 : i < 31) : (nI (shB σ) >>> (nI i &&& 31)) &&& nI 1 = nI (if σ 2 i = 2 then 1 else 0) := by
  rw [bit_at (sh_lt hW) (by omega)]
  unfold shB
  rw [bitsOf_at _ _ (show i < (σ 0 5).toNat by omega)]
  simp only [beq_iff_eq]
theorem WF.shut {σ : SG} (h : WF σ) (j : Nat) : σ 2 j = 0 ∨ σ 2 j = 1 ∨ σ 2 j = 2 := h.2.2.2.2.2.2.2.2.2.2.1 j
theorem WF.lost {σ : SG} (h : WF σ) : 0 ≤ σ 0 10 ∧ σ 0 10 < 2 ^ (σ 0 5).toNat := h.2.2.2.1
/-- the lost plates' bits -/
def loB (σ : SG) : Nat := (σ 0 10).toNat
theorem lo_lt {σ : SG} (hW : WF σ) : loB σ < 2 ^ 31 := by
  obtain ⟨n, hn, h31⟩ := wf_n hW
  have h := hW.lost
  have e : (σ 0 5).toNat = n := by omega
  rw [e] at h
  have h2 := p31 h31
  have h3 : ((2 : Int) ^ n) = ((2 ^ n : Nat) : Int) := by norm_cast
  rw [h3] at h
  unfold loB
  omega
theorem lo_nI {σ : SG} (hW : WF σ) : zI (σ 0 10) = nI (loB σ) := by
  rw [nI_z]
  unfold loB
  rw [show (((σ 0 10).toNat : Nat) : Int) = σ 0 10 from Int.toNat_of_nonneg hW.lost.1]
/-- a bit of a number -/
def bt (b i : Nat) : Nat := b / 2 ^ i % 2
theorem bt_01 (b i : Nat) : bt b i = 0 ∨ bt b i = 1 := by unfold bt; omega
def sp_shutter (σ : SG) (j : Int32) : Int32 × Nat := bif inN σ j then ((zI (σ 2 j.toInt.toNat)), 0) else (-(nI 1), 1)
def sp_lost (σ : SG) (j : Int32) : Int32 × Nat := bif inN σ j then ((nI (bt (loB σ) j.toInt.toNat)), 0) else (-(nI 1), 1)
theorem cw_shutter {nb db : Nat} (hb : nb = 43 ∧ db = 5 ∨ nb = 5 ∧ db = 43) {by_ rs : Option (Nat × Nat × Nat)} {c : Nat} {σ : SG} {mi : MI} {ml : ML} {j : Int32} (hW : WF σ) (hs : RCs σ mi) (hB : σ 0 0 = 1 → RCb σ nb mi) : Ok m_w_shutter 0 0 [vR 10 0 1, vI j] (EW (vI (sp_shutter σ j).1) (sp_shutter σ j).2 c (MRc nb db by_ rs) mi ml) c (MRc nb db by_ rs) mi ml := by
  refine ok_wq inlT 200 rfl rfl ?_
  refine ⟨0, 0, Nat.zero_le _, Nat.zero_le _, k_haveOne hb hW hs hB (fun hin => ?_) (fun hout => ?_)⟩
  · obtain ⟨i, rfl, hi, h31⟩ := hin.nat hW
    have hBn := hB hin.1
    have e5 := op_at hW hi h31
    have e6 := sh_at hW hi h31
    rw [← hBn.2.2.2.2.2.1] at e5
    rw [← hBn.2.2.2.2.2.2.1] at e6
    have e2 : sp_shutter σ (nI i) = (zI (σ 2 i), 0) := by unfold sp_shutter; rw [inN_t hin, ti31 h31]; rfl
    rw [e2]
    rcases hb with ⟨rfl, rfl⟩ | ⟨rfl, rfl⟩
    all_goals
      refine ⟨fun h => absurd h (by decide), fun _ => ?_⟩
      rcases hW.shut i with z | z | z
      all_goals rw [z] at e5 e6 ⊢
      · refine ⟨fun _ => ?_, fun h => absurd (e5.symm.trans h) (by decide)⟩
        refine ⟨fun _ => ?_, fun h => absurd (e6.symm.trans h) (by decide)⟩
        exact ⟨rfl, rfl, rfl, rfl, rfl⟩
      · refine ⟨fun h => absurd e5 h, fun _ => ?_⟩
        exact ⟨rfl, rfl, rfl, rfl, rfl⟩
      · refine ⟨fun _ => ?_, fun h => absurd (e5.symm.trans h) (by decide)⟩
        refine ⟨fun h => absurd e6 h, fun _ => ?_⟩
        exact ⟨rfl, rfl, rfl, rfl, rfl⟩
  · repeat' (first | (refine ⟨fun h => ?_, fun h => ?_⟩ <;> first | exact absurd h (by decide) | skip) | refine ⟨Or.inl rfl, ?_⟩ | refine ⟨Or.inr rfl, ?_⟩ | fail)
    unfold EW sp_shutter
    rw [inN_f hout]
    exact ⟨rfl, rfl, rfl, rfl, rfl⟩
theorem cr_shutter {nb db : Nat} {by_ rs : Option (Nat × Nat × Nat)} {c : Nat} {σ : SG} {mi : MI} {ml : ML} {j : Int32} (hW : WF σ) (hs : RMs σ mi) (hB : RMb σ mi) : Ok m_r_shutter 0 0 [vR 19 0 48, vI j] (ER (vI (sp_shutter σ j).1) (sp_shutter σ j).2 c (MRc nb db by_ rs) mi ml) c (MRc nb db by_ rs) mi ml := by
  refine ok_wq inlT 200 rfl rfl ?_
  refine ⟨0, 0, Nat.zero_le _, Nat.zero_le _, k_isOne hW (RMs_th hs _) (fun hin => ?_) (fun hout => ?_)⟩
  · obtain ⟨i, rfl, hi, h31⟩ := hin.nat hW
    repeat' (first | (refine ⟨fun h => ?_, fun h => ?_⟩ <;> first | exact absurd h (by decide) | skip) | refine ⟨Or.inl rfl, ?_⟩ | refine ⟨Or.inr rfl, ?_⟩ | fail)
    refine ⟨?_, ?_⟩
    · rw [nI_add]
      exact vp_in_nI (by omega) (by decide)
    · unfold ER sp_shutter
      rw [inN_t hin, nI_add, nI_clamp (by omega)]
      refine ⟨?_, rfl, rfl, rfl, rfl⟩
      have e := hB.2.2.1 i hi
      show some (vI (mi 54 (31 + i))) = some (vI (zI (σ 2 (nI i).toInt.toNat)))
      rw [ti31 h31]
      exact congrArg (fun x => some (vI x)) e
  · repeat' (first | (refine ⟨fun h => ?_, fun h => ?_⟩ <;> first | exact absurd h (by decide) | skip) | refine ⟨Or.inl rfl, ?_⟩ | refine ⟨Or.inr rfl, ?_⟩ | fail)
    unfold ER sp_shutter
    rw [inN_f hout]
    exact ⟨rfl, rfl, rfl, rfl, rfl⟩
theorem cw_lost {nb db : Nat} (hb : nb = 43 ∧ db = 5 ∨ nb = 5 ∧ db = 43) {by_ rs : Option (Nat × Nat × Nat)} {c : Nat} {σ : SG} {mi : MI} {ml : ML} {j : Int32} (hW : WF σ) (hs : RCs σ mi) (hB : σ 0 0 = 1 → RCb σ nb mi) : Ok m_w_lost 0 0 [vR 10 0 1, vI j] (EW (vI (sp_lost σ j).1) (sp_lost σ j).2 c (MRc nb db by_ rs) mi ml) c (MRc nb db by_ rs) mi ml := by
  refine ok_wq inlT 200 rfl rfl ?_
  refine ⟨0, 0, Nat.zero_le _, Nat.zero_le _, k_haveOne hb hW hs hB (fun hin => ?_) (fun hout => ?_)⟩
  · obtain ⟨i, rfl, hi, h31⟩ := hin.nat hW
    have hBn := hB hin.1
    have e5 := bit_at (lo_lt hW) (show i < 32 by omega)
    rw [← lo_nI hW, ← hBn.2.2.2.2.2.2.2.1] at e5
    have e2 : sp_lost σ (nI i) = (nI (bt (loB σ) i), 0) := by unfold sp_lost; rw [inN_t hin, ti31 h31]; rfl
    rw [e2]
    have z := bt_01 (loB σ) i
    unfold bt at z ⊢
    rcases hb with ⟨rfl, rfl⟩ | ⟨rfl, rfl⟩
    all_goals
      refine ⟨fun _ => ?_, fun h => absurd h (by decide)⟩
      rcases z with z | z
      all_goals rw [z] at e5 ⊢
      · refine ⟨fun _ => ?_, fun h => absurd (e5.symm.trans h) (by decide)⟩
        repeat' (first | (refine ⟨fun h => ?_, fun h => ?_⟩ <;> first | exact absurd h (by decide) | skip) | refine ⟨Or.inl rfl, ?_⟩ | refine ⟨Or.inr rfl, ?_⟩ | fail)
        exact ⟨rfl, rfl, rfl, rfl, rfl⟩
      · refine ⟨fun h => absurd e5 h, fun _ => ?_⟩
        repeat' (first | (refine ⟨fun h => ?_, fun h => ?_⟩ <;> first | exact absurd h (by decide) | skip) | refine ⟨Or.inl rfl, ?_⟩ | refine ⟨Or.inr rfl, ?_⟩ | fail)
        exact ⟨rfl, rfl, rfl, rfl, rfl⟩
  · repeat' (first | (refine ⟨fun h => ?_, fun h => ?_⟩ <;> first | exact absurd h (by decide) | skip) | refine ⟨Or.inl rfl, ?_⟩ | refine ⟨Or.inr rfl, ?_⟩ | fail)
    unfold EW sp_lost
    rw [inN_f hout]
    exact ⟨rfl, rfl, rfl, rfl, rfl⟩
/-- Model.has -/
theorem k_has {b i : Nat} (hb : b < 2 ^ 31) (hi : i < 32) {Q : Option AV → HP} {c : Nat} {mr : MR} {mi : MI} {ml : ML} (hQ : Q (some (vI (nI (bt b i)))) c mr mi ml) : Ok m_r_has 0 0 [vI (nI b), vI (nI i)] Q c mr mi ml := by
  refine ok_wq inlT 200 rfl rfl ?_
  have e := bit_at hb hi
  have z := bt_01 b i
  unfold bt at z hQ
  rcases z with z | z
  all_goals rw [z] at e hQ
  · refine ⟨fun _ => ⟨Or.inl rfl, hQ⟩, fun h => absurd (e.symm.trans h) (by decide)⟩
  · exact ⟨fun h => absurd e h, fun _ => ⟨Or.inr rfl, hQ⟩⟩
theorem cr_lost {nb db : Nat} {by_ rs : Option (Nat × Nat × Nat)} {c : Nat} {σ : SG} {mi : MI} {ml : ML} {j : Int32} (hW : WF σ) (hs : RMs σ mi) (hB : RMb σ mi) : Ok m_r_lost 0 0 [vR 19 0 48, vI j] (ER (vI (sp_lost σ j).1) (sp_lost σ j).2 c (MRc nb db by_ rs) mi ml) c (MRc nb db by_ rs) mi ml := by
  refine ok_wq inlT 200 rfl rfl ?_
  refine ⟨0, 0, Nat.zero_le _, Nat.zero_le _, k_isOne hW (RMs_th hs _) (fun hin => ?_) (fun hout => ?_)⟩
  · obtain ⟨i, rfl, hi, h31⟩ := hin.nat hW
    have e62 : mi 54 62 = nI (loB σ) := by rw [hs.2.2.2.2.2.2.2.2.2.2.2.2.2.2, lo_nI hW]
    have e2 : sp_lost σ (nI i) = (nI (bt (loB σ) i), 0) := by unfold sp_lost; rw [inN_t hin, ti31 h31]; rfl
    rw [e2]
    refine ⟨fun h => absurd h (by decide), fun _ => ?_⟩
    refine ⟨vp_in_nI (by decide) (by decide), 0, 0, Nat.zero_le _, Nat.zero_le _, ?_⟩
    show Ok m_r_has 0 0 [vI (mi 54 62), vI (nI i)] _ _ _ _ _
    rw [e62]
    refine k_has (lo_lt hW) (by omega) ?_
    have z := bt_01 (loB σ) i
    rcases z with z | z
    all_goals
      rw [z]
      repeat' (first | (refine ⟨fun h => ?_, fun h => ?_⟩ <;> first | exact absurd h (by decide) | skip) | refine ⟨Or.inl rfl, ?_⟩ | refine ⟨Or.inr rfl, ?_⟩ | fail)
      exact ⟨rfl, rfl, rfl, rfl, rfl⟩
  · repeat' (first | (refine ⟨fun h => ?_, fun h => ?_⟩ <;> first | exact absurd h (by decide) | skip) | refine ⟨Or.inl rfl, ?_⟩ | refine ⟨Or.inr rfl, ?_⟩ | fail)
    unfold ER sp_lost
    rw [inN_f hout]
    exact ⟨rfl, rfl, rfl, rfl, rfl⟩
